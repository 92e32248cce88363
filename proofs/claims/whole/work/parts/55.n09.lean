theorem dX18_constant_28 : decode cX18_constant 28 = .ok (.goto 66, 3) := by decide +kernel
theorem dX18_constant_31 : decode cX18_constant 31 = .ok (.iload_n 1, 1) := by decide +kernel
theorem dX18_constant_32 : decode cX18_constant 32 = .ok (.bipush 7, 2) := by decide +kernel
theorem dX18_constant_34 : decode cX18_constant 34 = .ok (.if_icmp .ne 14, 3) := by decide +kernel
theorem dX18_constant_37 : decode cX18_constant 37 = .ok (.aload_n 0, 1) := by decide +kernel
theorem dX18_constant_38 : decode cX18_constant 38 = .ok (.iconst 4, 1) := by decide +kernel
theorem dX18_constant_39 : decode cX18_constant 39 = .ok (.lload_n 2, 1) := by decide +kernel
theorem dX18_constant_40 : decode cX18_constant 40 = .ok (.lload 4, 2) := by decide +kernel
theorem dX18_constant_42 : decode cX18_constant 42 = .ok (.invokevirtual 392, 3) := by decide +kernel
theorem dX18_constant_45 : decode cX18_constant 45 = .ok (.goto 49, 3) := by decide +kernel
theorem dX18_constant_48 : decode cX18_constant 48 = .ok (.iload_n 1, 1) := by decide +kernel
theorem dX18_constant_49 : decode cX18_constant 49 = .ok (.bipush 10, 2) := by decide +kernel
theorem dX18_constant_51 : decode cX18_constant 51 = .ok (.if_icmp .ge 23, 3) := by decide +kernel
theorem dX18_constant_54 : decode cX18_constant 54 = .ok (.aload_n 0, 1) := by decide +kernel
theorem dX18_constant_55 : decode cX18_constant 55 = .ok (.iconst 1, 1) := by decide +kernel
theorem dX18_constant_56 : decode cX18_constant 56 = .ok (.lconst 0, 1) := by decide +kernel
theorem dX18_constant_57 : decode cX18_constant 57 = .ok (.iload_n 1, 1) := by decide +kernel
theorem dX18_constant_58 : decode cX18_constant 58 = .ok (.bipush 8, 2) := by decide +kernel
theorem dX18_constant_60 : decode cX18_constant 60 = .ok (.if_icmp .ne 7, 3) := by decide +kernel
theorem dX18_constant_63 : decode cX18_constant 63 = .ok (.lconst 1, 1) := by decide +kernel
theorem dX18_constant_64 : decode cX18_constant 64 = .ok (.goto 4, 3) := by decide +kernel
theorem dX18_constant_67 : decode cX18_constant 67 = .ok (.lconst 0, 1) := by decide +kernel
theorem dX18_constant_68 : decode cX18_constant 68 = .ok (.invokevirtual 392, 3) := by decide +kernel
theorem dX18_constant_71 : decode cX18_constant 71 = .ok (.goto 23, 3) := by decide +kernel
theorem dX18_constant_74 : decode cX18_constant 74 = .ok (.aload_n 0, 1) := by decide +kernel
theorem dX18_constant_75 : decode cX18_constant 75 = .ok (.iconst 5, 1) := by decide +kernel
theorem dX18_constant_76 : decode cX18_constant 76 = .ok (.lconst 0, 1) := by decide +kernel
theorem dX18_constant_77 : decode cX18_constant 77 = .ok (.iload_n 1, 1) := by decide +kernel
theorem dX18_constant_78 : decode cX18_constant 78 = .ok (.bipush 10, 2) := by decide +kernel
theorem dX18_constant_80 : decode cX18_constant 80 = .ok (.if_icmp .ne 7, 3) := by decide +kernel
theorem dX18_constant_83 : decode cX18_constant 83 = .ok (.lload_n 2, 1) := by decide +kernel
theorem dX18_constant_84 : decode cX18_constant 84 = .ok (.goto 7, 3) := by decide +kernel
theorem dX18_constant_87 : decode cX18_constant 87 = .ok (.aload_n 0, 1) := by decide +kernel
theorem dX18_constant_88 : decode cX18_constant 88 = .ok (.getfield 411, 3) := by decide +kernel
theorem dX18_constant_91 : decode cX18_constant 91 = .ok (.invokevirtual 392, 3) := by decide +kernel
theorem dX18_constant_94 : decode cX18_constant 94 = .ok (.return_, 1) := by decide +kernel
theorem dX18_one_0 : decode cX18_one 0 = .ok (.aload_n 0, 1) := by decide +kernel
theorem dX18_one_1 : decode cX18_one 1 = .ok (.getfield 444, 3) := by decide +kernel
theorem dX18_one_4 : decode cX18_one 4 = .ok (.aload_n 0, 1) := by decide +kernel
theorem dX18_one_5 : decode cX18_one 5 = .ok (.getfield 328, 3) := by decide +kernel
theorem dX18_one_8 : decode cX18_one 8 = .ok (.iconst 1, 1) := by decide +kernel
theorem dX18_one_9 : decode cX18_one 9 = .ok (.isub, 1) := by decide +kernel
theorem dX18_one_10 : decode cX18_one 10 = .ok (.iaload, 1) := by decide +kernel
theorem dX18_one_11 : decode cX18_one 11 = .ok (.istore_n 1, 1) := by decide +kernel
theorem dX18_one_12 : decode cX18_one 12 = .ok (.aload_n 0, 1) := by decide +kernel
theorem dX18_one_13 : decode cX18_one 13 = .ok (.getfield 447, 3) := by decide +kernel
theorem dX18_one_16 : decode cX18_one 16 = .ok (.aload_n 0, 1) := by decide +kernel
theorem dX18_one_17 : decode cX18_one 17 = .ok (.getfield 328, 3) := by decide +kernel
theorem dX18_one_20 : decode cX18_one 20 = .ok (.iconst 1, 1) := by decide +kernel
theorem dX18_one_21 : decode cX18_one 21 = .ok (.isub, 1) := by decide +kernel
theorem dX18_one_22 : decode cX18_one 22 = .ok (.iaload, 1) := by decide +kernel
theorem dX18_one_23 : decode cX18_one 23 = .ok (.istore_n 2, 1) := by decide +kernel
theorem dX18_one_24 : decode cX18_one 24 = .ok (.aload_n 0, 1) := by decide +kernel
theorem dX18_one_25 : decode cX18_one 25 = .ok (.aload_n 0, 1) := by decide +kernel
theorem dX18_one_26 : decode cX18_one 26 = .ok (.getfield 17, 3) := by decide +kernel
theorem dX18_one_29 : decode cX18_one 29 = .ok (.aload_n 0, 1) := by decide +kernel
theorem dX18_one_30 : decode cX18_one 30 = .ok (.getfield 441, 3) := by decide +kernel
theorem dX18_one_33 : decode cX18_one 33 = .ok (.aload_n 0, 1) := by decide +kernel
theorem dX18_one_34 : decode cX18_one 34 = .ok (.getfield 328, 3) := by decide +kernel
theorem dX18_one_37 : decode cX18_one 37 = .ok (.iconst 1, 1) := by decide +kernel
theorem dX18_one_38 : decode cX18_one 38 = .ok (.isub, 1) := by decide +kernel
theorem dX18_one_39 : decode cX18_one 39 = .ok (.iaload, 1) := by decide +kernel
theorem dX18_one_40 : decode cX18_one 40 = .ok (.aaload, 1) := by decide +kernel
theorem dX18_one_41 : decode cX18_one 41 = .ok (.putfield 369, 3) := by decide +kernel
theorem dX18_one_44 : decode cX18_one 44 = .ok (.iload_n 2, 1) := by decide +kernel
theorem dX18_one_45 : decode cX18_one 45 = .ok (.aload_n 0, 1) := by decide +kernel
theorem dX18_one_46 : decode cX18_one 46 = .ok (.getfield 369, 3) := by decide +kernel
theorem dX18_one_49 : decode cX18_one 49 = .ok (.iload_n 1, 1) := by decide +kernel
theorem dX18_one_50 : decode cX18_one 50 = .ok (.invokevirtual 467, 3) := by decide +kernel
theorem dX18_one_53 : decode cX18_one 53 = .ok (.if_icmp .lt 7, 3) := by decide +kernel
theorem dX18_one_56 : decode cX18_one 56 = .ok (.aload_n 0, 1) := by decide +kernel
theorem dX18_one_57 : decode cX18_one 57 = .ok (.invokevirtual 331, 3) := by decide +kernel
theorem dX18_one_60 : decode cX18_one 60 = .ok (.aload_n 0, 1) := by decide +kernel
theorem dX18_one_61 : decode cX18_one 61 = .ok (.iconst 1, 1) := by decide +kernel
theorem dX18_one_62 : decode cX18_one 62 = .ok (.invokevirtual 353, 3) := by decide +kernel
theorem dX18_one_65 : decode cX18_one 65 = .ok (.ifCond .ne 4, 3) := by decide +kernel
theorem dX18_one_68 : decode cX18_one 68 = .ok (.return_, 1) := by decide +kernel
theorem dX18_one_69 : decode cX18_one 69 = .ok (.aload_n 0, 1) := by decide +kernel
theorem dX18_one_70 : decode cX18_one 70 = .ok (.getfield 447, 3) := by decide +kernel
theorem dX18_one_73 : decode cX18_one 73 = .ok (.aload_n 0, 1) := by decide +kernel
theorem dX18_one_74 : decode cX18_one 74 = .ok (.getfield 328, 3) := by decide +kernel
theorem dX18_one_77 : decode cX18_one 77 = .ok (.iconst 1, 1) := by decide +kernel
theorem dX18_one_78 : decode cX18_one 78 = .ok (.isub, 1) := by decide +kernel
theorem dX18_one_79 : decode cX18_one 79 = .ok (.iload_n 2, 1) := by decide +kernel
theorem dX18_one_80 : decode cX18_one 80 = .ok (.iconst 1, 1) := by decide +kernel
theorem dX18_one_81 : decode cX18_one 81 = .ok (.iadd, 1) := by decide +kernel
theorem dX18_one_82 : decode cX18_one 82 = .ok (.iastore, 1) := by decide +kernel
theorem dX18_one_83 : decode cX18_one 83 = .ok (.aload_n 0, 1) := by decide +kernel
theorem dX18_one_84 : decode cX18_one 84 = .ok (.getfield 369, 3) := by decide +kernel
theorem dX18_one_87 : decode cX18_one 87 = .ok (.iload_n 1, 1) := by decide +kernel
theorem dX18_one_88 : decode cX18_one 88 = .ok (.iload_n 2, 1) := by decide +kernel
theorem dX18_one_89 : decode cX18_one 89 = .ok (.invokevirtual 470, 3) := by decide +kernel
theorem dX18_one_92 : decode cX18_one 92 = .ok (.istore_n 3, 1) := by decide +kernel
theorem dX18_one_93 : decode cX18_one 93 = .ok (.aload_n 0, 1) := by decide +kernel
theorem dX18_one_94 : decode cX18_one 94 = .ok (.getfield 369, 3) := by decide +kernel
theorem dX18_one_97 : decode cX18_one 97 = .ok (.iload_n 1, 1) := by decide +kernel
theorem dX18_one_98 : decode cX18_one 98 = .ok (.iload_n 2, 1) := by decide +kernel
theorem dX18_one_99 : decode cX18_one 99 = .ok (.iconst 0, 1) := by decide +kernel
theorem dX18_one_100 : decode cX18_one 100 = .ok (.invokevirtual 473, 3) := by decide +kernel
theorem dX18_one_103 : decode cX18_one 103 = .ok (.lstore 4, 2) := by decide +kernel
theorem dX18_one_105 : decode cX18_one 105 = .ok (.aload_n 0, 1) := by decide +kernel
theorem dX18_one_106 : decode cX18_one 106 = .ok (.getfield 369, 3) := by decide +kernel
theorem dX18_one_109 : decode cX18_one 109 = .ok (.iload_n 1, 1) := by decide +kernel
theorem dX18_one_110 : decode cX18_one 110 = .ok (.iload_n 2, 1) := by decide +kernel
theorem dX18_one_111 : decode cX18_one 111 = .ok (.iconst 1, 1) := by decide +kernel
theorem dX18_one_112 : decode cX18_one 112 = .ok (.invokevirtual 473, 3) := by decide +kernel
theorem dX18_one_115 : decode cX18_one 115 = .ok (.lstore 6, 2) := by decide +kernel
theorem dX18_one_117 : decode cX18_one 117 = .ok (.iload_n 3, 1) := by decide +kernel
theorem dX18_one_118 : decode cX18_one 118 = .ok (.ifCond .ne 41, 3) := by decide +kernel
theorem dX18_one_121 : decode cX18_one 121 = .ok (.aload_n 0, 1) := by decide +kernel
theorem dX18_one_122 : decode cX18_one 122 = .ok (.getfield 312, 3) := by decide +kernel
theorem dX18_one_125 : decode cX18_one 125 = .ok (.aload_n 0, 1) := by decide +kernel
theorem dX18_one_126 : decode cX18_one 126 = .ok (.getfield 325, 3) := by decide +kernel
theorem dX18_one_129 : decode cX18_one 129 = .ok (.aload_n 0, 1) := by decide +kernel
theorem dX18_one_130 : decode cX18_one 130 = .ok (.getfield 328, 3) := by decide +kernel
theorem dX18_one_133 : decode cX18_one 133 = .ok (.iconst 1, 1) := by decide +kernel
theorem dX18_one_134 : decode cX18_one 134 = .ok (.isub, 1) := by decide +kernel
theorem dX18_one_135 : decode cX18_one 135 = .ok (.iaload, 1) := by decide +kernel
theorem dX18_one_136 : decode cX18_one 136 = .ok (.if_icmp .ne 10, 3) := by decide +kernel
theorem dX18_one_139 : decode cX18_one 139 = .ok (.aload_n 0, 1) := by decide +kernel
theorem dX18_one_140 : decode cX18_one 140 = .ok (.invokevirtual 331, 3) := by decide +kernel
theorem dX18_one_143 : decode cX18_one 143 = .ok (.goto 314, 3) := by decide +kernel
theorem dX18_one_146 : decode cX18_one 146 = .ok (.aload_n 0, 1) := by decide +kernel
theorem dX18_one_147 : decode cX18_one 147 = .ok (.dup, 1) := by decide +kernel
theorem dX18_one_148 : decode cX18_one 148 = .ok (.getfield 312, 3) := by decide +kernel
theorem dX18_one_151 : decode cX18_one 151 = .ok (.iconst 1, 1) := by decide +kernel
theorem dX18_one_152 : decode cX18_one 152 = .ok (.isub, 1) := by decide +kernel
theorem dX18_one_153 : decode cX18_one 153 = .ok (.putfield 312, 3) := by decide +kernel
theorem dX18_one_156 : decode cX18_one 156 = .ok (.goto 301, 3) := by decide +kernel
theorem dX18_one_159 : decode cX18_one 159 = .ok (.iload_n 3, 1) := by decide +kernel
theorem dX18_one_160 : decode cX18_one 160 = .ok (.iconst 1, 1) := by decide +kernel
theorem dX18_one_161 : decode cX18_one 161 = .ok (.if_icmp .ne 10, 3) := by decide +kernel
theorem dX18_one_164 : decode cX18_one 164 = .ok (.aload_n 0, 1) := by decide +kernel
theorem dX18_one_165 : decode cX18_one 165 = .ok (.invokevirtual 476, 3) := by decide +kernel
theorem dX18_one_168 : decode cX18_one 168 = .ok (.goto 289, 3) := by decide +kernel
theorem dX18_one_171 : decode cX18_one 171 = .ok (.iload_n 3, 1) := by decide +kernel
theorem dX18_one_172 : decode cX18_one 172 = .ok (.iconst 5, 1) := by decide +kernel
theorem dX18_one_173 : decode cX18_one 173 = .ok (.if_icmp .ge 14, 3) := by decide +kernel
theorem dX18_one_176 : decode cX18_one 176 = .ok (.aload_n 0, 1) := by decide +kernel
theorem dX18_one_177 : decode cX18_one 177 = .ok (.iload_n 3, 1) := by decide +kernel
theorem dX18_one_178 : decode cX18_one 178 = .ok (.lload 4, 2) := by decide +kernel
theorem dX18_one_180 : decode cX18_one 180 = .ok (.l2i, 1) := by decide +kernel
theorem dX18_one_181 : decode cX18_one 181 = .ok (.invokevirtual 479, 3) := by decide +kernel
theorem dX18_one_184 : decode cX18_one 184 = .ok (.goto 273, 3) := by decide +kernel
theorem dX18_one_187 : decode cX18_one 187 = .ok (.iload_n 3, 1) := by decide +kernel
theorem dX18_one_188 : decode cX18_one 188 = .ok (.bipush 11, 2) := by decide +kernel
theorem dX18_one_190 : decode cX18_one 190 = .ok (.if_icmp .lt 9, 3) := by decide +kernel
theorem dX18_one_193 : decode cX18_one 193 = .ok (.iload_n 3, 1) := by decide +kernel
theorem dX18_one_194 : decode cX18_one 194 = .ok (.bipush 46, 2) := by decide +kernel
theorem dX18_one_196 : decode cX18_one 196 = .ok (.if_icmp .ne 15, 3) := by decide +kernel
theorem dX18_one_199 : decode cX18_one 199 = .ok (.aload_n 0, 1) := by decide +kernel
theorem dX18_one_200 : decode cX18_one 200 = .ok (.iload_n 3, 1) := by decide +kernel
theorem dX18_one_201 : decode cX18_one 201 = .ok (.lload 4, 2) := by decide +kernel
theorem dX18_one_203 : decode cX18_one 203 = .ok (.lload 6, 2) := by decide +kernel
theorem dX18_one_205 : decode cX18_one 205 = .ok (.invokevirtual 482, 3) := by decide +kernel
theorem dX18_one_208 : decode cX18_one 208 = .ok (.goto 249, 3) := by decide +kernel
theorem dX18_one_211 : decode cX18_one 211 = .ok (.iload_n 3, 1) := by decide +kernel
theorem dX18_one_212 : decode cX18_one 212 = .ok (.bipush 16, 2) := by decide +kernel
theorem dX18_one_214 : decode cX18_one 214 = .ok (.if_icmp .ge 14, 3) := by decide +kernel
theorem dX18_one_217 : decode cX18_one 217 = .ok (.aload_n 0, 1) := by decide +kernel
theorem dX18_one_218 : decode cX18_one 218 = .ok (.iload_n 3, 1) := by decide +kernel
theorem dX18_one_219 : decode cX18_one 219 = .ok (.lload 4, 2) := by decide +kernel
theorem dX18_one_221 : decode cX18_one 221 = .ok (.l2i, 1) := by decide +kernel
theorem dX18_one_222 : decode cX18_one 222 = .ok (.invokevirtual 485, 3) := by decide +kernel
theorem dX18_one_225 : decode cX18_one 225 = .ok (.goto 232, 3) := by decide +kernel
theorem dX18_one_228 : decode cX18_one 228 = .ok (.iload_n 3, 1) := by decide +kernel
theorem dX18_one_229 : decode cX18_one 229 = .ok (.bipush 21, 2) := by decide +kernel
theorem dX18_one_231 : decode cX18_one 231 = .ok (.if_icmp .ge 14, 3) := by decide +kernel
theorem dX18_one_234 : decode cX18_one 234 = .ok (.aload_n 0, 1) := by decide +kernel
theorem dX18_one_235 : decode cX18_one 235 = .ok (.iload_n 3, 1) := by decide +kernel
theorem dX18_one_236 : decode cX18_one 236 = .ok (.lload 6, 2) := by decide +kernel
theorem dX18_one_238 : decode cX18_one 238 = .ok (.l2i, 1) := by decide +kernel
theorem dX18_one_239 : decode cX18_one 239 = .ok (.invokevirtual 488, 3) := by decide +kernel
theorem dX18_one_242 : decode cX18_one 242 = .ok (.goto 215, 3) := by decide +kernel
theorem dX18_one_245 : decode cX18_one 245 = .ok (.iload_n 3, 1) := by decide +kernel
theorem dX18_one_246 : decode cX18_one 246 = .ok (.bipush 21, 2) := by decide +kernel
theorem dX18_one_248 : decode cX18_one 248 = .ok (.if_icmp .ne 13, 3) := by decide +kernel
theorem dX18_one_251 : decode cX18_one 251 = .ok (.aload_n 0, 1) := by decide +kernel
theorem dX18_one_252 : decode cX18_one 252 = .ok (.lload 4, 2) := by decide +kernel
theorem dX18_one_254 : decode cX18_one 254 = .ok (.l2i, 1) := by decide +kernel
theorem dX18_one_255 : decode cX18_one 255 = .ok (.invokevirtual 491, 3) := by decide +kernel
theorem dX18_one_258 : decode cX18_one 258 = .ok (.goto 199, 3) := by decide +kernel
theorem dX18_one_261 : decode cX18_one 261 = .ok (.iload_n 3, 1) := by decide +kernel
theorem dX18_one_262 : decode cX18_one 262 = .ok (.bipush 22, 2) := by decide +kernel
theorem dX18_one_264 : decode cX18_one 264 = .ok (.if_icmp .ne 13, 3) := by decide +kernel
theorem dX18_one_267 : decode cX18_one 267 = .ok (.aload_n 0, 1) := by decide +kernel
theorem dX18_one_268 : decode cX18_one 268 = .ok (.lload 4, 2) := by decide +kernel
theorem dX18_one_270 : decode cX18_one 270 = .ok (.l2i, 1) := by decide +kernel
theorem dX18_one_271 : decode cX18_one 271 = .ok (.invokevirtual 494, 3) := by decide +kernel
theorem dX18_one_274 : decode cX18_one 274 = .ok (.goto 183, 3) := by decide +kernel
theorem dX18_one_277 : decode cX18_one 277 = .ok (.iload_n 3, 1) := by decide +kernel
theorem dX18_one_278 : decode cX18_one 278 = .ok (.bipush 23, 2) := by decide +kernel
theorem dX18_one_280 : decode cX18_one 280 = .ok (.if_icmp .ne 13, 3) := by decide +kernel
theorem dX18_one_283 : decode cX18_one 283 = .ok (.aload_n 0, 1) := by decide +kernel
theorem dX18_one_284 : decode cX18_one 284 = .ok (.lload 4, 2) := by decide +kernel
theorem dX18_one_286 : decode cX18_one 286 = .ok (.l2i, 1) := by decide +kernel
theorem dX18_one_287 : decode cX18_one 287 = .ok (.invokevirtual 497, 3) := by decide +kernel
theorem dX18_one_290 : decode cX18_one 290 = .ok (.goto 167, 3) := by decide +kernel
theorem dX18_one_293 : decode cX18_one 293 = .ok (.iload_n 3, 1) := by decide +kernel
theorem dX18_one_294 : decode cX18_one 294 = .ok (.bipush 32, 2) := by decide +kernel
theorem dX18_one_296 : decode cX18_one 296 = .ok (.if_icmp .eq 9, 3) := by decide +kernel
theorem dX18_one_299 : decode cX18_one 299 = .ok (.iload_n 3, 1) := by decide +kernel
theorem dX18_one_300 : decode cX18_one 300 = .ok (.bipush 33, 2) := by decide +kernel
theorem dX18_one_302 : decode cX18_one 302 = .ok (.if_icmp .ne 21, 3) := by decide +kernel
theorem dX18_one_305 : decode cX18_one 305 = .ok (.aload_n 0, 1) := by decide +kernel
theorem dX18_one_306 : decode cX18_one 306 = .ok (.iload_n 3, 1) := by decide +kernel
theorem dX18_one_307 : decode cX18_one 307 = .ok (.bipush 32, 2) := by decide +kernel
theorem dX18_one_309 : decode cX18_one 309 = .ok (.if_icmp .ne 7, 3) := by decide +kernel
theorem dX18_one_312 : decode cX18_one 312 = .ok (.iconst 1, 1) := by decide +kernel
theorem dX18_one_313 : decode cX18_one 313 = .ok (.goto 4, 3) := by decide +kernel
theorem dX18_one_316 : decode cX18_one 316 = .ok (.iconst 0, 1) := by decide +kernel
theorem dX18_one_317 : decode cX18_one 317 = .ok (.invokevirtual 500, 3) := by decide +kernel
theorem dX18_one_320 : decode cX18_one 320 = .ok (.goto 137, 3) := by decide +kernel
theorem dX18_one_323 : decode cX18_one 323 = .ok (.iload_n 3, 1) := by decide +kernel
theorem dX18_one_324 : decode cX18_one 324 = .ok (.bipush 34, 2) := by decide +kernel
theorem dX18_one_326 : decode cX18_one 326 = .ok (.if_icmp .ne 27, 3) := by decide +kernel
theorem dX18_one_329 : decode cX18_one 329 = .ok (.aload_n 0, 1) := by decide +kernel
theorem dX18_one_330 : decode cX18_one 330 = .ok (.iconst 1, 1) := by decide +kernel
theorem dX18_one_331 : decode cX18_one 331 = .ok (.lconst 0, 1) := by decide +kernel
theorem dX18_one_332 : decode cX18_one 332 = .ok (.lconst 1, 1) := by decide +kernel
theorem dX18_one_333 : decode cX18_one 333 = .ok (.aload_n 0, 1) := by decide +kernel
theorem dX18_one_334 : decode cX18_one 334 = .ok (.getfield 40, 3) := by decide +kernel
theorem dX18_one_337 : decode cX18_one 337 = .ok (.getfield 77, 3) := by decide +kernel
theorem dX18_one_340 : decode cX18_one 340 = .ok (.aload_n 0, 1) := by decide +kernel
theorem dX18_one_341 : decode cX18_one 341 = .ok (.iconst 1, 1) := by decide +kernel
theorem dX18_one_342 : decode cX18_one 342 = .ok (.invokevirtual 341, 3) := by decide +kernel
theorem dX18_one_345 : decode cX18_one 345 = .ok (.laload, 1) := by decide +kernel
theorem dX18_one_346 : decode cX18_one 346 = .ok (.lsub, 1) := by decide +kernel
theorem dX18_one_347 : decode cX18_one 347 = .ok (.invokevirtual 392, 3) := by decide +kernel
theorem dX18_one_350 : decode cX18_one 350 = .ok (.goto 107, 3) := by decide +kernel
theorem dX18_one_353 : decode cX18_one 353 = .ok (.iload_n 3, 1) := by decide +kernel
theorem dX18_one_354 : decode cX18_one 354 = .ok (.bipush 35, 2) := by decide +kernel
theorem dX18_one_356 : decode cX18_one 356 = .ok (.if_icmp .lt 15, 3) := by decide +kernel
theorem dX18_one_359 : decode cX18_one 359 = .ok (.iload_n 3, 1) := by decide +kernel
theorem dX18_one_360 : decode cX18_one 360 = .ok (.bipush 35, 2) := by decide +kernel
theorem dX18_one_362 : decode cX18_one 362 = .ok (.if_icmp .le 17, 3) := by decide +kernel
theorem dX18_one_365 : decode cX18_one 365 = .ok (.iload_n 3, 1) := by decide +kernel
theorem dX18_one_366 : decode cX18_one 366 = .ok (.bipush 42, 2) := by decide +kernel
theorem dX18_one_368 : decode cX18_one 368 = .ok (.if_icmp .ge 11, 3) := by decide +kernel
theorem dX18_one_371 : decode cX18_one 371 = .ok (.aload_n 0, 1) := by decide +kernel
theorem dX18_one_372 : decode cX18_one 372 = .ok (.iload_n 3, 1) := by decide +kernel
theorem dX18_one_373 : decode cX18_one 373 = .ok (.invokevirtual 503, 3) := by decide +kernel
theorem dX18_one_376 : decode cX18_one 376 = .ok (.goto 81, 3) := by decide +kernel
theorem dX18_one_379 : decode cX18_one 379 = .ok (.iload_n 3, 1) := by decide +kernel
theorem dX18_one_380 : decode cX18_one 380 = .ok (.bipush 41, 2) := by decide +kernel
theorem dX18_one_382 : decode cX18_one 382 = .ok (.if_icmp .le 20, 3) := by decide +kernel
theorem dX18_one_385 : decode cX18_one 385 = .ok (.iload_n 3, 1) := by decide +kernel
theorem dX18_one_386 : decode cX18_one 386 = .ok (.bipush 45, 2) := by decide +kernel
theorem dX18_one_388 : decode cX18_one 388 = .ok (.if_icmp .ge 14, 3) := by decide +kernel
theorem dX18_one_391 : decode cX18_one 391 = .ok (.aload_n 0, 1) := by decide +kernel
theorem dX18_one_392 : decode cX18_one 392 = .ok (.iload_n 3, 1) := by decide +kernel
theorem dX18_one_393 : decode cX18_one 393 = .ok (.bipush 40, 2) := by decide +kernel
theorem dX18_one_395 : decode cX18_one 395 = .ok (.isub, 1) := by decide +kernel
theorem dX18_one_396 : decode cX18_one 396 = .ok (.invokevirtual 505, 3) := by decide +kernel
theorem dX18_one_399 : decode cX18_one 399 = .ok (.goto 58, 3) := by decide +kernel
theorem dX18_one_402 : decode cX18_one 402 = .ok (.iload_n 3, 1) := by decide +kernel
theorem dX18_one_403 : decode cX18_one 403 = .ok (.bipush 45, 2) := by decide +kernel
theorem dX18_one_405 : decode cX18_one 405 = .ok (.if_icmp .ne 15, 3) := by decide +kernel
theorem dX18_one_408 : decode cX18_one 408 = .ok (.aload_n 0, 1) := by decide +kernel
theorem dX18_one_409 : decode cX18_one 409 = .ok (.iconst 1, 1) := by decide +kernel
theorem dX18_one_410 : decode cX18_one 410 = .ok (.aload_n 0, 1) := by decide +kernel
theorem dX18_one_411 : decode cX18_one 411 = .ok (.invokevirtual 421, 3) := by decide +kernel
theorem dX18_one_414 : decode cX18_one 414 = .ok (.invokevirtual 267, 3) := by decide +kernel
theorem dX18_one_417 : decode cX18_one 417 = .ok (.goto 40, 3) := by decide +kernel
theorem dX18_one_420 : decode cX18_one 420 = .ok (.iload_n 3, 1) := by decide +kernel
theorem dX18_one_421 : decode cX18_one 421 = .ok (.bipush 46, 2) := by decide +kernel
theorem dX18_one_423 : decode cX18_one 423 = .ok (.if_icmp .le 20, 3) := by decide +kernel
theorem dX18_one_426 : decode cX18_one 426 = .ok (.iload_n 3, 1) := by decide +kernel
theorem dX18_one_427 : decode cX18_one 427 = .ok (.bipush 52, 2) := by decide +kernel
theorem dX18_one_429 : decode cX18_one 429 = .ok (.if_icmp .ge 14, 3) := by decide +kernel
theorem dX18_one_432 : decode cX18_one 432 = .ok (.aload_n 0, 1) := by decide +kernel
theorem dX18_one_433 : decode cX18_one 433 = .ok (.iload_n 3, 1) := by decide +kernel
theorem dX18_one_434 : decode cX18_one 434 = .ok (.lload 4, 2) := by decide +kernel
theorem dX18_one_436 : decode cX18_one 436 = .ok (.l2i, 1) := by decide +kernel
theorem dX18_one_437 : decode cX18_one 437 = .ok (.invokevirtual 508, 3) := by decide +kernel
theorem dX18_one_440 : decode cX18_one 440 = .ok (.goto 17, 3) := by decide +kernel
theorem dX18_one_443 : decode cX18_one 443 = .ok (.iload_n 3, 1) := by decide +kernel
theorem dX18_one_444 : decode cX18_one 444 = .ok (.bipush 51, 2) := by decide +kernel
theorem dX18_one_446 : decode cX18_one 446 = .ok (.if_icmp .le 11, 3) := by decide +kernel
theorem dX18_one_449 : decode cX18_one 449 = .ok (.aload_n 0, 1) := by decide +kernel
theorem dX18_one_450 : decode cX18_one 450 = .ok (.iload_n 3, 1) := by decide +kernel
theorem dX18_one_451 : decode cX18_one 451 = .ok (.lload 6, 2) := by decide +kernel
theorem dX18_one_453 : decode cX18_one 453 = .ok (.l2i, 1) := by decide +kernel
theorem dX18_one_454 : decode cX18_one 454 = .ok (.invokevirtual 511, 3) := by decide +kernel
theorem dX18_one_457 : decode cX18_one 457 = .ok (.return_, 1) := by decide +kernel
theorem dX18_doOne_0 : decode cX18_doOne 0 = .ok (.aload_n 0, 1) := by decide +kernel
theorem dX18_doOne_1 : decode cX18_doOne 1 = .ok (.aload_n 0, 1) := by decide +kernel
theorem dX18_doOne_2 : decode cX18_doOne 2 = .ok (.getfield 541, 3) := by decide +kernel
theorem dX18_doOne_5 : decode cX18_doOne 5 = .ok (.iload_n 1, 1) := by decide +kernel
theorem dX18_doOne_6 : decode cX18_doOne 6 = .ok (.laload, 1) := by decide +kernel
theorem dX18_doOne_7 : decode cX18_doOne 7 = .ok (.putfield 411, 3) := by decide +kernel
theorem dX18_doOne_10 : decode cX18_doOne 10 = .ok (.aload_n 0, 1) := by decide +kernel
theorem dX18_doOne_11 : decode cX18_doOne 11 = .ok (.aload_n 0, 1) := by decide +kernel
theorem dX18_doOne_12 : decode cX18_doOne 12 = .ok (.getfield 547, 3) := by decide +kernel
theorem dX18_doOne_15 : decode cX18_doOne 15 = .ok (.iload_n 1, 1) := by decide +kernel
theorem dX18_doOne_16 : decode cX18_doOne 16 = .ok (.iaload, 1) := by decide +kernel
theorem dX18_doOne_17 : decode cX18_doOne 17 = .ok (.putfield 264, 3) := by decide +kernel
theorem dX18_doOne_20 : decode cX18_doOne 20 = .ok (.aload_n 0, 1) := by decide +kernel
theorem dX18_doOne_21 : decode cX18_doOne 21 = .ok (.iconst 0, 1) := by decide +kernel
theorem dX18_doOne_22 : decode cX18_doOne 22 = .ok (.putfield 261, 3) := by decide +kernel
theorem dX18_doOne_25 : decode cX18_doOne 25 = .ok (.aload_n 0, 1) := by decide +kernel
theorem dX18_doOne_26 : decode cX18_doOne 26 = .ok (.iconst (-1), 1) := by decide +kernel
theorem dX18_doOne_27 : decode cX18_doOne 27 = .ok (.putfield 250, 3) := by decide +kernel
theorem dX18_doOne_30 : decode cX18_doOne 30 = .ok (.aload_n 0, 1) := by decide +kernel
theorem dX18_doOne_31 : decode cX18_doOne 31 = .ok (.lconst 0, 1) := by decide +kernel
theorem dX18_doOne_32 : decode cX18_doOne 32 = .ok (.putfield 253, 3) := by decide +kernel
theorem dX18_doOne_35 : decode cX18_doOne 35 = .ok (.aload_n 0, 1) := by decide +kernel
theorem dX18_doOne_36 : decode cX18_doOne 36 = .ok (.getfield 587, 3) := by decide +kernel
theorem dX18_doOne_39 : decode cX18_doOne 39 = .ok (.iload_n 1, 1) := by decide +kernel
theorem dX18_doOne_40 : decode cX18_doOne 40 = .ok (.iconst 0, 1) := by decide +kernel
theorem dX18_doOne_41 : decode cX18_doOne 41 = .ok (.iastore, 1) := by decide +kernel
theorem dX18_doOne_42 : decode cX18_doOne 42 = .ok (.aload_n 0, 1) := by decide +kernel
theorem dX18_doOne_43 : decode cX18_doOne 43 = .ok (.getfield 581, 3) := by decide +kernel
theorem dX18_doOne_46 : decode cX18_doOne 46 = .ok (.iload_n 1, 1) := by decide +kernel
theorem dX18_doOne_47 : decode cX18_doOne 47 = .ok (.iconst 0, 1) := by decide +kernel
theorem dX18_doOne_48 : decode cX18_doOne 48 = .ok (.iastore, 1) := by decide +kernel
theorem dX18_doOne_49 : decode cX18_doOne 49 = .ok (.aload_n 0, 1) := by decide +kernel
theorem dX18_doOne_50 : decode cX18_doOne 50 = .ok (.aload_n 0, 1) := by decide +kernel
theorem dX18_doOne_51 : decode cX18_doOne 51 = .ok (.getfield 411, 3) := by decide +kernel
theorem dX18_doOne_54 : decode cX18_doOne 54 = .ok (.invokevirtual 288, 3) := by decide +kernel
theorem dX18_doOne_57 : decode cX18_doOne 57 = .ok (.istore_n 2, 1) := by decide +kernel
theorem dX18_doOne_58 : decode cX18_doOne 58 = .ok (.iload_n 2, 1) := by decide +kernel
theorem dX18_doOne_59 : decode cX18_doOne 59 = .ok (.ifCond .ge 7, 3) := by decide +kernel
theorem dX18_doOne_62 : decode cX18_doOne 62 = .ok (.iconst 1, 1) := by decide +kernel
theorem dX18_doOne_63 : decode cX18_doOne 63 = .ok (.goto 43, 3) := by decide +kernel
theorem dX18_doOne_66 : decode cX18_doOne 66 = .ok (.aload_n 0, 1) := by decide +kernel
theorem dX18_doOne_67 : decode cX18_doOne 67 = .ok (.getfield 519, 3) := by decide +kernel
theorem dX18_doOne_70 : decode cX18_doOne 70 = .ok (.iload_n 2, 1) := by decide +kernel
theorem dX18_doOne_71 : decode cX18_doOne 71 = .ok (.laload, 1) := by decide +kernel
theorem dX18_doOne_72 : decode cX18_doOne 72 = .ok (.aload_n 0, 1) := by decide +kernel
theorem dX18_doOne_73 : decode cX18_doOne 73 = .ok (.getfield 544, 3) := by decide +kernel
theorem dX18_doOne_76 : decode cX18_doOne 76 = .ok (.iload_n 1, 1) := by decide +kernel
theorem dX18_doOne_77 : decode cX18_doOne 77 = .ok (.laload, 1) := by decide +kernel
theorem dX18_doOne_78 : decode cX18_doOne 78 = .ok (.lcmp, 1) := by decide +kernel
theorem dX18_doOne_79 : decode cX18_doOne 79 = .ok (.ifCond .eq 7, 3) := by decide +kernel
theorem dX18_doOne_82 : decode cX18_doOne 82 = .ok (.iconst 2, 1) := by decide +kernel
theorem dX18_doOne_83 : decode cX18_doOne 83 = .ok (.goto 23, 3) := by decide +kernel
theorem dX18_doOne_86 : decode cX18_doOne 86 = .ok (.aload_n 0, 1) := by decide +kernel
theorem dX18_doOne_87 : decode cX18_doOne 87 = .ok (.getfield 303, 3) := by decide +kernel
theorem dX18_doOne_90 : decode cX18_doOne 90 = .ok (.iload_n 2, 1) := by decide +kernel
theorem dX18_doOne_91 : decode cX18_doOne 91 = .ok (.laload, 1) := by decide +kernel
theorem dX18_doOne_92 : decode cX18_doOne 92 = .ok (.aload_n 0, 1) := by decide +kernel
theorem dX18_doOne_93 : decode cX18_doOne 93 = .ok (.getfield 264, 3) := by decide +kernel
theorem dX18_doOne_96 : decode cX18_doOne 96 = .ok (.i2l, 1) := by decide +kernel
theorem dX18_doOne_97 : decode cX18_doOne 97 = .ok (.lcmp, 1) := by decide +kernel
theorem dX18_doOne_98 : decode cX18_doOne 98 = .ok (.ifCond .ge 7, 3) := by decide +kernel
theorem dX18_doOne_101 : decode cX18_doOne 101 = .ok (.iconst 3, 1) := by decide +kernel
theorem dX18_doOne_102 : decode cX18_doOne 102 = .ok (.goto 4, 3) := by decide +kernel
theorem dX18_doOne_105 : decode cX18_doOne 105 = .ok (.iconst 0, 1) := by decide +kernel
theorem dX18_doOne_106 : decode cX18_doOne 106 = .ok (.istore_n 3, 1) := by decide +kernel
theorem dX18_doOne_107 : decode cX18_doOne 107 = .ok (.aload_n 0, 1) := by decide +kernel
theorem dX18_doOne_108 : decode cX18_doOne 108 = .ok (.aload_n 0, 1) := by decide +kernel
theorem dX18_doOne_109 : decode cX18_doOne 109 = .ok (.getfield 550, 3) := by decide +kernel
theorem dX18_doOne_112 : decode cX18_doOne 112 = .ok (.iload_n 1, 1) := by decide +kernel
theorem dX18_doOne_113 : decode cX18_doOne 113 = .ok (.iaload, 1) := by decide +kernel
theorem dX18_doOne_114 : decode cX18_doOne 114 = .ok (.invokevirtual 106, 3) := by decide +kernel
theorem dX18_doOne_117 : decode cX18_doOne 117 = .ok (.istore 4, 2) := by decide +kernel
theorem dX18_doOne_119 : decode cX18_doOne 119 = .ok (.iload_n 3, 1) := by decide +kernel
theorem dX18_doOne_120 : decode cX18_doOne 120 = .ok (.ifCond .ne 21, 3) := by decide +kernel
theorem dX18_doOne_123 : decode cX18_doOne 123 = .ok (.aload_n 0, 1) := by decide +kernel
theorem dX18_doOne_124 : decode cX18_doOne 124 = .ok (.getfield 538, 3) := by decide +kernel
theorem dX18_doOne_127 : decode cX18_doOne 127 = .ok (.iload_n 1, 1) := by decide +kernel
theorem dX18_doOne_128 : decode cX18_doOne 128 = .ok (.iaload, 1) := by decide +kernel
theorem dX18_doOne_129 : decode cX18_doOne 129 = .ok (.iconst 2, 1) := by decide +kernel
theorem dX18_doOne_130 : decode cX18_doOne 130 = .ok (.if_icmp .ne 11, 3) := by decide +kernel
theorem dX18_doOne_133 : decode cX18_doOne 133 = .ok (.aload_n 0, 1) := by decide +kernel
theorem dX18_doOne_134 : decode cX18_doOne 134 = .ok (.iload_n 1, 1) := by decide +kernel
theorem dX18_doOne_135 : decode cX18_doOne 135 = .ok (.iload 4, 2) := by decide +kernel
theorem dX18_doOne_137 : decode cX18_doOne 137 = .ok (.invokevirtual 646, 3) := by decide +kernel
theorem dX18_doOne_140 : decode cX18_doOne 140 = .ok (.istore_n 3, 1) := by decide +kernel
theorem dX18_doOne_141 : decode cX18_doOne 141 = .ok (.iload_n 3, 1) := by decide +kernel
theorem dX18_doOne_142 : decode cX18_doOne 142 = .ok (.ifCond .eq 13, 3) := by decide +kernel
theorem dX18_doOne_145 : decode cX18_doOne 145 = .ok (.aload_n 0, 1) := by decide +kernel
theorem dX18_doOne_146 : decode cX18_doOne 146 = .ok (.iconst 3, 1) := by decide +kernel
theorem dX18_doOne_147 : decode cX18_doOne 147 = .ok (.iload_n 3, 1) := by decide +kernel
theorem dX18_doOne_148 : decode cX18_doOne 148 = .ok (.i2l, 1) := by decide +kernel
theorem dX18_doOne_149 : decode cX18_doOne 149 = .ok (.invokevirtual 267, 3) := by decide +kernel
theorem dX18_doOne_152 : decode cX18_doOne 152 = .ok (.goto 76, 3) := by decide +kernel
theorem dX18_doOne_155 : decode cX18_doOne 155 = .ok (.aload_n 0, 1) := by decide +kernel
theorem dX18_doOne_156 : decode cX18_doOne 156 = .ok (.getfield 538, 3) := by decide +kernel
theorem dX18_doOne_159 : decode cX18_doOne 159 = .ok (.iload_n 1, 1) := by decide +kernel
theorem dX18_doOne_160 : decode cX18_doOne 160 = .ok (.iaload, 1) := by decide +kernel
theorem dX18_doOne_161 : decode cX18_doOne 161 = .ok (.iconst 1, 1) := by decide +kernel
theorem dX18_doOne_162 : decode cX18_doOne 162 = .ok (.if_icmp .ne 11, 3) := by decide +kernel
theorem dX18_doOne_165 : decode cX18_doOne 165 = .ok (.aload_n 0, 1) := by decide +kernel
theorem dX18_doOne_166 : decode cX18_doOne 166 = .ok (.iload_n 1, 1) := by decide +kernel
theorem dX18_doOne_167 : decode cX18_doOne 167 = .ok (.invokevirtual 649, 3) := by decide +kernel
theorem dX18_doOne_170 : decode cX18_doOne 170 = .ok (.goto 11, 3) := by decide +kernel
theorem dX18_doOne_173 : decode cX18_doOne 173 = .ok (.aload_n 0, 1) := by decide +kernel
theorem dX18_doOne_174 : decode cX18_doOne 174 = .ok (.iload_n 1, 1) := by decide +kernel
theorem dX18_doOne_175 : decode cX18_doOne 175 = .ok (.iload 4, 2) := by decide +kernel
theorem dX18_doOne_177 : decode cX18_doOne 177 = .ok (.iload_n 2, 1) := by decide +kernel
theorem dX18_doOne_178 : decode cX18_doOne 178 = .ok (.invokevirtual 652, 3) := by decide +kernel
theorem dX18_doOne_181 : decode cX18_doOne 181 = .ok (.aload_n 0, 1) := by decide +kernel
theorem dX18_doOne_182 : decode cX18_doOne 182 = .ok (.aload_n 0, 1) := by decide +kernel
theorem dX18_doOne_183 : decode cX18_doOne 183 = .ok (.getfield 411, 3) := by decide +kernel
theorem dX18_doOne_186 : decode cX18_doOne 186 = .ok (.invokevirtual 288, 3) := by decide +kernel
theorem dX18_doOne_189 : decode cX18_doOne 189 = .ok (.istore_n 2, 1) := by decide +kernel
theorem dX18_doOne_190 : decode cX18_doOne 190 = .ok (.aload_n 0, 1) := by decide +kernel
theorem dX18_doOne_191 : decode cX18_doOne 191 = .ok (.getfield 303, 3) := by decide +kernel
theorem dX18_doOne_194 : decode cX18_doOne 194 = .ok (.iload_n 2, 1) := by decide +kernel
theorem dX18_doOne_195 : decode cX18_doOne 195 = .ok (.dup2, 1) := by decide +kernel
theorem dX18_doOne_196 : decode cX18_doOne 196 = .ok (.laload, 1) := by decide +kernel
theorem dX18_doOne_197 : decode cX18_doOne 197 = .ok (.aload_n 0, 1) := by decide +kernel
theorem dX18_doOne_198 : decode cX18_doOne 198 = .ok (.getfield 261, 3) := by decide +kernel
theorem dX18_doOne_201 : decode cX18_doOne 201 = .ok (.i2l, 1) := by decide +kernel
theorem dX18_doOne_202 : decode cX18_doOne 202 = .ok (.lsub, 1) := by decide +kernel
theorem dX18_doOne_203 : decode cX18_doOne 203 = .ok (.lastore, 1) := by decide +kernel
theorem dX18_doOne_204 : decode cX18_doOne 204 = .ok (.aload_n 0, 1) := by decide +kernel
theorem dX18_doOne_205 : decode cX18_doOne 205 = .ok (.getfield 519, 3) := by decide +kernel
theorem dX18_doOne_208 : decode cX18_doOne 208 = .ok (.iload_n 2, 1) := by decide +kernel
theorem dX18_doOne_209 : decode cX18_doOne 209 = .ok (.dup2, 1) := by decide +kernel
theorem dX18_doOne_210 : decode cX18_doOne 210 = .ok (.laload, 1) := by decide +kernel
theorem dX18_doOne_211 : decode cX18_doOne 211 = .ok (.lconst 1, 1) := by decide +kernel
theorem dX18_doOne_212 : decode cX18_doOne 212 = .ok (.ladd, 1) := by decide +kernel
theorem dX18_doOne_213 : decode cX18_doOne 213 = .ok (.lastore, 1) := by decide +kernel
theorem dX18_doOne_214 : decode cX18_doOne 214 = .ok (.aload_n 0, 1) := by decide +kernel
theorem dX18_doOne_215 : decode cX18_doOne 215 = .ok (.dup, 1) := by decide +kernel
theorem dX18_doOne_216 : decode cX18_doOne 216 = .ok (.getfield 615, 3) := by decide +kernel
theorem dX18_doOne_219 : decode cX18_doOne 219 = .ok (.aload_n 0, 1) := by decide +kernel
theorem dX18_doOne_220 : decode cX18_doOne 220 = .ok (.getfield 261, 3) := by decide +kernel
theorem dX18_doOne_223 : decode cX18_doOne 223 = .ok (.i2l, 1) := by decide +kernel
theorem dX18_doOne_224 : decode cX18_doOne 224 = .ok (.ladd, 1) := by decide +kernel
theorem dX18_doOne_225 : decode cX18_doOne 225 = .ok (.putfield 615, 3) := by decide +kernel
theorem dX18_doOne_228 : decode cX18_doOne 228 = .ok (.aload_n 0, 1) := by decide +kernel
theorem dX18_doOne_229 : decode cX18_doOne 229 = .ok (.getfield 575, 3) := by decide +kernel
theorem dX18_doOne_232 : decode cX18_doOne 232 = .ok (.iload_n 1, 1) := by decide +kernel
theorem dX18_doOne_233 : decode cX18_doOne 233 = .ok (.aload_n 0, 1) := by decide +kernel
theorem dX18_doOne_234 : decode cX18_doOne 234 = .ok (.getfield 250, 3) := by decide +kernel
theorem dX18_doOne_237 : decode cX18_doOne 237 = .ok (.iastore, 1) := by decide +kernel
theorem dX18_doOne_238 : decode cX18_doOne 238 = .ok (.aload_n 0, 1) := by decide +kernel
theorem dX18_doOne_239 : decode cX18_doOne 239 = .ok (.getfield 578, 3) := by decide +kernel
theorem dX18_doOne_242 : decode cX18_doOne 242 = .ok (.iload_n 1, 1) := by decide +kernel
theorem dX18_doOne_243 : decode cX18_doOne 243 = .ok (.aload_n 0, 1) := by decide +kernel
theorem dX18_doOne_244 : decode cX18_doOne 244 = .ok (.getfield 261, 3) := by decide +kernel
theorem dX18_doOne_247 : decode cX18_doOne 247 = .ok (.iastore, 1) := by decide +kernel
theorem dX18_doOne_248 : decode cX18_doOne 248 = .ok (.aload_n 0, 1) := by decide +kernel
theorem dX18_doOne_249 : decode cX18_doOne 249 = .ok (.getfield 584, 3) := by decide +kernel
theorem dX18_doOne_252 : decode cX18_doOne 252 = .ok (.iload_n 1, 1) := by decide +kernel
theorem dX18_doOne_253 : decode cX18_doOne 253 = .ok (.aload_n 0, 1) := by decide +kernel
theorem dX18_doOne_254 : decode cX18_doOne 254 = .ok (.getfield 253, 3) := by decide +kernel
theorem dX18_doOne_257 : decode cX18_doOne 257 = .ok (.lastore, 1) := by decide +kernel
theorem dX18_doOne_258 : decode cX18_doOne 258 = .ok (.return_, 1) := by decide +kernel
theorem dX18_refusal_0 : decode cX18_refusal 0 = .ok (.aload_n 0, 1) := by decide +kernel
theorem dX18_refusal_1 : decode cX18_refusal 1 = .ok (.getfield 553, 3) := by decide +kernel
theorem dX18_refusal_4 : decode cX18_refusal 4 = .ok (.iload_n 1, 1) := by decide +kernel
theorem dX18_refusal_5 : decode cX18_refusal 5 = .ok (.iaload, 1) := by decide +kernel
theorem dX18_refusal_6 : decode cX18_refusal 6 = .ok (.istore_n 3, 1) := by decide +kernel
theorem dX18_refusal_7 : decode cX18_refusal 7 = .ok (.iload_n 2, 1) := by decide +kernel
theorem dX18_refusal_8 : decode cX18_refusal 8 = .ok (.ifCond .ne 28, 3) := by decide +kernel
theorem dX18_refusal_11 : decode cX18_refusal 11 = .ok (.aload_n 0, 1) := by decide +kernel
theorem dX18_refusal_12 : decode cX18_refusal 12 = .ok (.getfield 550, 3) := by decide +kernel
theorem dX18_refusal_15 : decode cX18_refusal 15 = .ok (.iload_n 1, 1) := by decide +kernel
theorem dX18_refusal_16 : decode cX18_refusal 16 = .ok (.iaload, 1) := by decide +kernel
theorem dX18_refusal_17 : decode cX18_refusal 17 = .ok (.ifCond .eq 7, 3) := by decide +kernel
theorem dX18_refusal_20 : decode cX18_refusal 20 = .ok (.iconst 4, 1) := by decide +kernel
theorem dX18_refusal_21 : decode cX18_refusal 21 = .ok (.goto 14, 3) := by decide +kernel
theorem dX18_refusal_24 : decode cX18_refusal 24 = .ok (.iload_n 3, 1) := by decide +kernel
theorem dX18_refusal_25 : decode cX18_refusal 25 = .ok (.iconst 5, 1) := by decide +kernel
theorem dX18_refusal_26 : decode cX18_refusal 26 = .ok (.if_icmp .le 7, 3) := by decide +kernel
theorem dX18_refusal_29 : decode cX18_refusal 29 = .ok (.iconst 5, 1) := by decide +kernel
theorem dX18_refusal_30 : decode cX18_refusal 30 = .ok (.goto 5, 3) := by decide +kernel
theorem dX18_refusal_33 : decode cX18_refusal 33 = .ok (.bipush 6, 2) := by decide +kernel
theorem dX18_refusal_35 : decode cX18_refusal 35 = .ok (.ireturn, 1) := by decide +kernel
theorem dX18_refusal_36 : decode cX18_refusal 36 = .ok (.aload_n 0, 1) := by decide +kernel
theorem dX18_refusal_37 : decode cX18_refusal 37 = .ok (.getfield 17, 3) := by decide +kernel
theorem dX18_refusal_40 : decode cX18_refusal 40 = .ok (.iload_n 2, 1) := by decide +kernel
theorem dX18_refusal_41 : decode cX18_refusal 41 = .ok (.aaload, 1) := by decide +kernel
theorem dX18_refusal_42 : decode cX18_refusal 42 = .ok (.astore 4, 2) := by decide +kernel
theorem dX18_refusal_44 : decode cX18_refusal 44 = .ok (.iload_n 3, 1) := by decide +kernel
theorem dX18_refusal_45 : decode cX18_refusal 45 = .ok (.aload 4, 2) := by decide +kernel
theorem dX18_refusal_47 : decode cX18_refusal 47 = .ok (.getfield 112, 3) := by decide +kernel
theorem dX18_refusal_50 : decode cX18_refusal 50 = .ok (.if_icmp .lt 5, 3) := by decide +kernel
theorem dX18_refusal_53 : decode cX18_refusal 53 = .ok (.iconst 5, 1) := by decide +kernel
theorem dX18_refusal_54 : decode cX18_refusal 54 = .ok (.ireturn, 1) := by decide +kernel
theorem dX18_refusal_55 : decode cX18_refusal 55 = .ok (.aload 4, 2) := by decide +kernel
theorem dX18_refusal_57 : decode cX18_refusal 57 = .ok (.iload_n 3, 1) := by decide +kernel
theorem dX18_refusal_58 : decode cX18_refusal 58 = .ok (.invokevirtual 126, 3) := by decide +kernel
theorem dX18_refusal_61 : decode cX18_refusal 61 = .ok (.iconst 2, 1) := by decide +kernel
theorem dX18_refusal_62 : decode cX18_refusal 62 = .ok (.iand, 1) := by decide +kernel
theorem dX18_refusal_63 : decode cX18_refusal 63 = .ok (.ifCond .ne 6, 3) := by decide +kernel
theorem dX18_refusal_66 : decode cX18_refusal 66 = .ok (.bipush 6, 2) := by decide +kernel
theorem dX18_refusal_68 : decode cX18_refusal 68 = .ok (.ireturn, 1) := by decide +kernel
theorem dX18_refusal_69 : decode cX18_refusal 69 = .ok (.aload 4, 2) := by decide +kernel
theorem dX18_refusal_71 : decode cX18_refusal 71 = .ok (.iload_n 3, 1) := by decide +kernel
theorem dX18_refusal_72 : decode cX18_refusal 72 = .ok (.iconst 0, 1) := by decide +kernel
theorem dX18_refusal_73 : decode cX18_refusal 73 = .ok (.invokevirtual 133, 3) := by decide +kernel
theorem dX18_refusal_76 : decode cX18_refusal 76 = .ok (.aload_n 0, 1) := by decide +kernel
theorem dX18_refusal_77 : decode cX18_refusal 77 = .ok (.getfield 556, 3) := by decide +kernel
theorem dX18_refusal_80 : decode cX18_refusal 80 = .ok (.iload_n 1, 1) := by decide +kernel
theorem dX18_refusal_81 : decode cX18_refusal 81 = .ok (.iaload, 1) := by decide +kernel
theorem dX18_refusal_82 : decode cX18_refusal 82 = .ok (.if_icmp .ne 7, 3) := by decide +kernel
theorem dX18_refusal_85 : decode cX18_refusal 85 = .ok (.iconst 1, 1) := by decide +kernel
theorem dX18_refusal_86 : decode cX18_refusal 86 = .ok (.goto 4, 3) := by decide +kernel
theorem dX18_refusal_89 : decode cX18_refusal 89 = .ok (.iconst 0, 1) := by decide +kernel
theorem dX18_refusal_90 : decode cX18_refusal 90 = .ok (.istore 5, 2) := by decide +kernel
theorem dX18_refusal_92 : decode cX18_refusal 92 = .ok (.iconst 0, 1) := by decide +kernel
theorem dX18_refusal_93 : decode cX18_refusal 93 = .ok (.istore 6, 2) := by decide +kernel
theorem dX18_refusal_95 : decode cX18_refusal 95 = .ok (.iload 6, 2) := by decide +kernel
theorem dX18_refusal_97 : decode cX18_refusal 97 = .ok (.aload_n 0, 1) := by decide +kernel
theorem dX18_refusal_98 : decode cX18_refusal 98 = .ok (.getfield 556, 3) := by decide +kernel
theorem dX18_refusal_101 : decode cX18_refusal 101 = .ok (.iload_n 1, 1) := by decide +kernel
theorem dX18_refusal_102 : decode cX18_refusal 102 = .ok (.iaload, 1) := by decide +kernel
theorem dX18_refusal_103 : decode cX18_refusal 103 = .ok (.if_icmp .ge 47, 3) := by decide +kernel
theorem dX18_refusal_106 : decode cX18_refusal 106 = .ok (.iload 5, 2) := by decide +kernel
theorem dX18_refusal_108 : decode cX18_refusal 108 = .ok (.ifCond .eq 42, 3) := by decide +kernel
theorem dX18_refusal_111 : decode cX18_refusal 111 = .ok (.aload 4, 2) := by decide +kernel
theorem dX18_refusal_113 : decode cX18_refusal 113 = .ok (.iload_n 3, 1) := by decide +kernel
theorem dX18_refusal_114 : decode cX18_refusal 114 = .ok (.iconst 0, 1) := by decide +kernel
theorem dX18_refusal_115 : decode cX18_refusal 115 = .ok (.iload 6, 2) := by decide +kernel
theorem dX18_refusal_117 : decode cX18_refusal 117 = .ok (.invokevirtual 140, 3) := by decide +kernel
theorem dX18_refusal_120 : decode cX18_refusal 120 = .ok (.aload_n 0, 1) := by decide +kernel
theorem dX18_refusal_121 : decode cX18_refusal 121 = .ok (.getfield 559, 3) := by decide +kernel
theorem dX18_refusal_124 : decode cX18_refusal 124 = .ok (.bipush 8, 2) := by decide +kernel
theorem dX18_refusal_126 : decode cX18_refusal 126 = .ok (.iload_n 1, 1) := by decide +kernel
theorem dX18_refusal_127 : decode cX18_refusal 127 = .ok (.imul, 1) := by decide +kernel
theorem dX18_refusal_128 : decode cX18_refusal 128 = .ok (.iload 6, 2) := by decide +kernel
theorem dX18_refusal_130 : decode cX18_refusal 130 = .ok (.iadd, 1) := by decide +kernel
theorem dX18_refusal_131 : decode cX18_refusal 131 = .ok (.baload, 1) := by decide +kernel
theorem dX18_refusal_132 : decode cX18_refusal 132 = .ok (.i2l, 1) := by decide +kernel
theorem dX18_refusal_133 : decode cX18_refusal 133 = .ok (.lcmp, 1) := by decide +kernel
theorem dX18_refusal_134 : decode cX18_refusal 134 = .ok (.ifCond .ne 7, 3) := by decide +kernel
theorem dX18_refusal_137 : decode cX18_refusal 137 = .ok (.iconst 1, 1) := by decide +kernel
theorem dX18_refusal_138 : decode cX18_refusal 138 = .ok (.goto 4, 3) := by decide +kernel
theorem dX18_refusal_141 : decode cX18_refusal 141 = .ok (.iconst 0, 1) := by decide +kernel
theorem dX18_refusal_142 : decode cX18_refusal 142 = .ok (.istore 5, 2) := by decide +kernel
theorem dX18_refusal_144 : decode cX18_refusal 144 = .ok (.iinc 6 1, 3) := by decide +kernel
theorem dX18_refusal_147 : decode cX18_refusal 147 = .ok (.goto (-52), 3) := by decide +kernel
theorem dX18_refusal_150 : decode cX18_refusal 150 = .ok (.iload 5, 2) := by decide +kernel
theorem dX18_refusal_152 : decode cX18_refusal 152 = .ok (.ifCond .ne 6, 3) := by decide +kernel
theorem dX18_refusal_155 : decode cX18_refusal 155 = .ok (.bipush 7, 2) := by decide +kernel
theorem dX18_refusal_157 : decode cX18_refusal 157 = .ok (.ireturn, 1) := by decide +kernel
theorem dX18_refusal_158 : decode cX18_refusal 158 = .ok (.iconst 0, 1) := by decide +kernel
theorem dX18_refusal_159 : decode cX18_refusal 159 = .ok (.istore 6, 2) := by decide +kernel
theorem dX18_refusal_161 : decode cX18_refusal 161 = .ok (.iload 6, 2) := by decide +kernel
theorem dX18_refusal_163 : decode cX18_refusal 163 = .ok (.aload 4, 2) := by decide +kernel
theorem dX18_refusal_165 : decode cX18_refusal 165 = .ok (.iload_n 3, 1) := by decide +kernel
theorem dX18_refusal_166 : decode cX18_refusal 166 = .ok (.iconst 1, 1) := by decide +kernel
theorem dX18_refusal_167 : decode cX18_refusal 167 = .ok (.invokevirtual 133, 3) := by decide +kernel
theorem dX18_refusal_170 : decode cX18_refusal 170 = .ok (.if_icmp .ge 28, 3) := by decide +kernel
theorem dX18_refusal_173 : decode cX18_refusal 173 = .ok (.aload 4, 2) := by decide +kernel
theorem dX18_refusal_175 : decode cX18_refusal 175 = .ok (.iload_n 3, 1) := by decide +kernel
theorem dX18_refusal_176 : decode cX18_refusal 176 = .ok (.iconst 1, 1) := by decide +kernel
theorem dX18_refusal_177 : decode cX18_refusal 177 = .ok (.iload 6, 2) := by decide +kernel
theorem dX18_refusal_179 : decode cX18_refusal 179 = .ok (.invokevirtual 140, 3) := by decide +kernel
theorem dX18_refusal_182 : decode cX18_refusal 182 = .ok (.ldc2_w 122, 3) := by decide +kernel
theorem dX18_refusal_185 : decode cX18_refusal 185 = .ok (.lcmp, 1) := by decide +kernel
theorem dX18_refusal_186 : decode cX18_refusal 186 = .ok (.ifCond .le 6, 3) := by decide +kernel
theorem dX18_refusal_189 : decode cX18_refusal 189 = .ok (.bipush 8, 2) := by decide +kernel
theorem dX18_refusal_191 : decode cX18_refusal 191 = .ok (.ireturn, 1) := by decide +kernel
theorem dX18_refusal_192 : decode cX18_refusal 192 = .ok (.iinc 6 1, 3) := by decide +kernel
theorem dX18_refusal_195 : decode cX18_refusal 195 = .ok (.goto (-34), 3) := by decide +kernel
theorem dX18_refusal_198 : decode cX18_refusal 198 = .ok (.iconst 0, 1) := by decide +kernel
theorem dX18_refusal_199 : decode cX18_refusal 199 = .ok (.ireturn, 1) := by decide +kernel
theorem dX18_publishOne_0 : decode cX18_publishOne 0 = .ok (.aload_n 0, 1) := by decide +kernel
theorem dX18_publishOne_1 : decode cX18_publishOne 1 = .ok (.getfield 572, 3) := by decide +kernel
theorem dX18_publishOne_4 : decode cX18_publishOne 4 = .ok (.iload_n 1, 1) := by decide +kernel
theorem dX18_publishOne_5 : decode cX18_publishOne 5 = .ok (.iaload, 1) := by decide +kernel
theorem dX18_publishOne_6 : decode cX18_publishOne 6 = .ok (.istore_n 2, 1) := by decide +kernel
theorem dX18_publishOne_7 : decode cX18_publishOne 7 = .ok (.bipush 10, 2) := by decide +kernel
theorem dX18_publishOne_9 : decode cX18_publishOne 9 = .ok (.iload_n 2, 1) := by decide +kernel
theorem dX18_publishOne_10 : decode cX18_publishOne 10 = .ok (.bipush 15, 2) := by decide +kernel
theorem dX18_publishOne_12 : decode cX18_publishOne 12 = .ok (.iadd, 1) := by decide +kernel
theorem dX18_publishOne_13 : decode cX18_publishOne 13 = .ok (.bipush 16, 2) := by decide +kernel
theorem dX18_publishOne_15 : decode cX18_publishOne 15 = .ok (.idiv, 1) := by decide +kernel
theorem dX18_publishOne_16 : decode cX18_publishOne 16 = .ok (.iadd, 1) := by decide +kernel
theorem dX18_publishOne_17 : decode cX18_publishOne 17 = .ok (.istore_n 3, 1) := by decide +kernel
theorem dX18_publishOne_18 : decode cX18_publishOne 18 = .ok (.aload_n 0, 1) := by decide +kernel
theorem dX18_publishOne_19 : decode cX18_publishOne 19 = .ok (.iload_n 3, 1) := by decide +kernel
theorem dX18_publishOne_20 : decode cX18_publishOne 20 = .ok (.invokevirtual 353, 3) := by decide +kernel
theorem dX18_publishOne_23 : decode cX18_publishOne 23 = .ok (.ifCond .ne 4, 3) := by decide +kernel
theorem dX18_publishOne_26 : decode cX18_publishOne 26 = .ok (.return_, 1) := by decide +kernel
theorem dX18_publishOne_27 : decode cX18_publishOne 27 = .ok (.aload_n 0, 1) := by decide +kernel
theorem dX18_publishOne_28 : decode cX18_publishOne 28 = .ok (.getfield 7, 3) := by decide +kernel
theorem dX18_publishOne_31 : decode cX18_publishOne 31 = .ok (.bipush 8, 2) := by decide +kernel
theorem dX18_publishOne_33 : decode cX18_publishOne 33 = .ok (.if_icmp .ne 12, 3) := by decide +kernel
theorem dX18_publishOne_36 : decode cX18_publishOne 36 = .ok (.aload_n 0, 1) := by decide +kernel
theorem dX18_publishOne_37 : decode cX18_publishOne 37 = .ok (.iconst 2, 1) := by decide +kernel
theorem dX18_publishOne_38 : decode cX18_publishOne 38 = .ok (.ldc2_w 283, 3) := by decide +kernel
theorem dX18_publishOne_41 : decode cX18_publishOne 41 = .ok (.invokevirtual 267, 3) := by decide +kernel
theorem dX18_publishOne_44 : decode cX18_publishOne 44 = .ok (.return_, 1) := by decide +kernel
theorem dX18_publishOne_45 : decode cX18_publishOne 45 = .ok (.aload_n 0, 1) := by decide +kernel
theorem dX18_publishOne_46 : decode cX18_publishOne 46 = .ok (.aload_n 0, 1) := by decide +kernel
theorem dX18_publishOne_47 : decode cX18_publishOne 47 = .ok (.getfield 569, 3) := by decide +kernel
theorem dX18_publishOne_50 : decode cX18_publishOne 50 = .ok (.sipush 2048, 3) := by decide +kernel
theorem dX18_publishOne_53 : decode cX18_publishOne 53 = .ok (.iload_n 1, 1) := by decide +kernel
theorem dX18_publishOne_54 : decode cX18_publishOne 54 = .ok (.imul, 1) := by decide +kernel
theorem dX18_publishOne_55 : decode cX18_publishOne 55 = .ok (.iload_n 2, 1) := by decide +kernel
theorem dX18_publishOne_56 : decode cX18_publishOne 56 = .ok (.aload_n 0, 1) := by decide +kernel
theorem dX18_publishOne_57 : decode cX18_publishOne 57 = .ok (.getfield 7, 3) := by decide +kernel
theorem dX18_publishOne_60 : decode cX18_publishOne 60 = .ok (.iconst 1, 1) := by decide +kernel
theorem dX18_publishOne_61 : decode cX18_publishOne 61 = .ok (.iadd, 1) := by decide +kernel
theorem dX18_publishOne_62 : decode cX18_publishOne 62 = .ok (.invokevirtual 655, 3) := by decide +kernel
theorem dX18_publishOne_65 : decode cX18_publishOne 65 = .ok (.istore 4, 2) := by decide +kernel
theorem dX18_publishOne_67 : decode cX18_publishOne 67 = .ok (.iload 4, 2) := by decide +kernel
theorem dX18_publishOne_69 : decode cX18_publishOne 69 = .ok (.ifCond .eq 24, 3) := by decide +kernel
theorem dX18_publishOne_72 : decode cX18_publishOne 72 = .ok (.aload_n 0, 1) := by decide +kernel
theorem dX18_publishOne_73 : decode cX18_publishOne 73 = .ok (.getfield 581, 3) := by decide +kernel
theorem dX18_publishOne_76 : decode cX18_publishOne 76 = .ok (.iload_n 1, 1) := by decide +kernel
theorem dX18_publishOne_77 : decode cX18_publishOne 77 = .ok (.aload_n 0, 1) := by decide +kernel
theorem dX18_publishOne_78 : decode cX18_publishOne 78 = .ok (.getfield 215, 3) := by decide +kernel
theorem dX18_publishOne_81 : decode cX18_publishOne 81 = .ok (.iastore, 1) := by decide +kernel
theorem dX18_publishOne_82 : decode cX18_publishOne 82 = .ok (.aload_n 0, 1) := by decide +kernel
theorem dX18_publishOne_83 : decode cX18_publishOne 83 = .ok (.iconst 4, 1) := by decide +kernel
theorem dX18_publishOne_84 : decode cX18_publishOne 84 = .ok (.iload 4, 2) := by decide +kernel
theorem dX18_publishOne_86 : decode cX18_publishOne 86 = .ok (.i2l, 1) := by decide +kernel
theorem dX18_publishOne_87 : decode cX18_publishOne 87 = .ok (.invokevirtual 267, 3) := by decide +kernel
theorem dX18_publishOne_90 : decode cX18_publishOne 90 = .ok (.goto 40, 3) := by decide +kernel
theorem dX18_publishOne_93 : decode cX18_publishOne 93 = .ok (.aload_n 0, 1) := by decide +kernel
theorem dX18_publishOne_94 : decode cX18_publishOne 94 = .ok (.invokevirtual 620, 3) := by decide +kernel
theorem dX18_publishOne_97 : decode cX18_publishOne 97 = .ok (.sipush 256, 3) := by decide +kernel
theorem dX18_publishOne_100 : decode cX18_publishOne 100 = .ok (.if_icmp .ne 14, 3) := by decide +kernel
theorem dX18_publishOne_103 : decode cX18_publishOne 103 = .ok (.aload_n 0, 1) := by decide +kernel
theorem dX18_publishOne_104 : decode cX18_publishOne 104 = .ok (.iconst 2, 1) := by decide +kernel
theorem dX18_publishOne_105 : decode cX18_publishOne 105 = .ok (.ldc2_w 283, 3) := by decide +kernel
theorem dX18_publishOne_108 : decode cX18_publishOne 108 = .ok (.invokevirtual 267, 3) := by decide +kernel
theorem dX18_publishOne_111 : decode cX18_publishOne 111 = .ok (.goto 19, 3) := by decide +kernel
theorem dX18_publishOne_114 : decode cX18_publishOne 114 = .ok (.aload_n 0, 1) := by decide +kernel
theorem dX18_publishOne_115 : decode cX18_publishOne 115 = .ok (.dup, 1) := by decide +kernel
theorem dX18_publishOne_116 : decode cX18_publishOne 116 = .ok (.getfield 7, 3) := by decide +kernel
theorem dX18_publishOne_119 : decode cX18_publishOne 119 = .ok (.iconst 1, 1) := by decide +kernel
theorem dX18_publishOne_120 : decode cX18_publishOne 120 = .ok (.iadd, 1) := by decide +kernel
theorem dX18_publishOne_121 : decode cX18_publishOne 121 = .ok (.putfield 7, 3) := by decide +kernel
theorem dX18_publishOne_124 : decode cX18_publishOne 124 = .ok (.aload_n 0, 1) := by decide +kernel
theorem dX18_publishOne_125 : decode cX18_publishOne 125 = .ok (.iconst 0, 1) := by decide +kernel
theorem dX18_publishOne_126 : decode cX18_publishOne 126 = .ok (.lconst 0, 1) := by decide +kernel
theorem dX18_publishOne_127 : decode cX18_publishOne 127 = .ok (.invokevirtual 267, 3) := by decide +kernel
theorem dX18_publishOne_130 : decode cX18_publishOne 130 = .ok (.return_, 1) := by decide +kernel
theorem dX18_callOne_0 : decode cX18_callOne 0 = .ok (.aload_n 0, 1) := by decide +kernel
theorem dX18_callOne_1 : decode cX18_callOne 1 = .ok (.getfield 40, 3) := by decide +kernel
theorem dX18_callOne_4 : decode cX18_callOne 4 = .ok (.iconst 0, 1) := by decide +kernel
theorem dX18_callOne_5 : decode cX18_callOne 5 = .ok (.putfield 659, 3) := by decide +kernel
theorem dX18_callOne_8 : decode cX18_callOne 8 = .ok (.aload_n 0, 1) := by decide +kernel
theorem dX18_callOne_9 : decode cX18_callOne 9 = .ok (.iconst 0, 1) := by decide +kernel
theorem dX18_callOne_10 : decode cX18_callOne 10 = .ok (.putfield 271, 3) := by decide +kernel
theorem dX18_callOne_13 : decode cX18_callOne 13 = .ok (.aload_n 0, 1) := by decide +kernel
theorem dX18_callOne_14 : decode cX18_callOne 14 = .ok (.iconst 1, 1) := by decide +kernel
theorem dX18_callOne_15 : decode cX18_callOne 15 = .ok (.aload_n 0, 1) := by decide +kernel
theorem dX18_callOne_16 : decode cX18_callOne 16 = .ok (.getfield 411, 3) := by decide +kernel
theorem dX18_callOne_19 : decode cX18_callOne 19 = .ok (.iconst 0, 1) := by decide +kernel
theorem dX18_callOne_20 : decode cX18_callOne 20 = .ok (.invokevirtual 414, 3) := by decide +kernel
theorem dX18_callOne_23 : decode cX18_callOne 23 = .ok (.pop, 1) := by decide +kernel
theorem dX18_callOne_24 : decode cX18_callOne 24 = .ok (.aload_n 0, 1) := by decide +kernel
theorem dX18_callOne_25 : decode cX18_callOne 25 = .ok (.getfield 300, 3) := by decide +kernel
theorem dX18_callOne_28 : decode cX18_callOne 28 = .ok (.iconst 0, 1) := by decide +kernel
theorem dX18_callOne_29 : decode cX18_callOne 29 = .ok (.dup2, 1) := by decide +kernel
theorem dX18_callOne_30 : decode cX18_callOne 30 = .ok (.laload, 1) := by decide +kernel
theorem dX18_callOne_31 : decode cX18_callOne 31 = .ok (.aload_n 0, 1) := by decide +kernel
theorem dX18_callOne_32 : decode cX18_callOne 32 = .ok (.getfield 264, 3) := by decide +kernel
theorem dX18_callOne_35 : decode cX18_callOne 35 = .ok (.i2l, 1) := by decide +kernel
theorem dX18_callOne_36 : decode cX18_callOne 36 = .ok (.lsub, 1) := by decide +kernel
theorem dX18_callOne_37 : decode cX18_callOne 37 = .ok (.lastore, 1) := by decide +kernel
theorem dX18_callOne_38 : decode cX18_callOne 38 = .ok (.aload_n 0, 1) := by decide +kernel
theorem dX18_callOne_39 : decode cX18_callOne 39 = .ok (.iconst 2, 1) := by decide +kernel
theorem dX18_callOne_40 : decode cX18_callOne 40 = .ok (.aload_n 0, 1) := by decide +kernel
theorem dX18_callOne_41 : decode cX18_callOne 41 = .ok (.getfield 550, 3) := by decide +kernel
theorem dX18_callOne_44 : decode cX18_callOne 44 = .ok (.iload_n 1, 1) := by decide +kernel
theorem dX18_callOne_45 : decode cX18_callOne 45 = .ok (.iaload, 1) := by decide +kernel
theorem dX18_callOne_46 : decode cX18_callOne 46 = .ok (.i2l, 1) := by decide +kernel
theorem dX18_callOne_47 : decode cX18_callOne 47 = .ok (.iconst 0, 1) := by decide +kernel
theorem dX18_callOne_48 : decode cX18_callOne 48 = .ok (.invokevirtual 414, 3) := by decide +kernel
theorem dX18_callOne_51 : decode cX18_callOne 51 = .ok (.pop, 1) := by decide +kernel
theorem dX18_callOne_52 : decode cX18_callOne 52 = .ok (.aload_n 0, 1) := by decide +kernel
theorem dX18_callOne_53 : decode cX18_callOne 53 = .ok (.iconst 0, 1) := by decide +kernel
theorem dX18_callOne_54 : decode cX18_callOne 54 = .ok (.putfield 328, 3) := by decide +kernel
theorem dX18_callOne_57 : decode cX18_callOne 57 = .ok (.aload_n 0, 1) := by decide +kernel
theorem dX18_callOne_58 : decode cX18_callOne 58 = .ok (.iconst 0, 1) := by decide +kernel
theorem dX18_callOne_59 : decode cX18_callOne 59 = .ok (.putfield 312, 3) := by decide +kernel
theorem dX18_callOne_62 : decode cX18_callOne 62 = .ok (.iconst 0, 1) := by decide +kernel
theorem dX18_callOne_63 : decode cX18_callOne 63 = .ok (.istore 4, 2) := by decide +kernel
theorem dX18_callOne_65 : decode cX18_callOne 65 = .ok (.iload 4, 2) := by decide +kernel
theorem dX18_callOne_67 : decode cX18_callOne 67 = .ok (.aload_n 0, 1) := by decide +kernel
theorem dX18_callOne_68 : decode cX18_callOne 68 = .ok (.getfield 556, 3) := by decide +kernel
theorem dX18_callOne_71 : decode cX18_callOne 71 = .ok (.iload_n 1, 1) := by decide +kernel
theorem dX18_callOne_72 : decode cX18_callOne 72 = .ok (.iaload, 1) := by decide +kernel
theorem dX18_callOne_73 : decode cX18_callOne 73 = .ok (.if_icmp .ge 51, 3) := by decide +kernel
theorem dX18_callOne_76 : decode cX18_callOne 76 = .ok (.bipush 8, 2) := by decide +kernel
theorem dX18_callOne_78 : decode cX18_callOne 78 = .ok (.iload_n 1, 1) := by decide +kernel
theorem dX18_callOne_79 : decode cX18_callOne 79 = .ok (.imul, 1) := by decide +kernel
theorem dX18_callOne_80 : decode cX18_callOne 80 = .ok (.iload 4, 2) := by decide +kernel
theorem dX18_callOne_82 : decode cX18_callOne 82 = .ok (.iadd, 1) := by decide +kernel
theorem dX18_callOne_83 : decode cX18_callOne 83 = .ok (.istore 5, 2) := by decide +kernel
theorem dX18_callOne_85 : decode cX18_callOne 85 = .ok (.aload_n 0, 1) := by decide +kernel
theorem dX18_callOne_86 : decode cX18_callOne 86 = .ok (.aload_n 0, 1) := by decide +kernel
theorem dX18_callOne_87 : decode cX18_callOne 87 = .ok (.getfield 40, 3) := by decide +kernel
theorem dX18_callOne_90 : decode cX18_callOne 90 = .ok (.aload_n 0, 1) := by decide +kernel
theorem dX18_callOne_91 : decode cX18_callOne 91 = .ok (.getfield 559, 3) := by decide +kernel
theorem dX18_callOne_94 : decode cX18_callOne 94 = .ok (.iload 5, 2) := by decide +kernel
theorem dX18_callOne_96 : decode cX18_callOne 96 = .ok (.baload, 1) := by decide +kernel
theorem dX18_callOne_97 : decode cX18_callOne 97 = .ok (.aload_n 0, 1) := by decide +kernel
theorem dX18_callOne_98 : decode cX18_callOne 98 = .ok (.getfield 562, 3) := by decide +kernel
theorem dX18_callOne_101 : decode cX18_callOne 101 = .ok (.iload 5, 2) := by decide +kernel
theorem dX18_callOne_103 : decode cX18_callOne 103 = .ok (.laload, 1) := by decide +kernel
theorem dX18_callOne_104 : decode cX18_callOne 104 = .ok (.aload_n 0, 1) := by decide +kernel
theorem dX18_callOne_105 : decode cX18_callOne 105 = .ok (.getfield 565, 3) := by decide +kernel
theorem dX18_callOne_108 : decode cX18_callOne 108 = .ok (.iload 5, 2) := by decide +kernel
theorem dX18_callOne_110 : decode cX18_callOne 110 = .ok (.laload, 1) := by decide +kernel
theorem dX18_callOne_111 : decode cX18_callOne 111 = .ok (.invokevirtual 54, 3) := by decide +kernel
theorem dX18_callOne_114 : decode cX18_callOne 114 = .ok (.iconst 0, 1) := by decide +kernel
theorem dX18_callOne_115 : decode cX18_callOne 115 = .ok (.invokevirtual 318, 3) := by decide +kernel
theorem dX18_callOne_118 : decode cX18_callOne 118 = .ok (.iinc 4 1, 3) := by decide +kernel
theorem dX18_callOne_121 : decode cX18_callOne 121 = .ok (.goto (-56), 3) := by decide +kernel
theorem dX18_callOne_124 : decode cX18_callOne 124 = .ok (.aload_n 0, 1) := by decide +kernel
theorem dX18_callOne_125 : decode cX18_callOne 125 = .ok (.iload_n 2, 1) := by decide +kernel
theorem dX18_callOne_126 : decode cX18_callOne 126 = .ok (.aload_n 0, 1) := by decide +kernel
theorem dX18_callOne_127 : decode cX18_callOne 127 = .ok (.getfield 553, 3) := by decide +kernel
theorem dX18_callOne_130 : decode cX18_callOne 130 = .ok (.iload_n 1, 1) := by decide +kernel
theorem dX18_callOne_131 : decode cX18_callOne 131 = .ok (.iaload, 1) := by decide +kernel
theorem dX18_callOne_132 : decode cX18_callOne 132 = .ok (.aload_n 0, 1) := by decide +kernel
theorem dX18_callOne_133 : decode cX18_callOne 133 = .ok (.getfield 556, 3) := by decide +kernel
theorem dX18_callOne_136 : decode cX18_callOne 136 = .ok (.iload_n 1, 1) := by decide +kernel
theorem dX18_callOne_137 : decode cX18_callOne 137 = .ok (.iaload, 1) := by decide +kernel
theorem dX18_callOne_138 : decode cX18_callOne 138 = .ok (.invokevirtual 451, 3) := by decide +kernel
theorem dX18_callOne_141 : decode cX18_callOne 141 = .ok (.aload_n 0, 1) := by decide +kernel
theorem dX18_callOne_142 : decode cX18_callOne 142 = .ok (.invokevirtual 257, 3) := by decide +kernel
theorem dX18_callOne_145 : decode cX18_callOne 145 = .ok (.ifCond .eq 10, 3) := by decide +kernel
theorem dX18_callOne_148 : decode cX18_callOne 148 = .ok (.aload_n 0, 1) := by decide +kernel
theorem dX18_callOne_149 : decode cX18_callOne 149 = .ok (.invokevirtual 662, 3) := by decide +kernel
theorem dX18_callOne_152 : decode cX18_callOne 152 = .ok (.goto (-11), 3) := by decide +kernel
theorem dX18_callOne_155 : decode cX18_callOne 155 = .ok (.aload_n 0, 1) := by decide +kernel
theorem dX18_callOne_156 : decode cX18_callOne 156 = .ok (.getfield 250, 3) := by decide +kernel
theorem dX18_callOne_159 : decode cX18_callOne 159 = .ok (.ifCond .ne 22, 3) := by decide +kernel
theorem dX18_callOne_162 : decode cX18_callOne 162 = .ok (.aload_n 0, 1) := by decide +kernel
theorem dX18_callOne_163 : decode cX18_callOne 163 = .ok (.invokevirtual 665, 3) := by decide +kernel
theorem dX18_callOne_166 : decode cX18_callOne 166 = .ok (.ifCond .eq 15, 3) := by decide +kernel
theorem dX18_callOne_169 : decode cX18_callOne 169 = .ok (.aload_n 0, 1) := by decide +kernel
theorem dX18_callOne_170 : decode cX18_callOne 170 = .ok (.iconst 2, 1) := by decide +kernel
theorem dX18_callOne_171 : decode cX18_callOne 171 = .ok (.putfield 250, 3) := by decide +kernel
theorem dX18_callOne_174 : decode cX18_callOne 174 = .ok (.aload_n 0, 1) := by decide +kernel
theorem dX18_callOne_175 : decode cX18_callOne 175 = .ok (.ldc2_w 283, 3) := by decide +kernel
theorem dX18_callOne_178 : decode cX18_callOne 178 = .ok (.putfield 253, 3) := by decide +kernel
theorem dX18_callOne_181 : decode cX18_callOne 181 = .ok (.aload_n 0, 1) := by decide +kernel
theorem dX18_callOne_182 : decode cX18_callOne 182 = .ok (.getfield 250, 3) := by decide +kernel
theorem dX18_callOne_185 : decode cX18_callOne 185 = .ok (.ifCond .eq 4, 3) := by decide +kernel
theorem dX18_callOne_188 : decode cX18_callOne 188 = .ok (.return_, 1) := by decide +kernel
theorem dX18_callOne_189 : decode cX18_callOne 189 = .ok (.iconst 0, 1) := by decide +kernel
theorem dX18_callOne_190 : decode cX18_callOne 190 = .ok (.istore 4, 2) := by decide +kernel
theorem dX18_callOne_192 : decode cX18_callOne 192 = .ok (.iload 4, 2) := by decide +kernel
theorem dX18_callOne_194 : decode cX18_callOne 194 = .ok (.aload_n 0, 1) := by decide +kernel
theorem dX18_callOne_195 : decode cX18_callOne 195 = .ok (.getfield 312, 3) := by decide +kernel
theorem dX18_callOne_198 : decode cX18_callOne 198 = .ok (.if_icmp .ge 84, 3) := by decide +kernel
theorem dX18_callOne_201 : decode cX18_callOne 201 = .ok (.bipush 8, 2) := by decide +kernel
theorem dX18_callOne_203 : decode cX18_callOne 203 = .ok (.iload_n 1, 1) := by decide +kernel
theorem dX18_callOne_204 : decode cX18_callOne 204 = .ok (.imul, 1) := by decide +kernel
theorem dX18_callOne_205 : decode cX18_callOne 205 = .ok (.iload 4, 2) := by decide +kernel
theorem dX18_callOne_207 : decode cX18_callOne 207 = .ok (.iadd, 1) := by decide +kernel
theorem dX18_callOne_208 : decode cX18_callOne 208 = .ok (.istore 5, 2) := by decide +kernel
theorem dX18_callOne_210 : decode cX18_callOne 210 = .ok (.aload_n 0, 1) := by decide +kernel
theorem dX18_callOne_211 : decode cX18_callOne 211 = .ok (.getfield 590, 3) := by decide +kernel
theorem dX18_callOne_214 : decode cX18_callOne 214 = .ok (.iload 5, 2) := by decide +kernel
theorem dX18_callOne_216 : decode cX18_callOne 216 = .ok (.aload_n 0, 1) := by decide +kernel
theorem dX18_callOne_217 : decode cX18_callOne 217 = .ok (.getfield 40, 3) := by decide +kernel
theorem dX18_callOne_220 : decode cX18_callOne 220 = .ok (.getfield 71, 3) := by decide +kernel
theorem dX18_callOne_223 : decode cX18_callOne 223 = .ok (.aload_n 0, 1) := by decide +kernel
theorem dX18_callOne_224 : decode cX18_callOne 224 = .ok (.getfield 309, 3) := by decide +kernel
theorem dX18_callOne_227 : decode cX18_callOne 227 = .ok (.iload 4, 2) := by decide +kernel
theorem dX18_callOne_229 : decode cX18_callOne 229 = .ok (.iaload, 1) := by decide +kernel
theorem dX18_callOne_230 : decode cX18_callOne 230 = .ok (.baload, 1) := by decide +kernel
theorem dX18_callOne_231 : decode cX18_callOne 231 = .ok (.bastore, 1) := by decide +kernel
theorem dX18_callOne_232 : decode cX18_callOne 232 = .ok (.aload_n 0, 1) := by decide +kernel
theorem dX18_callOne_233 : decode cX18_callOne 233 = .ok (.getfield 593, 3) := by decide +kernel
theorem dX18_callOne_236 : decode cX18_callOne 236 = .ok (.iload 5, 2) := by decide +kernel
theorem dX18_callOne_238 : decode cX18_callOne 238 = .ok (.aload_n 0, 1) := by decide +kernel
theorem dX18_callOne_239 : decode cX18_callOne 239 = .ok (.getfield 40, 3) := by decide +kernel
theorem dX18_callOne_242 : decode cX18_callOne 242 = .ok (.getfield 74, 3) := by decide +kernel
theorem dX18_callOne_245 : decode cX18_callOne 245 = .ok (.aload_n 0, 1) := by decide +kernel
theorem dX18_callOne_246 : decode cX18_callOne 246 = .ok (.getfield 309, 3) := by decide +kernel
theorem dX18_callOne_249 : decode cX18_callOne 249 = .ok (.iload 4, 2) := by decide +kernel
theorem dX18_callOne_251 : decode cX18_callOne 251 = .ok (.iaload, 1) := by decide +kernel
theorem dX18_callOne_252 : decode cX18_callOne 252 = .ok (.laload, 1) := by decide +kernel
theorem dX18_callOne_253 : decode cX18_callOne 253 = .ok (.lastore, 1) := by decide +kernel
theorem dX18_callOne_254 : decode cX18_callOne 254 = .ok (.aload_n 0, 1) := by decide +kernel
theorem dX18_callOne_255 : decode cX18_callOne 255 = .ok (.getfield 596, 3) := by decide +kernel
theorem dX18_callOne_258 : decode cX18_callOne 258 = .ok (.iload 5, 2) := by decide +kernel
theorem dX18_callOne_260 : decode cX18_callOne 260 = .ok (.aload_n 0, 1) := by decide +kernel
theorem dX18_callOne_261 : decode cX18_callOne 261 = .ok (.getfield 40, 3) := by decide +kernel
theorem dX18_callOne_264 : decode cX18_callOne 264 = .ok (.getfield 77, 3) := by decide +kernel
theorem dX18_callOne_267 : decode cX18_callOne 267 = .ok (.aload_n 0, 1) := by decide +kernel
theorem dX18_callOne_268 : decode cX18_callOne 268 = .ok (.getfield 309, 3) := by decide +kernel
theorem dX18_callOne_271 : decode cX18_callOne 271 = .ok (.iload 4, 2) := by decide +kernel
theorem dX18_callOne_273 : decode cX18_callOne 273 = .ok (.iaload, 1) := by decide +kernel
theorem dX18_callOne_274 : decode cX18_callOne 274 = .ok (.laload, 1) := by decide +kernel
theorem dX18_callOne_275 : decode cX18_callOne 275 = .ok (.lastore, 1) := by decide +kernel
theorem dX18_callOne_276 : decode cX18_callOne 276 = .ok (.iinc 4 1, 3) := by decide +kernel
theorem dX18_callOne_279 : decode cX18_callOne 279 = .ok (.goto (-87), 3) := by decide +kernel
theorem dX18_callOne_282 : decode cX18_callOne 282 = .ok (.aload_n 0, 1) := by decide +kernel
theorem dX18_callOne_283 : decode cX18_callOne 283 = .ok (.getfield 587, 3) := by decide +kernel
theorem dX18_callOne_286 : decode cX18_callOne 286 = .ok (.iload_n 1, 1) := by decide +kernel
theorem dX18_callOne_287 : decode cX18_callOne 287 = .ok (.aload_n 0, 1) := by decide +kernel
theorem dX18_callOne_288 : decode cX18_callOne 288 = .ok (.getfield 312, 3) := by decide +kernel
theorem dX18_callOne_291 : decode cX18_callOne 291 = .ok (.iastore, 1) := by decide +kernel
theorem dX18_callOne_292 : decode cX18_callOne 292 = .ok (.aload_n 0, 1) := by decide +kernel
theorem dX18_callOne_293 : decode cX18_callOne 293 = .ok (.invokevirtual 668, 3) := by decide +kernel
theorem dX18_callOne_296 : decode cX18_callOne 296 = .ok (.return_, 1) := by decide +kernel
theorem dX18_isTooMuch_0 : decode cX18_isTooMuch 0 = .ok (.iconst 0, 1) := by decide +kernel
theorem dX18_isTooMuch_1 : decode cX18_isTooMuch 1 = .ok (.istore_n 1, 1) := by decide +kernel
theorem dX18_isTooMuch_2 : decode cX18_isTooMuch 2 = .ok (.iconst 0, 1) := by decide +kernel
theorem dX18_isTooMuch_3 : decode cX18_isTooMuch 3 = .ok (.istore_n 2, 1) := by decide +kernel
theorem dX18_isTooMuch_4 : decode cX18_isTooMuch 4 = .ok (.iconst 0, 1) := by decide +kernel
theorem dX18_isTooMuch_5 : decode cX18_isTooMuch 5 = .ok (.istore_n 3, 1) := by decide +kernel
theorem dX18_isTooMuch_6 : decode cX18_isTooMuch 6 = .ok (.iload_n 3, 1) := by decide +kernel
theorem dX18_isTooMuch_7 : decode cX18_isTooMuch 7 = .ok (.aload_n 0, 1) := by decide +kernel
theorem dX18_isTooMuch_8 : decode cX18_isTooMuch 8 = .ok (.getfield 271, 3) := by decide +kernel
theorem dX18_isTooMuch_11 : decode cX18_isTooMuch 11 = .ok (.if_icmp .ge 164, 3) := by decide +kernel
theorem dX18_isTooMuch_14 : decode cX18_isTooMuch 14 = .ok (.aload_n 0, 1) := by decide +kernel
theorem dX18_isTooMuch_15 : decode cX18_isTooMuch 15 = .ok (.getfield 274, 3) := by decide +kernel
theorem dX18_isTooMuch_18 : decode cX18_isTooMuch 18 = .ok (.iload_n 3, 1) := by decide +kernel
theorem dX18_isTooMuch_19 : decode cX18_isTooMuch 19 = .ok (.iaload, 1) := by decide +kernel
theorem dX18_isTooMuch_20 : decode cX18_isTooMuch 20 = .ok (.iconst 1, 1) := by decide +kernel
theorem dX18_isTooMuch_21 : decode cX18_isTooMuch 21 = .ok (.if_icmp .ne 24, 3) := by decide +kernel
theorem dX18_isTooMuch_24 : decode cX18_isTooMuch 24 = .ok (.aload_n 0, 1) := by decide +kernel
theorem dX18_isTooMuch_25 : decode cX18_isTooMuch 25 = .ok (.aload_n 0, 1) := by decide +kernel
theorem dX18_isTooMuch_26 : decode cX18_isTooMuch 26 = .ok (.getfield 277, 3) := by decide +kernel
theorem dX18_isTooMuch_29 : decode cX18_isTooMuch 29 = .ok (.iload_n 3, 1) := by decide +kernel
theorem dX18_isTooMuch_30 : decode cX18_isTooMuch 30 = .ok (.laload, 1) := by decide +kernel
theorem dX18_isTooMuch_31 : decode cX18_isTooMuch 31 = .ok (.invokevirtual 288, 3) := by decide +kernel
theorem dX18_isTooMuch_34 : decode cX18_isTooMuch 34 = .ok (.ifCond .lt 7, 3) := by decide +kernel
theorem dX18_isTooMuch_37 : decode cX18_isTooMuch 37 = .ok (.iconst 1, 1) := by decide +kernel
theorem dX18_isTooMuch_38 : decode cX18_isTooMuch 38 = .ok (.goto 41, 3) := by decide +kernel
theorem dX18_isTooMuch_41 : decode cX18_isTooMuch 41 = .ok (.iconst 0, 1) := by decide +kernel
theorem dX18_isTooMuch_42 : decode cX18_isTooMuch 42 = .ok (.goto 37, 3) := by decide +kernel
theorem dX18_isTooMuch_45 : decode cX18_isTooMuch 45 = .ok (.aload_n 0, 1) := by decide +kernel
theorem dX18_isTooMuch_46 : decode cX18_isTooMuch 46 = .ok (.getfield 274, 3) := by decide +kernel
theorem dX18_isTooMuch_49 : decode cX18_isTooMuch 49 = .ok (.iload_n 3, 1) := by decide +kernel
theorem dX18_isTooMuch_50 : decode cX18_isTooMuch 50 = .ok (.iaload, 1) := by decide +kernel
theorem dX18_isTooMuch_51 : decode cX18_isTooMuch 51 = .ok (.iconst 3, 1) := by decide +kernel
theorem dX18_isTooMuch_52 : decode cX18_isTooMuch 52 = .ok (.if_icmp .ne 26, 3) := by decide +kernel
theorem dX18_isTooMuch_55 : decode cX18_isTooMuch 55 = .ok (.aload_n 0, 1) := by decide +kernel
theorem dX18_isTooMuch_56 : decode cX18_isTooMuch 56 = .ok (.aload_n 0, 1) := by decide +kernel
theorem dX18_isTooMuch_57 : decode cX18_isTooMuch 57 = .ok (.getfield 277, 3) := by decide +kernel
theorem dX18_isTooMuch_60 : decode cX18_isTooMuch 60 = .ok (.iload_n 3, 1) := by decide +kernel
theorem dX18_isTooMuch_61 : decode cX18_isTooMuch 61 = .ok (.laload, 1) := by decide +kernel
theorem dX18_isTooMuch_62 : decode cX18_isTooMuch 62 = .ok (.aload_n 0, 1) := by decide +kernel
theorem dX18_isTooMuch_63 : decode cX18_isTooMuch 63 = .ok (.getfield 280, 3) := by decide +kernel
theorem dX18_isTooMuch_66 : decode cX18_isTooMuch 66 = .ok (.iload_n 3, 1) := by decide +kernel
theorem dX18_isTooMuch_67 : decode cX18_isTooMuch 67 = .ok (.iaload, 1) := by decide +kernel
theorem dX18_isTooMuch_68 : decode cX18_isTooMuch 68 = .ok (.invokevirtual 292, 3) := by decide +kernel
theorem dX18_isTooMuch_71 : decode cX18_isTooMuch 71 = .ok (.ifCond .lt 7, 3) := by decide +kernel
theorem dX18_isTooMuch_74 : decode cX18_isTooMuch 74 = .ok (.iconst 1, 1) := by decide +kernel
theorem dX18_isTooMuch_75 : decode cX18_isTooMuch 75 = .ok (.goto 4, 3) := by decide +kernel
theorem dX18_isTooMuch_78 : decode cX18_isTooMuch 78 = .ok (.iconst 0, 1) := by decide +kernel
theorem dX18_isTooMuch_79 : decode cX18_isTooMuch 79 = .ok (.istore 4, 2) := by decide +kernel
theorem dX18_isTooMuch_81 : decode cX18_isTooMuch 81 = .ok (.aload_n 0, 1) := by decide +kernel
theorem dX18_isTooMuch_82 : decode cX18_isTooMuch 82 = .ok (.getfield 274, 3) := by decide +kernel
theorem dX18_isTooMuch_85 : decode cX18_isTooMuch 85 = .ok (.iload_n 3, 1) := by decide +kernel
theorem dX18_isTooMuch_86 : decode cX18_isTooMuch 86 = .ok (.iaload, 1) := by decide +kernel
theorem dX18_isTooMuch_87 : decode cX18_isTooMuch 87 = .ok (.iconst 2, 1) := by decide +kernel
theorem dX18_isTooMuch_88 : decode cX18_isTooMuch 88 = .ok (.if_icmp .ne 6, 3) := by decide +kernel
theorem dX18_isTooMuch_91 : decode cX18_isTooMuch 91 = .ok (.goto 78, 3) := by decide +kernel
theorem dX18_isTooMuch_94 : decode cX18_isTooMuch 94 = .ok (.iload_n 1, 1) := by decide +kernel
theorem dX18_isTooMuch_95 : decode cX18_isTooMuch 95 = .ok (.aload_n 0, 1) := by decide +kernel
theorem dX18_isTooMuch_96 : decode cX18_isTooMuch 96 = .ok (.getfield 296, 3) := by decide +kernel
theorem dX18_isTooMuch_99 : decode cX18_isTooMuch 99 = .ok (.iload_n 3, 1) := by decide +kernel
theorem dX18_isTooMuch_100 : decode cX18_isTooMuch 100 = .ok (.baload, 1) := by decide +kernel
theorem dX18_isTooMuch_101 : decode cX18_isTooMuch 101 = .ok (.ifCond .eq 7, 3) := by decide +kernel
theorem dX18_isTooMuch_104 : decode cX18_isTooMuch 104 = .ok (.iconst 1, 1) := by decide +kernel
theorem dX18_isTooMuch_105 : decode cX18_isTooMuch 105 = .ok (.goto 4, 3) := by decide +kernel
theorem dX18_isTooMuch_108 : decode cX18_isTooMuch 108 = .ok (.iconst 0, 1) := by decide +kernel
theorem dX18_isTooMuch_109 : decode cX18_isTooMuch 109 = .ok (.iload 4, 2) := by decide +kernel
theorem dX18_isTooMuch_111 : decode cX18_isTooMuch 111 = .ok (.ifCond .eq 7, 3) := by decide +kernel
theorem dX18_isTooMuch_114 : decode cX18_isTooMuch 114 = .ok (.iconst 1, 1) := by decide +kernel
theorem dX18_isTooMuch_115 : decode cX18_isTooMuch 115 = .ok (.goto 4, 3) := by decide +kernel
theorem dX18_isTooMuch_118 : decode cX18_isTooMuch 118 = .ok (.iconst 0, 1) := by decide +kernel
theorem dX18_isTooMuch_119 : decode cX18_isTooMuch 119 = .ok (.isub, 1) := by decide +kernel
theorem dX18_isTooMuch_120 : decode cX18_isTooMuch 120 = .ok (.iadd, 1) := by decide +kernel
theorem dX18_isTooMuch_121 : decode cX18_isTooMuch 121 = .ok (.istore_n 1, 1) := by decide +kernel
theorem dX18_isTooMuch_122 : decode cX18_isTooMuch 122 = .ok (.iload_n 2, 1) := by decide +kernel
theorem dX18_isTooMuch_123 : decode cX18_isTooMuch 123 = .ok (.ifCond .ne 40, 3) := by decide +kernel
theorem dX18_isTooMuch_126 : decode cX18_isTooMuch 126 = .ok (.aload_n 0, 1) := by decide +kernel
theorem dX18_isTooMuch_127 : decode cX18_isTooMuch 127 = .ok (.getfield 274, 3) := by decide +kernel
theorem dX18_isTooMuch_130 : decode cX18_isTooMuch 130 = .ok (.iload_n 3, 1) := by decide +kernel
theorem dX18_isTooMuch_131 : decode cX18_isTooMuch 131 = .ok (.iaload, 1) := by decide +kernel
theorem dX18_isTooMuch_132 : decode cX18_isTooMuch 132 = .ok (.iconst 3, 1) := by decide +kernel
theorem dX18_isTooMuch_133 : decode cX18_isTooMuch 133 = .ok (.if_icmp .ne 34, 3) := by decide +kernel
theorem dX18_isTooMuch_136 : decode cX18_isTooMuch 136 = .ok (.aload_n 0, 1) := by decide +kernel
theorem dX18_isTooMuch_137 : decode cX18_isTooMuch 137 = .ok (.getfield 296, 3) := by decide +kernel
theorem dX18_isTooMuch_140 : decode cX18_isTooMuch 140 = .ok (.iload_n 3, 1) := by decide +kernel
theorem dX18_isTooMuch_141 : decode cX18_isTooMuch 141 = .ok (.baload, 1) := by decide +kernel
theorem dX18_isTooMuch_142 : decode cX18_isTooMuch 142 = .ok (.ifCond .eq 25, 3) := by decide +kernel
theorem dX18_isTooMuch_145 : decode cX18_isTooMuch 145 = .ok (.aload_n 0, 1) := by decide +kernel
theorem dX18_isTooMuch_146 : decode cX18_isTooMuch 146 = .ok (.getfield 40, 3) := by decide +kernel
theorem dX18_isTooMuch_149 : decode cX18_isTooMuch 149 = .ok (.aload_n 0, 1) := by decide +kernel
theorem dX18_isTooMuch_150 : decode cX18_isTooMuch 150 = .ok (.getfield 285, 3) := by decide +kernel
theorem dX18_isTooMuch_153 : decode cX18_isTooMuch 153 = .ok (.iload_n 3, 1) := by decide +kernel
theorem dX18_isTooMuch_154 : decode cX18_isTooMuch 154 = .ok (.iaload, 1) := by decide +kernel
theorem dX18_isTooMuch_155 : decode cX18_isTooMuch 155 = .ok (.invokevirtual 357, 3) := by decide +kernel
theorem dX18_isTooMuch_158 : decode cX18_isTooMuch 158 = .ok (.bipush 64, 2) := by decide +kernel
theorem dX18_isTooMuch_160 : decode cX18_isTooMuch 160 = .ok (.if_icmp .le 7, 3) := by decide +kernel
theorem dX18_isTooMuch_163 : decode cX18_isTooMuch 163 = .ok (.iconst 1, 1) := by decide +kernel
theorem dX18_isTooMuch_164 : decode cX18_isTooMuch 164 = .ok (.goto 4, 3) := by decide +kernel
theorem dX18_isTooMuch_167 : decode cX18_isTooMuch 167 = .ok (.iconst 0, 1) := by decide +kernel
theorem dX18_isTooMuch_168 : decode cX18_isTooMuch 168 = .ok (.istore_n 2, 1) := by decide +kernel
theorem dX18_isTooMuch_169 : decode cX18_isTooMuch 169 = .ok (.iinc 3 1, 3) := by decide +kernel
theorem dX18_isTooMuch_172 : decode cX18_isTooMuch 172 = .ok (.goto (-166), 3) := by decide +kernel
theorem dX18_isTooMuch_175 : decode cX18_isTooMuch 175 = .ok (.iload_n 2, 1) := by decide +kernel
theorem dX18_isTooMuch_176 : decode cX18_isTooMuch 176 = .ok (.ifCond .ne 15, 3) := by decide +kernel
theorem dX18_isTooMuch_179 : decode cX18_isTooMuch 179 = .ok (.aload_n 0, 1) := by decide +kernel
theorem dX18_isTooMuch_180 : decode cX18_isTooMuch 180 = .ok (.invokevirtual 620, 3) := by decide +kernel
theorem dX18_isTooMuch_183 : decode cX18_isTooMuch 183 = .ok (.iload_n 1, 1) := by decide +kernel
theorem dX18_isTooMuch_184 : decode cX18_isTooMuch 184 = .ok (.iadd, 1) := by decide +kernel
theorem dX18_isTooMuch_185 : decode cX18_isTooMuch 185 = .ok (.sipush 256, 3) := by decide +kernel
theorem dX18_isTooMuch_188 : decode cX18_isTooMuch 188 = .ok (.if_icmp .le 7, 3) := by decide +kernel
theorem dX18_isTooMuch_191 : decode cX18_isTooMuch 191 = .ok (.iconst 1, 1) := by decide +kernel
theorem dX18_isTooMuch_192 : decode cX18_isTooMuch 192 = .ok (.goto 4, 3) := by decide +kernel
theorem dX18_isTooMuch_195 : decode cX18_isTooMuch 195 = .ok (.iconst 0, 1) := by decide +kernel
theorem dX18_isTooMuch_196 : decode cX18_isTooMuch 196 = .ok (.ireturn, 1) := by decide +kernel
theorem dX18_settle_0 : decode cX18_settle 0 = .ok (.aload_n 0, 1) := by decide +kernel
theorem dX18_settle_1 : decode cX18_settle 1 = .ok (.getfield 300, 3) := by decide +kernel
theorem dX18_settle_4 : decode cX18_settle 4 = .ok (.iconst 0, 1) := by decide +kernel
theorem dX18_settle_5 : decode cX18_settle 5 = .ok (.dup2, 1) := by decide +kernel
theorem dX18_settle_6 : decode cX18_settle 6 = .ok (.laload, 1) := by decide +kernel
theorem dX18_settle_7 : decode cX18_settle 7 = .ok (.aload_n 0, 1) := by decide +kernel
theorem dX18_settle_8 : decode cX18_settle 8 = .ok (.getfield 264, 3) := by decide +kernel
theorem dX18_settle_11 : decode cX18_settle 11 = .ok (.i2l, 1) := by decide +kernel
theorem dX18_settle_12 : decode cX18_settle 12 = .ok (.ladd, 1) := by decide +kernel
theorem dX18_settle_13 : decode cX18_settle 13 = .ok (.lastore, 1) := by decide +kernel
theorem dX18_settle_14 : decode cX18_settle 14 = .ok (.iconst 0, 1) := by decide +kernel
theorem dX18_settle_15 : decode cX18_settle 15 = .ok (.istore_n 1, 1) := by decide +kernel
theorem dX18_settle_16 : decode cX18_settle 16 = .ok (.iload_n 1, 1) := by decide +kernel
theorem dX18_settle_17 : decode cX18_settle 17 = .ok (.aload_n 0, 1) := by decide +kernel
theorem dX18_settle_18 : decode cX18_settle 18 = .ok (.getfield 271, 3) := by decide +kernel
theorem dX18_settle_21 : decode cX18_settle 21 = .ok (.if_icmp .ge 57, 3) := by decide +kernel
theorem dX18_settle_24 : decode cX18_settle 24 = .ok (.aload_n 0, 1) := by decide +kernel
theorem dX18_settle_25 : decode cX18_settle 25 = .ok (.getfield 274, 3) := by decide +kernel
theorem dX18_settle_28 : decode cX18_settle 28 = .ok (.iload_n 1, 1) := by decide +kernel
theorem dX18_settle_29 : decode cX18_settle 29 = .ok (.iaload, 1) := by decide +kernel
theorem dX18_settle_30 : decode cX18_settle 30 = .ok (.iconst 3, 1) := by decide +kernel
theorem dX18_settle_31 : decode cX18_settle 31 = .ok (.if_icmp .ne 41, 3) := by decide +kernel
theorem dX18_settle_34 : decode cX18_settle 34 = .ok (.aload_n 0, 1) := by decide +kernel
theorem dX18_settle_35 : decode cX18_settle 35 = .ok (.getfield 296, 3) := by decide +kernel
theorem dX18_settle_38 : decode cX18_settle 38 = .ok (.iload_n 1, 1) := by decide +kernel
theorem dX18_settle_39 : decode cX18_settle 39 = .ok (.baload, 1) := by decide +kernel
theorem dX18_settle_40 : decode cX18_settle 40 = .ok (.ifCond .eq 6, 3) := by decide +kernel
theorem dX18_settle_43 : decode cX18_settle 43 = .ok (.goto 29, 3) := by decide +kernel
theorem dX18_settle_46 : decode cX18_settle 46 = .ok (.aload_n 0, 1) := by decide +kernel
theorem dX18_settle_47 : decode cX18_settle 47 = .ok (.aload_n 0, 1) := by decide +kernel
theorem dX18_settle_48 : decode cX18_settle 48 = .ok (.getfield 277, 3) := by decide +kernel
theorem dX18_settle_51 : decode cX18_settle 51 = .ok (.iload_n 1, 1) := by decide +kernel
theorem dX18_settle_52 : decode cX18_settle 52 = .ok (.laload, 1) := by decide +kernel
theorem dX18_settle_53 : decode cX18_settle 53 = .ok (.aload_n 0, 1) := by decide +kernel
theorem dX18_settle_54 : decode cX18_settle 54 = .ok (.getfield 280, 3) := by decide +kernel
theorem dX18_settle_57 : decode cX18_settle 57 = .ok (.iload_n 1, 1) := by decide +kernel
theorem dX18_settle_58 : decode cX18_settle 58 = .ok (.iaload, 1) := by decide +kernel
theorem dX18_settle_59 : decode cX18_settle 59 = .ok (.invokevirtual 292, 3) := by decide +kernel
theorem dX18_settle_62 : decode cX18_settle 62 = .ok (.istore_n 2, 1) := by decide +kernel
theorem dX18_settle_63 : decode cX18_settle 63 = .ok (.iload_n 2, 1) := by decide +kernel
theorem dX18_settle_64 : decode cX18_settle 64 = .ok (.ifCond .lt 8, 3) := by decide +kernel
theorem dX18_settle_67 : decode cX18_settle 67 = .ok (.aload_n 0, 1) := by decide +kernel
theorem dX18_settle_68 : decode cX18_settle 68 = .ok (.iload_n 2, 1) := by decide +kernel
theorem dX18_settle_69 : decode cX18_settle 69 = .ok (.invokevirtual 671, 3) := by decide +kernel
theorem dX18_settle_72 : decode cX18_settle 72 = .ok (.iinc 1 1, 3) := by decide +kernel
theorem dX18_settle_75 : decode cX18_settle 75 = .ok (.goto (-59), 3) := by decide +kernel
theorem dX18_settle_78 : decode cX18_settle 78 = .ok (.iconst 0, 1) := by decide +kernel
theorem dX18_settle_79 : decode cX18_settle 79 = .ok (.istore_n 1, 1) := by decide +kernel
theorem dX18_settle_80 : decode cX18_settle 80 = .ok (.iload_n 1, 1) := by decide +kernel
theorem dX18_settle_81 : decode cX18_settle 81 = .ok (.aload_n 0, 1) := by decide +kernel
theorem dX18_settle_82 : decode cX18_settle 82 = .ok (.getfield 271, 3) := by decide +kernel
theorem dX18_settle_85 : decode cX18_settle 85 = .ok (.if_icmp .ge 155, 3) := by decide +kernel
theorem dX18_settle_88 : decode cX18_settle 88 = .ok (.aload_n 0, 1) := by decide +kernel
theorem dX18_settle_89 : decode cX18_settle 89 = .ok (.getfield 296, 3) := by decide +kernel
theorem dX18_settle_92 : decode cX18_settle 92 = .ok (.iload_n 1, 1) := by decide +kernel
theorem dX18_settle_93 : decode cX18_settle 93 = .ok (.baload, 1) := by decide +kernel
theorem dX18_settle_94 : decode cX18_settle 94 = .ok (.ifCond .eq 140, 3) := by decide +kernel
theorem dX18_settle_97 : decode cX18_settle 97 = .ok (.aload_n 0, 1) := by decide +kernel
theorem dX18_settle_98 : decode cX18_settle 98 = .ok (.getfield 274, 3) := by decide +kernel
theorem dX18_settle_101 : decode cX18_settle 101 = .ok (.iload_n 1, 1) := by decide +kernel
theorem dX18_settle_102 : decode cX18_settle 102 = .ok (.iaload, 1) := by decide +kernel
theorem dX18_settle_103 : decode cX18_settle 103 = .ok (.iconst 2, 1) := by decide +kernel
theorem dX18_settle_104 : decode cX18_settle 104 = .ok (.if_icmp .ne 6, 3) := by decide +kernel
theorem dX18_settle_107 : decode cX18_settle 107 = .ok (.goto 127, 3) := by decide +kernel
theorem dX18_settle_110 : decode cX18_settle 110 = .ok (.aload_n 0, 1) := by decide +kernel
theorem dX18_settle_111 : decode cX18_settle 111 = .ok (.getfield 274, 3) := by decide +kernel
theorem dX18_settle_114 : decode cX18_settle 114 = .ok (.iload_n 1, 1) := by decide +kernel
theorem dX18_settle_115 : decode cX18_settle 115 = .ok (.iaload, 1) := by decide +kernel
theorem dX18_settle_116 : decode cX18_settle 116 = .ok (.iconst 1, 1) := by decide +kernel
theorem dX18_settle_117 : decode cX18_settle 117 = .ok (.if_icmp .ne 46, 3) := by decide +kernel
theorem dX18_settle_120 : decode cX18_settle 120 = .ok (.aload_n 0, 1) := by decide +kernel
theorem dX18_settle_121 : decode cX18_settle 121 = .ok (.aload_n 0, 1) := by decide +kernel
theorem dX18_settle_122 : decode cX18_settle 122 = .ok (.getfield 277, 3) := by decide +kernel
theorem dX18_settle_125 : decode cX18_settle 125 = .ok (.iload_n 1, 1) := by decide +kernel
theorem dX18_settle_126 : decode cX18_settle 126 = .ok (.laload, 1) := by decide +kernel
theorem dX18_settle_127 : decode cX18_settle 127 = .ok (.invokevirtual 288, 3) := by decide +kernel
theorem dX18_settle_130 : decode cX18_settle 130 = .ok (.istore_n 2, 1) := by decide +kernel
theorem dX18_settle_131 : decode cX18_settle 131 = .ok (.aload_n 0, 1) := by decide +kernel
theorem dX18_settle_132 : decode cX18_settle 132 = .ok (.getfield 303, 3) := by decide +kernel
theorem dX18_settle_135 : decode cX18_settle 135 = .ok (.iload_n 2, 1) := by decide +kernel
theorem dX18_settle_136 : decode cX18_settle 136 = .ok (.ifCond .ge 16, 3) := by decide +kernel
theorem dX18_settle_139 : decode cX18_settle 139 = .ok (.aload_n 0, 1) := by decide +kernel
theorem dX18_settle_140 : decode cX18_settle 140 = .ok (.aload_n 0, 1) := by decide +kernel
theorem dX18_settle_141 : decode cX18_settle 141 = .ok (.getfield 277, 3) := by decide +kernel
theorem dX18_settle_144 : decode cX18_settle 144 = .ok (.iload_n 1, 1) := by decide +kernel
theorem dX18_settle_145 : decode cX18_settle 145 = .ok (.laload, 1) := by decide +kernel
theorem dX18_settle_146 : decode cX18_settle 146 = .ok (.invokevirtual 623, 3) := by decide +kernel
theorem dX18_settle_149 : decode cX18_settle 149 = .ok (.goto 4, 3) := by decide +kernel
theorem dX18_settle_152 : decode cX18_settle 152 = .ok (.iload_n 2, 1) := by decide +kernel
theorem dX18_settle_153 : decode cX18_settle 153 = .ok (.aload_n 0, 1) := by decide +kernel
theorem dX18_settle_154 : decode cX18_settle 154 = .ok (.getfield 300, 3) := by decide +kernel
theorem dX18_settle_157 : decode cX18_settle 157 = .ok (.iload_n 1, 1) := by decide +kernel
theorem dX18_settle_158 : decode cX18_settle 158 = .ok (.laload, 1) := by decide +kernel
theorem dX18_settle_159 : decode cX18_settle 159 = .ok (.lastore, 1) := by decide +kernel
theorem dX18_settle_160 : decode cX18_settle 160 = .ok (.goto 74, 3) := by decide +kernel
theorem dX18_settle_163 : decode cX18_settle 163 = .ok (.aload_n 0, 1) := by decide +kernel
theorem dX18_settle_164 : decode cX18_settle 164 = .ok (.aload_n 0, 1) := by decide +kernel
theorem dX18_settle_165 : decode cX18_settle 165 = .ok (.getfield 277, 3) := by decide +kernel
theorem dX18_settle_168 : decode cX18_settle 168 = .ok (.iload_n 1, 1) := by decide +kernel
theorem dX18_settle_169 : decode cX18_settle 169 = .ok (.laload, 1) := by decide +kernel
theorem dX18_settle_170 : decode cX18_settle 170 = .ok (.aload_n 0, 1) := by decide +kernel
theorem dX18_settle_171 : decode cX18_settle 171 = .ok (.getfield 280, 3) := by decide +kernel
theorem dX18_settle_174 : decode cX18_settle 174 = .ok (.iload_n 1, 1) := by decide +kernel
theorem dX18_settle_175 : decode cX18_settle 175 = .ok (.iaload, 1) := by decide +kernel
theorem dX18_settle_176 : decode cX18_settle 176 = .ok (.invokevirtual 292, 3) := by decide +kernel
theorem dX18_settle_179 : decode cX18_settle 179 = .ok (.istore_n 2, 1) := by decide +kernel
theorem dX18_settle_180 : decode cX18_settle 180 = .ok (.iload_n 2, 1) := by decide +kernel
theorem dX18_settle_181 : decode cX18_settle 181 = .ok (.ifCond .ge 42, 3) := by decide +kernel
theorem dX18_settle_184 : decode cX18_settle 184 = .ok (.aload_n 0, 1) := by decide +kernel
theorem dX18_settle_185 : decode cX18_settle 185 = .ok (.getfield 10, 3) := by decide +kernel
theorem dX18_settle_188 : decode cX18_settle 188 = .ok (.istore_n 2, 1) := by decide +kernel
theorem dX18_settle_189 : decode cX18_settle 189 = .ok (.aload_n 0, 1) := by decide +kernel
theorem dX18_settle_190 : decode cX18_settle 190 = .ok (.getfield 27, 3) := by decide +kernel
theorem dX18_settle_193 : decode cX18_settle 193 = .ok (.iload_n 2, 1) := by decide +kernel
theorem dX18_settle_194 : decode cX18_settle 194 = .ok (.aload_n 0, 1) := by decide +kernel
theorem dX18_settle_195 : decode cX18_settle 195 = .ok (.getfield 277, 3) := by decide +kernel
theorem dX18_settle_198 : decode cX18_settle 198 = .ok (.iload_n 1, 1) := by decide +kernel
theorem dX18_settle_199 : decode cX18_settle 199 = .ok (.laload, 1) := by decide +kernel
theorem dX18_settle_200 : decode cX18_settle 200 = .ok (.lastore, 1) := by decide +kernel
theorem dX18_settle_201 : decode cX18_settle 201 = .ok (.aload_n 0, 1) := by decide +kernel
theorem dX18_settle_202 : decode cX18_settle 202 = .ok (.getfield 30, 3) := by decide +kernel
theorem dX18_settle_205 : decode cX18_settle 205 = .ok (.iload_n 2, 1) := by decide +kernel
theorem dX18_settle_206 : decode cX18_settle 206 = .ok (.aload_n 0, 1) := by decide +kernel
theorem dX18_settle_207 : decode cX18_settle 207 = .ok (.getfield 280, 3) := by decide +kernel
theorem dX18_settle_210 : decode cX18_settle 210 = .ok (.iload_n 1, 1) := by decide +kernel
theorem dX18_settle_211 : decode cX18_settle 211 = .ok (.iaload, 1) := by decide +kernel
theorem dX18_settle_212 : decode cX18_settle 212 = .ok (.iastore, 1) := by decide +kernel
theorem dX18_settle_213 : decode cX18_settle 213 = .ok (.aload_n 0, 1) := by decide +kernel
theorem dX18_settle_214 : decode cX18_settle 214 = .ok (.dup, 1) := by decide +kernel
theorem dX18_settle_215 : decode cX18_settle 215 = .ok (.getfield 10, 3) := by decide +kernel
theorem dX18_settle_218 : decode cX18_settle 218 = .ok (.iconst 1, 1) := by decide +kernel
theorem dX18_settle_219 : decode cX18_settle 219 = .ok (.iadd, 1) := by decide +kernel
theorem dX18_settle_220 : decode cX18_settle 220 = .ok (.putfield 10, 3) := by decide +kernel
theorem dX18_settle_223 : decode cX18_settle 223 = .ok (.aload_n 0, 1) := by decide +kernel
theorem dX18_settle_224 : decode cX18_settle 224 = .ok (.iload_n 2, 1) := by decide +kernel
theorem dX18_settle_225 : decode cX18_settle 225 = .ok (.aload_n 0, 1) := by decide +kernel
theorem dX18_settle_226 : decode cX18_settle 226 = .ok (.getfield 285, 3) := by decide +kernel
theorem dX18_settle_229 : decode cX18_settle 229 = .ok (.iload_n 1, 1) := by decide +kernel
theorem dX18_settle_230 : decode cX18_settle 230 = .ok (.iaload, 1) := by decide +kernel
theorem dX18_settle_231 : decode cX18_settle 231 = .ok (.invokevirtual 674, 3) := by decide +kernel
theorem dX18_settle_234 : decode cX18_settle 234 = .ok (.iinc 1 1, 3) := by decide +kernel
theorem dX18_settle_237 : decode cX18_settle 237 = .ok (.goto (-157), 3) := by decide +kernel
theorem dX18_settle_240 : decode cX18_settle 240 = .ok (.return_, 1) := by decide +kernel
theorem dX18_coinsIn_0 : decode cX18_coinsIn 0 = .ok (.lconst 0, 1) := by decide +kernel
theorem dX18_coinsIn_1 : decode cX18_coinsIn 1 = .ok (.lstore_n 2, 1) := by decide +kernel
theorem dX18_coinsIn_2 : decode cX18_coinsIn 2 = .ok (.iconst 1, 1) := by decide +kernel
theorem dX18_coinsIn_3 : decode cX18_coinsIn 3 = .ok (.istore 4, 2) := by decide +kernel
theorem dX18_coinsIn_5 : decode cX18_coinsIn 5 = .ok (.bipush 64, 2) := by decide +kernel
theorem dX18_coinsIn_7 : decode cX18_coinsIn 7 = .ok (.iload_n 1, 1) := by decide +kernel
theorem dX18_coinsIn_8 : decode cX18_coinsIn 8 = .ok (.imul, 1) := by decide +kernel
theorem dX18_coinsIn_9 : decode cX18_coinsIn 9 = .ok (.istore 5, 2) := by decide +kernel
theorem dX18_coinsIn_11 : decode cX18_coinsIn 11 = .ok (.iload 4, 2) := by decide +kernel
theorem dX18_coinsIn_13 : decode cX18_coinsIn 13 = .ok (.ifCond .le 59, 3) := by decide +kernel
theorem dX18_coinsIn_16 : decode cX18_coinsIn 16 = .ok (.iload 4, 2) := by decide +kernel
theorem dX18_coinsIn_18 : decode cX18_coinsIn 18 = .ok (.aload_n 0, 1) := by decide +kernel
theorem dX18_coinsIn_19 : decode cX18_coinsIn 19 = .ok (.getfield 60, 3) := by decide +kernel
theorem dX18_coinsIn_22 : decode cX18_coinsIn 22 = .ok (.iload 5, 2) := by decide +kernel
theorem dX18_coinsIn_24 : decode cX18_coinsIn 24 = .ok (.iaload, 1) := by decide +kernel
theorem dX18_coinsIn_25 : decode cX18_coinsIn 25 = .ok (.iconst 1, 1) := by decide +kernel
theorem dX18_coinsIn_26 : decode cX18_coinsIn 26 = .ok (.isub, 1) := by decide +kernel
theorem dX18_coinsIn_27 : decode cX18_coinsIn 27 = .ok (.iadd, 1) := by decide +kernel
theorem dX18_coinsIn_28 : decode cX18_coinsIn 28 = .ok (.istore 4, 2) := by decide +kernel
theorem dX18_coinsIn_30 : decode cX18_coinsIn 30 = .ok (.aload_n 0, 1) := by decide +kernel
theorem dX18_coinsIn_31 : decode cX18_coinsIn 31 = .ok (.getfield 44, 3) := by decide +kernel
theorem dX18_coinsIn_34 : decode cX18_coinsIn 34 = .ok (.iload 5, 2) := by decide +kernel
theorem dX18_coinsIn_36 : decode cX18_coinsIn 36 = .ok (.baload, 1) := by decide +kernel
theorem dX18_coinsIn_37 : decode cX18_coinsIn 37 = .ok (.bipush 6, 2) := by decide +kernel
theorem dX18_coinsIn_39 : decode cX18_coinsIn 39 = .ok (.if_icmp .ne 27, 3) := by decide +kernel
theorem dX18_coinsIn_42 : decode cX18_coinsIn 42 = .ok (.aload_n 0, 1) := by decide +kernel
theorem dX18_coinsIn_43 : decode cX18_coinsIn 43 = .ok (.getfield 51, 3) := by decide +kernel
theorem dX18_coinsIn_46 : decode cX18_coinsIn 46 = .ok (.iload 5, 2) := by decide +kernel
theorem dX18_coinsIn_48 : decode cX18_coinsIn 48 = .ok (.laload, 1) := by decide +kernel
theorem dX18_coinsIn_49 : decode cX18_coinsIn 49 = .ok (.lconst 0, 1) := by decide +kernel
theorem dX18_coinsIn_50 : decode cX18_coinsIn 50 = .ok (.lcmp, 1) := by decide +kernel
theorem dX18_coinsIn_51 : decode cX18_coinsIn 51 = .ok (.ifCond .ne 15, 3) := by decide +kernel
theorem dX18_coinsIn_54 : decode cX18_coinsIn 54 = .ok (.lload_n 2, 1) := by decide +kernel
theorem dX18_coinsIn_55 : decode cX18_coinsIn 55 = .ok (.aload_n 0, 1) := by decide +kernel
theorem dX18_coinsIn_56 : decode cX18_coinsIn 56 = .ok (.getfield 51, 3) := by decide +kernel
theorem dX18_coinsIn_59 : decode cX18_coinsIn 59 = .ok (.iload 5, 2) := by decide +kernel
theorem dX18_coinsIn_61 : decode cX18_coinsIn 61 = .ok (.iconst 1, 1) := by decide +kernel
theorem dX18_coinsIn_62 : decode cX18_coinsIn 62 = .ok (.iadd, 1) := by decide +kernel
theorem dX18_coinsIn_63 : decode cX18_coinsIn 63 = .ok (.laload, 1) := by decide +kernel
theorem dX18_coinsIn_64 : decode cX18_coinsIn 64 = .ok (.ladd, 1) := by decide +kernel
theorem dX18_coinsIn_65 : decode cX18_coinsIn 65 = .ok (.lstore_n 2, 1) := by decide +kernel
theorem dX18_coinsIn_66 : decode cX18_coinsIn 66 = .ok (.iinc 5 1, 3) := by decide +kernel
theorem dX18_coinsIn_69 : decode cX18_coinsIn 69 = .ok (.goto (-58), 3) := by decide +kernel
theorem dX18_coinsIn_72 : decode cX18_coinsIn 72 = .ok (.lload_n 2, 1) := by decide +kernel
theorem dX18_coinsIn_73 : decode cX18_coinsIn 73 = .ok (.lreturn, 1) := by decide +kernel
theorem dX18_keepFour_0 : decode cX18_keepFour 0 = .ok (.aload_n 0, 1) := by decide +kernel
theorem dX18_keepFour_1 : decode cX18_keepFour 1 = .ok (.getfield 94, 3) := by decide +kernel
theorem dX18_keepFour_4 : decode cX18_keepFour 4 = .ok (.invokevirtual 436, 3) := by decide +kernel
theorem dX18_keepFour_7 : decode cX18_keepFour 7 = .ok (.iconst 0, 1) := by decide +kernel
theorem dX18_keepFour_8 : decode cX18_keepFour 8 = .ok (.istore_n 2, 1) := by decide +kernel
theorem dX18_keepFour_9 : decode cX18_keepFour 9 = .ok (.iload_n 2, 1) := by decide +kernel
theorem dX18_keepFour_10 : decode cX18_keepFour 10 = .ok (.iconst 4, 1) := by decide +kernel
theorem dX18_keepFour_11 : decode cX18_keepFour 11 = .ok (.if_icmp .ge 20, 3) := by decide +kernel
theorem dX18_keepFour_14 : decode cX18_keepFour 14 = .ok (.aload_n 1, 1) := by decide +kernel
theorem dX18_keepFour_15 : decode cX18_keepFour 15 = .ok (.iload_n 2, 1) := by decide +kernel
theorem dX18_keepFour_16 : decode cX18_keepFour 16 = .ok (.aload_n 0, 1) := by decide +kernel
theorem dX18_keepFour_17 : decode cX18_keepFour 17 = .ok (.getfield 94, 3) := by decide +kernel
theorem dX18_keepFour_20 : decode cX18_keepFour 20 = .ok (.iload_n 2, 1) := by decide +kernel
theorem dX18_keepFour_21 : decode cX18_keepFour 21 = .ok (.invokevirtual 694, 3) := by decide +kernel
theorem dX18_keepFour_24 : decode cX18_keepFour 24 = .ok (.lastore, 1) := by decide +kernel
theorem dX18_keepFour_25 : decode cX18_keepFour 25 = .ok (.iinc 2 1, 3) := by decide +kernel
theorem dX18_keepFour_28 : decode cX18_keepFour 28 = .ok (.goto (-19), 3) := by decide +kernel
theorem dX18_keepFour_31 : decode cX18_keepFour 31 = .ok (.aload_n 0, 1) := by decide +kernel
theorem dX18_keepFour_32 : decode cX18_keepFour 32 = .ok (.getfield 94, 3) := by decide +kernel
theorem dX18_keepFour_35 : decode cX18_keepFour 35 = .ok (.invokevirtual 433, 3) := by decide +kernel
theorem dX18_keepFour_38 : decode cX18_keepFour 38 = .ok (.return_, 1) := by decide +kernel
theorem dJ9_max_7cf53_0 : decode cJ9_max_7cf53 0 = .ok (.iload_n 0, 1) := by decide +kernel
theorem dJ9_max_7cf53_1 : decode cJ9_max_7cf53 1 = .ok (.iload_n 1, 1) := by decide +kernel
theorem dJ9_max_7cf53_2 : decode cJ9_max_7cf53 2 = .ok (.if_icmp .lt 7, 3) := by decide +kernel
theorem dJ9_max_7cf53_5 : decode cJ9_max_7cf53 5 = .ok (.iload_n 0, 1) := by decide +kernel
theorem dJ9_max_7cf53_6 : decode cJ9_max_7cf53 6 = .ok (.goto 4, 3) := by decide +kernel
theorem dJ9_max_7cf53_9 : decode cJ9_max_7cf53 9 = .ok (.iload_n 1, 1) := by decide +kernel
theorem dJ9_max_7cf53_10 : decode cJ9_max_7cf53 10 = .ok (.ireturn, 1) := by decide +kernel
theorem dJ9_min_7cf53_0 : decode cJ9_min_7cf53 0 = .ok (.iload_n 0, 1) := by decide +kernel
theorem dJ9_min_7cf53_1 : decode cJ9_min_7cf53 1 = .ok (.iload_n 1, 1) := by decide +kernel
theorem dJ9_min_7cf53_2 : decode cJ9_min_7cf53 2 = .ok (.if_icmp .gt 7, 3) := by decide +kernel
theorem dJ9_min_7cf53_5 : decode cJ9_min_7cf53 5 = .ok (.iload_n 0, 1) := by decide +kernel
theorem dJ9_min_7cf53_6 : decode cJ9_min_7cf53 6 = .ok (.goto 4, 3) := by decide +kernel
theorem dJ9_min_7cf53_9 : decode cJ9_min_7cf53 9 = .ok (.iload_n 1, 1) := by decide +kernel
theorem dJ9_min_7cf53_10 : decode cJ9_min_7cf53 10 = .ok (.ireturn, 1) := by decide +kernel
theorem dJ9_min_f86c9_0 : decode cJ9_min_f86c9 0 = .ok (.lload_n 0, 1) := by decide +kernel
theorem dJ9_min_f86c9_1 : decode cJ9_min_f86c9 1 = .ok (.lload_n 2, 1) := by decide +kernel
theorem dJ9_min_f86c9_2 : decode cJ9_min_f86c9 2 = .ok (.lcmp, 1) := by decide +kernel
theorem dJ9_min_f86c9_3 : decode cJ9_min_f86c9 3 = .ok (.ifCond .gt 7, 3) := by decide +kernel
theorem dJ9_min_f86c9_6 : decode cJ9_min_f86c9 6 = .ok (.lload_n 0, 1) := by decide +kernel
theorem dJ9_min_f86c9_7 : decode cJ9_min_f86c9 7 = .ok (.goto 4, 3) := by decide +kernel
theorem dJ9_min_f86c9_10 : decode cJ9_min_f86c9 10 = .ok (.lload_n 2, 1) := by decide +kernel
theorem dJ9_min_f86c9_11 : decode cJ9_min_f86c9 11 = .ok (.lreturn, 1) := by decide +kernel
set_option maxRecDepth 20000 in
theorem ggX0_put_X0_mix : GoodIn wsX0_put wsX0_mix := goodIn_r _ [8, 2, 9, 10, 11, 12, 13, 14] rfl (by decide +kernel)
set_option maxRecDepth 20000 in
theorem gX0_put_X0_mix : GoodIn wsX0_put (wsV RX0 33 RX0 yX0_mix wsX0_mix) := goodIn_app (goodIn_of _ (by decide +kernel)) ggX0_put_X0_mix
set_option maxRecDepth 20000 in
theorem ggX0_putLong_X0_put : GoodIn wsX0_putLong wsX0_put := goodIn_r _ [5, 6, 7, 8, 9, 10, 11, 4, 12, 13, 14, 15, 16, 17, 18] rfl (by decide +kernel)
set_option maxRecDepth 20000 in
theorem gX0_putLong_X0_put : GoodIn wsX0_putLong (wsV RX0 36 RX0 yX0_put wsX0_put) := goodIn_app (goodIn_of _ (by decide +kernel)) ggX0_putLong_X0_put
set_option maxRecDepth 20000 in
theorem ggX0_putLongs_X0_putLong : GoodIn wsX0_putLongs wsX0_putLong := goodIn_r _ [5, 6, 7, 8, 4, 9, 10, 11, 12, 13, 14, 15, 16, 17, 18, 19, 20, 21, 22] rfl (by decide +kernel)
set_option maxRecDepth 20000 in
theorem gX0_putLongs_X0_putLong : GoodIn wsX0_putLongs (wsV RX0 40 RX0 yX0_putLong wsX0_putLong) := goodIn_app (goodIn_of _ (by decide +kernel)) ggX0_putLongs_X0_putLong
set_option maxRecDepth 20000 in
theorem ggX0_finish_X0_put : GoodIn wsX0_finish wsX0_put := goodIn_r _ [8, 3, 9, 1, 10, 11, 12, 7, 13, 14, 15, 16, 17, 18, 19] rfl (by decide +kernel)
set_option maxRecDepth 20000 in
theorem gX0_finish_X0_put : GoodIn wsX0_finish (wsV RX0 36 RX0 yX0_put wsX0_put) := goodIn_app (goodIn_of _ (by decide +kernel)) ggX0_finish_X0_put
set_option maxRecDepth 20000 in
theorem ggX0_copyTo_X0_part : GoodIn wsX0_copyTo wsX0_part := goodIn_r _ [5, 6, 7, 8, 9, 10, 11] rfl (by decide +kernel)
set_option maxRecDepth 20000 in
theorem gX0_copyTo_X0_part : GoodIn wsX0_copyTo (wsV RX0 48 RX0 yX0_part wsX0_part) := goodIn_app (goodIn_of _ (by decide +kernel)) ggX0_copyTo_X0_part
set_option maxRecDepth 20000 in
theorem ggX1_detach_X1_holdsOthers : GoodIn wsX1_detach wsX1_holdsOthers := goodIn_r _ [9] rfl (by decide +kernel)
set_option maxRecDepth 20000 in
theorem gX1_detach_X1_holdsOthers : GoodIn wsX1_detach (va_wsS RX1 33 yX1_holdsOthers wsX1_holdsOthers) := goodIn_app (goodIn_of _ (by decide +kernel)) ggX1_detach_X1_holdsOthers
set_option maxRecDepth 20000 in
theorem ggX1_child_X1_holdsOthers : GoodIn wsX1_child wsX1_holdsOthers := goodIn_r _ [9] rfl (by decide +kernel)
set_option maxRecDepth 20000 in
theorem gX1_child_X1_holdsOthers : GoodIn wsX1_child (va_wsS RX1 33 yX1_holdsOthers wsX1_holdsOthers) := goodIn_app (goodIn_of _ (by decide +kernel)) ggX1_child_X1_holdsOthers
set_option maxRecDepth 20000 in
theorem ggX1_swap_X1_assign : GoodIn wsX1_swap wsX1_assign := goodIn_r _ [8, 1, 2, 3, 9, 10, 11, 12, 13, 14, 15] rfl (by decide +kernel)
set_option maxRecDepth 20000 in
theorem gX1_swap_X1_assign : GoodIn wsX1_swap (wsV RX1 37 RX1 yX1_assign wsX1_assign) := goodIn_app (goodIn_of _ (by decide +kernel)) ggX1_swap_X1_assign
set_option maxRecDepth 20000 in
theorem ggX1_sizeOf_X1_sizeAt : GoodIn wsX1_sizeOf wsX1_sizeAt := goodIn_r _ [5, 6, 7, 8, 9, 10, 11, 4, 12, 1, 2, 3, 13, 14, 15, 16, 17, 18, 19] rfl (by decide +kernel)
set_option maxRecDepth 20000 in
theorem gX1_sizeOf_X1_sizeAt : GoodIn wsX1_sizeOf (wsV RX1 41 RX1 yX1_sizeAt wsX1_sizeAt) := goodIn_app (goodIn_of _ (by decide +kernel)) ggX1_sizeOf_X1_sizeAt
set_option maxRecDepth 20000 in
theorem ggX1_copyOf_X1_copyAt : GoodIn wsX1_copyOf wsX1_copyAt := goodIn_r _ [5, 6, 7, 8, 9, 10, 11, 12, 4, 13, 14, 15, 16, 17, 18, 1, 2, 3, 19, 20, 21, 22, 23, 24, 25] rfl (by decide +kernel)
set_option maxRecDepth 20000 in
theorem gX1_copyOf_X1_copyAt : GoodIn wsX1_copyOf (wsV RX1 45 RX1 yX1_copyAt wsX1_copyAt) := goodIn_app (goodIn_of _ (by decide +kernel)) ggX1_copyOf_X1_copyAt
set_option maxRecDepth 20000 in
theorem ggX1_areAlike_X1_alikeAt : GoodIn wsX1_areAlike wsX1_alikeAt := goodIn_r _ [5, 6, 7, 8, 9, 10, 11, 4, 12, 1, 2, 3, 13, 14, 15, 16, 17, 18, 19] rfl (by decide +kernel)
set_option maxRecDepth 20000 in
theorem gX1_areAlike_X1_alikeAt : GoodIn wsX1_areAlike (wsV RX1 48 RX1 yX1_alikeAt wsX1_alikeAt) := goodIn_app (goodIn_of _ (by decide +kernel)) ggX1_areAlike_X1_alikeAt
set_option maxRecDepth 20000 in
theorem ggX1_sizeAt_X1_holdsOthers : GoodIn wsX1_sizeAt wsX1_holdsOthers := goodIn_r _ [8] rfl (by decide +kernel)
set_option maxRecDepth 20000 in
theorem gX1_sizeAt_X1_holdsOthers : GoodIn wsX1_sizeAt (va_wsS RX1 33 yX1_holdsOthers wsX1_holdsOthers) := goodIn_app (goodIn_of _ (by decide +kernel)) ggX1_sizeAt_X1_holdsOthers
set_option maxRecDepth 20000 in
theorem ggX1_sizeAt_X1_sizeAt : GoodIn wsX1_sizeAt wsX1_sizeAt := goodIn_r _ [0, 1, 2, 3, 4, 5, 6, 7, 8, 9, 10, 11, 12, 13, 14, 15, 16, 17, 18] rfl (by decide +kernel)
set_option maxRecDepth 20000 in
theorem gX1_sizeAt_X1_sizeAt : GoodIn wsX1_sizeAt (wsV RX1 41 RX1 yX1_sizeAt wsX1_sizeAt) := goodIn_app (goodIn_of _ (by decide +kernel)) ggX1_sizeAt_X1_sizeAt
set_option maxRecDepth 20000 in
theorem ggX1_copyAt_X1_make : GoodIn wsX1_copyAt wsX1_make := goodIn_r _ [9, 10, 11, 1, 2, 3, 4, 18, 19, 20, 21, 22, 23, 24] rfl (by decide +kernel)
set_option maxRecDepth 20000 in
theorem gX1_copyAt_X1_make : GoodIn wsX1_copyAt (wsV RX1 52 RX1 yX1_make wsX1_make) := goodIn_app (goodIn_of _ (by decide +kernel)) ggX1_copyAt_X1_make
set_option maxRecDepth 20000 in
theorem ggX1_copyAt_X1_holdsOthers : GoodIn wsX1_copyAt wsX1_holdsOthers := goodIn_r _ [14] rfl (by decide +kernel)
set_option maxRecDepth 20000 in
theorem gX1_copyAt_X1_holdsOthers : GoodIn wsX1_copyAt (va_wsS RX1 33 yX1_holdsOthers wsX1_holdsOthers) := goodIn_app (goodIn_of _ (by decide +kernel)) ggX1_copyAt_X1_holdsOthers
set_option maxRecDepth 20000 in
theorem ggX1_copyAt_X1_copyAt : GoodIn wsX1_copyAt wsX1_copyAt := goodIn_r _ [0, 1, 2, 3, 4, 5, 6, 7, 8, 9, 10, 11, 12, 13, 14, 15, 16, 17, 18, 19, 20, 21, 22, 23, 24] rfl (by decide +kernel)
set_option maxRecDepth 20000 in
theorem gX1_copyAt_X1_copyAt : GoodIn wsX1_copyAt (wsV RX1 45 RX1 yX1_copyAt wsX1_copyAt) := goodIn_app (goodIn_of _ (by decide +kernel)) ggX1_copyAt_X1_copyAt
set_option maxRecDepth 20000 in
theorem ggX1_alikeAt_X1_holdsOthers : GoodIn wsX1_alikeAt wsX1_holdsOthers := goodIn_r _ [8] rfl (by decide +kernel)
set_option maxRecDepth 20000 in
theorem gX1_alikeAt_X1_holdsOthers : GoodIn wsX1_alikeAt (va_wsS RX1 33 yX1_holdsOthers wsX1_holdsOthers) := goodIn_app (goodIn_of _ (by decide +kernel)) ggX1_alikeAt_X1_holdsOthers
set_option maxRecDepth 20000 in
theorem ggX1_alikeAt_X1_alikeAt : GoodIn wsX1_alikeAt wsX1_alikeAt := goodIn_r _ [0, 1, 2, 3, 4, 5, 6, 7, 8, 9, 10, 11, 12, 13, 14, 15, 16, 17, 18] rfl (by decide +kernel)
set_option maxRecDepth 20000 in
theorem gX1_alikeAt_X1_alikeAt : GoodIn wsX1_alikeAt (wsV RX1 48 RX1 yX1_alikeAt wsX1_alikeAt) := goodIn_app (goodIn_of _ (by decide +kernel)) ggX1_alikeAt_X1_alikeAt
set_option maxRecDepth 20000 in
theorem ggX1_store_X1_storeNode : GoodIn wsX1_store wsX1_storeNode := goodIn_r _ [5, 6, 7, 8, 9, 10, 11, 12, 13, 14, 4, 15, 16, 17, 18, 19, 20, 1, 2, 3, 21, 22, 23, 24, 25, 26, 27, 28, 29, 30, 31, 32, 33, 34, 35, 36, 37, 38, 39, 40, 41, 42, 43] rfl (by decide +kernel)
set_option maxRecDepth 20000 in
theorem gX1_store_X1_storeNode : GoodIn wsX1_store (wsV RX1 56 RX1 yX1_storeNode wsX1_storeNode) := goodIn_app (goodIn_of _ (by decide +kernel)) ggX1_store_X1_storeNode
set_option maxRecDepth 20000 in
theorem ggX1_storeNode_X1_holdsOthers : GoodIn wsX1_storeNode wsX1_holdsOthers := goodIn_r _ [11] rfl (by decide +kernel)
set_option maxRecDepth 20000 in
theorem gX1_storeNode_X1_holdsOthers : GoodIn wsX1_storeNode (va_wsS RX1 33 yX1_holdsOthers wsX1_holdsOthers) := goodIn_app (goodIn_of _ (by decide +kernel)) ggX1_storeNode_X1_holdsOthers
set_option maxRecDepth 20000 in
theorem ggX1_storeNode_X1_child : GoodIn wsX1_storeNode wsX1_child := goodIn_r _ [15, 3, 5, 2, 7, 16, 8, 9, 10, 11, 36, 37, 38, 39, 40, 41, 42] rfl (by decide +kernel)
set_option maxRecDepth 20000 in
theorem gX1_storeNode_X1_child : GoodIn wsX1_storeNode (wsV RX1 71 RX1 yX1_child wsX1_child) := goodIn_app (goodIn_of _ (by decide +kernel)) ggX1_storeNode_X1_child
set_option maxRecDepth 20000 in
theorem ggX1_storeNode_X1_storeNode : GoodIn wsX1_storeNode wsX1_storeNode := goodIn_r _ [0, 1, 2, 3, 4, 5, 6, 7, 8, 9, 10, 11, 12, 13, 14, 15, 16, 17, 18, 19, 20, 21, 22, 23, 24, 25, 26, 27, 28, 29, 30, 31, 32, 33, 34, 35, 36, 37, 38, 39, 40, 41, 42] rfl (by decide +kernel)
set_option maxRecDepth 20000 in
theorem gX1_storeNode_X1_storeNode : GoodIn wsX1_storeNode (wsV RX1 56 RX1 yX1_storeNode wsX1_storeNode) := goodIn_app (goodIn_of _ (by decide +kernel)) ggX1_storeNode_X1_storeNode
set_option maxRecDepth 20000 in
theorem ggX1_load_X1_loadNode : GoodIn wsX1_load wsX1_loadNode := goodIn_r _ [6, 1, 7, 8, 9, 10, 11, 12, 5, 13, 14, 15, 16, 17, 18, 19, 20, 21, 22, 2, 3, 4, 23, 24, 25, 26, 27, 28, 29, 30, 31, 32, 33, 34, 35, 36, 37, 38, 39, 40, 41, 42, 43, 44, 45, 46, 47, 48, 49] rfl (by decide +kernel)
set_option maxRecDepth 20000 in
theorem gX1_load_X1_loadNode : GoodIn wsX1_load (wsV RX1 78 RX1 yX1_loadNode wsX1_loadNode) := goodIn_app (goodIn_of _ (by decide +kernel)) ggX1_load_X1_loadNode
set_option maxRecDepth 20000 in
theorem ggX1_loadNode_X1_holdsOthers : GoodIn wsX1_loadNode wsX1_holdsOthers := goodIn_r _ [9] rfl (by decide +kernel)
set_option maxRecDepth 20000 in
theorem gX1_loadNode_X1_holdsOthers : GoodIn wsX1_loadNode (va_wsS RX1 33 yX1_holdsOthers wsX1_holdsOthers) := goodIn_app (goodIn_of _ (by decide +kernel)) ggX1_loadNode_X1_holdsOthers
set_option maxRecDepth 20000 in
theorem ggX1_loadNode_X1_make : GoodIn wsX1_loadNode wsX1_make := goodIn_r _ [13, 14, 3, 15, 16, 17, 18, 26, 27, 28, 29, 30, 31, 32] rfl (by decide +kernel)
set_option maxRecDepth 20000 in
theorem gX1_loadNode_X1_make : GoodIn wsX1_loadNode (wsV RX1 52 RX1 yX1_make wsX1_make) := goodIn_app (goodIn_of _ (by decide +kernel)) ggX1_loadNode_X1_make
set_option maxRecDepth 20000 in
theorem ggX1_loadNode_X1_loadNode : GoodIn wsX1_loadNode wsX1_loadNode := goodIn_r _ [0, 1, 2, 3, 4, 5, 6, 7, 8, 9, 10, 11, 12, 13, 14, 15, 16, 17, 18, 19, 20, 21, 22, 23, 24, 25, 26, 27, 28, 29, 30, 31, 32, 33, 34, 35, 36, 37, 38, 39, 40, 41, 42, 43, 44, 45, 46, 47, 48] rfl (by decide +kernel)
set_option maxRecDepth 20000 in
theorem gX1_loadNode_X1_loadNode : GoodIn wsX1_loadNode (wsV RX1 78 RX1 yX1_loadNode wsX1_loadNode) := goodIn_app (goodIn_of _ (by decide +kernel)) ggX1_loadNode_X1_loadNode
set_option maxRecDepth 20000 in
theorem ggX1_loadNode_X1_prepend : GoodIn wsX1_loadNode wsX1_prepend := goodIn_r _ [25, 15, 3, 18, 17, 16, 26, 27, 28, 29, 30, 31, 32] rfl (by decide +kernel)
set_option maxRecDepth 20000 in
theorem gX1_loadNode_X1_prepend : GoodIn wsX1_loadNode (wsV RX1 82 RX1 yX1_prepend wsX1_prepend) := goodIn_app (goodIn_of _ (by decide +kernel)) ggX1_loadNode_X1_prepend
set_option maxRecDepth 20000 in
theorem ggX2_open_X2_ask : GoodIn wsX2_open wsX2_ask := goodIn_r _ [8, 1, 9, 10, 11, 12, 13, 14, 15, 16, 17, 18, 19, 20, 21, 22, 23, 24, 25, 26, 27, 28, 29, 30, 31, 32, 33, 34, 35, 36, 37, 38, 39, 40, 41, 42, 43, 44, 45, 46, 47, 48, 49, 50, 51, 52, 53, 54, 55, 56, 57, 58, 59, 60, 61, 62, 63, 64, 65, 66, 67, 68, 69, 70, 71, 72, 73, 74, 75, 95, 96, 97, 98, 99, 100, 101, 102, 103, 104, 105, 106, 107, 108, 109, 110, 111, 112, 113, 114, 115, 116, 117] rfl (by decide +kernel)
set_option maxRecDepth 20000 in
theorem gX2_open_X2_ask : GoodIn wsX2_open (wsV RX2 56 RX2 yX2_ask wsX2_ask) := goodIn_app (goodIn_of _ (by decide +kernel)) ggX2_open_X2_ask
set_option maxRecDepth 20000 in
theorem ggX2_ask_X7_findAccount : GoodIn wsX2_ask wsX7_findAccount := goodIn_r _ [17, 18, 19, 69, 70, 71, 72, 73, 74, 75, 76, 77, 78, 79, 80, 81, 82, 83, 84] rfl (by decide +kernel)
set_option maxRecDepth 20000 in
theorem gX2_ask_X7_findAccount : GoodIn wsX2_ask (wsV RX2 62 RX7 yX7_findAccount wsX7_findAccount) := goodIn_app (goodIn_of _ (by decide +kernel)) ggX2_ask_X7_findAccount
set_option maxRecDepth 20000 in
theorem ggX2_ask_X7_findResource : GoodIn wsX2_ask wsX7_findResource := goodIn_r _ [23, 24, 25, 26, 27, 69, 70, 71, 72, 73, 74, 75, 76, 77, 78, 79, 80, 81, 82, 83, 84] rfl (by decide +kernel)
set_option maxRecDepth 20000 in
theorem gX2_ask_X7_findResource : GoodIn wsX2_ask (wsV RX2 69 RX7 yX7_findResource wsX7_findResource) := goodIn_app (goodIn_of _ (by decide +kernel)) ggX2_ask_X7_findResource
set_option maxRecDepth 20000 in
theorem ggX2_ask_X1_load : GoodIn wsX2_ask wsX1_load := goodIn_r _ [32, 33, 34, 35, 36, 31, 37, 38, 39, 40, 41, 42, 43, 44, 45, 46, 47, 48, 49, 50, 51, 52, 53, 54, 55, 56, 57, 85, 86, 87, 88, 89, 90, 91, 69, 70, 71, 72, 73, 74, 75, 76, 77, 78, 79, 80, 81, 82, 83, 84] rfl (by decide +kernel)
set_option maxRecDepth 20000 in
theorem gX2_ask_X1_load : GoodIn wsX2_ask (wsV RX2 73 RX1 yX1_load wsX1_load) := goodIn_app (goodIn_of _ (by decide +kernel)) ggX2_ask_X1_load
set_option maxRecDepth 20000 in
theorem ggX2_fits_X7_placeCount : GoodIn wsX2_fits wsX7_placeCount := goodIn_r _ [12, 13, 14, 15, 43, 44, 45, 46, 47, 48, 49, 50, 51, 52, 53, 54, 55, 56, 57, 58] rfl (by decide +kernel)
set_option maxRecDepth 20000 in
theorem gX2_fits_X7_placeCount : GoodIn wsX2_fits (wsV RX2 79 RX7 yX7_placeCount wsX7_placeCount) := goodIn_app (goodIn_of _ (by decide +kernel)) ggX2_fits_X7_placeCount
set_option maxRecDepth 20000 in
theorem ggX2_fits_X1_sizeOf : GoodIn wsX2_fits wsX1_sizeOf := goodIn_r _ [20, 21, 22, 23, 19, 24, 25, 26, 27, 28, 29, 30, 31, 59, 60, 61, 62, 63, 64, 65] rfl (by decide +kernel)
set_option maxRecDepth 20000 in
theorem gX2_fits_X1_sizeOf : GoodIn wsX2_fits (wsV RX2 83 RX1 yX1_sizeOf wsX1_sizeOf) := goodIn_app (goodIn_of _ (by decide +kernel)) ggX2_fits_X1_sizeOf
set_option maxRecDepth 20000 in
theorem ggX2_commit_X7_removeResource : GoodIn wsX2_commit wsX7_removeResource := goodIn_r _ [15, 16, 17, 18, 19, 20, 14, 21, 22, 23, 24, 92, 93, 94, 95, 96, 97, 98, 99, 100, 101, 102, 103, 104, 105, 106, 107] rfl (by decide +kernel)
set_option maxRecDepth 20000 in
theorem gX2_commit_X7_removeResource : GoodIn wsX2_commit (wsV RX2 87 RX7 yX7_removeResource wsX7_removeResource) := goodIn_app (goodIn_of _ (by decide +kernel)) ggX2_commit_X7_removeResource
set_option maxRecDepth 20000 in
theorem ggX2_commit_X7_findAccount : GoodIn wsX2_commit wsX7_findAccount := goodIn_r _ [28, 29, 30, 92, 93, 94, 95, 96, 97, 98, 99, 100, 101, 102, 103, 104, 105, 106, 107] rfl (by decide +kernel)
set_option maxRecDepth 20000 in
theorem gX2_commit_X7_findAccount : GoodIn wsX2_commit (wsV RX2 62 RX7 yX7_findAccount wsX7_findAccount) := goodIn_app (goodIn_of _ (by decide +kernel)) ggX2_commit_X7_findAccount
set_option maxRecDepth 20000 in
theorem ggX2_commit_X7_openAccount : GoodIn wsX2_commit wsX7_openAccount := goodIn_r _ [34, 29, 35, 36, 37, 38, 30, 39, 40, 92, 93, 94, 95, 96, 97, 98, 99, 100, 101, 102, 103, 104, 105, 106, 107] rfl (by decide +kernel)
set_option maxRecDepth 20000 in
theorem gX2_commit_X7_openAccount : GoodIn wsX2_commit (wsV RX2 91 RX7 yX7_openAccount wsX7_openAccount) := goodIn_app (goodIn_of _ (by decide +kernel)) ggX2_commit_X7_openAccount
set_option maxRecDepth 20000 in
theorem ggX2_commit_X2_storeResource : GoodIn wsX2_commit wsX2_storeResource := goodIn_r _ [45, 5, 6, 7, 8, 46, 47, 48, 49, 50, 51, 14, 52, 22, 23, 24, 17, 18, 19, 20, 21, 16, 53, 54, 55, 56, 57, 58, 59, 60, 61, 62, 63, 64, 65, 66, 67, 68, 69, 70, 71, 72, 73, 74, 75, 76, 77, 78, 79, 80, 81, 82, 83, 84, 85, 86, 87, 88, 89, 90, 91, 92, 93, 94, 95, 96, 97, 98, 99, 100, 101, 102, 103, 104, 105, 106, 107, 108, 109, 110, 111, 112, 113, 114] rfl (by decide +kernel)
set_option maxRecDepth 20000 in
theorem gX2_commit_X2_storeResource : GoodIn wsX2_commit (wsV RX2 94 RX2 yX2_storeResource wsX2_storeResource) := goodIn_app (goodIn_of _ (by decide +kernel)) ggX2_commit_X2_storeResource
set_option maxRecDepth 20000 in
theorem ggX2_storeResource_X7_slotFor : GoodIn wsX2_storeResource wsX7_slotFor := goodIn_r _ [12, 13, 14, 15, 16, 17, 18, 19, 11, 20, 21, 22, 23, 24, 25, 61, 62, 63, 64, 65, 66, 67, 68, 69, 70, 71, 72, 73, 74, 75, 76] rfl (by decide +kernel)
set_option maxRecDepth 20000 in
theorem gX2_storeResource_X7_slotFor : GoodIn wsX2_storeResource (wsV RX2 98 RX7 yX7_slotFor wsX7_slotFor) := goodIn_app (goodIn_of _ (by decide +kernel)) ggX2_storeResource_X7_slotFor
set_option maxRecDepth 20000 in
theorem ggX2_storeResource_X1_store : GoodIn wsX2_storeResource wsX1_store := goodIn_r _ [30, 31, 32, 33, 29, 34, 35, 36, 37, 38, 39, 40, 41, 42, 43, 44, 45, 46, 47, 48, 49, 61, 62, 63, 64, 65, 66, 67, 68, 69, 70, 71, 72, 73, 74, 75, 76, 77, 78, 79, 80, 81, 82, 83] rfl (by decide +kernel)
set_option maxRecDepth 20000 in
theorem gX2_storeResource_X1_store : GoodIn wsX2_storeResource (wsV RX2 104 RX1 yX1_store wsX1_store) := goodIn_app (goodIn_of _ (by decide +kernel)) ggX2_storeResource_X1_store
set_option maxRecDepth 20000 in
theorem ggX3_look_X3_prepare : GoodIn wsX3_look wsX3_prepare := goodIn_r _ [10, 11, 1, 12, 13, 14, 15, 16, 17, 18, 19, 20, 21, 22, 23, 24, 25, 26, 27, 28, 29, 30, 31, 32, 33, 34, 35, 36, 37, 38, 39, 40, 41, 42, 43, 44, 45, 46, 47, 48, 49, 50, 51, 52, 53, 54, 55, 56, 57, 58, 59, 60, 61, 62, 63, 64, 65, 66, 67, 68, 69, 70, 71, 72, 73, 74, 75, 76, 77, 78, 79, 80, 81, 82, 83, 84, 85, 86, 87, 88, 89, 90, 91, 92, 93, 94, 95, 96, 97, 98, 99, 100, 9, 101, 102, 103, 104, 105, 106, 107, 108, 109, 110, 111, 112, 113, 2, 282, 283, 284, 285, 286, 287, 288, 289, 290, 291, 292, 293, 294, 295, 296, 297, 298, 299, 300, 301, 302, 303, 304, 305, 306, 307, 308, 309, 310, 311, 312, 313, 314, 315, 316, 317, 318] rfl (by decide +kernel)
set_option maxRecDepth 20000 in
theorem gX3_look_X3_prepare : GoodIn wsX3_look (wsV RX3 60 RX3 yX3_prepare wsX3_prepare) := goodIn_app (goodIn_of _ (by decide +kernel)) ggX3_look_X3_prepare
set_option maxRecDepth 20000 in
theorem ggX3_look_X5_instructions : GoodIn wsX3_look wsX5_instructions := goodIn_r _ [29, 30, 31, 32, 28, 33, 34, 35, 36, 304, 305, 306, 307, 308, 309, 310, 311, 312, 313, 314, 315, 316, 317, 318] rfl (by decide +kernel)
set_option maxRecDepth 20000 in
theorem gX3_look_X5_instructions : GoodIn wsX3_look (wsV RX3 67 RX5 yX5_instructions wsX5_instructions) := goodIn_app (goodIn_of _ (by decide +kernel)) ggX3_look_X5_instructions
set_option maxRecDepth 20000 in
theorem ggX3_look_X3_arrive : GoodIn wsX3_look wsX3_arrive := goodIn_r _ [117, 16, 5, 17, 24, 18, 102, 20, 103, 19, 104, 23, 105, 106, 107, 108, 110, 111, 112, 9, 113, 2, 282, 283, 284, 285, 286, 287, 288, 289, 290, 291, 292, 293, 294, 295, 296, 297, 298, 299, 300, 301, 302, 303] rfl (by decide +kernel)
set_option maxRecDepth 20000 in
theorem gX3_look_X3_arrive : GoodIn wsX3_look (wsV RX3 71 RX3 yX3_arrive wsX3_arrive) := goodIn_app (goodIn_of _ (by decide +kernel)) ggX3_look_X3_arrive
set_option maxRecDepth 20000 in
theorem ggX3_look_X3_operate : GoodIn wsX3_look wsX3_operate := goodIn_r _ [121, 1, 11, 5, 12, 13, 14, 15, 2, 37, 38, 39, 28, 40, 41, 42, 30, 31, 32, 33, 34, 35, 36, 53, 48, 49, 50, 51, 52, 122, 123, 124, 9, 125, 18, 126, 127, 128, 20, 21, 109, 129, 68, 69, 70, 130, 131, 132, 133, 62, 55, 56, 57, 71, 72, 73, 74, 75, 76, 110, 111, 112, 113, 134, 135, 136, 137, 138, 139, 140, 141, 142, 143, 144, 145, 146, 147, 148, 149, 83, 84, 85, 86, 80, 81, 82, 87, 88, 89, 90, 91, 92, 93, 94, 95, 96, 97, 150, 151, 152, 153, 154, 155, 156, 157, 158, 159, 160, 161, 162, 163, 164, 165, 166, 167, 168, 169, 170, 171, 172, 22, 23, 19, 77, 78, 79, 173, 174, 175, 176, 177, 178, 179, 180, 181, 182, 183, 184, 185, 186, 187, 188, 189, 190, 191, 192, 193, 194, 195, 196, 197, 198, 199, 200, 201, 202, 203, 204, 205, 206, 207, 208, 209, 210, 211, 212, 213, 214, 215, 216, 217, 218, 219, 220, 221, 222, 223, 224, 225, 226, 227, 228, 229, 230, 231, 232, 233, 234, 235, 236, 237, 54, 238, 239, 240, 241, 242, 243, 244, 245, 246, 247, 248, 249, 250, 251, 252, 253, 254, 255, 256, 257, 258, 259, 260, 261, 262, 263, 264, 265, 266, 267, 268, 269, 43, 44, 45, 46, 47, 270, 271, 272, 273, 24, 274, 275, 276, 277, 16, 98, 99, 100, 101, 17, 102, 103, 104, 105, 106, 107, 108, 278, 279, 280, 281, 25, 26, 27, 29, 282, 283, 284, 285, 286, 287, 288, 289, 290, 291, 292, 293, 294, 295, 296, 297, 298, 299, 300, 301, 302, 303, 304, 305, 306, 307, 308, 309, 310, 311, 312, 313, 314, 315, 316, 317, 318] rfl (by decide +kernel)
set_option maxRecDepth 20000 in
theorem gX3_look_X3_operate : GoodIn wsX3_look (wsV RX3 74 RX3 yX3_operate wsX3_operate) := goodIn_app (goodIn_of _ (by decide +kernel)) ggX3_look_X3_operate
set_option maxRecDepth 20000 in
theorem ggX3_prepare_X5_instructions : GoodIn wsX3_prepare wsX5_instructions := goodIn_r _ [20, 21, 22, 23, 19, 24, 25, 26, 27, 129, 130, 131, 132, 133, 134, 135, 136, 137, 138, 139, 140, 141, 142, 143] rfl (by decide +kernel)
set_option maxRecDepth 20000 in
theorem gX3_prepare_X5_instructions : GoodIn wsX3_prepare (wsV RX3 67 RX5 yX5_instructions wsX5_instructions) := goodIn_app (goodIn_of _ (by decide +kernel)) ggX3_prepare_X5_instructions
set_option maxRecDepth 20000 in
theorem ggX3_prepare_X5_instructionPlace : GoodIn wsX3_prepare wsX5_instructionPlace := goodIn_r _ [31, 32, 33, 21, 22, 23, 19, 24, 25, 26, 27, 129, 130, 131, 132, 133, 134, 135, 136, 137, 138, 139, 140, 141, 142, 143] rfl (by decide +kernel)
set_option maxRecDepth 20000 in
theorem gX3_prepare_X5_instructionPlace : GoodIn wsX3_prepare (wsV RX3 86 RX5 yX5_instructionPlace wsX5_instructionPlace) := goodIn_app (goodIn_of _ (by decide +kernel)) ggX3_prepare_X5_instructionPlace
set_option maxRecDepth 20000 in
theorem ggX3_prepare_X5_numberAt : GoodIn wsX3_prepare wsX5_numberAt := goodIn_r _ [37, 38, 39, 40, 19, 41, 42, 43, 129, 130, 131, 132, 133, 134, 135, 136, 137, 138, 139, 140, 141, 142, 143] rfl (by decide +kernel)
set_option maxRecDepth 20000 in
theorem gX3_prepare_X5_numberAt : GoodIn wsX3_prepare (wsV RX3 89 RX5 yX5_numberAt wsX5_numberAt) := goodIn_app (goodIn_of _ (by decide +kernel)) ggX3_prepare_X5_numberAt
set_option maxRecDepth 20000 in
theorem ggX3_prepare_X5_at : GoodIn wsX3_prepare wsX5_at := goodIn_r _ [41, 42, 43, 129, 130, 131, 132, 133, 134, 135, 136, 137, 138, 139, 140, 141, 142, 143] rfl (by decide +kernel)
set_option maxRecDepth 20000 in
theorem gX3_prepare_X5_at : GoodIn wsX3_prepare (wsV RX3 93 RX5 yX5_at wsX5_at) := goodIn_app (goodIn_of _ (by decide +kernel)) ggX3_prepare_X5_at
set_option maxRecDepth 20000 in
theorem ggX3_prepare_X5_takes : GoodIn wsX3_prepare wsX5_takes := goodIn_r _ [48, 21, 22, 23, 19, 24, 25, 26, 27, 129, 130, 131, 132, 133, 134, 135, 136, 137, 138, 139, 140, 141, 142, 143] rfl (by decide +kernel)
set_option maxRecDepth 20000 in
theorem gX3_prepare_X5_takes : GoodIn wsX3_prepare (wsV RX3 102 RX5 yX5_takes wsX5_takes) := goodIn_app (goodIn_of _ (by decide +kernel)) ggX3_prepare_X5_takes
set_option maxRecDepth 20000 in
theorem ggX3_prepare_X5_localCount : GoodIn wsX3_prepare wsX5_localCount := goodIn_r _ [52, 53, 46, 47, 19, 48, 21, 22, 23, 24, 25, 26, 27, 129, 130, 131, 132, 133, 134, 135, 136, 137, 138, 139, 140, 141, 142, 143] rfl (by decide +kernel)
set_option maxRecDepth 20000 in
theorem gX3_prepare_X5_localCount : GoodIn wsX3_prepare (wsV RX3 111 RX5 yX5_localCount wsX5_localCount) := goodIn_app (goodIn_of _ (by decide +kernel)) ggX3_prepare_X5_localCount
set_option maxRecDepth 20000 in
theorem ggX3_prepare_X5_localType : GoodIn wsX3_prepare wsX5_localType := goodIn_r _ [57, 21, 22, 23, 19, 24, 25, 26, 27, 53, 46, 47, 48, 58, 59, 60, 61, 62, 63, 64, 65, 66, 67, 129, 130, 131, 132, 133, 134, 135, 136, 137, 138, 139, 140, 141, 142, 143] rfl (by decide +kernel)
set_option maxRecDepth 20000 in
theorem gX3_prepare_X5_localType : GoodIn wsX3_prepare (wsV RX3 114 RX5 yX5_localType wsX5_localType) := goodIn_app (goodIn_of _ (by decide +kernel)) ggX3_prepare_X5_localType
set_option maxRecDepth 20000 in
theorem ggX3_prepare_X5_isReference : GoodIn wsX3_prepare wsX5_isReference := goodIn_r _ [70, 71, 72, 19, 73] rfl (by decide +kernel)
set_option maxRecDepth 20000 in
theorem gX3_prepare_X5_isReference : GoodIn wsX3_prepare (va_wsS RX3 116 yX5_isReference wsX5_isReference) := goodIn_app (goodIn_of _ (by decide +kernel)) ggX3_prepare_X5_isReference
set_option maxRecDepth 20000 in
theorem ggX3_prepare_X5_abilities : GoodIn wsX3_prepare wsX5_abilities := goodIn_r _ [77, 71, 72, 19, 73, 78, 79, 80, 81, 82, 83, 84, 85, 86, 87, 88, 129, 130, 131, 132, 133, 134, 135, 136, 137, 138, 139, 140, 141, 142, 143] rfl (by decide +kernel)
set_option maxRecDepth 20000 in
theorem gX3_prepare_X5_abilities : GoodIn wsX3_prepare (wsV RX3 120 RX5 yX5_abilities wsX5_abilities) := goodIn_app (goodIn_of _ (by decide +kernel)) ggX3_prepare_X5_abilities
set_option maxRecDepth 20000 in
theorem ggX3_prepare_X3_join : GoodIn wsX3_prepare wsX3_join := goodIn_r _ [93, 8, 94, 11, 95, 10, 14, 96, 97, 98, 99, 100, 12, 101, 102, 103, 104, 92, 105, 106, 107, 108, 109, 110, 111, 112, 113, 114, 115, 116, 117, 118, 119, 120, 121, 122, 123, 124, 125, 126, 127, 128] rfl (by decide +kernel)
set_option maxRecDepth 20000 in
theorem gX3_prepare_X3_join : GoodIn wsX3_prepare (wsV RX3 128 RX3 yX3_join wsX3_join) := goodIn_app (goodIn_of _ (by decide +kernel)) ggX3_prepare_X3_join
set_option maxRecDepth 20000 in
theorem ggX3_arrive_X3_fail : GoodIn wsX3_arrive wsX3_fail := goodIn_r _ [20, 21, 22, 23, 24, 25, 26, 27, 28, 29, 30, 31, 32, 33, 34, 35, 36, 37, 38, 39, 40, 41, 42, 43] rfl (by decide +kernel)
set_option maxRecDepth 20000 in
theorem gX3_arrive_X3_fail : GoodIn wsX3_arrive (wsV RX3 131 RX3 yX3_fail wsX3_fail) := goodIn_app (goodIn_of _ (by decide +kernel)) ggX3_arrive_X3_fail
set_option maxRecDepth 20000 in
theorem ggX3_operate_X5_instructionPlace : GoodIn wsX3_operate wsX5_instructionPlace := goodIn_r _ [13, 14, 15, 16, 17, 18, 12, 19, 20, 21, 22, 281, 282, 283, 284, 285, 286, 287, 288, 289, 290, 291, 292, 293, 294, 295] rfl (by decide +kernel)
set_option maxRecDepth 20000 in
theorem gX3_operate_X5_instructionPlace : GoodIn wsX3_operate (wsV RX3 86 RX5 yX5_instructionPlace wsX5_instructionPlace) := goodIn_app (goodIn_of _ (by decide +kernel)) ggX3_operate_X5_instructionPlace
set_option maxRecDepth 20000 in
theorem ggX3_operate_X5_at : GoodIn wsX3_operate wsX5_at := goodIn_r _ [26, 27, 28, 281, 282, 283, 284, 285, 286, 287, 288, 289, 290, 291, 292, 293, 294, 295] rfl (by decide +kernel)
set_option maxRecDepth 20000 in
theorem gX3_operate_X5_at : GoodIn wsX3_operate (wsV RX3 93 RX5 yX5_at wsX5_at) := goodIn_app (goodIn_of _ (by decide +kernel)) ggX3_operate_X5_at
set_option maxRecDepth 20000 in
theorem ggX3_operate_X3_giveBack : GoodIn wsX3_operate wsX3_giveBack := goodIn_r _ [33, 34, 1, 2, 35, 36, 37, 38, 39, 40, 41, 42, 43, 12, 44, 16, 17, 18, 19, 20, 21, 22, 45, 46, 47, 48, 49, 50, 51, 52, 53, 54, 55, 56, 57, 58, 59, 60, 61, 32, 62, 8, 259, 260, 261, 262, 263, 264, 265, 266, 267, 268, 269, 270, 271, 272, 273, 274, 275, 276, 277, 278, 279, 280, 281, 282, 283, 284, 285, 286, 287, 288, 289, 290, 291, 292, 293, 294, 295] rfl (by decide +kernel)
set_option maxRecDepth 20000 in
theorem gX3_operate_X3_giveBack : GoodIn wsX3_operate (wsV RX3 140 RX3 yX3_giveBack wsX3_giveBack) := goodIn_app (goodIn_of _ (by decide +kernel)) ggX3_operate_X3_giveBack
set_option maxRecDepth 20000 in
theorem ggX3_operate_X3_steer : GoodIn wsX3_operate wsX3_steer := goodIn_r _ [66, 67, 34, 68, 69, 70, 32, 71, 36, 72, 73, 74, 35, 59, 60, 61, 62, 8, 75, 76, 77, 78, 1, 79, 80, 81, 12, 82, 83, 84, 85, 86, 87, 88, 89, 90, 91, 92, 93, 94, 95, 96, 97, 98, 99, 100, 259, 260, 261, 262, 263, 264, 265, 266, 267, 268, 269, 270, 271, 272, 273, 274, 275, 276, 277, 278, 279, 280, 281, 282, 283, 284, 285, 286, 287, 288, 289, 290, 291, 292, 293, 294, 295] rfl (by decide +kernel)
set_option maxRecDepth 20000 in
theorem gX3_operate_X3_steer : GoodIn wsX3_operate (wsV RX3 143 RX3 yX3_steer wsX3_steer) := goodIn_app (goodIn_of _ (by decide +kernel)) ggX3_operate_X3_steer
set_option maxRecDepth 20000 in
theorem ggX3_operate_X3_set : GoodIn wsX3_operate wsX3_set := goodIn_r _ [104, 105, 67, 106, 107, 108, 109, 110, 32, 111, 112, 113, 114, 115, 34, 35, 36, 73, 59, 60, 61, 62, 8, 259, 260, 261, 262, 263, 264, 265, 266, 267, 268, 269, 270, 271, 272, 273, 274, 275, 276, 277, 278, 279, 280] rfl (by decide +kernel)
set_option maxRecDepth 20000 in
theorem gX3_operate_X3_set : GoodIn wsX3_operate (wsV RX3 146 RX3 yX3_set wsX3_set) := goodIn_app (goodIn_of _ (by decide +kernel)) ggX3_operate_X3_set
set_option maxRecDepth 20000 in
theorem ggX3_operate_X3_useLocal : GoodIn wsX3_operate wsX3_useLocal := goodIn_r _ [119, 120, 8, 72, 74, 38, 121, 122, 40, 123, 124, 12, 125, 83, 84, 85, 97, 98, 99, 32, 100, 68, 69, 70, 71, 34, 36, 73, 35, 59, 60, 61, 62, 126, 127, 128, 129, 75, 76, 77, 78, 1, 79, 80, 81, 82, 86, 87, 88, 89, 90, 91, 92, 93, 94, 95, 96, 130, 131, 132, 133, 134, 135, 136, 137, 138, 139, 140, 141, 112, 113, 114, 115, 259, 260, 261, 262, 263, 264, 265, 266, 267, 268, 269, 270, 271, 272, 273, 274, 275, 276, 277, 278, 279, 280, 281, 282, 283, 284, 285, 286, 287, 288, 289, 290, 291, 292, 293, 294, 295] rfl (by decide +kernel)
set_option maxRecDepth 20000 in
theorem gX3_operate_X3_useLocal : GoodIn wsX3_operate (wsV RX3 149 RX3 yX3_useLocal wsX3_useLocal) := goodIn_app (goodIn_of _ (by decide +kernel)) ggX3_operate_X3_useLocal
set_option maxRecDepth 20000 in
theorem ggX3_operate_X3_borrowLocal : GoodIn wsX3_operate wsX3_borrowLocal := goodIn_r _ [145, 120, 126, 127, 128, 32, 129, 38, 59, 60, 61, 62, 8, 123, 124, 12, 125, 83, 84, 85, 130, 131, 132, 133, 34, 36, 35, 121, 134, 135, 136, 137, 146, 147, 148, 149, 150, 151, 112, 113, 114, 115, 73, 259, 260, 261, 262, 263, 264, 265, 266, 267, 268, 269, 270, 271, 272, 273, 274, 275, 276, 277, 278, 279, 280] rfl (by decide +kernel)
set_option maxRecDepth 20000 in
theorem gX3_operate_X3_borrowLocal : GoodIn wsX3_operate (wsV RX3 153 RX3 yX3_borrowLocal wsX3_borrowLocal) := goodIn_app (goodIn_of _ (by decide +kernel)) ggX3_operate_X3_borrowLocal
set_option maxRecDepth 20000 in
theorem ggX3_operate_X3_refer : GoodIn wsX3_operate wsX3_refer := goodIn_r _ [155, 1, 72, 74, 156, 157, 12, 158, 159, 160, 161, 32, 162, 68, 69, 70, 71, 34, 36, 73, 35, 59, 60, 61, 62, 8, 123, 124, 125, 83, 84, 85, 163, 164, 165, 149, 150, 151, 134, 135, 136, 137, 166, 167, 168, 169, 91, 92, 93, 94, 95, 96, 53, 54, 55, 56, 57, 58, 146, 147, 148, 112, 113, 114, 115, 170, 171, 172, 173, 75, 76, 77, 78, 79, 80, 81, 82, 86, 87, 88, 89, 90, 108, 109, 110, 111, 97, 98, 99, 100, 174, 175, 176, 177, 121, 122, 120, 259, 260, 261, 262, 263, 264, 265, 266, 267, 268, 269, 270, 271, 272, 273, 274, 275, 276, 277, 278, 279, 280, 281, 282, 283, 284, 285, 286, 287, 288, 289, 290, 291, 292, 293, 294, 295] rfl (by decide +kernel)
set_option maxRecDepth 20000 in
theorem gX3_operate_X3_refer : GoodIn wsX3_operate (wsV RX3 157 RX3 yX3_refer wsX3_refer) := goodIn_app (goodIn_of _ (by decide +kernel)) ggX3_operate_X3_refer
set_option maxRecDepth 20000 in
theorem ggX3_operate_X3_pack : GoodIn wsX3_operate wsX3_pack := goodIn_r _ [181, 1, 182, 183, 184, 12, 185, 91, 92, 93, 94, 95, 96, 166, 167, 168, 169, 53, 54, 55, 56, 57, 58, 97, 98, 99, 32, 100, 68, 69, 70, 71, 34, 36, 72, 73, 74, 35, 59, 60, 61, 62, 8, 156, 157, 158, 108, 109, 110, 111, 112, 113, 114, 115, 259, 260, 261, 262, 263, 264, 265, 266, 267, 268, 269, 270, 271, 272, 273, 274, 275, 276, 277, 278, 279, 280, 281, 282, 283, 284, 285, 286, 287, 288, 289, 290, 291, 292, 293, 294, 295] rfl (by decide +kernel)
set_option maxRecDepth 20000 in
theorem gX3_operate_X3_pack : GoodIn wsX3_operate (wsV RX3 161 RX3 yX3_pack wsX3_pack) := goodIn_app (goodIn_of _ (by decide +kernel)) ggX3_operate_X3_pack
set_option maxRecDepth 20000 in
theorem ggX3_operate_X3_enter : GoodIn wsX3_operate wsX3_enter := goodIn_r _ [189, 1, 8, 2, 34, 35, 36, 190, 191, 50, 51, 12, 52, 16, 17, 18, 19, 20, 21, 22, 192, 193, 194, 195, 53, 54, 55, 56, 57, 58, 97, 98, 99, 32, 100, 68, 69, 70, 71, 72, 73, 74, 59, 60, 61, 62, 196, 197, 198, 199, 134, 135, 136, 137, 84, 85, 174, 175, 176, 177, 121, 122, 120, 200, 201, 202, 203, 130, 131, 132, 133, 41, 42, 43, 44, 45, 46, 47, 48, 49, 123, 124, 125, 83, 112, 113, 114, 115, 259, 260, 261, 262, 263, 264, 265, 266, 267, 268, 269, 270, 271, 272, 273, 274, 275, 276, 277, 278, 279, 280, 281, 282, 283, 284, 285, 286, 287, 288, 289, 290, 291, 292, 293, 294, 295] rfl (by decide +kernel)
set_option maxRecDepth 20000 in
theorem gX3_operate_X3_enter : GoodIn wsX3_operate (wsV RX3 164 RX3 yX3_enter wsX3_enter) := goodIn_app (goodIn_of _ (by decide +kernel)) ggX3_operate_X3_enter
set_option maxRecDepth 20000 in
theorem ggX3_operate_X3_reckon : GoodIn wsX3_operate wsX3_reckon := goodIn_r _ [207, 105, 97, 98, 99, 32, 100, 68, 69, 70, 71, 34, 36, 72, 73, 74, 35, 59, 60, 61, 62, 8, 208, 209, 210, 106, 123, 124, 12, 125, 83, 84, 85, 75, 76, 77, 78, 1, 79, 80, 81, 82, 86, 87, 88, 89, 90, 91, 92, 93, 94, 95, 96, 108, 109, 110, 111, 112, 113, 114, 115, 259, 260, 261, 262, 263, 264, 265, 266, 267, 268, 269, 270, 271, 272, 273, 274, 275, 276, 277, 278, 279, 280, 281, 282, 283, 284, 285, 286, 287, 288, 289, 290, 291, 292, 293, 294, 295] rfl (by decide +kernel)
set_option maxRecDepth 20000 in
theorem gX3_operate_X3_reckon : GoodIn wsX3_operate (wsV RX3 167 RX3 yX3_reckon wsX3_reckon) := goodIn_app (goodIn_of _ (by decide +kernel)) ggX3_operate_X3_reckon
set_option maxRecDepth 20000 in
theorem ggX3_operate_X3_keep : GoodIn wsX3_operate wsX3_keep := goodIn_r _ [214, 107, 1, 2, 156, 157, 12, 158, 97, 98, 99, 32, 100, 68, 69, 70, 71, 34, 36, 72, 73, 74, 35, 59, 60, 61, 62, 8, 196, 197, 198, 199, 16, 17, 18, 19, 20, 21, 22, 75, 76, 77, 78, 79, 80, 81, 82, 83, 84, 85, 86, 87, 88, 89, 90, 91, 92, 93, 94, 95, 96, 130, 131, 132, 133, 121, 120, 134, 135, 136, 137, 108, 109, 110, 111, 112, 113, 114, 115, 146, 147, 148, 149, 150, 151, 259, 260, 261, 262, 263, 264, 265, 266, 267, 268, 269, 270, 271, 272, 273, 274, 275, 276, 277, 278, 279, 280, 281, 282, 283, 284, 285, 286, 287, 288, 289, 290, 291, 292, 293, 294, 295] rfl (by decide +kernel)
set_option maxRecDepth 20000 in
theorem gX3_operate_X3_keep : GoodIn wsX3_operate (wsV RX3 170 RX3 yX3_keep wsX3_keep) := goodIn_app (goodIn_of _ (by decide +kernel)) ggX3_operate_X3_keep
set_option maxRecDepth 20000 in
theorem ggX3_operate_X3_lineUp : GoodIn wsX3_operate wsX3_lineUp := goodIn_r _ [218, 1, 105, 67, 72, 219, 220, 221, 12, 222, 223, 53, 54, 55, 56, 57, 58, 146, 147, 148, 149, 150, 151, 97, 98, 99, 32, 100, 68, 69, 70, 71, 34, 36, 73, 74, 35, 59, 60, 61, 62, 8, 108, 109, 110, 111, 112, 113, 114, 115, 159, 160, 161, 162, 123, 124, 125, 83, 84, 85, 163, 164, 165, 134, 135, 136, 137, 174, 175, 176, 177, 121, 122, 120, 259, 260, 261, 262, 263, 264, 265, 266, 267, 268, 269, 270, 271, 272, 273, 274, 275, 276, 277, 278, 279, 280, 281, 282, 283, 284, 285, 286, 287, 288, 289, 290, 291, 292, 293, 294, 295] rfl (by decide +kernel)
set_option maxRecDepth 20000 in
theorem gX3_operate_X3_lineUp : GoodIn wsX3_operate (wsV RX3 173 RX3 yX3_lineUp wsX3_lineUp) := goodIn_app (goodIn_of _ (by decide +kernel)) ggX3_operate_X3_lineUp
set_option maxRecDepth 20000 in
theorem ggX3_operate_X5_numberAt : GoodIn wsX3_operate wsX5_numberAt := goodIn_r _ [227, 228, 24, 25, 12, 26, 27, 28, 281, 282, 283, 284, 285, 286, 287, 288, 289, 290, 291, 292, 293, 294, 295] rfl (by decide +kernel)
set_option maxRecDepth 20000 in
theorem gX3_operate_X5_numberAt : GoodIn wsX3_operate (wsV RX3 89 RX5 yX5_numberAt wsX5_numberAt) := goodIn_app (goodIn_of _ (by decide +kernel)) ggX3_operate_X5_numberAt
set_option maxRecDepth 20000 in
theorem ggX3_operate_X3_leave : GoodIn wsX3_operate wsX3_leave := goodIn_r _ [232, 233, 34, 3, 1, 2, 234, 235, 236, 32, 237, 238, 239, 240, 241, 242, 243, 244, 38, 245, 122, 121, 246, 247, 248, 249, 250, 39, 40, 59, 60, 61, 62, 8, 251, 252, 253, 254, 255, 256, 257, 12, 258, 16, 17, 18, 19, 20, 21, 22, 259, 260, 261, 262, 263, 264, 265, 266, 267, 268, 269, 270, 271, 272, 273, 274, 275, 276, 277, 278, 279, 280, 281, 282, 283, 284, 285, 286, 287, 288, 289, 290, 291, 292, 293, 294, 295] rfl (by decide +kernel)
set_option maxRecDepth 20000 in
theorem gX3_operate_X3_leave : GoodIn wsX3_operate (wsV RX3 176 RX3 yX3_leave wsX3_leave) := goodIn_app (goodIn_of _ (by decide +kernel)) ggX3_operate_X3_leave
set_option maxRecDepth 20000 in
theorem ggX3_leave_X3_come : GoodIn wsX3_leave wsX3_come := goodIn_r _ [10, 11, 3, 12, 13, 14, 9, 15, 16, 17, 18, 19, 20, 21, 22, 23, 24, 25, 26, 27, 28, 29, 30, 31, 32, 33, 34, 35, 36, 37, 50, 51, 52, 53, 54, 55, 56, 57, 58, 59, 60, 61, 62, 63, 64, 65, 66, 67, 68, 69, 70, 71] rfl (by decide +kernel)
set_option maxRecDepth 20000 in
theorem gX3_leave_X3_come : GoodIn wsX3_leave (wsV RX3 179 RX3 yX3_come wsX3_come) := goodIn_app (goodIn_of _ (by decide +kernel)) ggX3_leave_X3_come
set_option maxRecDepth 20000 in
theorem ggX3_leave_X5_instructions : GoodIn wsX3_leave wsX5_instructions := goodIn_r _ [42, 43, 44, 45, 41, 46, 47, 48, 49, 72, 73, 74, 75, 76, 77, 78, 79, 80, 81, 82, 83, 84, 85, 86] rfl (by decide +kernel)
set_option maxRecDepth 20000 in
theorem gX3_leave_X5_instructions : GoodIn wsX3_leave (wsV RX3 67 RX5 yX5_instructions wsX5_instructions) := goodIn_app (goodIn_of _ (by decide +kernel)) ggX3_leave_X5_instructions
set_option maxRecDepth 20000 in
theorem ggX3_leave_X3_fail : GoodIn wsX3_leave wsX3_fail := goodIn_r _ [32, 33, 50, 51, 52, 53, 54, 55, 56, 57, 58, 59, 60, 61, 62, 63, 64, 65, 66, 67, 68, 69, 70, 71] rfl (by decide +kernel)
set_option maxRecDepth 20000 in
theorem gX3_leave_X3_fail : GoodIn wsX3_leave (wsV RX3 131 RX3 yX3_fail wsX3_fail) := goodIn_app (goodIn_of _ (by decide +kernel)) ggX3_leave_X3_fail
set_option maxRecDepth 20000 in
theorem ggX3_come_X3_join : GoodIn wsX3_come wsX3_join := goodIn_r _ [7, 8, 9, 10, 11, 12, 13, 14, 15, 16, 17, 18, 19, 20, 21, 22, 23, 6, 24, 25, 30, 31, 32, 33, 34, 35, 36, 37, 38, 39, 40, 41, 42, 43, 44, 45, 46, 47, 48, 49, 50, 51] rfl (by decide +kernel)
set_option maxRecDepth 20000 in
theorem gX3_come_X3_join : GoodIn wsX3_come (wsV RX3 128 RX3 yX3_join wsX3_join) := goodIn_app (goodIn_of _ (by decide +kernel)) ggX3_come_X3_join
set_option maxRecDepth 20000 in
theorem ggX3_come_X3_comeBack : GoodIn wsX3_come wsX3_comeBack := goodIn_r _ [29, 9, 10, 20, 19, 12, 11, 13, 14, 21, 22, 23, 6, 24, 25, 30, 31, 32, 33, 34, 35, 36, 37, 38, 39, 40, 41, 42, 43, 44, 45, 46, 47, 48, 49, 50, 51] rfl (by decide +kernel)
set_option maxRecDepth 20000 in
theorem gX3_come_X3_comeBack : GoodIn wsX3_come (wsV RX3 182 RX3 yX3_comeBack wsX3_comeBack) := goodIn_app (goodIn_of _ (by decide +kernel)) ggX3_come_X3_comeBack
set_option maxRecDepth 20000 in
theorem ggX3_join_X3_fail : GoodIn wsX3_join wsX3_fail := goodIn_r _ [18, 19, 20, 21, 22, 23, 24, 25, 26, 27, 28, 29, 30, 31, 32, 33, 34, 35, 36, 37, 38, 39, 40, 41] rfl (by decide +kernel)
set_option maxRecDepth 20000 in
theorem gX3_join_X3_fail : GoodIn wsX3_join (wsV RX3 131 RX3 yX3_fail wsX3_fail) := goodIn_app (goodIn_of _ (by decide +kernel)) ggX3_join_X3_fail
set_option maxRecDepth 20000 in
theorem ggX3_comeBack_X3_fail : GoodIn wsX3_comeBack wsX3_fail := goodIn_r _ [13, 14, 15, 16, 17, 18, 19, 20, 21, 22, 23, 24, 25, 26, 27, 28, 29, 30, 31, 32, 33, 34, 35, 36] rfl (by decide +kernel)
set_option maxRecDepth 20000 in
theorem gX3_comeBack_X3_fail : GoodIn wsX3_comeBack (wsV RX3 131 RX3 yX3_fail wsX3_fail) := goodIn_app (goodIn_of _ (by decide +kernel)) ggX3_comeBack_X3_fail
set_option maxRecDepth 20000 in
theorem ggX3_has_X5_abilities : GoodIn wsX3_has wsX5_abilities := goodIn_r _ [6, 7, 8, 5, 9, 10, 11, 12, 13, 14, 15, 16, 17, 18, 19, 20, 43, 44, 45, 46, 47, 48, 49, 50, 51, 52, 53, 54, 55, 56, 57] rfl (by decide +kernel)
set_option maxRecDepth 20000 in
theorem gX3_has_X5_abilities : GoodIn wsX3_has (wsV RX3 120 RX5 yX5_abilities wsX5_abilities) := goodIn_app (goodIn_of _ (by decide +kernel)) ggX3_has_X5_abilities
set_option maxRecDepth 20000 in
theorem ggX3_writes_X5_head : GoodIn wsX3_writes wsX5_head := goodIn_r _ [4] rfl (by decide +kernel)
set_option maxRecDepth 20000 in
theorem gX3_writes_X5_head : GoodIn wsX3_writes (va_wsS RX3 187 yX5_head wsX5_head) := goodIn_app (goodIn_of _ (by decide +kernel)) ggX3_writes_X5_head
set_option maxRecDepth 20000 in
theorem ggX3_take_X3_fail : GoodIn wsX3_take wsX3_fail := goodIn_r _ [11, 12, 13, 14, 15, 16, 17, 18, 19, 20, 21, 22, 23, 24, 25, 26, 27, 28, 29, 30, 31, 32, 33, 34] rfl (by decide +kernel)
set_option maxRecDepth 20000 in
theorem gX3_take_X3_fail : GoodIn wsX3_take (wsV RX3 131 RX3 yX3_fail wsX3_fail) := goodIn_app (goodIn_of _ (by decide +kernel)) ggX3_take_X3_fail
set_option maxRecDepth 20000 in
theorem ggX3_takeOnly_X3_take : GoodIn wsX3_takeOnly wsX3_take := goodIn_r _ [5, 6, 7, 8, 9, 10, 11, 12, 13, 14, 4, 15, 16, 17, 18, 19, 20, 21, 22, 23, 24, 25, 26, 27, 28, 29, 30, 31, 32, 33, 34, 35, 36, 37, 38] rfl (by decide +kernel)
set_option maxRecDepth 20000 in
theorem gX3_takeOnly_X3_take : GoodIn wsX3_takeOnly (wsV RX3 200 RX3 yX3_take wsX3_take) := goodIn_app (goodIn_of _ (by decide +kernel)) ggX3_takeOnly_X3_take
set_option maxRecDepth 20000 in
theorem ggX3_takeOnly_X3_fail : GoodIn wsX3_takeOnly wsX3_fail := goodIn_r _ [15, 16, 17, 18, 19, 20, 21, 22, 23, 24, 25, 26, 27, 28, 29, 30, 31, 32, 33, 34, 35, 36, 37, 38] rfl (by decide +kernel)
set_option maxRecDepth 20000 in
theorem gX3_takeOnly_X3_fail : GoodIn wsX3_takeOnly (wsV RX3 131 RX3 yX3_fail wsX3_fail) := goodIn_app (goodIn_of _ (by decide +kernel)) ggX3_takeOnly_X3_fail
set_option maxRecDepth 20000 in
theorem ggX3_takeReference_X3_take : GoodIn wsX3_takeReference wsX3_take := goodIn_r _ [5, 6, 7, 8, 9, 10, 11, 12, 13, 14, 4, 15, 16, 34, 35, 36, 37, 38, 39, 40, 41, 42, 43, 44, 45, 46, 47, 48, 49, 50, 51, 52, 53, 54, 55] rfl (by decide +kernel)
set_option maxRecDepth 20000 in
theorem gX3_takeReference_X3_take : GoodIn wsX3_takeReference (wsV RX3 200 RX3 yX3_take wsX3_take) := goodIn_app (goodIn_of _ (by decide +kernel)) ggX3_takeReference_X3_take
set_option maxRecDepth 20000 in
theorem ggX3_takeReference_X5_isReference : GoodIn wsX3_takeReference wsX5_isReference := goodIn_r _ [20, 21, 22, 19, 23] rfl (by decide +kernel)
set_option maxRecDepth 20000 in
theorem gX3_takeReference_X5_isReference : GoodIn wsX3_takeReference (va_wsS RX3 116 yX5_isReference wsX5_isReference) := goodIn_app (goodIn_of _ (by decide +kernel)) ggX3_takeReference_X5_isReference
set_option maxRecDepth 20000 in
theorem ggX3_takeReference_X3_fail : GoodIn wsX3_takeReference wsX3_fail := goodIn_r _ [15, 16, 34, 35, 36, 37, 38, 39, 40, 41, 42, 43, 44, 45, 46, 47, 48, 49, 50, 51, 52, 53, 54, 55] rfl (by decide +kernel)
set_option maxRecDepth 20000 in
theorem gX3_takeReference_X3_fail : GoodIn wsX3_takeReference (wsV RX3 131 RX3 yX3_fail wsX3_fail) := goodIn_app (goodIn_of _ (by decide +kernel)) ggX3_takeReference_X3_fail
set_option maxRecDepth 20000 in
theorem ggX3_takeReference_X3_writes : GoodIn wsX3_takeReference wsX3_writes := goodIn_r _ [26, 27, 22, 19, 23] rfl (by decide +kernel)
set_option maxRecDepth 20000 in
theorem gX3_takeReference_X3_writes : GoodIn wsX3_takeReference (va_wsS RX3 204 yX3_writes wsX3_writes) := goodIn_app (goodIn_of _ (by decide +kernel)) ggX3_takeReference_X3_writes
set_option maxRecDepth 20000 in
theorem ggX3_takeReference_X5_pointee : GoodIn wsX3_takeReference wsX5_pointee := goodIn_r _ [30, 31, 32, 19, 33] rfl (by decide +kernel)
set_option maxRecDepth 20000 in
theorem gX3_takeReference_X5_pointee : GoodIn wsX3_takeReference (va_wsS RX3 207 yX5_pointee wsX5_pointee) := goodIn_app (goodIn_of _ (by decide +kernel)) ggX3_takeReference_X5_pointee
set_option maxRecDepth 20000 in
theorem ggX3_takeReferenceTo_X3_take : GoodIn wsX3_takeReferenceTo wsX3_take := goodIn_r _ [5, 6, 7, 8, 9, 10, 11, 12, 13, 14, 4, 15, 16, 34, 35, 36, 37, 38, 39, 40, 41, 42, 43, 44, 45, 46, 47, 48, 49, 50, 51, 52, 53, 54, 55] rfl (by decide +kernel)
set_option maxRecDepth 20000 in
theorem gX3_takeReferenceTo_X3_take : GoodIn wsX3_takeReferenceTo (wsV RX3 200 RX3 yX3_take wsX3_take) := goodIn_app (goodIn_of _ (by decide +kernel)) ggX3_takeReferenceTo_X3_take
set_option maxRecDepth 20000 in
theorem ggX3_takeReferenceTo_X5_isReference : GoodIn wsX3_takeReferenceTo wsX5_isReference := goodIn_r _ [20, 21, 22, 19, 23] rfl (by decide +kernel)
set_option maxRecDepth 20000 in
theorem gX3_takeReferenceTo_X5_isReference : GoodIn wsX3_takeReferenceTo (va_wsS RX3 116 yX5_isReference wsX5_isReference) := goodIn_app (goodIn_of _ (by decide +kernel)) ggX3_takeReferenceTo_X5_isReference
set_option maxRecDepth 20000 in
theorem ggX3_takeReferenceTo_X5_pointee : GoodIn wsX3_takeReferenceTo wsX5_pointee := goodIn_r _ [26, 27, 28, 19, 29] rfl (by decide +kernel)
set_option maxRecDepth 20000 in
theorem gX3_takeReferenceTo_X5_pointee : GoodIn wsX3_takeReferenceTo (va_wsS RX3 207 yX5_pointee wsX5_pointee) := goodIn_app (goodIn_of _ (by decide +kernel)) ggX3_takeReferenceTo_X5_pointee
set_option maxRecDepth 20000 in
theorem ggX3_takeReferenceTo_X3_fail : GoodIn wsX3_takeReferenceTo wsX3_fail := goodIn_r _ [15, 16, 34, 35, 36, 37, 38, 39, 40, 41, 42, 43, 44, 45, 46, 47, 48, 49, 50, 51, 52, 53, 54, 55] rfl (by decide +kernel)
set_option maxRecDepth 20000 in
theorem gX3_takeReferenceTo_X3_fail : GoodIn wsX3_takeReferenceTo (wsV RX3 131 RX3 yX3_fail wsX3_fail) := goodIn_app (goodIn_of _ (by decide +kernel)) ggX3_takeReferenceTo_X3_fail
set_option maxRecDepth 20000 in
theorem ggX3_takeReferenceTo_X3_writes : GoodIn wsX3_takeReferenceTo wsX3_writes := goodIn_r _ [32, 33, 22, 19, 23] rfl (by decide +kernel)
set_option maxRecDepth 20000 in
theorem gX3_takeReferenceTo_X3_writes : GoodIn wsX3_takeReferenceTo (va_wsS RX3 204 yX3_writes wsX3_writes) := goodIn_app (goodIn_of _ (by decide +kernel)) ggX3_takeReferenceTo_X3_writes
set_option maxRecDepth 20000 in
theorem ggX3_put_X3_putReference : GoodIn wsX3_put wsX3_putReference := goodIn_r _ [5, 6, 7, 8, 9, 10, 11, 12, 4, 13, 14, 15, 16, 17, 18, 19, 20, 21, 22, 23, 24, 25, 26, 27, 28, 29, 30, 31, 32, 33, 34, 35, 36] rfl (by decide +kernel)
set_option maxRecDepth 20000 in
theorem gX3_put_X3_putReference : GoodIn wsX3_put (wsV RX3 211 RX3 yX3_putReference wsX3_putReference) := goodIn_app (goodIn_of _ (by decide +kernel)) ggX3_put_X3_putReference
set_option maxRecDepth 20000 in
theorem ggX3_putReference_X3_fail : GoodIn wsX3_putReference wsX3_fail := goodIn_r _ [9, 10, 11, 12, 13, 14, 15, 16, 17, 18, 19, 20, 21, 22, 23, 24, 25, 26, 27, 28, 29, 30, 31, 32] rfl (by decide +kernel)
set_option maxRecDepth 20000 in
theorem gX3_putReference_X3_fail : GoodIn wsX3_putReference (wsV RX3 131 RX3 yX3_fail wsX3_fail) := goodIn_app (goodIn_of _ (by decide +kernel)) ggX3_putReference_X3_fail
set_option maxRecDepth 20000 in
theorem ggX3_isLive_X3_writes : GoodIn wsX3_isLive wsX3_writes := goodIn_r _ [9, 10, 11, 12, 13] rfl (by decide +kernel)
set_option maxRecDepth 20000 in
theorem gX3_isLive_X3_writes : GoodIn wsX3_isLive (va_wsS RX3 204 yX3_writes wsX3_writes) := goodIn_app (goodIn_of _ (by decide +kernel)) ggX3_isLive_X3_writes
set_option maxRecDepth 20000 in
theorem ggX3_isSole_X3_writes : GoodIn wsX3_isSole wsX3_writes := goodIn_r _ [11, 12, 13, 14, 15] rfl (by decide +kernel)
set_option maxRecDepth 20000 in
theorem gX3_isSole_X3_writes : GoodIn wsX3_isSole (va_wsS RX3 204 yX3_writes wsX3_writes) := goodIn_app (goodIn_of _ (by decide +kernel)) ggX3_isSole_X3_writes
set_option maxRecDepth 20000 in
theorem ggX3_steer_X3_take : GoodIn wsX3_steer wsX3_take := goodIn_r _ [7, 2, 8, 9, 10, 11, 12, 13, 14, 15, 6, 16, 17, 46, 47, 48, 49, 50, 51, 52, 53, 54, 55, 56, 57, 58, 59, 60, 61, 62, 63, 64, 65, 66, 67] rfl (by decide +kernel)
set_option maxRecDepth 20000 in
theorem gX3_steer_X3_take : GoodIn wsX3_steer (wsV RX3 200 RX3 yX3_take wsX3_take) := goodIn_app (goodIn_of _ (by decide +kernel)) ggX3_steer_X3_take
set_option maxRecDepth 20000 in
theorem ggX3_steer_X3_has : GoodIn wsX3_steer wsX3_has := goodIn_r _ [21, 22, 23, 24, 25, 26, 27, 28, 29, 30, 31, 32, 33, 34, 35, 36, 37, 38, 39, 40, 41, 46, 47, 48, 49, 50, 51, 52, 53, 54, 55, 56, 57, 58, 59, 60, 61, 62, 63, 64, 65, 66, 67, 68, 69, 70, 71, 72, 73, 74, 75, 76, 77, 78, 79, 80, 81, 82] rfl (by decide +kernel)
set_option maxRecDepth 20000 in
theorem gX3_steer_X3_has : GoodIn wsX3_steer (wsV RX3 215 RX3 yX3_has wsX3_has) := goodIn_app (goodIn_of _ (by decide +kernel)) ggX3_steer_X3_has
set_option maxRecDepth 20000 in
theorem ggX3_steer_X3_fail : GoodIn wsX3_steer wsX3_fail := goodIn_r _ [16, 17, 46, 47, 48, 49, 50, 51, 52, 53, 54, 55, 56, 57, 58, 59, 60, 61, 62, 63, 64, 65, 66, 67] rfl (by decide +kernel)
set_option maxRecDepth 20000 in
theorem gX3_steer_X3_fail : GoodIn wsX3_steer (wsV RX3 131 RX3 yX3_fail wsX3_fail) := goodIn_app (goodIn_of _ (by decide +kernel)) ggX3_steer_X3_fail
set_option maxRecDepth 20000 in
theorem ggX3_steer_X3_takeOnly : GoodIn wsX3_steer wsX3_takeOnly := goodIn_r _ [45, 3, 4, 5, 6, 7, 2, 8, 9, 10, 11, 12, 13, 14, 15, 16, 17, 46, 47, 48, 49, 50, 51, 52, 53, 54, 55, 56, 57, 58, 59, 60, 61, 62, 63, 64, 65, 66, 67] rfl (by decide +kernel)
set_option maxRecDepth 20000 in
theorem gX3_steer_X3_takeOnly : GoodIn wsX3_steer (wsV RX3 221 RX3 yX3_takeOnly wsX3_takeOnly) := goodIn_app (goodIn_of _ (by decide +kernel)) ggX3_steer_X3_takeOnly
set_option maxRecDepth 20000 in
theorem ggX3_giveBack_X5_gives : GoodIn wsX3_giveBack wsX5_gives := goodIn_r _ [14, 15, 16, 17, 13, 18, 19, 20, 21, 64, 65, 66, 67, 68, 69, 70, 71, 72, 73, 74, 75, 76, 77, 78] rfl (by decide +kernel)
set_option maxRecDepth 20000 in
theorem gX3_giveBack_X5_gives : GoodIn wsX3_giveBack (wsV RX3 225 RX5 yX5_gives wsX5_gives) := goodIn_app (goodIn_of _ (by decide +kernel)) ggX3_giveBack_X5_gives
set_option maxRecDepth 20000 in
theorem ggX3_giveBack_X5_givenType : GoodIn wsX3_giveBack wsX5_givenType := goodIn_r _ [25, 15, 16, 17, 13, 18, 19, 20, 21, 26, 27, 28, 29, 30, 31, 32, 33, 34, 35, 64, 65, 66, 67, 68, 69, 70, 71, 72, 73, 74, 75, 76, 77, 78] rfl (by decide +kernel)
set_option maxRecDepth 20000 in
theorem gX3_giveBack_X5_givenType : GoodIn wsX3_giveBack (wsV RX3 228 RX5 yX5_givenType wsX5_givenType) := goodIn_app (goodIn_of _ (by decide +kernel)) ggX3_giveBack_X5_givenType
set_option maxRecDepth 20000 in
theorem ggX3_giveBack_X3_fail : GoodIn wsX3_giveBack wsX3_fail := goodIn_r _ [40, 41, 42, 43, 44, 45, 46, 47, 48, 49, 50, 51, 52, 53, 54, 55, 56, 57, 58, 59, 60, 61, 62, 63] rfl (by decide +kernel)
set_option maxRecDepth 20000 in
theorem gX3_giveBack_X3_fail : GoodIn wsX3_giveBack (wsV RX3 131 RX3 yX3_fail wsX3_fail) := goodIn_app (goodIn_of _ (by decide +kernel)) ggX3_giveBack_X3_fail
set_option maxRecDepth 20000 in
theorem ggX3_set_X3_put : GoodIn wsX3_set wsX3_put := goodIn_r _ [9, 10, 11, 12, 8, 13, 14, 15, 16, 17, 18, 19, 20, 21, 22, 23, 24, 25, 26, 27, 28, 29, 30, 31, 32, 33, 34, 35, 36, 37, 38, 39, 40, 41, 42, 43, 44] rfl (by decide +kernel)
set_option maxRecDepth 20000 in
theorem gX3_set_X3_put : GoodIn wsX3_set (wsV RX3 233 RX3 yX3_put wsX3_put) := goodIn_app (goodIn_of _ (by decide +kernel)) ggX3_set_X3_put
set_option maxRecDepth 20000 in
theorem ggX3_useLocal_X5_isReference : GoodIn wsX3_useLocal wsX5_isReference := goodIn_r _ [12, 13, 14, 11, 15] rfl (by decide +kernel)
set_option maxRecDepth 20000 in
theorem gX3_useLocal_X5_isReference : GoodIn wsX3_useLocal (va_wsS RX3 116 yX5_isReference wsX5_isReference) := goodIn_app (goodIn_of _ (by decide +kernel)) ggX3_useLocal_X5_isReference
set_option maxRecDepth 20000 in
theorem ggX3_useLocal_X3_takeOnly : GoodIn wsX3_useLocal wsX3_takeOnly := goodIn_r _ [20, 21, 22, 23, 19, 24, 25, 26, 3, 27, 4, 28, 29, 30, 31, 32, 2, 73, 74, 75, 76, 77, 78, 79, 80, 81, 82, 83, 84, 85, 86, 87, 88, 89, 90, 91, 92, 93, 94] rfl (by decide +kernel)
set_option maxRecDepth 20000 in
theorem gX3_useLocal_X3_takeOnly : GoodIn wsX3_useLocal (wsV RX3 221 RX3 yX3_takeOnly wsX3_takeOnly) := goodIn_app (goodIn_of _ (by decide +kernel)) ggX3_useLocal_X3_takeOnly
set_option maxRecDepth 20000 in
theorem ggX3_useLocal_X3_isThere : GoodIn wsX3_useLocal wsX3_isThere := goodIn_r _ [36, 5, 73, 74, 75, 76, 77, 78, 79, 80, 81, 82, 83, 84, 85, 86, 87, 88, 89, 90, 91, 92, 93, 94] rfl (by decide +kernel)
set_option maxRecDepth 20000 in
theorem gX3_useLocal_X3_isThere : GoodIn wsX3_useLocal (wsV RX3 238 RX3 yX3_isThere wsX3_isThere) := goodIn_app (goodIn_of _ (by decide +kernel)) ggX3_useLocal_X3_isThere
set_option maxRecDepth 20000 in
theorem ggX3_useLocal_X3_has : GoodIn wsX3_useLocal wsX3_has := goodIn_r _ [40, 41, 42, 43, 44, 11, 45, 13, 14, 15, 46, 47, 48, 49, 50, 51, 52, 53, 54, 55, 56, 73, 74, 75, 76, 77, 78, 79, 80, 81, 82, 83, 84, 85, 86, 87, 88, 89, 90, 91, 92, 93, 94, 95, 96, 97, 98, 99, 100, 101, 102, 103, 104, 105, 106, 107, 108, 109] rfl (by decide +kernel)
set_option maxRecDepth 20000 in
theorem gX3_useLocal_X3_has : GoodIn wsX3_useLocal (wsV RX3 215 RX3 yX3_has wsX3_has) := goodIn_app (goodIn_of _ (by decide +kernel)) ggX3_useLocal_X3_has
set_option maxRecDepth 20000 in
theorem ggX3_useLocal_X3_fail : GoodIn wsX3_useLocal wsX3_fail := goodIn_r _ [32, 2, 73, 74, 75, 76, 77, 78, 79, 80, 81, 82, 83, 84, 85, 86, 87, 88, 89, 90, 91, 92, 93, 94] rfl (by decide +kernel)
set_option maxRecDepth 20000 in
theorem gX3_useLocal_X3_fail : GoodIn wsX3_useLocal (wsV RX3 131 RX3 yX3_fail wsX3_fail) := goodIn_app (goodIn_of _ (by decide +kernel)) ggX3_useLocal_X3_fail
set_option maxRecDepth 20000 in
theorem ggX3_useLocal_X3_isLive : GoodIn wsX3_useLocal wsX3_isLive := goodIn_r _ [60, 25, 26, 28, 6, 1, 61, 62, 19, 63, 64, 14, 11, 15, 73, 74, 75, 76, 77, 78, 79, 80, 81, 82, 83, 84, 85, 86, 87, 88, 89, 90, 91, 92, 93, 94] rfl (by decide +kernel)
set_option maxRecDepth 20000 in
theorem gX3_useLocal_X3_isLive : GoodIn wsX3_useLocal (wsV RX3 242 RX3 yX3_isLive wsX3_isLive) := goodIn_app (goodIn_of _ (by decide +kernel)) ggX3_useLocal_X3_isLive
set_option maxRecDepth 20000 in
theorem ggX3_useLocal_X3_setLocal : GoodIn wsX3_useLocal wsX3_setLocal := goodIn_r _ [68, 6, 7, 8, 73, 74, 75, 76, 77, 78, 79, 80, 81, 82, 83, 84, 85, 86, 87, 88, 89, 90, 91, 92, 93, 94] rfl (by decide +kernel)
set_option maxRecDepth 20000 in
theorem gX3_useLocal_X3_setLocal : GoodIn wsX3_useLocal (wsV RX3 246 RX3 yX3_setLocal wsX3_setLocal) := goodIn_app (goodIn_of _ (by decide +kernel)) ggX3_useLocal_X3_setLocal
set_option maxRecDepth 20000 in
theorem ggX3_useLocal_X3_putReference : GoodIn wsX3_useLocal wsX3_putReference := goodIn_r _ [72, 25, 28, 26, 27, 29, 30, 31, 19, 32, 2, 73, 74, 75, 76, 77, 78, 79, 80, 81, 82, 83, 84, 85, 86, 87, 88, 89, 90, 91, 92, 93, 94] rfl (by decide +kernel)
set_option maxRecDepth 20000 in
theorem gX3_useLocal_X3_putReference : GoodIn wsX3_useLocal (wsV RX3 211 RX3 yX3_putReference wsX3_putReference) := goodIn_app (goodIn_of _ (by decide +kernel)) ggX3_useLocal_X3_putReference
set_option maxRecDepth 20000 in
theorem ggX3_borrowLocal_X3_isThere : GoodIn wsX3_borrowLocal wsX3_isThere := goodIn_r _ [6, 7, 43, 44, 45, 46, 47, 48, 49, 50, 51, 52, 53, 54, 55, 56, 57, 58, 59, 60, 61, 62, 63, 64] rfl (by decide +kernel)
set_option maxRecDepth 20000 in
theorem gX3_borrowLocal_X3_isThere : GoodIn wsX3_borrowLocal (wsV RX3 238 RX3 yX3_isThere wsX3_isThere) := goodIn_app (goodIn_of _ (by decide +kernel)) ggX3_borrowLocal_X3_isThere
set_option maxRecDepth 20000 in
theorem ggX3_borrowLocal_X3_fail : GoodIn wsX3_borrowLocal wsX3_fail := goodIn_r _ [11, 12, 43, 44, 45, 46, 47, 48, 49, 50, 51, 52, 53, 54, 55, 56, 57, 58, 59, 60, 61, 62, 63, 64] rfl (by decide +kernel)
set_option maxRecDepth 20000 in
theorem gX3_borrowLocal_X3_fail : GoodIn wsX3_borrowLocal (wsV RX3 131 RX3 yX3_fail wsX3_fail) := goodIn_app (goodIn_of _ (by decide +kernel)) ggX3_borrowLocal_X3_fail
set_option maxRecDepth 20000 in
theorem ggX3_borrowLocal_X5_isReference : GoodIn wsX3_borrowLocal wsX5_isReference := goodIn_r _ [16, 17, 18, 15, 19] rfl (by decide +kernel)
set_option maxRecDepth 20000 in
theorem gX3_borrowLocal_X5_isReference : GoodIn wsX3_borrowLocal (va_wsS RX3 116 yX5_isReference wsX5_isReference) := goodIn_app (goodIn_of _ (by decide +kernel)) ggX3_borrowLocal_X5_isReference
set_option maxRecDepth 20000 in
theorem ggX3_borrowLocal_X3_isLive : GoodIn wsX3_borrowLocal wsX3_isLive := goodIn_r _ [23, 24, 25, 26, 27, 1, 28, 29, 5, 30, 31, 18, 15, 19, 43, 44, 45, 46, 47, 48, 49, 50, 51, 52, 53, 54, 55, 56, 57, 58, 59, 60, 61, 62, 63, 64] rfl (by decide +kernel)
set_option maxRecDepth 20000 in
theorem gX3_borrowLocal_X3_isLive : GoodIn wsX3_borrowLocal (wsV RX3 242 RX3 yX3_isLive wsX3_isLive) := goodIn_app (goodIn_of _ (by decide +kernel)) ggX3_borrowLocal_X3_isLive
set_option maxRecDepth 20000 in
theorem ggX3_borrowLocal_X5_prefixed : GoodIn wsX3_borrowLocal wsX5_prefixed := goodIn_r _ [34, 35, 36, 15, 37] rfl (by decide +kernel)
set_option maxRecDepth 20000 in
theorem gX3_borrowLocal_X5_prefixed : GoodIn wsX3_borrowLocal (va_wsS RX3 250 yX5_prefixed wsX5_prefixed) := goodIn_app (goodIn_of _ (by decide +kernel)) ggX3_borrowLocal_X5_prefixed
set_option maxRecDepth 20000 in
theorem ggX3_borrowLocal_X3_putReference : GoodIn wsX3_borrowLocal wsX3_putReference := goodIn_r _ [41, 24, 26, 25, 42, 8, 9, 10, 5, 11, 12, 43, 44, 45, 46, 47, 48, 49, 50, 51, 52, 53, 54, 55, 56, 57, 58, 59, 60, 61, 62, 63, 64] rfl (by decide +kernel)
set_option maxRecDepth 20000 in
theorem gX3_borrowLocal_X3_putReference : GoodIn wsX3_borrowLocal (wsV RX3 211 RX3 yX3_putReference wsX3_putReference) := goodIn_app (goodIn_of _ (by decide +kernel)) ggX3_borrowLocal_X3_putReference
set_option maxRecDepth 20000 in
theorem ggX3_refer_X5_structureType : GoodIn wsX3_refer wsX5_structureType := goodIn_r _ [7] rfl (by decide +kernel)
set_option maxRecDepth 20000 in
theorem gX3_refer_X5_structureType : GoodIn wsX3_refer (va_wsS RX3 254 yX5_structureType wsX5_structureType) := goodIn_app (goodIn_of _ (by decide +kernel)) ggX3_refer_X5_structureType
set_option maxRecDepth 20000 in
theorem ggX3_refer_X3_takeReferenceTo : GoodIn wsX3_refer wsX3_takeReferenceTo := goodIn_r _ [12, 13, 14, 15, 11, 16, 17, 18, 2, 19, 3, 20, 21, 22, 23, 24, 25, 26, 27, 6, 28, 29, 30, 31, 32, 33, 34, 35, 36, 37, 38, 39, 40, 41, 97, 98, 99, 100, 101, 102, 103, 104, 105, 106, 107, 108, 109, 110, 111, 112, 113, 114, 115, 116, 117, 118] rfl (by decide +kernel)
set_option maxRecDepth 20000 in
theorem gX3_refer_X3_takeReferenceTo : GoodIn wsX3_refer (wsV RX3 258 RX3 yX3_takeReferenceTo wsX3_takeReferenceTo) := goodIn_app (goodIn_of _ (by decide +kernel)) ggX3_refer_X3_takeReferenceTo
set_option maxRecDepth 20000 in
theorem ggX3_refer_X5_fieldType : GoodIn wsX3_refer wsX5_fieldType := goodIn_r _ [45, 46, 47, 48, 6, 49, 50, 51, 52, 53, 54, 55, 56, 57, 119, 120, 121, 122, 123, 124, 125, 126, 127, 128, 129, 130, 131, 132, 133] rfl (by decide +kernel)
set_option maxRecDepth 20000 in
theorem gX3_refer_X5_fieldType : GoodIn wsX3_refer (wsV RX3 262 RX5 yX5_fieldType wsX5_fieldType) := goodIn_app (goodIn_of _ (by decide +kernel)) ggX3_refer_X5_fieldType
set_option maxRecDepth 20000 in
theorem ggX3_refer_X5_prefixed : GoodIn wsX3_refer wsX5_prefixed := goodIn_r _ [60, 35, 36, 6, 37] rfl (by decide +kernel)
set_option maxRecDepth 20000 in
theorem gX3_refer_X5_prefixed : GoodIn wsX3_refer (va_wsS RX3 250 yX5_prefixed wsX5_prefixed) := goodIn_app (goodIn_of _ (by decide +kernel)) ggX3_refer_X5_prefixed
set_option maxRecDepth 20000 in
theorem ggX3_refer_X3_putReference : GoodIn wsX3_refer wsX3_putReference := goodIn_r _ [64, 17, 20, 18, 19, 21, 22, 23, 11, 24, 25, 97, 98, 99, 100, 101, 102, 103, 104, 105, 106, 107, 108, 109, 110, 111, 112, 113, 114, 115, 116, 117, 118] rfl (by decide +kernel)
set_option maxRecDepth 20000 in
theorem gX3_refer_X3_putReference : GoodIn wsX3_refer (wsV RX3 211 RX3 yX3_putReference wsX3_putReference) := goodIn_app (goodIn_of _ (by decide +kernel)) ggX3_refer_X3_putReference
set_option maxRecDepth 20000 in
theorem ggX3_refer_X3_takeReference : GoodIn wsX3_refer wsX3_takeReference := goodIn_r _ [68, 13, 14, 15, 11, 16, 17, 18, 2, 19, 3, 20, 21, 22, 23, 24, 25, 26, 27, 6, 28, 29, 30, 31, 38, 39, 40, 41, 32, 33, 34, 35, 36, 37, 97, 98, 99, 100, 101, 102, 103, 104, 105, 106, 107, 108, 109, 110, 111, 112, 113, 114, 115, 116, 117, 118] rfl (by decide +kernel)
set_option maxRecDepth 20000 in
theorem gX3_refer_X3_takeReference : GoodIn wsX3_refer (wsV RX3 265 RX3 yX3_takeReference wsX3_takeReference) := goodIn_app (goodIn_of _ (by decide +kernel)) ggX3_refer_X3_takeReference
set_option maxRecDepth 20000 in
theorem ggX3_refer_X3_has : GoodIn wsX3_refer wsX3_has := goodIn_r _ [72, 1, 73, 74, 75, 6, 76, 29, 30, 31, 77, 78, 79, 80, 81, 46, 47, 48, 49, 50, 51, 97, 98, 99, 100, 101, 102, 103, 104, 105, 106, 107, 108, 109, 110, 111, 112, 113, 114, 115, 116, 117, 118, 119, 120, 121, 122, 123, 124, 125, 126, 127, 128, 129, 130, 131, 132, 133] rfl (by decide +kernel)
set_option maxRecDepth 20000 in
theorem gX3_refer_X3_has : GoodIn wsX3_refer (wsV RX3 215 RX3 yX3_has wsX3_has) := goodIn_app (goodIn_of _ (by decide +kernel)) ggX3_refer_X3_has
set_option maxRecDepth 20000 in
theorem ggX3_refer_X3_fail : GoodIn wsX3_refer wsX3_fail := goodIn_r _ [24, 25, 97, 98, 99, 100, 101, 102, 103, 104, 105, 106, 107, 108, 109, 110, 111, 112, 113, 114, 115, 116, 117, 118] rfl (by decide +kernel)
set_option maxRecDepth 20000 in
theorem gX3_refer_X3_fail : GoodIn wsX3_refer (wsV RX3 131 RX3 yX3_fail wsX3_fail) := goodIn_app (goodIn_of _ (by decide +kernel)) ggX3_refer_X3_fail
set_option maxRecDepth 20000 in
theorem ggX3_refer_X3_put : GoodIn wsX3_refer wsX3_put := goodIn_r _ [85, 61, 62, 63, 11, 64, 17, 20, 18, 19, 21, 22, 23, 24, 25, 97, 98, 99, 100, 101, 102, 103, 104, 105, 106, 107, 108, 109, 110, 111, 112, 113, 114, 115, 116, 117, 118] rfl (by decide +kernel)
set_option maxRecDepth 20000 in
theorem gX3_refer_X3_put : GoodIn wsX3_refer (wsV RX3 233 RX3 yX3_put wsX3_put) := goodIn_app (goodIn_of _ (by decide +kernel)) ggX3_refer_X3_put
set_option maxRecDepth 20000 in
theorem ggX3_refer_X3_takeOnly : GoodIn wsX3_refer wsX3_takeOnly := goodIn_r _ [89, 13, 14, 15, 11, 16, 17, 18, 2, 19, 3, 20, 21, 22, 23, 24, 25, 97, 98, 99, 100, 101, 102, 103, 104, 105, 106, 107, 108, 109, 110, 111, 112, 113, 114, 115, 116, 117, 118] rfl (by decide +kernel)
set_option maxRecDepth 20000 in
theorem gX3_refer_X3_takeOnly : GoodIn wsX3_refer (wsV RX3 221 RX3 yX3_takeOnly wsX3_takeOnly) := goodIn_app (goodIn_of _ (by decide +kernel)) ggX3_refer_X3_takeOnly
set_option maxRecDepth 20000 in
theorem ggX3_refer_X5_abilities : GoodIn wsX3_refer wsX5_abilities := goodIn_r _ [76, 29, 30, 6, 31, 77, 78, 79, 80, 81, 46, 47, 48, 49, 50, 51, 119, 120, 121, 122, 123, 124, 125, 126, 127, 128, 129, 130, 131, 132, 133] rfl (by decide +kernel)
set_option maxRecDepth 20000 in
theorem gX3_refer_X5_abilities : GoodIn wsX3_refer (wsV RX3 120 RX5 yX5_abilities wsX5_abilities) := goodIn_app (goodIn_of _ (by decide +kernel)) ggX3_refer_X5_abilities
set_option maxRecDepth 20000 in
theorem ggX3_refer_X3_isSole : GoodIn wsX3_refer wsX3_isSole := goodIn_r _ [93, 17, 18, 19, 20, 94, 95, 96, 38, 39, 11, 40, 41, 30, 6, 31, 97, 98, 99, 100, 101, 102, 103, 104, 105, 106, 107, 108, 109, 110, 111, 112, 113, 114, 115, 116, 117, 118] rfl (by decide +kernel)
set_option maxRecDepth 20000 in
theorem gX3_refer_X3_isSole : GoodIn wsX3_refer (wsV RX3 269 RX3 yX3_isSole wsX3_isSole) := goodIn_app (goodIn_of _ (by decide +kernel)) ggX3_refer_X3_isSole
set_option maxRecDepth 20000 in
theorem ggX3_pack_X5_fieldCount : GoodIn wsX3_pack wsX5_fieldCount := goodIn_r _ [6, 7, 8, 9, 5, 10, 11, 12, 76, 77, 78, 79, 80, 81, 82, 83, 84, 85, 86, 87, 88, 89, 90] rfl (by decide +kernel)
set_option maxRecDepth 20000 in
theorem gX3_pack_X5_fieldCount : GoodIn wsX3_pack (wsV RX3 272 RX5 yX5_fieldCount wsX5_fieldCount) := goodIn_app (goodIn_of _ (by decide +kernel)) ggX3_pack_X5_fieldCount
set_option maxRecDepth 20000 in
theorem ggX3_pack_X5_fieldType : GoodIn wsX3_pack wsX5_fieldType := goodIn_r _ [16, 7, 8, 9, 5, 10, 11, 12, 17, 18, 19, 20, 21, 22, 76, 77, 78, 79, 80, 81, 82, 83, 84, 85, 86, 87, 88, 89, 90] rfl (by decide +kernel)
set_option maxRecDepth 20000 in
theorem gX3_pack_X5_fieldType : GoodIn wsX3_pack (wsV RX3 262 RX5 yX5_fieldType wsX5_fieldType) := goodIn_app (goodIn_of _ (by decide +kernel)) ggX3_pack_X5_fieldType
set_option maxRecDepth 20000 in
theorem ggX3_pack_X3_takeOnly : GoodIn wsX3_pack wsX3_takeOnly := goodIn_r _ [27, 28, 29, 30, 26, 31, 32, 33, 34, 35, 36, 37, 38, 39, 40, 41, 42, 54, 55, 56, 57, 58, 59, 60, 61, 62, 63, 64, 65, 66, 67, 68, 69, 70, 71, 72, 73, 74, 75] rfl (by decide +kernel)
set_option maxRecDepth 20000 in
theorem gX3_pack_X3_takeOnly : GoodIn wsX3_pack (wsV RX3 221 RX3 yX3_takeOnly wsX3_takeOnly) := goodIn_app (goodIn_of _ (by decide +kernel)) ggX3_pack_X3_takeOnly
set_option maxRecDepth 20000 in
theorem ggX3_pack_X5_structureType : GoodIn wsX3_pack wsX5_structureType := goodIn_r _ [45] rfl (by decide +kernel)
set_option maxRecDepth 20000 in
theorem gX3_pack_X5_structureType : GoodIn wsX3_pack (va_wsS RX3 254 yX5_structureType wsX5_structureType) := goodIn_app (goodIn_of _ (by decide +kernel)) ggX3_pack_X5_structureType
set_option maxRecDepth 20000 in
theorem ggX3_pack_X3_put : GoodIn wsX3_pack wsX3_put := goodIn_r _ [49, 50, 51, 52, 26, 53, 32, 37, 33, 35, 38, 39, 40, 41, 42, 54, 55, 56, 57, 58, 59, 60, 61, 62, 63, 64, 65, 66, 67, 68, 69, 70, 71, 72, 73, 74, 75] rfl (by decide +kernel)
set_option maxRecDepth 20000 in
theorem gX3_pack_X3_put : GoodIn wsX3_pack (wsV RX3 233 RX3 yX3_put wsX3_put) := goodIn_app (goodIn_of _ (by decide +kernel)) ggX3_pack_X3_put
set_option maxRecDepth 20000 in
theorem ggX3_enter_X5_takes : GoodIn wsX3_enter wsX5_takes := goodIn_r _ [12, 13, 14, 15, 11, 16, 17, 18, 19, 110, 111, 112, 113, 114, 115, 116, 117, 118, 119, 120, 121, 122, 123, 124] rfl (by decide +kernel)
set_option maxRecDepth 20000 in
theorem gX3_enter_X5_takes : GoodIn wsX3_enter (wsV RX3 102 RX5 yX5_takes wsX5_takes) := goodIn_app (goodIn_of _ (by decide +kernel)) ggX3_enter_X5_takes
set_option maxRecDepth 20000 in
theorem ggX3_enter_X5_takenType : GoodIn wsX3_enter wsX5_takenType := goodIn_r _ [23, 13, 14, 15, 11, 16, 17, 18, 19, 24, 25, 26, 27, 28, 29, 110, 111, 112, 113, 114, 115, 116, 117, 118, 119, 120, 121, 122, 123, 124] rfl (by decide +kernel)
set_option maxRecDepth 20000 in
theorem gX3_enter_X5_takenType : GoodIn wsX3_enter (wsV RX3 275 RX5 yX5_takenType wsX5_takenType) := goodIn_app (goodIn_of _ (by decide +kernel)) ggX3_enter_X5_takenType
set_option maxRecDepth 20000 in
theorem ggX3_enter_X3_takeOnly : GoodIn wsX3_enter wsX3_takeOnly := goodIn_r _ [34, 35, 36, 37, 33, 38, 4, 6, 39, 40, 41, 5, 42, 43, 44, 45, 2, 88, 89, 90, 91, 92, 93, 94, 95, 96, 97, 98, 99, 100, 101, 102, 103, 104, 105, 106, 107, 108, 109] rfl (by decide +kernel)
set_option maxRecDepth 20000 in
theorem gX3_enter_X3_takeOnly : GoodIn wsX3_enter (wsV RX3 221 RX3 yX3_takeOnly wsX3_takeOnly) := goodIn_app (goodIn_of _ (by decide +kernel)) ggX3_enter_X3_takeOnly
set_option maxRecDepth 20000 in
theorem ggX3_enter_X5_flags : GoodIn wsX3_enter wsX5_flags := goodIn_r _ [49, 13, 14, 15, 11, 16, 17, 18, 19, 110, 111, 112, 113, 114, 115, 116, 117, 118, 119, 120, 121, 122, 123, 124] rfl (by decide +kernel)
set_option maxRecDepth 20000 in
theorem gX3_enter_X5_flags : GoodIn wsX3_enter (wsV RX3 278 RX5 yX5_flags wsX5_flags) := goodIn_app (goodIn_of _ (by decide +kernel)) ggX3_enter_X5_flags
set_option maxRecDepth 20000 in
theorem ggX3_enter_X3_fail : GoodIn wsX3_enter wsX3_fail := goodIn_r _ [45, 2, 88, 89, 90, 91, 92, 93, 94, 95, 96, 97, 98, 99, 100, 101, 102, 103, 104, 105, 106, 107, 108, 109] rfl (by decide +kernel)
set_option maxRecDepth 20000 in
theorem gX3_enter_X3_fail : GoodIn wsX3_enter (wsV RX3 131 RX3 yX3_fail wsX3_fail) := goodIn_app (goodIn_of _ (by decide +kernel)) ggX3_enter_X3_fail
set_option maxRecDepth 20000 in
theorem ggX3_enter_X3_writes : GoodIn wsX3_enter wsX3_writes := goodIn_r _ [52, 53, 54, 11, 55] rfl (by decide +kernel)
set_option maxRecDepth 20000 in
theorem gX3_enter_X3_writes : GoodIn wsX3_enter (va_wsS RX3 204 yX3_writes wsX3_writes) := goodIn_app (goodIn_of _ (by decide +kernel)) ggX3_enter_X3_writes
set_option maxRecDepth 20000 in
theorem ggX3_enter_X3_isSole : GoodIn wsX3_enter wsX3_isSole := goodIn_r _ [59, 4, 6, 40, 5, 60, 61, 62, 50, 51, 33, 52, 53, 54, 11, 55, 88, 89, 90, 91, 92, 93, 94, 95, 96, 97, 98, 99, 100, 101, 102, 103, 104, 105, 106, 107, 108, 109] rfl (by decide +kernel)
set_option maxRecDepth 20000 in
theorem gX3_enter_X3_isSole : GoodIn wsX3_enter (wsV RX3 269 RX3 yX3_isSole wsX3_isSole) := goodIn_app (goodIn_of _ (by decide +kernel)) ggX3_enter_X3_isSole
set_option maxRecDepth 20000 in
theorem ggX3_enter_X3_meetsOther : GoodIn wsX3_enter wsX3_meetsOther := goodIn_r _ [66, 4, 6, 88, 89, 90, 91, 92, 93, 94, 95, 96, 97, 98, 99, 100, 101, 102, 103, 104, 105, 106, 107, 108, 109] rfl (by decide +kernel)
set_option maxRecDepth 20000 in
theorem gX3_enter_X3_meetsOther : GoodIn wsX3_enter (wsV RX3 281 RX3 yX3_meetsOther wsX3_meetsOther) := goodIn_app (goodIn_of _ (by decide +kernel)) ggX3_enter_X3_meetsOther
set_option maxRecDepth 20000 in
theorem ggX3_enter_X3_isLive : GoodIn wsX3_enter wsX3_isLive := goodIn_r _ [70, 4, 6, 5, 60, 62, 50, 51, 33, 52, 53, 54, 11, 55, 88, 89, 90, 91, 92, 93, 94, 95, 96, 97, 98, 99, 100, 101, 102, 103, 104, 105, 106, 107, 108, 109] rfl (by decide +kernel)
set_option maxRecDepth 20000 in
theorem gX3_enter_X3_isLive : GoodIn wsX3_enter (wsV RX3 242 RX3 yX3_isLive wsX3_isLive) := goodIn_app (goodIn_of _ (by decide +kernel)) ggX3_enter_X3_isLive
set_option maxRecDepth 20000 in
theorem ggX3_enter_X5_gives : GoodIn wsX3_enter wsX5_gives := goodIn_r _ [74, 13, 14, 15, 11, 16, 17, 18, 19, 110, 111, 112, 113, 114, 115, 116, 117, 118, 119, 120, 121, 122, 123, 124] rfl (by decide +kernel)
set_option maxRecDepth 20000 in
theorem gX3_enter_X5_gives : GoodIn wsX3_enter (wsV RX3 225 RX5 yX5_gives wsX5_gives) := goodIn_app (goodIn_of _ (by decide +kernel)) ggX3_enter_X5_gives
set_option maxRecDepth 20000 in
theorem ggX3_enter_X5_givenType : GoodIn wsX3_enter wsX5_givenType := goodIn_r _ [78, 13, 14, 15, 11, 16, 17, 18, 19, 79, 9, 10, 12, 24, 25, 26, 27, 28, 29, 110, 111, 112, 113, 114, 115, 116, 117, 118, 119, 120, 121, 122, 123, 124] rfl (by decide +kernel)
set_option maxRecDepth 20000 in
theorem gX3_enter_X5_givenType : GoodIn wsX3_enter (wsV RX3 228 RX5 yX5_givenType wsX5_givenType) := goodIn_app (goodIn_of _ (by decide +kernel)) ggX3_enter_X5_givenType
set_option maxRecDepth 20000 in
theorem ggX3_enter_X5_isReference : GoodIn wsX3_enter wsX5_isReference := goodIn_r _ [82, 83, 54, 11, 55] rfl (by decide +kernel)
set_option maxRecDepth 20000 in
theorem gX3_enter_X5_isReference : GoodIn wsX3_enter (va_wsS RX3 116 yX5_isReference wsX5_isReference) := goodIn_app (goodIn_of _ (by decide +kernel)) ggX3_enter_X5_isReference
set_option maxRecDepth 20000 in
theorem ggX3_enter_X3_putReference : GoodIn wsX3_enter wsX3_putReference := goodIn_r _ [87, 4, 5, 6, 40, 42, 43, 44, 33, 45, 2, 88, 89, 90, 91, 92, 93, 94, 95, 96, 97, 98, 99, 100, 101, 102, 103, 104, 105, 106, 107, 108, 109] rfl (by decide +kernel)
set_option maxRecDepth 20000 in
theorem gX3_enter_X3_putReference : GoodIn wsX3_enter (wsV RX3 211 RX3 yX3_putReference wsX3_putReference) := goodIn_app (goodIn_of _ (by decide +kernel)) ggX3_enter_X3_putReference
set_option maxRecDepth 20000 in
theorem ggX3_reckon_X3_takeOnly : GoodIn wsX3_reckon wsX3_takeOnly := goodIn_r _ [6, 7, 8, 9, 5, 10, 11, 12, 13, 14, 15, 16, 17, 18, 19, 20, 21, 61, 62, 63, 64, 65, 66, 67, 68, 69, 70, 71, 72, 73, 74, 75, 76, 77, 78, 79, 80, 81, 82] rfl (by decide +kernel)
set_option maxRecDepth 20000 in
theorem gX3_reckon_X3_takeOnly : GoodIn wsX3_reckon (wsV RX3 221 RX3 yX3_takeOnly wsX3_takeOnly) := goodIn_app (goodIn_of _ (by decide +kernel)) ggX3_reckon_X3_takeOnly
set_option maxRecDepth 20000 in
theorem ggX3_reckon_X3_take : GoodIn wsX3_reckon wsX3_take := goodIn_r _ [10, 11, 12, 13, 14, 15, 16, 17, 18, 19, 5, 20, 21, 61, 62, 63, 64, 65, 66, 67, 68, 69, 70, 71, 72, 73, 74, 75, 76, 77, 78, 79, 80, 81, 82] rfl (by decide +kernel)
set_option maxRecDepth 20000 in
theorem gX3_reckon_X3_take : GoodIn wsX3_reckon (wsV RX3 200 RX3 yX3_take wsX3_take) := goodIn_app (goodIn_of _ (by decide +kernel)) ggX3_reckon_X3_take
set_option maxRecDepth 20000 in
theorem ggX3_reckon_X3_isNumber : GoodIn wsX3_reckon wsX3_isNumber := goodIn_r _ [24, 1, 25] rfl (by decide +kernel)
set_option maxRecDepth 20000 in
theorem gX3_reckon_X3_isNumber : GoodIn wsX3_reckon (va_wsS RX3 287 yX3_isNumber wsX3_isNumber) := goodIn_app (goodIn_of _ (by decide +kernel)) ggX3_reckon_X3_isNumber
set_option maxRecDepth 20000 in
theorem ggX3_reckon_X5_isReference : GoodIn wsX3_reckon wsX5_isReference := goodIn_r _ [29, 30, 31, 28, 32] rfl (by decide +kernel)
set_option maxRecDepth 20000 in
theorem gX3_reckon_X5_isReference : GoodIn wsX3_reckon (va_wsS RX3 116 yX5_isReference wsX5_isReference) := goodIn_app (goodIn_of _ (by decide +kernel)) ggX3_reckon_X5_isReference
set_option maxRecDepth 20000 in
theorem ggX3_reckon_X3_fail : GoodIn wsX3_reckon wsX3_fail := goodIn_r _ [20, 21, 61, 62, 63, 64, 65, 66, 67, 68, 69, 70, 71, 72, 73, 74, 75, 76, 77, 78, 79, 80, 81, 82] rfl (by decide +kernel)
set_option maxRecDepth 20000 in
theorem gX3_reckon_X3_fail : GoodIn wsX3_reckon (wsV RX3 131 RX3 yX3_fail wsX3_fail) := goodIn_app (goodIn_of _ (by decide +kernel)) ggX3_reckon_X3_fail
set_option maxRecDepth 20000 in
theorem ggX3_reckon_X3_has : GoodIn wsX3_reckon wsX3_has := goodIn_r _ [36, 37, 38, 39, 40, 28, 41, 30, 31, 32, 42, 43, 44, 45, 46, 47, 48, 49, 50, 51, 52, 61, 62, 63, 64, 65, 66, 67, 68, 69, 70, 71, 72, 73, 74, 75, 76, 77, 78, 79, 80, 81, 82, 83, 84, 85, 86, 87, 88, 89, 90, 91, 92, 93, 94, 95, 96, 97] rfl (by decide +kernel)
set_option maxRecDepth 20000 in
theorem gX3_reckon_X3_has : GoodIn wsX3_reckon (wsV RX3 215 RX3 yX3_has wsX3_has) := goodIn_app (goodIn_of _ (by decide +kernel)) ggX3_reckon_X3_has
set_option maxRecDepth 20000 in
theorem ggX3_reckon_X3_put : GoodIn wsX3_reckon wsX3_put := goodIn_r _ [56, 57, 58, 59, 5, 60, 11, 16, 12, 14, 17, 18, 19, 20, 21, 61, 62, 63, 64, 65, 66, 67, 68, 69, 70, 71, 72, 73, 74, 75, 76, 77, 78, 79, 80, 81, 82] rfl (by decide +kernel)
set_option maxRecDepth 20000 in
theorem gX3_reckon_X3_put : GoodIn wsX3_reckon (wsV RX3 233 RX3 yX3_put wsX3_put) := goodIn_app (goodIn_of _ (by decide +kernel)) ggX3_reckon_X3_put
set_option maxRecDepth 20000 in
theorem ggX3_keep_X5_structureType : GoodIn wsX3_keep wsX5_structureType := goodIn_r _ [7] rfl (by decide +kernel)
set_option maxRecDepth 20000 in
theorem gX3_keep_X5_structureType : GoodIn wsX3_keep (va_wsS RX3 254 yX5_structureType wsX5_structureType) := goodIn_app (goodIn_of _ (by decide +kernel)) ggX3_keep_X5_structureType
set_option maxRecDepth 20000 in
theorem ggX3_keep_X3_takeOnly : GoodIn wsX3_keep wsX3_takeOnly := goodIn_r _ [12, 13, 14, 15, 11, 16, 17, 18, 19, 20, 21, 22, 23, 24, 25, 26, 27, 85, 86, 87, 88, 89, 90, 91, 92, 93, 94, 95, 96, 97, 98, 99, 100, 101, 102, 103, 104, 105, 106] rfl (by decide +kernel)
set_option maxRecDepth 20000 in
theorem gX3_keep_X3_takeOnly : GoodIn wsX3_keep (wsV RX3 221 RX3 yX3_takeOnly wsX3_takeOnly) := goodIn_app (goodIn_of _ (by decide +kernel)) ggX3_keep_X3_takeOnly
set_option maxRecDepth 20000 in
theorem ggX3_keep_X5_flags : GoodIn wsX3_keep wsX5_flags := goodIn_r _ [31, 32, 33, 34, 6, 35, 36, 37, 38, 107, 108, 109, 110, 111, 112, 113, 114, 115, 116, 117, 118, 119, 120, 121] rfl (by decide +kernel)
set_option maxRecDepth 20000 in
theorem gX3_keep_X5_flags : GoodIn wsX3_keep (wsV RX3 278 RX5 yX5_flags wsX5_flags) := goodIn_app (goodIn_of _ (by decide +kernel)) ggX3_keep_X5_flags
set_option maxRecDepth 20000 in
theorem ggX3_keep_X3_fail : GoodIn wsX3_keep wsX3_fail := goodIn_r _ [26, 27, 85, 86, 87, 88, 89, 90, 91, 92, 93, 94, 95, 96, 97, 98, 99, 100, 101, 102, 103, 104, 105, 106] rfl (by decide +kernel)
set_option maxRecDepth 20000 in
theorem gX3_keep_X3_fail : GoodIn wsX3_keep (wsV RX3 131 RX3 yX3_fail wsX3_fail) := goodIn_app (goodIn_of _ (by decide +kernel)) ggX3_keep_X3_fail
set_option maxRecDepth 20000 in
theorem ggX3_keep_X3_has : GoodIn wsX3_keep wsX3_has := goodIn_r _ [42, 2, 43, 44, 45, 6, 46, 47, 48, 49, 50, 51, 52, 53, 54, 55, 56, 57, 58, 59, 60, 85, 86, 87, 88, 89, 90, 91, 92, 93, 94, 95, 96, 97, 98, 99, 100, 101, 102, 103, 104, 105, 106, 107, 108, 109, 110, 111, 112, 113, 114, 115, 116, 117, 118, 119, 120, 121] rfl (by decide +kernel)
set_option maxRecDepth 20000 in
theorem gX3_keep_X3_has : GoodIn wsX3_keep (wsV RX3 215 RX3 yX3_has wsX3_has) := goodIn_app (goodIn_of _ (by decide +kernel)) ggX3_keep_X3_has
set_option maxRecDepth 20000 in
theorem ggX3_keep_X3_isLive : GoodIn wsX3_keep wsX3_isLive := goodIn_r _ [64, 17, 18, 22, 65, 66, 67, 68, 11, 69, 70, 48, 6, 49, 85, 86, 87, 88, 89, 90, 91, 92, 93, 94, 95, 96, 97, 98, 99, 100, 101, 102, 103, 104, 105, 106] rfl (by decide +kernel)
set_option maxRecDepth 20000 in
theorem gX3_keep_X3_isLive : GoodIn wsX3_keep (wsV RX3 242 RX3 yX3_isLive wsX3_isLive) := goodIn_app (goodIn_of _ (by decide +kernel)) ggX3_keep_X3_isLive
set_option maxRecDepth 20000 in
theorem ggX3_keep_X3_put : GoodIn wsX3_keep wsX3_put := goodIn_r _ [74, 75, 76, 77, 11, 78, 17, 22, 18, 20, 23, 24, 25, 26, 27, 85, 86, 87, 88, 89, 90, 91, 92, 93, 94, 95, 96, 97, 98, 99, 100, 101, 102, 103, 104, 105, 106] rfl (by decide +kernel)
set_option maxRecDepth 20000 in
theorem gX3_keep_X3_put : GoodIn wsX3_keep (wsV RX3 233 RX3 yX3_put wsX3_put) := goodIn_app (goodIn_of _ (by decide +kernel)) ggX3_keep_X3_put
set_option maxRecDepth 20000 in
theorem ggX3_keep_X5_prefixed : GoodIn wsX3_keep wsX5_prefixed := goodIn_r _ [81, 82, 83, 6, 84] rfl (by decide +kernel)
set_option maxRecDepth 20000 in
theorem gX3_keep_X5_prefixed : GoodIn wsX3_keep (va_wsS RX3 250 yX5_prefixed wsX5_prefixed) := goodIn_app (goodIn_of _ (by decide +kernel)) ggX3_keep_X5_prefixed
set_option maxRecDepth 20000 in
theorem ggX3_keep_X3_putReference : GoodIn wsX3_keep wsX3_putReference := goodIn_r _ [78, 17, 22, 18, 20, 23, 24, 25, 11, 26, 27, 85, 86, 87, 88, 89, 90, 91, 92, 93, 94, 95, 96, 97, 98, 99, 100, 101, 102, 103, 104, 105, 106] rfl (by decide +kernel)
set_option maxRecDepth 20000 in
theorem gX3_keep_X3_putReference : GoodIn wsX3_keep (wsV RX3 211 RX3 yX3_putReference wsX3_putReference) := goodIn_app (goodIn_of _ (by decide +kernel)) ggX3_keep_X3_putReference
set_option maxRecDepth 20000 in
theorem ggX3_lineUp_X5_elementType : GoodIn wsX3_lineUp wsX5_elementType := goodIn_r _ [9, 10, 11, 12, 13, 8, 14, 15, 16, 96, 97, 98, 99, 100, 101, 102, 103, 104, 105, 106, 107, 108, 109, 110] rfl (by decide +kernel)
set_option maxRecDepth 20000 in
theorem gX3_lineUp_X5_elementType : GoodIn wsX3_lineUp (wsV RX3 290 RX5 yX5_elementType wsX5_elementType) := goodIn_app (goodIn_of _ (by decide +kernel)) ggX3_lineUp_X5_elementType
set_option maxRecDepth 20000 in
theorem ggX3_lineUp_X5_prefixed : GoodIn wsX3_lineUp wsX5_prefixed := goodIn_r _ [19, 20, 21, 8, 22] rfl (by decide +kernel)
set_option maxRecDepth 20000 in
theorem gX3_lineUp_X5_prefixed : GoodIn wsX3_lineUp (va_wsS RX3 250 yX5_prefixed wsX5_prefixed) := goodIn_app (goodIn_of _ (by decide +kernel)) ggX3_lineUp_X5_prefixed
set_option maxRecDepth 20000 in
theorem ggX3_lineUp_X3_takeOnly : GoodIn wsX3_lineUp wsX3_takeOnly := goodIn_r _ [27, 28, 29, 30, 26, 31, 32, 33, 4, 34, 35, 36, 37, 38, 39, 40, 41, 74, 75, 76, 77, 78, 79, 80, 81, 82, 83, 84, 85, 86, 87, 88, 89, 90, 91, 92, 93, 94, 95] rfl (by decide +kernel)
set_option maxRecDepth 20000 in
theorem gX3_lineUp_X3_takeOnly : GoodIn wsX3_lineUp (wsV RX3 221 RX3 yX3_takeOnly wsX3_takeOnly) := goodIn_app (goodIn_of _ (by decide +kernel)) ggX3_lineUp_X3_takeOnly
set_option maxRecDepth 20000 in
theorem ggX3_lineUp_X3_put : GoodIn wsX3_lineUp wsX3_put := goodIn_r _ [45, 46, 47, 48, 26, 49, 32, 36, 33, 34, 37, 38, 39, 40, 41, 74, 75, 76, 77, 78, 79, 80, 81, 82, 83, 84, 85, 86, 87, 88, 89, 90, 91, 92, 93, 94, 95] rfl (by decide +kernel)
set_option maxRecDepth 20000 in
theorem gX3_lineUp_X3_put : GoodIn wsX3_lineUp (wsV RX3 233 RX3 yX3_put wsX3_put) := goodIn_app (goodIn_of _ (by decide +kernel)) ggX3_lineUp_X3_put
set_option maxRecDepth 20000 in
theorem ggX3_lineUp_X3_takeReferenceTo : GoodIn wsX3_lineUp wsX3_takeReferenceTo := goodIn_r _ [53, 28, 29, 30, 26, 31, 32, 33, 4, 34, 35, 36, 37, 38, 39, 40, 41, 54, 55, 8, 56, 57, 58, 59, 60, 61, 62, 20, 21, 22, 63, 64, 65, 66, 74, 75, 76, 77, 78, 79, 80, 81, 82, 83, 84, 85, 86, 87, 88, 89, 90, 91, 92, 93, 94, 95] rfl (by decide +kernel)
set_option maxRecDepth 20000 in
theorem gX3_lineUp_X3_takeReferenceTo : GoodIn wsX3_lineUp (wsV RX3 258 RX3 yX3_takeReferenceTo wsX3_takeReferenceTo) := goodIn_app (goodIn_of _ (by decide +kernel)) ggX3_lineUp_X3_takeReferenceTo
set_option maxRecDepth 20000 in
theorem ggX3_lineUp_X3_isSole : GoodIn wsX3_lineUp wsX3_isSole := goodIn_r _ [70, 32, 33, 34, 36, 71, 72, 73, 63, 64, 26, 65, 66, 58, 8, 59, 74, 75, 76, 77, 78, 79, 80, 81, 82, 83, 84, 85, 86, 87, 88, 89, 90, 91, 92, 93, 94, 95] rfl (by decide +kernel)
set_option maxRecDepth 20000 in
theorem gX3_lineUp_X3_isSole : GoodIn wsX3_lineUp (wsV RX3 269 RX3 yX3_isSole wsX3_isSole) := goodIn_app (goodIn_of _ (by decide +kernel)) ggX3_lineUp_X3_isSole
set_option maxRecDepth 20000 in
theorem ggX3_lineUp_X3_fail : GoodIn wsX3_lineUp wsX3_fail := goodIn_r _ [40, 41, 74, 75, 76, 77, 78, 79, 80, 81, 82, 83, 84, 85, 86, 87, 88, 89, 90, 91, 92, 93, 94, 95] rfl (by decide +kernel)
set_option maxRecDepth 20000 in
theorem gX3_lineUp_X3_fail : GoodIn wsX3_lineUp (wsV RX3 131 RX3 yX3_fail wsX3_fail) := goodIn_app (goodIn_of _ (by decide +kernel)) ggX3_lineUp_X3_fail
set_option maxRecDepth 20000 in
theorem ggX3_lineUp_X3_putReference : GoodIn wsX3_lineUp wsX3_putReference := goodIn_r _ [49, 32, 36, 33, 34, 37, 38, 39, 26, 40, 41, 74, 75, 76, 77, 78, 79, 80, 81, 82, 83, 84, 85, 86, 87, 88, 89, 90, 91, 92, 93, 94, 95] rfl (by decide +kernel)
set_option maxRecDepth 20000 in
theorem gX3_lineUp_X3_putReference : GoodIn wsX3_lineUp (wsV RX3 211 RX3 yX3_putReference wsX3_putReference) := goodIn_app (goodIn_of _ (by decide +kernel)) ggX3_lineUp_X3_putReference
set_option maxRecDepth 20000 in
theorem ggX4_run_X1_clear : GoodIn wsX4_run wsX1_clear := goodIn_r _ [32, 33, 582, 583, 584, 585, 586, 587, 588] rfl (by decide +kernel)
set_option maxRecDepth 20000 in
theorem gX4_run_X1_clear : GoodIn wsX4_run (wsV RX4 93 RX1 yX1_clear wsX1_clear) := goodIn_app (goodIn_of _ (by decide +kernel)) ggX4_run_X1_clear
set_option maxRecDepth 20000 in
theorem ggX4_run_X2_open : GoodIn wsX4_run wsX2_open := goodIn_r _ [38, 39, 40, 41, 42, 43, 44, 37, 45, 46, 47, 48, 49, 50, 51, 52, 53, 54, 55, 56, 57, 58, 59, 60, 61, 62, 63, 64, 65, 66, 67, 68, 69, 70, 71, 72, 73, 74, 31, 75, 76, 77, 78, 79, 80, 81, 82, 83, 84, 85, 86, 87, 88, 89, 90, 91, 33, 92, 93, 94, 95, 96, 97, 98, 99, 589, 590, 591, 592, 593, 594, 595, 596, 597, 598, 599, 563, 564, 565, 566, 567, 568, 569, 570, 571, 572, 573, 574, 575, 576, 577, 578, 579, 580, 581, 600, 601, 602, 603, 604, 605, 606, 607, 608, 609, 610, 611, 612, 613, 614, 615, 582, 583, 584, 585, 586, 587, 588] rfl (by decide +kernel)
set_option maxRecDepth 20000 in
theorem gX4_run_X2_open : GoodIn wsX4_run (wsV RX4 96 RX2 yX2_open wsX2_open) := goodIn_app (goodIn_of _ (by decide +kernel)) ggX4_run_X2_open
set_option maxRecDepth 20000 in
theorem ggX4_run_X7_findProgram : GoodIn wsX4_run wsX7_findProgram := goodIn_r _ [103, 104, 105, 106, 600, 601, 602, 603, 604, 605, 606, 607, 608, 609, 610, 611, 612, 613, 614, 615, 616, 617, 618, 619, 620, 621, 622, 623, 624, 625, 626, 627, 628, 629, 630] rfl (by decide +kernel)
set_option maxRecDepth 20000 in
theorem gX4_run_X7_findProgram : GoodIn wsX4_run (wsV RX4 108 RX7 yX7_findProgram wsX7_findProgram) := goodIn_app (goodIn_of _ (by decide +kernel)) ggX4_run_X7_findProgram
set_option maxRecDepth 20000 in
theorem ggX4_run_X4_pushFrame : GoodIn wsX4_run wsX4_pushFrame := goodIn_r _ [111, 8, 112, 113, 114, 23, 13, 545, 546, 547, 548, 549, 550, 551, 552, 553, 554, 555, 556, 557, 558, 559, 560, 561, 562] rfl (by decide +kernel)
set_option maxRecDepth 20000 in
theorem gX4_run_X4_pushFrame : GoodIn wsX4_run (wsV RX4 117 RX4 yX4_pushFrame wsX4_pushFrame) := goodIn_app (goodIn_of _ (by decide +kernel)) ggX4_run_X4_pushFrame
set_option maxRecDepth 20000 in
theorem ggX4_run_X1_make : GoodIn wsX4_run wsX1_make := goodIn_r _ [91, 33, 82, 92, 93, 94, 95, 582, 583, 584, 585, 586, 587, 588] rfl (by decide +kernel)
set_option maxRecDepth 20000 in
theorem gX4_run_X1_make : GoodIn wsX4_run (wsV RX4 134 RX1 yX1_make wsX1_make) := goodIn_app (goodIn_of _ (by decide +kernel)) ggX4_run_X1_make
set_option maxRecDepth 20000 in
theorem ggX4_run_X4_step : GoodIn wsX4_run wsX4_step := goodIn_r _ [119, 112, 8, 114, 113, 6, 17, 22, 18, 19, 20, 21, 120, 121, 122, 123, 124, 125, 126, 127, 128, 129, 130, 131, 132, 133, 134, 135, 110, 136, 3, 4, 5, 137, 138, 139, 140, 141, 142, 143, 144, 145, 146, 147, 148, 149, 150, 151, 152, 1, 153, 2, 154, 155, 156, 157, 158, 159, 160, 161, 162, 163, 27, 164, 165, 166, 167, 23, 24, 168, 169, 170, 171, 13, 172, 173, 174, 175, 176, 177, 178, 179, 180, 181, 182, 183, 184, 185, 186, 187, 188, 189, 190, 191, 192, 193, 194, 195, 196, 197, 198, 199, 200, 201, 202, 203, 204, 205, 206, 207, 208, 209, 210, 211, 212, 213, 214, 215, 216, 217, 218, 219, 220, 25, 221, 222, 223, 224, 225, 226, 227, 228, 229, 115, 89, 90, 31, 91, 33, 82, 92, 93, 94, 95, 230, 231, 232, 233, 234, 235, 236, 237, 238, 239, 240, 241, 242, 243, 244, 245, 85, 86, 87, 246, 247, 248, 249, 250, 251, 252, 253, 88, 254, 255, 256, 257, 258, 259, 260, 261, 262, 263, 264, 265, 266, 267, 268, 269, 270, 271, 272, 273, 274, 275, 276, 277, 278, 97, 98, 99, 279, 280, 281, 282, 26, 283, 284, 285, 286, 287, 288, 289, 290, 291, 7, 292, 293, 294, 295, 296, 297, 298, 43, 44, 37, 45, 39, 46, 47, 48, 49, 50, 51, 52, 53, 54, 55, 56, 57, 58, 59, 60, 61, 62, 63, 64, 65, 66, 67, 68, 69, 70, 71, 72, 73, 74, 75, 76, 77, 78, 79, 80, 81, 83, 84, 96, 299, 300, 301, 302, 303, 304, 305, 306, 307, 308, 309, 310, 311, 312, 313, 314, 315, 316, 9, 317, 318, 319, 320, 100, 101, 102, 103, 104, 105, 106, 321, 107, 108, 109, 111, 322, 323, 324, 325, 326, 327, 328, 329, 330, 331, 332, 333, 334, 335, 336, 337, 338, 339, 340, 341, 342, 343, 344, 345, 346, 347, 348, 349, 350, 351, 352, 353, 354, 355, 356, 357, 358, 359, 360, 361, 362, 363, 364, 365, 366, 367, 368, 369, 370, 371, 372, 373, 374, 375, 376, 377, 378, 379, 380, 381, 382, 383, 384, 385, 386, 387, 388, 389, 390, 391, 392, 393, 394, 395, 396, 397, 398, 399, 400, 401, 402, 403, 404, 405, 406, 407, 408, 409, 410, 411, 412, 413, 414, 415, 416, 417, 418, 419, 420, 421, 422, 423, 424, 425, 426, 427, 428, 429, 430, 431, 432, 433, 434, 435, 436, 437, 438, 439, 440, 441, 442, 443, 444, 445, 446, 447, 448, 449, 450, 451, 452, 453, 454, 455, 456, 457, 458, 459, 460, 461, 462, 463, 464, 465, 466, 467, 468, 469, 470, 471, 472, 473, 474, 475, 476, 477, 478, 479, 480, 545, 546, 547, 548, 549, 550, 551, 552, 553, 554, 555, 556, 557, 558, 559, 560, 561, 562, 582, 583, 584, 585, 586, 587, 588, 616, 617, 618, 619, 620, 621, 622, 623, 624, 625, 626, 627, 628, 629, 630, 563, 564, 565, 566, 567, 568, 569, 570, 571, 572, 573, 574, 575, 576, 577, 578, 579, 580, 581, 589, 590, 591, 592, 593, 594, 595, 596, 597, 598, 599, 600, 601, 602, 603, 604, 605, 606, 607, 608, 609, 610, 611, 612, 613, 614, 615, 631, 632, 633, 634, 635, 636, 637, 638, 639] rfl (by decide +kernel)
set_option maxRecDepth 20000 in
theorem gX4_run_X4_step : GoodIn wsX4_run (wsV RX4 138 RX4 yX4_step wsX4_step) := goodIn_app (goodIn_of _ (by decide +kernel)) ggX4_run_X4_step
set_option maxRecDepth 20000 in
theorem ggX4_run_X2_fits : GoodIn wsX4_run wsX2_fits := goodIn_r _ [484, 52, 39, 46, 56, 54, 51, 55, 485, 486, 487, 60, 488, 62, 104, 489, 490, 239, 240, 31, 241, 242, 243, 244, 245, 92, 94, 93, 95, 85, 86, 87, 589, 590, 591, 592, 593, 594, 595, 596, 597, 598, 599, 600, 601, 602, 603, 604, 605, 606, 607, 608, 609, 610, 611, 612, 613, 614, 615, 582, 583, 584, 585, 586, 587, 588] rfl (by decide +kernel)
set_option maxRecDepth 20000 in
theorem gX4_run_X2_fits : GoodIn wsX4_run (wsV RX4 147 RX2 yX2_fits wsX2_fits) := goodIn_app (goodIn_of _ (by decide +kernel)) ggX4_run_X2_fits
set_option maxRecDepth 20000 in
theorem ggX4_run_X4_end : GoodIn wsX4_run wsX4_end := goodIn_r _ [136, 3, 4, 5, 545, 546, 547, 548, 549, 550, 551, 552, 553, 554, 555, 556, 557, 558, 559, 560, 561, 562] rfl (by decide +kernel)
set_option maxRecDepth 20000 in
theorem gX4_run_X4_end : GoodIn wsX4_run (wsV RX4 153 RX4 yX4_end wsX4_end) := goodIn_app (goodIn_of _ (by decide +kernel)) ggX4_run_X4_end
set_option maxRecDepth 20000 in
theorem ggX4_run_X8_addResult : GoodIn wsX4_run wsX8_addResult := goodIn_r _ [495, 496, 497, 498, 499, 563, 564, 565, 566, 567, 568, 569, 570, 571, 572, 573, 574, 575, 576, 577, 578, 579, 580, 581] rfl (by decide +kernel)
set_option maxRecDepth 20000 in
theorem gX4_run_X8_addResult : GoodIn wsX4_run (wsV RX4 166 RX8 yX8_addResult wsX8_addResult) := goodIn_app (goodIn_of _ (by decide +kernel)) ggX4_run_X8_addResult
set_option maxRecDepth 20000 in
theorem ggX4_run_X2_commit : GoodIn wsX4_run wsX2_commit := goodIn_r _ [503, 39, 46, 55, 56, 52, 47, 48, 49, 53, 50, 504, 505, 506, 60, 507, 68, 489, 508, 65, 66, 67, 69, 70, 71, 57, 58, 59, 61, 62, 63, 509, 510, 511, 512, 513, 19, 20, 21, 514, 515, 516, 517, 518, 37, 519, 520, 54, 51, 521, 522, 523, 524, 525, 526, 527, 528, 529, 530, 531, 31, 532, 533, 534, 535, 536, 81, 82, 92, 83, 93, 84, 94, 85, 86, 87, 537, 263, 264, 265, 95, 589, 590, 591, 592, 593, 594, 595, 596, 597, 598, 599, 600, 601, 602, 603, 604, 605, 606, 607, 608, 609, 610, 611, 612, 613, 614, 615, 582, 583, 584, 585, 586, 587, 588] rfl (by decide +kernel)
set_option maxRecDepth 20000 in
theorem gX4_run_X2_commit : GoodIn wsX4_run (wsV RX4 170 RX2 yX2_commit wsX2_commit) := goodIn_app (goodIn_of _ (by decide +kernel)) ggX4_run_X2_commit
set_option maxRecDepth 20000 in
theorem ggX4_run_X8_end : GoodIn wsX4_run wsX8_end := goodIn_r _ [541, 542, 543, 544, 563, 564, 565, 566, 567, 568, 569, 570, 571, 572, 573, 574, 575, 576, 577, 578, 579, 580, 581] rfl (by decide +kernel)
set_option maxRecDepth 20000 in
theorem gX4_run_X8_end : GoodIn wsX4_run (wsV RX4 173 RX8 yX8_end wsX8_end) := goodIn_app (goodIn_of _ (by decide +kernel)) ggX4_run_X8_end
set_option maxRecDepth 20000 in
theorem ggX4_pay_X4_end : GoodIn wsX4_pay wsX4_end := goodIn_r _ [9, 10, 11, 12, 13, 14, 15, 16, 17, 18, 19, 20, 21, 22, 23, 24, 25, 26, 27, 28, 29, 30] rfl (by decide +kernel)
set_option maxRecDepth 20000 in
theorem gX4_pay_X4_end : GoodIn wsX4_pay (wsV RX4 153 RX4 yX4_end wsX4_end) := goodIn_app (goodIn_of _ (by decide +kernel)) ggX4_pay_X4_end
set_option maxRecDepth 20000 in
theorem ggX4_popOf_X4_pop : GoodIn wsX4_popOf wsX4_pop := goodIn_r _ [8, 9, 10, 1, 3, 11, 12, 13, 14, 15, 16, 17, 18, 19, 20, 21, 22, 23, 24, 25, 26, 27, 28, 29, 30, 31, 32, 33, 34, 35, 36] rfl (by decide +kernel)
set_option maxRecDepth 20000 in
theorem gX4_popOf_X4_pop : GoodIn wsX4_popOf (wsV RX4 181 RX4 yX4_pop wsX4_pop) := goodIn_app (goodIn_of _ (by decide +kernel)) ggX4_popOf_X4_pop
set_option maxRecDepth 20000 in
theorem ggX4_pushNumber_X1_make : GoodIn wsX4_pushNumber wsX1_make := goodIn_r _ [6, 7, 8, 9, 10, 11, 12, 40, 41, 42, 43, 44, 45, 46] rfl (by decide +kernel)
set_option maxRecDepth 20000 in
theorem gX4_pushNumber_X1_make : GoodIn wsX4_pushNumber (wsV RX4 134 RX1 yX1_make wsX1_make) := goodIn_app (goodIn_of _ (by decide +kernel)) ggX4_pushNumber_X1_make
set_option maxRecDepth 20000 in
theorem ggX4_pushNumber_X4_push : GoodIn wsX4_pushNumber wsX4_push := goodIn_r _ [17, 18, 19, 1, 20, 21, 22, 23, 24, 25, 26, 27, 28, 29, 30, 31, 32, 33, 34, 35, 36, 37, 38, 39, 40, 41, 42, 43, 44, 45, 46] rfl (by decide +kernel)
set_option maxRecDepth 20000 in
theorem gX4_pushNumber_X4_push : GoodIn wsX4_pushNumber (wsV RX4 185 RX4 yX4_push wsX4_push) := goodIn_app (goodIn_of _ (by decide +kernel)) ggX4_pushNumber_X4_push
set_option maxRecDepth 20000 in
theorem ggX4_step_X5_instructions : GoodIn wsX4_step wsX5_instructions := goodIn_r _ [17, 18, 19, 20, 16, 21, 22, 23, 24, 485, 486, 487, 488, 489, 490, 491, 492, 493, 494, 495, 496, 497, 498, 499] rfl (by decide +kernel)
set_option maxRecDepth 20000 in
theorem gX4_step_X5_instructions : GoodIn wsX4_step (wsV RX4 189 RX5 yX5_instructions wsX5_instructions) := goodIn_app (goodIn_of _ (by decide +kernel)) ggX4_step_X5_instructions
set_option maxRecDepth 20000 in
theorem ggX4_step_X4_end : GoodIn wsX4_step wsX4_end := goodIn_r _ [29, 30, 31, 32, 460, 461, 462, 463, 464, 465, 466, 467, 468, 469, 470, 471, 472, 473, 474, 475, 476, 477] rfl (by decide +kernel)
set_option maxRecDepth 20000 in
theorem gX4_step_X4_end : GoodIn wsX4_step (wsV RX4 153 RX4 yX4_end wsX4_end) := goodIn_app (goodIn_of _ (by decide +kernel)) ggX4_step_X4_end
set_option maxRecDepth 20000 in
theorem ggX4_step_X5_instructionPlace : GoodIn wsX4_step wsX5_instructionPlace := goodIn_r _ [36, 37, 38, 18, 19, 20, 16, 21, 22, 23, 24, 485, 486, 487, 488, 489, 490, 491, 492, 493, 494, 495, 496, 497, 498, 499] rfl (by decide +kernel)
set_option maxRecDepth 20000 in
theorem gX4_step_X5_instructionPlace : GoodIn wsX4_step (wsV RX4 193 RX5 yX5_instructionPlace wsX5_instructionPlace) := goodIn_app (goodIn_of _ (by decide +kernel)) ggX4_step_X5_instructionPlace
set_option maxRecDepth 20000 in
theorem ggX4_step_X5_at : GoodIn wsX4_step wsX5_at := goodIn_r _ [42, 43, 44, 485, 486, 487, 488, 489, 490, 491, 492, 493, 494, 495, 496, 497, 498, 499] rfl (by decide +kernel)
set_option maxRecDepth 20000 in
theorem gX4_step_X5_at : GoodIn wsX4_step (wsV RX4 196 RX5 yX5_at wsX5_at) := goodIn_app (goodIn_of _ (by decide +kernel)) ggX4_step_X5_at
set_option maxRecDepth 20000 in
theorem ggX4_step_X4_pay : GoodIn wsX4_step wsX4_pay := goodIn_r _ [48, 49, 50, 51, 52, 25, 26, 27, 28, 29, 30, 31, 32, 460, 461, 462, 463, 464, 465, 466, 467, 468, 469, 470, 471, 472, 473, 474, 475, 476, 477, 500, 501, 502, 503, 504, 505, 506, 507, 508, 509, 510, 511, 512, 513, 514, 515, 516, 517, 518] rfl (by decide +kernel)
set_option maxRecDepth 20000 in
theorem gX4_step_X4_pay : GoodIn wsX4_step (wsV RX4 199 RX4 yX4_pay wsX4_pay) := goodIn_app (goodIn_of _ (by decide +kernel)) ggX4_step_X4_pay
set_option maxRecDepth 20000 in
theorem ggX4_step_X5_numberAt : GoodIn wsX4_step wsX5_numberAt := goodIn_r _ [56, 57, 40, 41, 16, 42, 43, 44, 485, 486, 487, 488, 489, 490, 491, 492, 493, 494, 495, 496, 497, 498, 499] rfl (by decide +kernel)
set_option maxRecDepth 20000 in
theorem gX4_step_X5_numberAt : GoodIn wsX4_step (wsV RX4 203 RX5 yX5_numberAt wsX5_numberAt) := goodIn_app (goodIn_of _ (by decide +kernel)) ggX4_step_X5_numberAt
set_option maxRecDepth 20000 in
theorem ggX4_step_X4_steer : GoodIn wsX4_step wsX4_steer := goodIn_r _ [61, 5, 62, 3, 2, 63, 64, 65, 28, 66, 67, 6, 68, 69, 70, 71, 72, 1, 4, 73, 30, 74, 75, 76, 16, 77, 18, 19, 20, 21, 22, 23, 24, 78, 79, 80, 81, 82, 83, 84, 85, 86, 87, 88, 89, 90, 91, 92, 93, 94, 95, 96, 97, 98, 99, 100, 101, 102, 103, 104, 105, 106, 107, 108, 109, 110, 111, 112, 113, 114, 115, 116, 117, 118, 119, 120, 121, 122, 123, 25, 26, 27, 29, 31, 32, 460, 461, 462, 463, 464, 465, 466, 467, 468, 469, 470, 471, 472, 473, 474, 475, 476, 477, 478, 479, 480, 481, 482, 483, 484, 485, 486, 487, 488, 489, 490, 491, 492, 493, 494, 495, 496, 497, 498, 499] rfl (by decide +kernel)
set_option maxRecDepth 20000 in
theorem gX4_step_X4_steer : GoodIn wsX4_step (wsV RX4 207 RX4 yX4_steer wsX4_steer) := goodIn_app (goodIn_of _ (by decide +kernel)) ggX4_step_X4_steer
set_option maxRecDepth 20000 in
theorem ggX4_step_X4_set : GoodIn wsX4_step wsX4_set := goodIn_r _ [127, 49, 128, 39, 40, 41, 16, 42, 43, 44, 129, 130, 131, 28, 132, 5, 133, 134, 135, 136, 137, 138, 139, 140, 141, 142, 143, 115, 116, 117, 118, 67, 2, 6, 68, 53, 54, 55, 56, 57, 460, 461, 462, 463, 464, 465, 466, 467, 468, 469, 470, 471, 472, 473, 474, 475, 476, 477, 500, 501, 502, 503, 504, 505, 506, 507, 508, 509, 510, 511, 512, 513, 514, 515, 516, 517, 518, 485, 486, 487, 488, 489, 490, 491, 492, 493, 494, 495, 496, 497, 498, 499, 478, 479, 480, 481, 482, 483, 484] rfl (by decide +kernel)
set_option maxRecDepth 20000 in
theorem gX4_step_X4_set : GoodIn wsX4_step (wsV RX4 211 RX4 yX4_set wsX4_set) := goodIn_app (goodIn_of _ (by decide +kernel)) ggX4_step_X4_set
set_option maxRecDepth 20000 in
theorem ggX4_step_X4_useLocal : GoodIn wsX4_step wsX4_useLocal := goodIn_r _ [147, 73, 5, 6, 63, 64, 65, 28, 66, 67, 2, 68, 148, 149, 150, 151, 152, 153, 154, 136, 155, 156, 157, 158, 159, 140, 142, 141, 143, 160, 161, 162, 45, 46, 47, 48, 49, 50, 51, 52, 25, 26, 27, 29, 30, 31, 32, 163, 164, 165, 166, 167, 168, 169, 170, 171, 134, 135, 137, 138, 139, 115, 116, 117, 118, 129, 130, 131, 132, 133, 460, 461, 462, 463, 464, 465, 466, 467, 468, 469, 470, 471, 472, 473, 474, 475, 476, 477, 478, 479, 480, 481, 482, 483, 484, 500, 501, 502, 503, 504, 505, 506, 507, 508, 509, 510, 511, 512, 513, 514, 515, 516, 517, 518] rfl (by decide +kernel)
set_option maxRecDepth 20000 in
theorem gX4_step_X4_useLocal : GoodIn wsX4_step (wsV RX4 215 RX4 yX4_useLocal wsX4_useLocal) := goodIn_app (goodIn_of _ (by decide +kernel)) ggX4_step_X4_useLocal
set_option maxRecDepth 20000 in
theorem ggX4_step_X4_refer : GoodIn wsX4_step wsX4_refer := goodIn_r _ [175, 5, 62, 63, 64, 65, 28, 66, 67, 2, 6, 68, 176, 177, 178, 179, 123, 180, 181, 182, 136, 183, 140, 141, 139, 142, 143, 160, 161, 162, 115, 116, 117, 118, 148, 149, 150, 151, 152, 153, 154, 155, 156, 157, 158, 159, 45, 46, 47, 48, 49, 50, 51, 52, 25, 26, 27, 29, 30, 31, 32, 163, 164, 165, 166, 167, 168, 169, 170, 171, 134, 135, 137, 138, 184, 185, 186, 187, 460, 461, 462, 463, 464, 465, 466, 467, 468, 469, 470, 471, 472, 473, 474, 475, 476, 477, 478, 479, 480, 481, 482, 483, 484, 500, 501, 502, 503, 504, 505, 506, 507, 508, 509, 510, 511, 512, 513, 514, 515, 516, 517, 518] rfl (by decide +kernel)
set_option maxRecDepth 20000 in
theorem gX4_step_X4_refer : GoodIn wsX4_step (wsV RX4 218 RX4 yX4_refer wsX4_refer) := goodIn_app (goodIn_of _ (by decide +kernel)) ggX4_step_X4_refer
set_option maxRecDepth 20000 in
theorem ggX4_step_X5_fieldCount : GoodIn wsX4_step wsX5_fieldCount := goodIn_r _ [191, 109, 110, 111, 16, 112, 113, 114, 485, 486, 487, 488, 489, 490, 491, 492, 493, 494, 495, 496, 497, 498, 499] rfl (by decide +kernel)
set_option maxRecDepth 20000 in
theorem gX4_step_X5_fieldCount : GoodIn wsX4_step (wsV RX4 221 RX5 yX5_fieldCount wsX5_fieldCount) := goodIn_app (goodIn_of _ (by decide +kernel)) ggX4_step_X5_fieldCount
set_option maxRecDepth 20000 in
theorem ggX4_step_X4_gather : GoodIn wsX4_step wsX4_gather := goodIn_r _ [195, 67, 2, 5, 6, 68, 133, 134, 135, 136, 137, 138, 139, 140, 141, 142, 143, 196, 197, 198, 199, 115, 116, 117, 28, 118, 460, 461, 462, 463, 464, 465, 466, 467, 468, 469, 470, 471, 472, 473, 474, 475, 476, 477, 478, 479, 480, 481, 482, 483, 484] rfl (by decide +kernel)
set_option maxRecDepth 20000 in
theorem gX4_step_X4_gather : GoodIn wsX4_step (wsV RX4 224 RX4 yX4_gather wsX4_gather) := goodIn_app (goodIn_of _ (by decide +kernel)) ggX4_step_X4_gather
set_option maxRecDepth 20000 in
theorem ggX4_step_X4_scatter : GoodIn wsX4_step wsX4_scatter := goodIn_r _ [203, 67, 2, 5, 204, 6, 68, 119, 120, 121, 28, 122, 123, 63, 64, 65, 66, 205, 206, 207, 136, 208, 140, 141, 142, 139, 143, 160, 161, 162, 460, 461, 462, 463, 464, 465, 466, 467, 468, 469, 470, 471, 472, 473, 474, 475, 476, 477, 478, 479, 480, 481, 482, 483, 484] rfl (by decide +kernel)
set_option maxRecDepth 20000 in
theorem gX4_step_X4_scatter : GoodIn wsX4_step (wsV RX4 227 RX4 yX4_scatter wsX4_scatter) := goodIn_app (goodIn_of _ (by decide +kernel)) ggX4_step_X4_scatter
set_option maxRecDepth 20000 in
theorem ggX4_step_X5_functionColumn : GoodIn wsX4_step wsX5_functionColumn := goodIn_r _ [21, 22, 23, 24, 485, 486, 487, 488, 489, 490, 491, 492, 493, 494, 495, 496, 497, 498, 499] rfl (by decide +kernel)
set_option maxRecDepth 20000 in
theorem gX4_step_X5_functionColumn : GoodIn wsX4_step (wsV RX4 230 RX5 yX5_functionColumn wsX5_functionColumn) := goodIn_app (goodIn_of _ (by decide +kernel)) ggX4_step_X5_functionColumn
set_option maxRecDepth 20000 in
theorem ggX4_step_X4_useCoin : GoodIn wsX4_step wsX4_useCoin := goodIn_r _ [213, 214, 5, 62, 7, 215, 216, 217, 218, 219, 28, 220, 67, 2, 6, 68, 221, 222, 223, 224, 225, 226, 227, 228, 229, 230, 231, 232, 233, 234, 235, 236, 237, 238, 239, 240, 241, 242, 243, 244, 245, 246, 247, 248, 249, 250, 251, 252, 253, 254, 255, 136, 256, 257, 258, 259, 260, 261, 262, 139, 263, 264, 160, 161, 162, 171, 134, 135, 137, 138, 140, 141, 142, 143, 265, 197, 198, 199, 25, 26, 27, 29, 30, 31, 32, 45, 46, 47, 48, 49, 50, 51, 52, 266, 267, 268, 269, 270, 271, 272, 273, 274, 119, 120, 121, 122, 123, 63, 64, 65, 66, 129, 130, 131, 132, 133, 115, 116, 117, 118, 176, 177, 178, 179, 275, 276, 277, 278, 279, 460, 461, 462, 463, 464, 465, 466, 467, 468, 469, 470, 471, 472, 473, 474, 475, 476, 477, 478, 479, 480, 481, 482, 483, 484, 519, 520, 521, 522, 523, 524, 525, 526, 527, 528, 529, 530, 531, 532, 533, 534, 535, 536, 537, 538, 539, 540, 541, 542, 543, 544, 545, 500, 501, 502, 503, 504, 505, 506, 507, 508, 509, 510, 511, 512, 513, 514, 515, 516, 517, 518] rfl (by decide +kernel)
set_option maxRecDepth 20000 in
theorem gX4_step_X4_useCoin : GoodIn wsX4_step (wsV RX4 233 RX4 yX4_useCoin wsX4_useCoin) := goodIn_app (goodIn_of _ (by decide +kernel)) ggX4_step_X4_useCoin
set_option maxRecDepth 20000 in
theorem ggX4_step_X4_enter : GoodIn wsX4_step wsX4_enter := goodIn_r _ [283, 284, 2, 214, 7, 67, 5, 6, 8, 9, 10, 11, 68, 73, 285, 286, 287, 288, 289, 290, 291, 241, 292, 293, 294, 295, 221, 222, 223, 224, 225, 226, 227, 228, 229, 230, 231, 232, 233, 234, 235, 236, 237, 238, 239, 240, 242, 243, 244, 245, 246, 247, 248, 249, 250, 251, 252, 253, 254, 255, 136, 256, 257, 258, 259, 260, 261, 262, 139, 263, 264, 160, 161, 162, 171, 134, 135, 137, 138, 140, 141, 142, 143, 265, 197, 198, 199, 25, 26, 27, 28, 29, 30, 31, 32, 45, 46, 47, 48, 49, 50, 51, 52, 296, 83, 84, 16, 85, 18, 19, 20, 21, 22, 23, 24, 297, 298, 299, 300, 1, 4, 3, 460, 461, 462, 463, 464, 465, 466, 467, 468, 469, 470, 471, 472, 473, 474, 475, 476, 477, 478, 479, 480, 481, 482, 483, 484, 530, 531, 532, 533, 534, 535, 536, 537, 538, 539, 540, 541, 542, 543, 544, 545, 485, 486, 487, 488, 489, 490, 491, 492, 493, 494, 495, 496, 497, 498, 499, 519, 520, 521, 522, 523, 524, 525, 526, 527, 528, 529, 500, 501, 502, 503, 504, 505, 506, 507, 508, 509, 510, 511, 512, 513, 514, 515, 516, 517, 518] rfl (by decide +kernel)
set_option maxRecDepth 20000 in
theorem gX4_step_X4_enter : GoodIn wsX4_step (wsV RX4 236 RX4 yX4_enter wsX4_enter) := goodIn_app (goodIn_of _ (by decide +kernel)) ggX4_step_X4_enter
set_option maxRecDepth 20000 in
theorem ggX4_step_X4_reckon : GoodIn wsX4_step wsX4_reckon := goodIn_r _ [304, 5, 62, 305, 204, 123, 119, 120, 121, 28, 122, 6, 63, 64, 65, 66, 67, 2, 68, 129, 130, 131, 132, 133, 134, 135, 136, 137, 138, 139, 140, 141, 142, 143, 115, 116, 117, 118, 306, 307, 308, 272, 309, 310, 311, 312, 313, 314, 315, 316, 317, 318, 319, 320, 321, 322, 25, 26, 27, 29, 30, 31, 32, 323, 324, 325, 326, 152, 153, 154, 155, 156, 157, 158, 159, 160, 161, 162, 45, 46, 47, 48, 49, 50, 51, 52, 327, 328, 329, 330, 331, 332, 333, 334, 335, 336, 337, 338, 271, 273, 274, 339, 340, 341, 342, 343, 344, 345, 346, 347, 348, 349, 350, 351, 352, 353, 354, 355, 356, 357, 358, 359, 360, 361, 362, 363, 364, 365, 366, 367, 368, 369, 370, 371, 372, 373, 374, 375, 376, 377, 378, 379, 380, 381, 382, 383, 384, 385, 460, 461, 462, 463, 464, 465, 466, 467, 468, 469, 470, 471, 472, 473, 474, 475, 476, 477, 478, 479, 480, 481, 482, 483, 484, 546, 547, 548, 549, 550, 500, 501, 502, 503, 504, 505, 506, 507, 508, 509, 510, 511, 512, 513, 514, 515, 516, 517, 518] rfl (by decide +kernel)
set_option maxRecDepth 20000 in
theorem gX4_step_X4_reckon : GoodIn wsX4_step (wsV RX4 239 RX4 yX4_reckon wsX4_reckon) := goodIn_app (goodIn_of _ (by decide +kernel)) ggX4_step_X4_reckon
set_option maxRecDepth 20000 in
theorem ggX4_step_X4_keep : GoodIn wsX4_step wsX4_keep := goodIn_r _ [389, 49, 128, 5, 62, 214, 7, 215, 390, 391, 119, 120, 121, 28, 122, 123, 6, 63, 64, 65, 66, 67, 2, 68, 221, 222, 223, 224, 225, 226, 227, 228, 229, 230, 231, 232, 233, 234, 235, 236, 237, 238, 239, 240, 241, 242, 243, 244, 245, 246, 247, 248, 249, 250, 251, 252, 253, 254, 255, 136, 256, 257, 258, 259, 260, 261, 262, 139, 263, 264, 160, 161, 162, 171, 134, 135, 137, 138, 140, 141, 142, 143, 265, 197, 198, 199, 25, 26, 27, 29, 30, 31, 32, 152, 153, 154, 155, 156, 157, 158, 159, 45, 46, 47, 48, 50, 51, 52, 115, 116, 117, 118, 129, 130, 131, 132, 133, 460, 461, 462, 463, 464, 465, 466, 467, 468, 469, 470, 471, 472, 473, 474, 475, 476, 477, 500, 501, 502, 503, 504, 505, 506, 507, 508, 509, 510, 511, 512, 513, 514, 515, 516, 517, 518, 478, 479, 480, 481, 482, 483, 484, 519, 520, 521, 522, 523, 524, 525, 526, 527, 528, 529, 530, 531, 532, 533, 534, 535, 536, 537, 538, 539, 540, 541, 542, 543, 544, 545] rfl (by decide +kernel)
set_option maxRecDepth 20000 in
theorem gX4_step_X4_keep : GoodIn wsX4_step (wsV RX4 245 RX4 yX4_keep wsX4_keep) := goodIn_app (goodIn_of _ (by decide +kernel)) ggX4_step_X4_keep
set_option maxRecDepth 20000 in
theorem ggX4_step_X4_hash : GoodIn wsX4_step wsX4_hash := goodIn_r _ [395, 5, 123, 6, 204, 396, 397, 398, 10, 399, 62, 400, 401, 402, 403, 63, 64, 65, 28, 66, 67, 2, 68, 45, 46, 47, 48, 49, 50, 51, 52, 25, 26, 27, 29, 30, 31, 32, 404, 405, 406, 407, 408, 409, 410, 411, 286, 287, 288, 412, 413, 414, 415, 416, 417, 418, 419, 420, 421, 422, 423, 424, 425, 426, 427, 428, 429, 133, 134, 135, 136, 137, 138, 139, 140, 141, 142, 143, 430, 431, 432, 433, 434, 196, 197, 198, 199, 115, 116, 117, 118, 460, 461, 462, 463, 464, 465, 466, 467, 468, 469, 470, 471, 472, 473, 474, 475, 476, 477, 478, 479, 480, 481, 482, 483, 484, 500, 501, 502, 503, 504, 505, 506, 507, 508, 509, 510, 511, 512, 513, 514, 515, 516, 517, 518, 551, 552, 553, 554] rfl (by decide +kernel)
set_option maxRecDepth 20000 in
theorem gX4_step_X4_hash : GoodIn wsX4_step (wsV RX4 249 RX4 yX4_hash wsX4_hash) := goodIn_app (goodIn_of _ (by decide +kernel)) ggX4_step_X4_hash
set_option maxRecDepth 20000 in
theorem ggX4_step_X4_lineUp : GoodIn wsX4_step wsX4_lineUp := goodIn_r _ [438, 5, 123, 6, 204, 45, 46, 47, 28, 48, 49, 50, 51, 52, 25, 26, 27, 29, 30, 31, 32, 192, 193, 194, 195, 67, 2, 68, 133, 134, 135, 136, 137, 138, 139, 140, 141, 142, 143, 196, 197, 198, 199, 115, 116, 117, 118, 217, 218, 219, 220, 176, 177, 178, 179, 62, 63, 64, 65, 66, 129, 130, 131, 132, 439, 440, 441, 442, 396, 7, 443, 444, 445, 446, 279, 205, 206, 207, 208, 160, 161, 162, 447, 448, 449, 450, 119, 120, 121, 122, 270, 271, 272, 273, 274, 180, 181, 182, 183, 451, 452, 453, 454, 455, 185, 186, 187, 456, 457, 458, 459, 460, 461, 462, 463, 464, 465, 466, 467, 468, 469, 470, 471, 472, 473, 474, 475, 476, 477, 478, 479, 480, 481, 482, 483, 484, 500, 501, 502, 503, 504, 505, 506, 507, 508, 509, 510, 511, 512, 513, 514, 515, 516, 517, 518] rfl (by decide +kernel)
set_option maxRecDepth 20000 in
theorem gX4_step_X4_lineUp : GoodIn wsX4_step (wsV RX4 252 RX4 yX4_lineUp wsX4_lineUp) := goodIn_app (goodIn_of _ (by decide +kernel)) ggX4_step_X4_lineUp
set_option maxRecDepth 20000 in
theorem ggX4_steer_X4_pop : GoodIn wsX4_steer wsX4_pop := goodIn_r _ [9, 10, 4, 1, 11, 12, 85, 86, 87, 88, 89, 90, 91, 92, 93, 94, 95, 96, 97, 98, 99, 100, 101, 102, 103, 104, 105, 106, 107, 108, 109] rfl (by decide +kernel)
set_option maxRecDepth 20000 in
theorem gX4_steer_X4_pop : GoodIn wsX4_steer (wsV RX4 181 RX4 yX4_pop wsX4_pop) := goodIn_app (goodIn_of _ (by decide +kernel)) ggX4_steer_X4_pop
set_option maxRecDepth 20000 in
theorem ggX4_steer_X4_giveBack : GoodIn wsX4_steer wsX4_giveBack := goodIn_r _ [16, 17, 4, 18, 10, 1, 11, 19, 20, 12, 21, 22, 23, 24, 25, 26, 27, 28, 29, 30, 31, 32, 33, 34, 35, 36, 37, 38, 39, 40, 41, 42, 43, 44, 45, 46, 47, 48, 49, 50, 51, 52, 53, 54, 55, 56, 57, 58, 59, 60, 61, 62, 63, 64, 65, 66, 67, 68, 69, 70, 71, 72, 8, 73, 85, 86, 87, 88, 89, 90, 91, 92, 93, 94, 95, 96, 97, 98, 99, 100, 101, 102, 103, 104, 105, 106, 107, 108, 109, 110, 111, 112, 113, 114, 115, 116, 117, 118, 119, 120, 121, 122, 123, 124] rfl (by decide +kernel)
set_option maxRecDepth 20000 in
theorem gX4_steer_X4_giveBack : GoodIn wsX4_steer (wsV RX4 255 RX4 yX4_giveBack wsX4_giveBack) := goodIn_app (goodIn_of _ (by decide +kernel)) ggX4_steer_X4_giveBack
set_option maxRecDepth 20000 in
theorem ggX4_steer_X4_popOf : GoodIn wsX4_steer wsX4_popOf := goodIn_r _ [77, 1, 78, 11, 5, 6, 7, 8, 9, 10, 4, 12, 85, 86, 87, 88, 89, 90, 91, 92, 93, 94, 95, 96, 97, 98, 99, 100, 101, 102, 103, 104, 105, 106, 107, 108, 109] rfl (by decide +kernel)
set_option maxRecDepth 20000 in
theorem gX4_steer_X4_popOf : GoodIn wsX4_steer (wsV RX4 258 RX4 yX4_popOf wsX4_popOf) := goodIn_app (goodIn_of _ (by decide +kernel)) ggX4_steer_X4_popOf
set_option maxRecDepth 20000 in
theorem ggX4_steer_X4_end : GoodIn wsX4_steer wsX4_end := goodIn_r _ [82, 20, 83, 84, 85, 86, 87, 88, 89, 90, 91, 92, 93, 94, 95, 96, 97, 98, 99, 100, 101, 102] rfl (by decide +kernel)
set_option maxRecDepth 20000 in
theorem gX4_steer_X4_end : GoodIn wsX4_steer (wsV RX4 153 RX4 yX4_end wsX4_end) := goodIn_app (goodIn_of _ (by decide +kernel)) ggX4_steer_X4_end
set_option maxRecDepth 20000 in
theorem ggX4_giveBack_X5_gives : GoodIn wsX4_giveBack wsX5_gives := goodIn_r _ [14, 15, 16, 17, 13, 18, 19, 20, 21, 89, 90, 91, 92, 93, 94, 95, 96, 97, 98, 99, 100, 101, 102, 103] rfl (by decide +kernel)
set_option maxRecDepth 20000 in
theorem gX4_giveBack_X5_gives : GoodIn wsX4_giveBack (wsV RX4 261 RX5 yX5_gives wsX5_gives) := goodIn_app (goodIn_of _ (by decide +kernel)) ggX4_giveBack_X5_gives
set_option maxRecDepth 20000 in
theorem ggX4_giveBack_X5_localCount : GoodIn wsX4_giveBack wsX5_localCount := goodIn_r _ [25, 26, 27, 28, 13, 29, 15, 16, 17, 18, 19, 20, 21, 89, 90, 91, 92, 93, 94, 95, 96, 97, 98, 99, 100, 101, 102, 103] rfl (by decide +kernel)
set_option maxRecDepth 20000 in
theorem gX4_giveBack_X5_localCount : GoodIn wsX4_giveBack (wsV RX4 264 RX5 yX5_localCount wsX5_localCount) := goodIn_app (goodIn_of _ (by decide +kernel)) ggX4_giveBack_X5_localCount
set_option maxRecDepth 20000 in
theorem ggX4_giveBack_X5_localType : GoodIn wsX4_giveBack wsX5_localType := goodIn_r _ [33, 15, 16, 17, 13, 18, 19, 20, 21, 26, 27, 28, 29, 34, 11, 12, 14, 35, 36, 37, 38, 39, 40, 89, 90, 91, 92, 93, 94, 95, 96, 97, 98, 99, 100, 101, 102, 103] rfl (by decide +kernel)
set_option maxRecDepth 20000 in
theorem gX4_giveBack_X5_localType : GoodIn wsX4_giveBack (wsV RX4 267 RX5 yX5_localType wsX5_localType) := goodIn_app (goodIn_of _ (by decide +kernel)) ggX4_giveBack_X5_localType
set_option maxRecDepth 20000 in
theorem ggX4_giveBack_X5_abilities : GoodIn wsX4_giveBack wsX5_abilities := goodIn_r _ [44, 45, 46, 13, 47, 48, 49, 50, 51, 52, 53, 54, 55, 56, 57, 58, 89, 90, 91, 92, 93, 94, 95, 96, 97, 98, 99, 100, 101, 102, 103] rfl (by decide +kernel)
set_option maxRecDepth 20000 in
theorem gX4_giveBack_X5_abilities : GoodIn wsX4_giveBack (wsV RX4 270 RX5 yX5_abilities wsX5_abilities) := goodIn_app (goodIn_of _ (by decide +kernel)) ggX4_giveBack_X5_abilities
set_option maxRecDepth 20000 in
theorem ggX4_giveBack_X4_push : GoodIn wsX4_giveBack wsX4_push := goodIn_r _ [63, 4, 2, 5, 6, 9, 64, 65, 66, 67, 68, 69, 70, 71, 72, 73, 74, 75, 76, 77, 78, 79, 80, 81, 82, 83, 84, 85, 86, 87, 88] rfl (by decide +kernel)
set_option maxRecDepth 20000 in
theorem gX4_giveBack_X4_push : GoodIn wsX4_giveBack (wsV RX4 185 RX4 yX4_push wsX4_push) := goodIn_app (goodIn_of _ (by decide +kernel)) ggX4_giveBack_X4_push
set_option maxRecDepth 20000 in
theorem ggX4_set_X5_at : GoodIn wsX4_set wsX5_at := goodIn_r _ [7, 8, 9, 77, 78, 79, 80, 81, 82, 83, 84, 85, 86, 87, 88, 89, 90, 91] rfl (by decide +kernel)
set_option maxRecDepth 20000 in
theorem gX4_set_X5_at : GoodIn wsX4_set (wsV RX4 196 RX5 yX5_at wsX5_at) := goodIn_app (goodIn_of _ (by decide +kernel)) ggX4_set_X5_at
set_option maxRecDepth 20000 in
theorem ggX4_set_X4_pushNumber : GoodIn wsX4_set wsX4_pushNumber := goodIn_r _ [14, 15, 16, 17, 18, 19, 20, 21, 22, 23, 24, 25, 26, 27, 28, 29, 13, 30, 31, 32, 33, 34, 40, 41, 42, 43, 44, 45, 46, 47, 48, 49, 50, 51, 52, 53, 54, 55, 56, 57, 92, 93, 94, 95, 96, 97, 98] rfl (by decide +kernel)
set_option maxRecDepth 20000 in
theorem gX4_set_X4_pushNumber : GoodIn wsX4_set (wsV RX4 274 RX4 yX4_pushNumber wsX4_pushNumber) := goodIn_app (goodIn_of _ (by decide +kernel)) ggX4_set_X4_pushNumber
set_option maxRecDepth 20000 in
theorem ggX4_set_X5_numberAt : GoodIn wsX4_set wsX5_numberAt := goodIn_r _ [38, 39, 4, 5, 6, 7, 8, 9, 77, 78, 79, 80, 81, 82, 83, 84, 85, 86, 87, 88, 89, 90, 91] rfl (by decide +kernel)
set_option maxRecDepth 20000 in
theorem gX4_set_X5_numberAt : GoodIn wsX4_set (wsV RX4 203 RX5 yX5_numberAt wsX5_numberAt) := goodIn_app (goodIn_of _ (by decide +kernel)) ggX4_set_X5_numberAt
set_option maxRecDepth 20000 in
theorem ggX4_useLocal_X4_pop : GoodIn wsX4_useLocal wsX4_pop := goodIn_r _ [8, 9, 10, 2, 3, 11, 70, 71, 72, 73, 74, 75, 76, 77, 78, 79, 80, 81, 82, 83, 84, 85, 86, 87, 88, 89, 90, 91, 92, 93, 94] rfl (by decide +kernel)
set_option maxRecDepth 20000 in
theorem gX4_useLocal_X4_pop : GoodIn wsX4_useLocal (wsV RX4 181 RX4 yX4_pop wsX4_pop) := goodIn_app (goodIn_of _ (by decide +kernel)) ggX4_useLocal_X4_pop
set_option maxRecDepth 20000 in
theorem ggX4_useLocal_X4_pushCopy : GoodIn wsX4_useLocal wsX4_pushCopy := goodIn_r _ [15, 2, 16, 17, 18, 19, 20, 21, 22, 23, 24, 25, 26, 27, 28, 29, 30, 31, 32, 33, 34, 7, 35, 36, 37, 38, 39, 40, 41, 42, 43, 44, 45, 46, 47, 48, 49, 50, 51, 52, 53, 54, 55, 56, 57, 58, 59, 60, 61, 62, 63, 64, 9, 10, 3, 11, 70, 71, 72, 73, 74, 75, 76, 77, 78, 79, 80, 81, 82, 83, 84, 85, 86, 87, 88, 89, 90, 91, 92, 93, 94, 95, 96, 97, 98, 99, 100, 101, 102, 103, 104, 105, 106, 107, 108, 109, 110, 111, 112, 113] rfl (by decide +kernel)
set_option maxRecDepth 20000 in
theorem gX4_useLocal_X4_pushCopy : GoodIn wsX4_useLocal (wsV RX4 280 RX4 yX4_pushCopy wsX4_pushCopy) := goodIn_app (goodIn_of _ (by decide +kernel)) ggX4_useLocal_X4_pushCopy
set_option maxRecDepth 20000 in
theorem ggX4_useLocal_X4_push : GoodIn wsX4_useLocal wsX4_push := goodIn_r _ [64, 9, 10, 2, 3, 11, 70, 71, 72, 73, 74, 75, 76, 77, 78, 79, 80, 81, 82, 83, 84, 85, 86, 87, 88, 89, 90, 91, 92, 93, 94] rfl (by decide +kernel)
set_option maxRecDepth 20000 in
theorem gX4_useLocal_X4_push : GoodIn wsX4_useLocal (wsV RX4 185 RX4 yX4_push wsX4_push) := goodIn_app (goodIn_of _ (by decide +kernel)) ggX4_useLocal_X4_push
set_option maxRecDepth 20000 in
theorem ggX4_useLocal_X4_pushNumber : GoodIn wsX4_useLocal wsX4_pushNumber := goodIn_r _ [68, 2, 69, 56, 57, 19, 58, 59, 60, 25, 27, 26, 28, 61, 62, 63, 7, 64, 9, 10, 3, 11, 70, 71, 72, 73, 74, 75, 76, 77, 78, 79, 80, 81, 82, 83, 84, 85, 86, 87, 88, 89, 90, 91, 92, 93, 94] rfl (by decide +kernel)
set_option maxRecDepth 20000 in
theorem gX4_useLocal_X4_pushNumber : GoodIn wsX4_useLocal (wsV RX4 274 RX4 yX4_pushNumber wsX4_pushNumber) := goodIn_app (goodIn_of _ (by decide +kernel)) ggX4_useLocal_X4_pushNumber
set_option maxRecDepth 20000 in
theorem ggX4_pushCopy_X1_sizeOf : GoodIn wsX4_pushCopy wsX1_sizeOf := goodIn_r _ [6, 7, 8, 9, 5, 10, 11, 12, 13, 14, 15, 16, 17, 74, 75, 76, 77, 78, 79, 80] rfl (by decide +kernel)
set_option maxRecDepth 20000 in
theorem gX4_pushCopy_X1_sizeOf : GoodIn wsX4_pushCopy (wsV RX4 283 RX1 yX1_sizeOf wsX1_sizeOf) := goodIn_app (goodIn_of _ (by decide +kernel)) ggX4_pushCopy_X1_sizeOf
set_option maxRecDepth 20000 in
theorem ggX4_pushCopy_X4_pay : GoodIn wsX4_pushCopy wsX4_pay := goodIn_r _ [22, 23, 24, 25, 26, 27, 28, 29, 21, 30, 31, 32, 33, 56, 57, 58, 59, 60, 61, 62, 63, 64, 65, 66, 67, 68, 69, 70, 71, 72, 73, 81, 82, 83, 84, 85, 86, 87, 88, 89, 90, 91, 92, 93, 94, 95, 96, 97, 98, 99] rfl (by decide +kernel)
set_option maxRecDepth 20000 in
theorem gX4_pushCopy_X4_pay : GoodIn wsX4_pushCopy (wsV RX4 199 RX4 yX4_pay wsX4_pay) := goodIn_app (goodIn_of _ (by decide +kernel)) ggX4_pushCopy_X4_pay
set_option maxRecDepth 20000 in
theorem ggX4_pushCopy_X1_copyOf : GoodIn wsX4_pushCopy wsX1_copyOf := goodIn_r _ [37, 38, 39, 40, 5, 41, 11, 13, 12, 14, 42, 43, 44, 45, 46, 47, 15, 16, 17, 74, 75, 76, 77, 78, 79, 80] rfl (by decide +kernel)
set_option maxRecDepth 20000 in
theorem gX4_pushCopy_X1_copyOf : GoodIn wsX4_pushCopy (wsV RX4 286 RX1 yX1_copyOf wsX1_copyOf) := goodIn_app (goodIn_of _ (by decide +kernel)) ggX4_pushCopy_X1_copyOf
set_option maxRecDepth 20000 in
theorem ggX4_pushCopy_X4_push : GoodIn wsX4_pushCopy wsX4_push := goodIn_r _ [51, 52, 53, 1, 54, 55, 56, 57, 58, 59, 60, 61, 62, 63, 64, 65, 66, 67, 68, 69, 70, 71, 72, 73, 74, 75, 76, 77, 78, 79, 80] rfl (by decide +kernel)
set_option maxRecDepth 20000 in
theorem gX4_pushCopy_X4_push : GoodIn wsX4_pushCopy (wsV RX4 185 RX4 yX4_push wsX4_push) := goodIn_app (goodIn_of _ (by decide +kernel)) ggX4_pushCopy_X4_push
set_option maxRecDepth 20000 in
theorem ggX4_refer_X4_pop : GoodIn wsX4_refer wsX4_pop := goodIn_r _ [7, 8, 9, 1, 10, 11, 78, 79, 80, 81, 82, 83, 84, 85, 86, 87, 88, 89, 90, 91, 92, 93, 94, 95, 96, 97, 98, 99, 100, 101, 102] rfl (by decide +kernel)
set_option maxRecDepth 20000 in
theorem gX4_refer_X4_pop : GoodIn wsX4_refer (wsV RX4 181 RX4 yX4_pop wsX4_pop) := goodIn_app (goodIn_of _ (by decide +kernel)) ggX4_refer_X4_pop
set_option maxRecDepth 20000 in
theorem ggX4_refer_X4_target : GoodIn wsX4_refer wsX4_target := goodIn_r _ [15, 1, 16, 2, 10, 78, 79, 80, 81, 82, 83, 84, 85, 86, 87, 88, 89, 90, 91, 92, 93, 94, 95, 96, 97, 98, 99, 100, 101, 102] rfl (by decide +kernel)
set_option maxRecDepth 20000 in
theorem gX4_refer_X4_target : GoodIn wsX4_refer (wsV RX4 289 RX4 yX4_target wsX4_target) := goodIn_app (goodIn_of _ (by decide +kernel)) ggX4_refer_X4_target
set_option maxRecDepth 20000 in
theorem ggX4_refer_X1_child : GoodIn wsX4_refer wsX1_child := goodIn_r _ [21, 22, 23, 24, 25, 26, 27, 28, 20, 29, 96, 97, 98, 99, 100, 101, 102] rfl (by decide +kernel)
set_option maxRecDepth 20000 in
theorem gX4_refer_X1_child : GoodIn wsX4_refer (wsV RX4 292 RX1 yX1_child wsX1_child) := goodIn_app (goodIn_of _ (by decide +kernel)) ggX4_refer_X1_child
set_option maxRecDepth 20000 in
theorem ggX4_refer_X4_push : GoodIn wsX4_refer wsX4_push := goodIn_r _ [33, 8, 9, 1, 10, 11, 78, 79, 80, 81, 82, 83, 84, 85, 86, 87, 88, 89, 90, 91, 92, 93, 94, 95, 96, 97, 98, 99, 100, 101, 102] rfl (by decide +kernel)
set_option maxRecDepth 20000 in
theorem gX4_refer_X4_push : GoodIn wsX4_refer (wsV RX4 185 RX4 yX4_push wsX4_push) := goodIn_app (goodIn_of _ (by decide +kernel)) ggX4_refer_X4_push
set_option maxRecDepth 20000 in
theorem ggX4_refer_X4_pushCopy : GoodIn wsX4_refer wsX4_pushCopy := goodIn_r _ [37, 1, 38, 39, 40, 20, 41, 42, 43, 44, 45, 22, 25, 23, 26, 27, 28, 29, 46, 47, 48, 6, 49, 50, 51, 52, 53, 54, 55, 56, 57, 58, 59, 60, 61, 62, 63, 64, 65, 66, 67, 68, 69, 70, 71, 72, 73, 24, 30, 31, 32, 33, 8, 9, 10, 11, 78, 79, 80, 81, 82, 83, 84, 85, 86, 87, 88, 89, 90, 91, 92, 93, 94, 95, 96, 97, 98, 99, 100, 101, 102, 103, 104, 105, 106, 107, 108, 109, 110, 111, 112, 113, 114, 115, 116, 117, 118, 119, 120, 121] rfl (by decide +kernel)
set_option maxRecDepth 20000 in
theorem gX4_refer_X4_pushCopy : GoodIn wsX4_refer (wsV RX4 280 RX4 yX4_pushCopy wsX4_pushCopy) := goodIn_app (goodIn_of _ (by decide +kernel)) ggX4_refer_X4_pushCopy
set_option maxRecDepth 20000 in
theorem ggX4_refer_X1_assign : GoodIn wsX4_refer wsX1_assign := goodIn_r _ [77, 22, 25, 23, 96, 97, 98, 99, 100, 101, 102] rfl (by decide +kernel)
set_option maxRecDepth 20000 in
theorem gX4_refer_X1_assign : GoodIn wsX4_refer (wsV RX4 296 RX1 yX1_assign wsX1_assign) := goodIn_app (goodIn_of _ (by decide +kernel)) ggX4_refer_X1_assign
set_option maxRecDepth 20000 in
theorem ggX4_gather_X1_make : GoodIn wsX4_gather wsX1_make := goodIn_r _ [10, 11, 12, 13, 14, 15, 16, 44, 45, 46, 47, 48, 49, 50] rfl (by decide +kernel)
set_option maxRecDepth 20000 in
theorem gX4_gather_X1_make : GoodIn wsX4_gather (wsV RX4 134 RX1 yX1_make wsX1_make) := goodIn_app (goodIn_of _ (by decide +kernel)) ggX4_gather_X1_make
set_option maxRecDepth 20000 in
theorem ggX4_gather_X1_prepend : GoodIn wsX4_gather wsX1_prepend := goodIn_r _ [20, 13, 12, 16, 15, 14, 44, 45, 46, 47, 48, 49, 50] rfl (by decide +kernel)
set_option maxRecDepth 20000 in
theorem gX4_gather_X1_prepend : GoodIn wsX4_gather (wsV RX4 299 RX1 yX1_prepend wsX1_prepend) := goodIn_app (goodIn_of _ (by decide +kernel)) ggX4_gather_X1_prepend
set_option maxRecDepth 20000 in
theorem ggX4_gather_X4_push : GoodIn wsX4_gather wsX4_push := goodIn_r _ [25, 1, 2, 3, 4, 5, 26, 27, 28, 29, 30, 31, 32, 33, 34, 35, 36, 37, 38, 39, 40, 41, 42, 43, 44, 45, 46, 47, 48, 49, 50] rfl (by decide +kernel)
set_option maxRecDepth 20000 in
theorem gX4_gather_X4_push : GoodIn wsX4_gather (wsV RX4 185 RX4 yX4_push wsX4_push) := goodIn_app (goodIn_of _ (by decide +kernel)) ggX4_gather_X4_push
set_option maxRecDepth 20000 in
theorem ggX4_scatter_X4_popOf : GoodIn wsX4_scatter wsX4_popOf := goodIn_r _ [11, 3, 12, 5, 13, 14, 15, 10, 16, 1, 2, 6, 30, 31, 32, 33, 34, 35, 36, 37, 38, 39, 40, 41, 42, 43, 44, 45, 46, 47, 48, 49, 50, 51, 52, 53, 54] rfl (by decide +kernel)
set_option maxRecDepth 20000 in
theorem gX4_scatter_X4_popOf : GoodIn wsX4_scatter (wsV RX4 258 RX4 yX4_popOf wsX4_popOf) := goodIn_app (goodIn_of _ (by decide +kernel)) ggX4_scatter_X4_popOf
set_option maxRecDepth 20000 in
theorem ggX4_scatter_X1_detach : GoodIn wsX4_scatter wsX1_detach := goodIn_r _ [21, 22, 23, 24, 25, 26, 27, 28, 20, 29, 48, 49, 50, 51, 52, 53, 54] rfl (by decide +kernel)
set_option maxRecDepth 20000 in
theorem gX4_scatter_X1_detach : GoodIn wsX4_scatter (wsV RX4 302 RX1 yX1_detach wsX1_detach) := goodIn_app (goodIn_of _ (by decide +kernel)) ggX4_scatter_X1_detach
set_option maxRecDepth 20000 in
theorem ggX4_enter_X7_findProgram : GoodIn wsX4_enter wsX7_findProgram := goodIn_r _ [22, 23, 24, 25, 147, 148, 149, 150, 151, 152, 153, 154, 155, 156, 157, 158, 159, 160, 161, 162, 163, 164, 165, 166, 167, 168, 169, 170, 171, 172, 173, 174, 175, 176, 177] rfl (by decide +kernel)
set_option maxRecDepth 20000 in
theorem gX4_enter_X7_findProgram : GoodIn wsX4_enter (wsV RX4 108 RX7 yX7_findProgram wsX7_findProgram) := goodIn_app (goodIn_of _ (by decide +kernel)) ggX4_enter_X7_findProgram
set_option maxRecDepth 20000 in
theorem ggX4_enter_X2_ask : GoodIn wsX4_enter wsX2_ask := goodIn_r _ [30, 31, 32, 33, 34, 35, 36, 37, 38, 39, 40, 41, 42, 43, 44, 45, 21, 46, 47, 48, 49, 50, 51, 52, 53, 54, 55, 56, 57, 58, 59, 60, 61, 62, 63, 64, 65, 66, 67, 68, 69, 70, 71, 72, 73, 74, 75, 76, 77, 78, 79, 80, 81, 82, 83, 84, 85, 86, 178, 179, 180, 181, 182, 183, 184, 185, 186, 187, 188, 147, 148, 149, 150, 151, 152, 153, 154, 155, 156, 157, 158, 159, 160, 161, 162, 140, 141, 142, 143, 144, 145, 146] rfl (by decide +kernel)
set_option maxRecDepth 20000 in
theorem gX4_enter_X2_ask : GoodIn wsX4_enter (wsV RX4 305 RX2 yX2_ask wsX2_ask) := goodIn_app (goodIn_of _ (by decide +kernel)) ggX4_enter_X2_ask
set_option maxRecDepth 20000 in
theorem ggX4_enter_X4_end : GoodIn wsX4_enter wsX4_end := goodIn_r _ [91, 92, 93, 94, 122, 123, 124, 125, 126, 127, 128, 129, 130, 131, 132, 133, 134, 135, 136, 137, 138, 139] rfl (by decide +kernel)
set_option maxRecDepth 20000 in
theorem gX4_enter_X4_end : GoodIn wsX4_enter (wsV RX4 153 RX4 yX4_end wsX4_end) := goodIn_app (goodIn_of _ (by decide +kernel)) ggX4_enter_X4_end
set_option maxRecDepth 20000 in
theorem ggX4_enter_X4_pay : GoodIn wsX4_enter wsX4_pay := goodIn_r _ [98, 99, 100, 101, 102, 87, 88, 89, 90, 91, 92, 93, 94, 122, 123, 124, 125, 126, 127, 128, 129, 130, 131, 132, 133, 134, 135, 136, 137, 138, 139, 189, 190, 191, 192, 193, 194, 195, 196, 197, 198, 199, 200, 201, 202, 203, 204, 205, 206, 207] rfl (by decide +kernel)
set_option maxRecDepth 20000 in
theorem gX4_enter_X4_pay : GoodIn wsX4_enter (wsV RX4 199 RX4 yX4_pay wsX4_pay) := goodIn_app (goodIn_of _ (by decide +kernel)) ggX4_enter_X4_pay
set_option maxRecDepth 20000 in
theorem ggX4_enter_X5_takes : GoodIn wsX4_enter wsX5_takes := goodIn_r _ [107, 108, 109, 110, 106, 111, 112, 113, 114, 163, 164, 165, 166, 167, 168, 169, 170, 171, 172, 173, 174, 175, 176, 177] rfl (by decide +kernel)
set_option maxRecDepth 20000 in
theorem gX4_enter_X5_takes : GoodIn wsX4_enter (wsV RX4 309 RX5 yX5_takes wsX5_takes) := goodIn_app (goodIn_of _ (by decide +kernel)) ggX4_enter_X5_takes
set_option maxRecDepth 20000 in
theorem ggX4_enter_X4_pushFrame : GoodIn wsX4_enter wsX4_pushFrame := goodIn_r _ [118, 2, 119, 120, 121, 5, 13, 122, 123, 124, 125, 126, 127, 128, 129, 130, 131, 132, 133, 134, 135, 136, 137, 138, 139] rfl (by decide +kernel)
set_option maxRecDepth 20000 in
theorem gX4_enter_X4_pushFrame : GoodIn wsX4_enter (wsV RX4 117 RX4 yX4_pushFrame wsX4_pushFrame) := goodIn_app (goodIn_of _ (by decide +kernel)) ggX4_enter_X4_pushFrame
set_option maxRecDepth 20000 in
theorem ggX4_useCoin_X4_peek : GoodIn wsX4_useCoin wsX4_peek := goodIn_r _ [11, 12, 13, 2, 14, 15, 129, 130, 131, 132, 133, 134, 135, 136, 137, 138, 139, 140, 141, 142, 143, 144, 145, 146, 147, 148, 149, 150, 151, 152, 153] rfl (by decide +kernel)
set_option maxRecDepth 20000 in
theorem gX4_useCoin_X4_peek : GoodIn wsX4_useCoin (wsV RX4 318 RX4 yX4_peek wsX4_peek) := goodIn_app (goodIn_of _ (by decide +kernel)) ggX4_useCoin_X4_peek
set_option maxRecDepth 20000 in
theorem ggX4_useCoin_X2_ask : GoodIn wsX4_useCoin wsX2_ask := goodIn_r _ [20, 21, 22, 23, 24, 25, 26, 27, 28, 29, 30, 31, 32, 33, 34, 35, 36, 37, 38, 39, 40, 41, 42, 43, 44, 45, 46, 47, 48, 49, 50, 51, 52, 53, 54, 55, 56, 57, 58, 59, 60, 61, 62, 63, 64, 65, 66, 67, 68, 69, 70, 71, 72, 73, 74, 75, 76, 77, 154, 155, 156, 157, 158, 159, 160, 161, 162, 163, 164, 165, 166, 167, 168, 169, 170, 171, 172, 173, 174, 175, 176, 177, 178, 179, 180, 147, 148, 149, 150, 151, 152, 153] rfl (by decide +kernel)
set_option maxRecDepth 20000 in
theorem gX4_useCoin_X2_ask : GoodIn wsX4_useCoin (wsV RX4 305 RX2 yX2_ask wsX2_ask) := goodIn_app (goodIn_of _ (by decide +kernel)) ggX4_useCoin_X2_ask
set_option maxRecDepth 20000 in
theorem ggX4_useCoin_X4_end : GoodIn wsX4_useCoin wsX4_end := goodIn_r _ [81, 82, 83, 84, 129, 130, 131, 132, 133, 134, 135, 136, 137, 138, 139, 140, 141, 142, 143, 144, 145, 146] rfl (by decide +kernel)
set_option maxRecDepth 20000 in
theorem gX4_useCoin_X4_end : GoodIn wsX4_useCoin (wsV RX4 153 RX4 yX4_end wsX4_end) := goodIn_app (goodIn_of _ (by decide +kernel)) ggX4_useCoin_X4_end
set_option maxRecDepth 20000 in
theorem ggX4_useCoin_X4_pay : GoodIn wsX4_useCoin wsX4_pay := goodIn_r _ [88, 89, 90, 91, 92, 78, 79, 80, 10, 81, 82, 83, 84, 129, 130, 131, 132, 133, 134, 135, 136, 137, 138, 139, 140, 141, 142, 143, 144, 145, 146, 181, 182, 183, 184, 185, 186, 187, 188, 189, 190, 191, 192, 193, 194, 195, 196, 197, 198, 199] rfl (by decide +kernel)
set_option maxRecDepth 20000 in
theorem gX4_useCoin_X4_pay : GoodIn wsX4_useCoin (wsV RX4 199 RX4 yX4_pay wsX4_pay) := goodIn_app (goodIn_of _ (by decide +kernel)) ggX4_useCoin_X4_pay
set_option maxRecDepth 20000 in
theorem ggX4_useCoin_X4_withdraw : GoodIn wsX4_useCoin wsX4_withdraw := goodIn_r _ [96, 1, 6, 97, 98, 99, 100, 101, 78, 79, 80, 10, 81, 82, 83, 84, 102, 103, 104, 105, 2, 106, 14, 107, 108, 109, 110, 12, 13, 15, 111, 112, 113, 114, 115, 66, 67, 51, 68, 69, 59, 70, 71, 72, 73, 116, 117, 118, 119, 129, 130, 131, 132, 133, 134, 135, 136, 137, 138, 139, 140, 141, 142, 143, 144, 145, 146, 154, 155, 156, 157, 158, 159, 160, 161, 162, 163, 164, 147, 148, 149, 150, 151, 152, 153] rfl (by decide +kernel)
set_option maxRecDepth 20000 in
theorem gX4_useCoin_X4_withdraw : GoodIn wsX4_useCoin (wsV RX4 321 RX4 yX4_withdraw wsX4_withdraw) := goodIn_app (goodIn_of _ (by decide +kernel)) ggX4_useCoin_X4_withdraw
set_option maxRecDepth 20000 in
theorem ggX4_useCoin_X4_popOf : GoodIn wsX4_useCoin wsX4_popOf := goodIn_r _ [105, 2, 106, 14, 107, 108, 109, 10, 110, 12, 13, 15, 129, 130, 131, 132, 133, 134, 135, 136, 137, 138, 139, 140, 141, 142, 143, 144, 145, 146, 147, 148, 149, 150, 151, 152, 153] rfl (by decide +kernel)
set_option maxRecDepth 20000 in
theorem gX4_useCoin_X4_popOf : GoodIn wsX4_useCoin (wsV RX4 258 RX4 yX4_popOf wsX4_popOf) := goodIn_app (goodIn_of _ (by decide +kernel)) ggX4_useCoin_X4_popOf
set_option maxRecDepth 20000 in
theorem ggX4_useCoin_X4_pop : GoodIn wsX4_useCoin wsX4_pop := goodIn_r _ [110, 12, 13, 2, 14, 15, 129, 130, 131, 132, 133, 134, 135, 136, 137, 138, 139, 140, 141, 142, 143, 144, 145, 146, 147, 148, 149, 150, 151, 152, 153] rfl (by decide +kernel)
set_option maxRecDepth 20000 in
theorem gX4_useCoin_X4_pop : GoodIn wsX4_useCoin (wsV RX4 181 RX4 yX4_pop wsX4_pop) := goodIn_app (goodIn_of _ (by decide +kernel)) ggX4_useCoin_X4_pop
set_option maxRecDepth 20000 in
theorem ggX4_useCoin_X4_target : GoodIn wsX4_useCoin wsX4_target := goodIn_r _ [123, 2, 106, 3, 14, 129, 130, 131, 132, 133, 134, 135, 136, 137, 138, 139, 140, 141, 142, 143, 144, 145, 146, 147, 148, 149, 150, 151, 152, 153] rfl (by decide +kernel)
set_option maxRecDepth 20000 in
theorem gX4_useCoin_X4_target : GoodIn wsX4_useCoin (wsV RX4 289 RX4 yX4_target wsX4_target) := goodIn_app (goodIn_of _ (by decide +kernel)) ggX4_useCoin_X4_target
set_option maxRecDepth 20000 in
theorem ggX4_useCoin_X4_pushNumber : GoodIn wsX4_useCoin wsX4_pushNumber := goodIn_r _ [114, 2, 115, 66, 67, 51, 68, 69, 59, 70, 71, 72, 73, 116, 117, 118, 10, 119, 12, 13, 14, 15, 129, 130, 131, 132, 133, 134, 135, 136, 137, 138, 139, 140, 141, 142, 143, 144, 145, 146, 147, 148, 149, 150, 151, 152, 153] rfl (by decide +kernel)
set_option maxRecDepth 20000 in
theorem gX4_useCoin_X4_pushNumber : GoodIn wsX4_useCoin (wsV RX4 274 RX4 yX4_pushNumber wsX4_pushNumber) := goodIn_app (goodIn_of _ (by decide +kernel)) ggX4_useCoin_X4_pushNumber
set_option maxRecDepth 20000 in
theorem ggX4_useCoin_X4_split : GoodIn wsX4_useCoin wsX4_split := goodIn_r _ [127, 2, 3, 128, 102, 103, 104, 10, 105, 106, 14, 107, 108, 109, 110, 12, 13, 15, 97, 98, 99, 100, 101, 78, 79, 80, 81, 82, 83, 84, 111, 112, 113, 114, 115, 66, 67, 51, 68, 69, 59, 70, 71, 72, 73, 116, 117, 118, 119, 129, 130, 131, 132, 133, 134, 135, 136, 137, 138, 139, 140, 141, 142, 143, 144, 145, 146, 147, 148, 149, 150, 151, 152, 153] rfl (by decide +kernel)
set_option maxRecDepth 20000 in
theorem gX4_useCoin_X4_split : GoodIn wsX4_useCoin (wsV RX4 332 RX4 yX4_split wsX4_split) := goodIn_app (goodIn_of _ (by decide +kernel)) ggX4_useCoin_X4_split
set_option maxRecDepth 20000 in
theorem ggX4_withdraw_X10_below : GoodIn wsX4_withdraw wsX10_below := goodIn_r _ [6, 7] rfl (by decide +kernel)
set_option maxRecDepth 20000 in
theorem gX4_withdraw_X10_below : GoodIn wsX4_withdraw (va_wsS RX4 335 yX10_below wsX10_below) := goodIn_app (goodIn_of _ (by decide +kernel)) ggX4_withdraw_X10_below
set_option maxRecDepth 20000 in
theorem ggX4_withdraw_X4_end : GoodIn wsX4_withdraw wsX4_end := goodIn_r _ [12, 13, 14, 15, 49, 50, 51, 52, 53, 54, 55, 56, 57, 58, 59, 60, 61, 62, 63, 64, 65, 66] rfl (by decide +kernel)
set_option maxRecDepth 20000 in
theorem gX4_withdraw_X4_end : GoodIn wsX4_withdraw (wsV RX4 153 RX4 yX4_end wsX4_end) := goodIn_app (goodIn_of _ (by decide +kernel)) ggX4_withdraw_X4_end
set_option maxRecDepth 20000 in
theorem ggX4_withdraw_X4_popOf : GoodIn wsX4_withdraw wsX4_popOf := goodIn_r _ [19, 20, 21, 22, 23, 24, 25, 11, 26, 27, 28, 29, 49, 50, 51, 52, 53, 54, 55, 56, 57, 58, 59, 60, 61, 62, 63, 64, 65, 66, 78, 79, 80, 81, 82, 83, 84] rfl (by decide +kernel)
set_option maxRecDepth 20000 in
theorem gX4_withdraw_X4_popOf : GoodIn wsX4_withdraw (wsV RX4 258 RX4 yX4_popOf wsX4_popOf) := goodIn_app (goodIn_of _ (by decide +kernel)) ggX4_withdraw_X4_popOf
set_option maxRecDepth 20000 in
theorem ggX4_withdraw_X4_pushNumber : GoodIn wsX4_withdraw wsX4_pushNumber := goodIn_r _ [33, 20, 34, 35, 36, 37, 38, 39, 40, 41, 42, 43, 44, 45, 46, 47, 11, 48, 27, 28, 22, 29, 49, 50, 51, 52, 53, 54, 55, 56, 57, 58, 59, 60, 61, 62, 63, 64, 65, 66, 78, 79, 80, 81, 82, 83, 84] rfl (by decide +kernel)
set_option maxRecDepth 20000 in
theorem gX4_withdraw_X4_pushNumber : GoodIn wsX4_withdraw (wsV RX4 274 RX4 yX4_pushNumber wsX4_pushNumber) := goodIn_app (goodIn_of _ (by decide +kernel)) ggX4_withdraw_X4_pushNumber
set_option maxRecDepth 20000 in
theorem ggX4_split_X4_popOf : GoodIn wsX4_split wsX4_popOf := goodIn_r _ [8, 1, 9, 10, 11, 12, 13, 7, 14, 15, 16, 17, 49, 50, 51, 52, 53, 54, 55, 56, 57, 58, 59, 60, 61, 62, 63, 64, 65, 66, 67, 68, 69, 70, 71, 72, 73] rfl (by decide +kernel)
set_option maxRecDepth 20000 in
theorem gX4_split_X4_popOf : GoodIn wsX4_split (wsV RX4 258 RX4 yX4_popOf wsX4_popOf) := goodIn_app (goodIn_of _ (by decide +kernel)) ggX4_split_X4_popOf
set_option maxRecDepth 20000 in
theorem ggX4_split_X10_below : GoodIn wsX4_split wsX10_below := goodIn_r _ [21, 22] rfl (by decide +kernel)
set_option maxRecDepth 20000 in
theorem gX4_split_X10_below : GoodIn wsX4_split (va_wsS RX4 335 yX10_below wsX10_below) := goodIn_app (goodIn_of _ (by decide +kernel)) ggX4_split_X10_below
set_option maxRecDepth 20000 in
theorem ggX4_split_X4_end : GoodIn wsX4_split wsX4_end := goodIn_r _ [26, 27, 28, 29, 49, 50, 51, 52, 53, 54, 55, 56, 57, 58, 59, 60, 61, 62, 63, 64, 65, 66] rfl (by decide +kernel)
set_option maxRecDepth 20000 in
theorem gX4_split_X4_end : GoodIn wsX4_split (wsV RX4 153 RX4 yX4_end wsX4_end) := goodIn_app (goodIn_of _ (by decide +kernel)) ggX4_split_X4_end
set_option maxRecDepth 20000 in
theorem ggX4_split_X4_pushNumber : GoodIn wsX4_split wsX4_pushNumber := goodIn_r _ [33, 1, 34, 35, 36, 37, 38, 39, 40, 41, 42, 43, 44, 45, 46, 47, 7, 48, 15, 16, 10, 17, 49, 50, 51, 52, 53, 54, 55, 56, 57, 58, 59, 60, 61, 62, 63, 64, 65, 66, 67, 68, 69, 70, 71, 72, 73] rfl (by decide +kernel)
set_option maxRecDepth 20000 in
theorem gX4_split_X4_pushNumber : GoodIn wsX4_split (wsV RX4 274 RX4 yX4_pushNumber wsX4_pushNumber) := goodIn_app (goodIn_of _ (by decide +kernel)) ggX4_split_X4_pushNumber
set_option maxRecDepth 20000 in
theorem ggX4_reckon_X4_popOf : GoodIn wsX4_reckon wsX4_popOf := goodIn_r _ [10, 1, 5, 11, 12, 13, 14, 9, 15, 16, 17, 18, 148, 149, 150, 151, 152, 153, 154, 155, 156, 157, 158, 159, 160, 161, 162, 163, 164, 165, 166, 167, 168, 169, 170, 171, 172] rfl (by decide +kernel)
set_option maxRecDepth 20000 in
theorem gX4_reckon_X4_popOf : GoodIn wsX4_reckon (wsV RX4 258 RX4 yX4_popOf wsX4_popOf) := goodIn_app (goodIn_of _ (by decide +kernel)) ggX4_reckon_X4_popOf
set_option maxRecDepth 20000 in
theorem ggX4_reckon_X4_pushNumber : GoodIn wsX4_reckon wsX4_pushNumber := goodIn_r _ [22, 1, 23, 24, 25, 26, 27, 28, 29, 30, 31, 32, 33, 34, 35, 36, 9, 37, 16, 17, 11, 18, 148, 149, 150, 151, 152, 153, 154, 155, 156, 157, 158, 159, 160, 161, 162, 163, 164, 165, 166, 167, 168, 169, 170, 171, 172] rfl (by decide +kernel)
set_option maxRecDepth 20000 in
theorem gX4_reckon_X4_pushNumber : GoodIn wsX4_reckon (wsV RX4 274 RX4 yX4_pushNumber wsX4_pushNumber) := goodIn_app (goodIn_of _ (by decide +kernel)) ggX4_reckon_X4_pushNumber
set_option maxRecDepth 20000 in
theorem ggX4_reckon_X4_pop : GoodIn wsX4_reckon wsX4_pop := goodIn_r _ [15, 16, 17, 1, 11, 18, 148, 149, 150, 151, 152, 153, 154, 155, 156, 157, 158, 159, 160, 161, 162, 163, 164, 165, 166, 167, 168, 169, 170, 171, 172] rfl (by decide +kernel)
set_option maxRecDepth 20000 in
theorem gX4_reckon_X4_pop : GoodIn wsX4_reckon (wsV RX4 181 RX4 yX4_pop wsX4_pop) := goodIn_app (goodIn_of _ (by decide +kernel)) ggX4_reckon_X4_pop
set_option maxRecDepth 20000 in
theorem ggX4_reckon_X10_set : GoodIn wsX4_reckon wsX10_set := goodIn_r _ [42, 43, 44, 45, 173, 174, 175, 176, 177] rfl (by decide +kernel)
set_option maxRecDepth 20000 in
theorem gX4_reckon_X10_set : GoodIn wsX4_reckon (wsV RX4 341 RX10 yX10_set wsX10_set) := goodIn_app (goodIn_of _ (by decide +kernel)) ggX4_reckon_X10_set
set_option maxRecDepth 20000 in
theorem ggX4_reckon_X4_pushWide : GoodIn wsX4_reckon wsX4_pushWide := goodIn_r _ [49, 1, 11, 3, 50, 51, 52, 53, 54, 41, 55, 45, 43, 44, 56, 57, 58, 9, 59, 60, 61, 62, 19, 20, 21, 22, 23, 24, 25, 26, 27, 28, 29, 30, 31, 32, 33, 34, 35, 36, 37, 16, 17, 18, 148, 149, 150, 151, 152, 153, 154, 155, 156, 157, 158, 159, 160, 161, 162, 163, 164, 165, 166, 167, 168, 169, 170, 171, 172, 173, 174, 175, 176, 177] rfl (by decide +kernel)
set_option maxRecDepth 20000 in
theorem gX4_reckon_X4_pushWide : GoodIn wsX4_reckon (wsV RX4 344 RX4 yX4_pushWide wsX4_pushWide) := goodIn_app (goodIn_of _ (by decide +kernel)) ggX4_reckon_X4_pushWide
set_option maxRecDepth 20000 in
theorem ggX4_reckon_X4_compare : GoodIn wsX4_reckon wsX4_compare := goodIn_r _ [66, 1, 4, 2, 67, 68, 69, 26, 70, 71, 72, 73, 74, 30, 32, 31, 33, 75, 76, 77, 78, 79, 80, 9, 81, 82, 83, 84, 85, 56, 57, 58, 59, 60, 61, 62, 86, 87, 88, 89, 90, 91, 92, 93, 94, 95, 41, 96, 97, 98, 99, 100, 19, 20, 21, 22, 23, 24, 25, 27, 28, 29, 34, 35, 36, 37, 16, 17, 11, 18, 148, 149, 150, 151, 152, 153, 154, 155, 156, 157, 158, 159, 160, 161, 162, 163, 164, 165, 166, 167, 168, 169, 170, 171, 172, 178, 179, 180, 181, 182, 183, 184, 185, 186, 187, 188, 189, 190, 191, 192, 193, 194, 195, 196] rfl (by decide +kernel)
set_option maxRecDepth 20000 in
theorem gX4_reckon_X4_compare : GoodIn wsX4_reckon (wsV RX4 347 RX4 yX4_compare wsX4_compare) := goodIn_app (goodIn_of _ (by decide +kernel)) ggX4_reckon_X4_compare
set_option maxRecDepth 20000 in
theorem ggX4_reckon_X4_shift : GoodIn wsX4_reckon wsX4_shift := goodIn_r _ [104, 3, 105, 106, 41, 107, 56, 57, 58, 9, 59, 60, 61, 62, 108, 109, 110, 111, 44, 43, 112, 113, 114, 115, 116, 117, 118, 119, 120, 46, 47, 48, 49, 1, 11, 50, 51, 52, 53, 54, 55, 45, 19, 20, 21, 22, 23, 24, 25, 26, 27, 28, 29, 30, 31, 32, 33, 34, 35, 36, 37, 16, 17, 18, 148, 149, 150, 151, 152, 153, 154, 155, 156, 157, 158, 159, 160, 161, 162, 163, 164, 165, 173, 174, 175, 176, 177, 166, 167, 168, 169, 170, 171, 172] rfl (by decide +kernel)
set_option maxRecDepth 20000 in
theorem gX4_reckon_X4_shift : GoodIn wsX4_reckon (wsV RX4 350 RX4 yX4_shift wsX4_shift) := goodIn_app (goodIn_of _ (by decide +kernel)) ggX4_reckon_X4_shift
set_option maxRecDepth 20000 in
theorem ggX4_reckon_X4_combine : GoodIn wsX4_reckon wsX4_combine := goodIn_r _ [124, 3, 50, 51, 125, 126, 127, 41, 128, 44, 43, 45, 97, 98, 99, 100, 129, 130, 131, 132, 133, 95, 96, 134, 135, 136, 137, 138, 139, 140, 141, 142, 143, 144, 145, 146, 147, 38, 39, 40, 42, 148, 149, 150, 151, 152, 153, 154, 155, 156, 157, 158, 159, 160, 161, 162, 163, 164, 165, 173, 174, 175, 176, 177] rfl (by decide +kernel)
set_option maxRecDepth 20000 in
theorem gX4_reckon_X4_combine : GoodIn wsX4_reckon (wsV RX4 354 RX4 yX4_combine wsX4_combine) := goodIn_app (goodIn_of _ (by decide +kernel)) ggX4_reckon_X4_combine
set_option maxRecDepth 20000 in
theorem ggX4_pushWide_X10_fits : GoodIn wsX4_pushWide wsX10_fits := goodIn_r _ [10, 11, 12, 13, 69, 70, 71, 72, 73] rfl (by decide +kernel)
set_option maxRecDepth 20000 in
theorem gX4_pushWide_X10_fits : GoodIn wsX4_pushWide (wsV RX4 357 RX10 yX10_fits wsX10_fits) := goodIn_app (goodIn_of _ (by decide +kernel)) ggX4_pushWide_X10_fits
set_option maxRecDepth 20000 in
theorem ggX4_pushWide_X4_end : GoodIn wsX4_pushWide wsX4_end := goodIn_r _ [18, 19, 20, 21, 44, 45, 46, 47, 48, 49, 50, 51, 52, 53, 54, 55, 56, 57, 58, 59, 60, 61] rfl (by decide +kernel)
set_option maxRecDepth 20000 in
theorem gX4_pushWide_X4_end : GoodIn wsX4_pushWide (wsV RX4 153 RX4 yX4_end wsX4_end) := goodIn_app (goodIn_of _ (by decide +kernel)) ggX4_pushWide_X4_end
set_option maxRecDepth 20000 in
theorem ggX4_pushWide_X4_pushNumber : GoodIn wsX4_pushWide wsX4_pushNumber := goodIn_r _ [25, 1, 26, 27, 28, 29, 30, 31, 32, 33, 34, 35, 36, 37, 38, 39, 17, 40, 41, 42, 2, 43, 44, 45, 46, 47, 48, 49, 50, 51, 52, 53, 54, 55, 56, 57, 58, 59, 60, 61, 62, 63, 64, 65, 66, 67, 68] rfl (by decide +kernel)
set_option maxRecDepth 20000 in
theorem gX4_pushWide_X4_pushNumber : GoodIn wsX4_pushWide (wsV RX4 274 RX4 yX4_pushNumber wsX4_pushNumber) := goodIn_app (goodIn_of _ (by decide +kernel)) ggX4_pushWide_X4_pushNumber
set_option maxRecDepth 20000 in
theorem ggX4_combine_X10_add : GoodIn wsX4_combine wsX10_add := goodIn_r _ [8, 9, 10, 11, 12, 13, 7, 14, 15, 59, 60, 61, 62, 63] rfl (by decide +kernel)
set_option maxRecDepth 20000 in
theorem gX4_combine_X10_add : GoodIn wsX4_combine (wsV RX4 363 RX10 yX10_add wsX10_add) := goodIn_app (goodIn_of _ (by decide +kernel)) ggX4_combine_X10_add
set_option maxRecDepth 20000 in
theorem ggX4_combine_X10_subtract : GoodIn wsX4_combine wsX10_subtract := goodIn_r _ [19, 10, 9, 11, 20, 21, 7, 22, 12, 13, 14, 15, 59, 60, 61, 62, 63] rfl (by decide +kernel)
set_option maxRecDepth 20000 in
theorem gX4_combine_X10_subtract : GoodIn wsX4_combine (wsV RX4 366 RX10 yX10_subtract wsX10_subtract) := goodIn_app (goodIn_of _ (by decide +kernel)) ggX4_combine_X10_subtract
set_option maxRecDepth 20000 in
theorem ggX4_combine_X10_multiply : GoodIn wsX4_combine wsX10_multiply := goodIn_r _ [26, 10, 9, 11, 27, 28, 7, 29, 30, 12, 13, 14, 15, 59, 60, 61, 62, 63] rfl (by decide +kernel)
set_option maxRecDepth 20000 in
theorem gX4_combine_X10_multiply : GoodIn wsX4_combine (wsV RX4 369 RX10 yX10_multiply wsX10_multiply) := goodIn_app (goodIn_of _ (by decide +kernel)) ggX4_combine_X10_multiply
set_option maxRecDepth 20000 in
theorem ggX4_combine_X10_divide : GoodIn wsX4_combine wsX10_divide := goodIn_r _ [34, 11, 35, 36, 10, 9, 20, 21, 7, 22, 12, 13, 14, 15, 59, 60, 61, 62, 63] rfl (by decide +kernel)
set_option maxRecDepth 20000 in
theorem gX4_combine_X10_divide : GoodIn wsX4_combine (wsV RX4 372 RX10 yX10_divide wsX10_divide) := goodIn_app (goodIn_of _ (by decide +kernel)) ggX4_combine_X10_divide
set_option maxRecDepth 20000 in
theorem ggX4_combine_X10_set : GoodIn wsX4_combine wsX10_set := goodIn_r _ [40, 10, 9, 11, 59, 60, 61, 62, 63] rfl (by decide +kernel)
set_option maxRecDepth 20000 in
theorem gX4_combine_X10_set : GoodIn wsX4_combine (wsV RX4 341 RX10 yX10_set wsX10_set) := goodIn_app (goodIn_of _ (by decide +kernel)) ggX4_combine_X10_set
set_option maxRecDepth 20000 in
theorem ggX4_shift_X10_bitsOf : GoodIn wsX4_shift wsX10_bitsOf := goodIn_r _ [5] rfl (by decide +kernel)
set_option maxRecDepth 20000 in
theorem gX4_shift_X10_bitsOf : GoodIn wsX4_shift (va_wsS RX4 376 yX10_bitsOf wsX10_bitsOf) := goodIn_app (goodIn_of _ (by decide +kernel)) ggX4_shift_X10_bitsOf
set_option maxRecDepth 20000 in
theorem ggX4_shift_X4_end : GoodIn wsX4_shift wsX4_end := goodIn_r _ [10, 11, 12, 13, 64, 65, 66, 67, 68, 69, 70, 71, 72, 73, 74, 75, 76, 77, 78, 79, 80, 81] rfl (by decide +kernel)
set_option maxRecDepth 20000 in
theorem gX4_shift_X4_end : GoodIn wsX4_shift (wsV RX4 153 RX4 yX4_end wsX4_end) := goodIn_app (goodIn_of _ (by decide +kernel)) ggX4_shift_X4_end
set_option maxRecDepth 20000 in
theorem ggX4_shift_X10_shiftUp : GoodIn wsX4_shift wsX10_shiftUp := goodIn_r _ [17, 18, 19, 82, 83, 84, 85, 86] rfl (by decide +kernel)
set_option maxRecDepth 20000 in
theorem gX4_shift_X10_shiftUp : GoodIn wsX4_shift (wsV RX4 379 RX10 yX10_shiftUp wsX10_shiftUp) := goodIn_app (goodIn_of _ (by decide +kernel)) ggX4_shift_X10_shiftUp
set_option maxRecDepth 20000 in
theorem ggX4_shift_X10_cut : GoodIn wsX4_shift wsX10_cut := goodIn_r _ [23, 19, 18, 24, 82, 83, 84, 85, 86] rfl (by decide +kernel)
set_option maxRecDepth 20000 in
theorem gX4_shift_X10_cut : GoodIn wsX4_shift (wsV RX4 382 RX10 yX10_cut wsX10_cut) := goodIn_app (goodIn_of _ (by decide +kernel)) ggX4_shift_X10_cut
set_option maxRecDepth 20000 in
theorem ggX4_shift_X10_shiftDown : GoodIn wsX4_shift wsX10_shiftDown := goodIn_r _ [28, 19, 18, 82, 83, 84, 85, 86] rfl (by decide +kernel)
set_option maxRecDepth 20000 in
theorem gX4_shift_X10_shiftDown : GoodIn wsX4_shift (wsV RX4 385 RX10 yX10_shiftDown wsX10_shiftDown) := goodIn_app (goodIn_of _ (by decide +kernel)) ggX4_shift_X10_shiftDown
set_option maxRecDepth 20000 in
theorem ggX4_shift_X4_pushWide : GoodIn wsX4_shift wsX4_pushWide := goodIn_r _ [32, 33, 34, 1, 35, 36, 37, 38, 39, 4, 40, 41, 19, 18, 6, 7, 8, 9, 10, 11, 12, 13, 42, 43, 44, 45, 46, 47, 48, 49, 50, 51, 52, 53, 54, 55, 56, 57, 58, 59, 60, 61, 62, 63, 64, 65, 66, 67, 68, 69, 70, 71, 72, 73, 74, 75, 76, 77, 78, 79, 80, 81, 87, 88, 89, 90, 91, 92, 93, 82, 83, 84, 85, 86] rfl (by decide +kernel)
set_option maxRecDepth 20000 in
theorem gX4_shift_X4_pushWide : GoodIn wsX4_shift (wsV RX4 344 RX4 yX4_pushWide wsX4_pushWide) := goodIn_app (goodIn_of _ (by decide +kernel)) ggX4_shift_X4_pushWide
set_option maxRecDepth 20000 in
theorem ggX4_compare_X1_sizeOf : GoodIn wsX4_compare wsX1_sizeOf := goodIn_r _ [8, 9, 10, 11, 7, 12, 13, 14, 15, 16, 17, 18, 19, 88, 89, 90, 91, 92, 93, 94] rfl (by decide +kernel)
set_option maxRecDepth 20000 in
theorem gX4_compare_X1_sizeOf : GoodIn wsX4_compare (wsV RX4 283 RX1 yX1_sizeOf wsX1_sizeOf) := goodIn_app (goodIn_of _ (by decide +kernel)) ggX4_compare_X1_sizeOf
set_option maxRecDepth 20000 in
theorem ggX4_compare_X4_pay : GoodIn wsX4_compare wsX4_pay := goodIn_r _ [24, 25, 26, 27, 28, 29, 30, 31, 23, 32, 33, 34, 35, 70, 71, 72, 73, 74, 75, 76, 77, 78, 79, 80, 81, 82, 83, 84, 85, 86, 87, 95, 96, 97, 98, 99, 100, 101, 102, 103, 104, 105, 106, 107, 108, 109, 110, 111, 112, 113] rfl (by decide +kernel)
set_option maxRecDepth 20000 in
theorem gX4_compare_X4_pay : GoodIn wsX4_compare (wsV RX4 199 RX4 yX4_pay wsX4_pay) := goodIn_app (goodIn_of _ (by decide +kernel)) ggX4_compare_X4_pay
set_option maxRecDepth 20000 in
theorem ggX4_compare_X1_areAlike : GoodIn wsX4_compare wsX1_areAlike := goodIn_r _ [39, 40, 41, 42, 7, 43, 13, 15, 14, 16, 17, 18, 19, 88, 89, 90, 91, 92, 93, 94] rfl (by decide +kernel)
set_option maxRecDepth 20000 in
theorem gX4_compare_X1_areAlike : GoodIn wsX4_compare (wsV RX4 388 RX1 yX1_areAlike wsX1_areAlike) := goodIn_app (goodIn_of _ (by decide +kernel)) ggX4_compare_X1_areAlike
set_option maxRecDepth 20000 in
theorem ggX4_compare_X10_compare : GoodIn wsX4_compare wsX10_compare := goodIn_r _ [47, 48, 49, 46, 50, 51] rfl (by decide +kernel)
set_option maxRecDepth 20000 in
theorem gX4_compare_X10_compare : GoodIn wsX4_compare (va_wsS RX4 392 yX10_compare wsX10_compare) := goodIn_app (goodIn_of _ (by decide +kernel)) ggX4_compare_X10_compare
set_option maxRecDepth 20000 in
theorem ggX4_compare_X4_pushNumber : GoodIn wsX4_compare wsX4_pushNumber := goodIn_r _ [55, 1, 56, 57, 58, 7, 59, 60, 61, 13, 15, 14, 16, 62, 63, 64, 23, 65, 66, 67, 68, 69, 70, 71, 72, 73, 74, 75, 76, 77, 78, 79, 80, 81, 82, 83, 84, 85, 86, 87, 88, 89, 90, 91, 92, 93, 94] rfl (by decide +kernel)
set_option maxRecDepth 20000 in
theorem gX4_compare_X4_pushNumber : GoodIn wsX4_compare (wsV RX4 274 RX4 yX4_pushNumber wsX4_pushNumber) := goodIn_app (goodIn_of _ (by decide +kernel)) ggX4_compare_X4_pushNumber
set_option maxRecDepth 20000 in
theorem ggX4_keep_X4_popOf : GoodIn wsX4_keep wsX4_popOf := goodIn_r _ [14, 3, 15, 16, 17, 18, 19, 13, 20, 21, 22, 23, 117, 118, 119, 120, 121, 122, 123, 124, 125, 126, 127, 128, 129, 130, 131, 132, 133, 134, 154, 155, 156, 157, 158, 159, 160] rfl (by decide +kernel)
set_option maxRecDepth 20000 in
theorem gX4_keep_X4_popOf : GoodIn wsX4_keep (wsV RX4 258 RX4 yX4_popOf wsX4_popOf) := goodIn_app (goodIn_of _ (by decide +kernel)) ggX4_keep_X4_popOf
set_option maxRecDepth 20000 in
theorem ggX4_keep_X2_ask : GoodIn wsX4_keep wsX2_ask := goodIn_r _ [28, 29, 30, 31, 32, 33, 34, 35, 36, 37, 38, 39, 40, 41, 42, 43, 44, 45, 46, 47, 48, 49, 50, 51, 52, 53, 54, 55, 56, 57, 58, 59, 60, 61, 62, 63, 64, 65, 66, 67, 68, 69, 70, 71, 72, 73, 74, 75, 76, 77, 78, 79, 80, 81, 82, 83, 84, 85, 161, 162, 163, 164, 165, 166, 167, 168, 169, 170, 171, 172, 173, 174, 175, 176, 177, 178, 179, 180, 181, 182, 183, 184, 185, 186, 187, 154, 155, 156, 157, 158, 159, 160] rfl (by decide +kernel)
set_option maxRecDepth 20000 in
theorem gX4_keep_X2_ask : GoodIn wsX4_keep (wsV RX4 305 RX2 yX2_ask wsX2_ask) := goodIn_app (goodIn_of _ (by decide +kernel)) ggX4_keep_X2_ask
set_option maxRecDepth 20000 in
theorem ggX4_keep_X4_end : GoodIn wsX4_keep wsX4_end := goodIn_r _ [89, 90, 91, 92, 117, 118, 119, 120, 121, 122, 123, 124, 125, 126, 127, 128, 129, 130, 131, 132, 133, 134] rfl (by decide +kernel)
set_option maxRecDepth 20000 in
theorem gX4_keep_X4_end : GoodIn wsX4_keep (wsV RX4 153 RX4 yX4_end wsX4_end) := goodIn_app (goodIn_of _ (by decide +kernel)) ggX4_keep_X4_end
set_option maxRecDepth 20000 in
theorem ggX4_keep_X1_sizeOf : GoodIn wsX4_keep wsX1_sizeOf := goodIn_r _ [96, 97, 98, 99, 59, 100, 78, 80, 79, 81, 70, 71, 72, 154, 155, 156, 157, 158, 159, 160] rfl (by decide +kernel)
set_option maxRecDepth 20000 in
theorem gX4_keep_X1_sizeOf : GoodIn wsX4_keep (wsV RX4 283 RX1 yX1_sizeOf wsX1_sizeOf) := goodIn_app (goodIn_of _ (by decide +kernel)) ggX4_keep_X1_sizeOf
set_option maxRecDepth 20000 in
theorem ggX4_keep_X4_pay : GoodIn wsX4_keep wsX4_pay := goodIn_r _ [104, 1, 105, 106, 107, 86, 87, 88, 13, 89, 90, 91, 92, 117, 118, 119, 120, 121, 122, 123, 124, 125, 126, 127, 128, 129, 130, 131, 132, 133, 134, 135, 136, 137, 138, 139, 140, 141, 142, 143, 144, 145, 146, 147, 148, 149, 150, 151, 152, 153] rfl (by decide +kernel)
set_option maxRecDepth 20000 in
theorem gX4_keep_X4_pay : GoodIn wsX4_keep (wsV RX4 199 RX4 yX4_pay wsX4_pay) := goodIn_app (goodIn_of _ (by decide +kernel)) ggX4_keep_X4_pay
set_option maxRecDepth 20000 in
theorem ggX4_keep_X4_push : GoodIn wsX4_keep wsX4_push := goodIn_r _ [111, 21, 22, 3, 16, 23, 117, 118, 119, 120, 121, 122, 123, 124, 125, 126, 127, 128, 129, 130, 131, 132, 133, 134, 154, 155, 156, 157, 158, 159, 160] rfl (by decide +kernel)
set_option maxRecDepth 20000 in
theorem gX4_keep_X4_push : GoodIn wsX4_keep (wsV RX4 185 RX4 yX4_push wsX4_push) := goodIn_app (goodIn_of _ (by decide +kernel)) ggX4_keep_X4_push
set_option maxRecDepth 20000 in
theorem ggX4_keep_X4_pushNumber : GoodIn wsX4_keep wsX4_pushNumber := goodIn_r _ [115, 3, 116, 74, 75, 59, 76, 77, 67, 78, 79, 80, 81, 108, 109, 110, 13, 111, 21, 22, 16, 23, 117, 118, 119, 120, 121, 122, 123, 124, 125, 126, 127, 128, 129, 130, 131, 132, 133, 134, 154, 155, 156, 157, 158, 159, 160] rfl (by decide +kernel)
set_option maxRecDepth 20000 in
theorem gX4_keep_X4_pushNumber : GoodIn wsX4_keep (wsV RX4 274 RX4 yX4_pushNumber wsX4_pushNumber) := goodIn_app (goodIn_of _ (by decide +kernel)) ggX4_keep_X4_pushNumber
set_option maxRecDepth 20000 in
theorem ggX4_lineUp_X4_pay : GoodIn wsX4_lineUp wsX4_pay := goodIn_r _ [9, 10, 11, 12, 13, 14, 15, 16, 8, 17, 18, 19, 20, 111, 112, 113, 114, 115, 116, 117, 118, 119, 120, 121, 122, 123, 124, 125, 126, 127, 128, 136, 137, 138, 139, 140, 141, 142, 143, 144, 145, 146, 147, 148, 149, 150, 151, 152, 153, 154] rfl (by decide +kernel)
set_option maxRecDepth 20000 in
theorem gX4_lineUp_X4_pay : GoodIn wsX4_lineUp (wsV RX4 199 RX4 yX4_pay wsX4_pay) := goodIn_app (goodIn_of _ (by decide +kernel)) ggX4_lineUp_X4_pay
set_option maxRecDepth 20000 in
theorem ggX4_lineUp_X4_gather : GoodIn wsX4_lineUp wsX4_gather := goodIn_r _ [24, 25, 26, 1, 3, 27, 28, 29, 30, 31, 32, 33, 34, 35, 36, 37, 38, 39, 40, 41, 42, 43, 44, 45, 8, 46, 111, 112, 113, 114, 115, 116, 117, 118, 119, 120, 121, 122, 123, 124, 125, 126, 127, 128, 129, 130, 131, 132, 133, 134, 135] rfl (by decide +kernel)
set_option maxRecDepth 20000 in
theorem gX4_lineUp_X4_gather : GoodIn wsX4_lineUp (wsV RX4 224 RX4 yX4_gather wsX4_gather) := goodIn_app (goodIn_of _ (by decide +kernel)) ggX4_lineUp_X4_gather
set_option maxRecDepth 20000 in
theorem ggX4_lineUp_X4_peek : GoodIn wsX4_lineUp wsX4_peek := goodIn_r _ [50, 25, 26, 1, 3, 27, 111, 112, 113, 114, 115, 116, 117, 118, 119, 120, 121, 122, 123, 124, 125, 126, 127, 128, 129, 130, 131, 132, 133, 134, 135] rfl (by decide +kernel)
set_option maxRecDepth 20000 in
theorem gX4_lineUp_X4_peek : GoodIn wsX4_lineUp (wsV RX4 318 RX4 yX4_peek wsX4_peek) := goodIn_app (goodIn_of _ (by decide +kernel)) ggX4_lineUp_X4_peek
set_option maxRecDepth 20000 in
theorem ggX4_lineUp_X4_target : GoodIn wsX4_lineUp wsX4_target := goodIn_r _ [54, 1, 2, 55, 3, 111, 112, 113, 114, 115, 116, 117, 118, 119, 120, 121, 122, 123, 124, 125, 126, 127, 128, 129, 130, 131, 132, 133, 134, 135] rfl (by decide +kernel)
set_option maxRecDepth 20000 in
theorem gX4_lineUp_X4_target : GoodIn wsX4_lineUp (wsV RX4 289 RX4 yX4_target wsX4_target) := goodIn_app (goodIn_of _ (by decide +kernel)) ggX4_lineUp_X4_target
set_option maxRecDepth 20000 in
theorem ggX4_lineUp_X4_pop : GoodIn wsX4_lineUp wsX4_pop := goodIn_r _ [59, 25, 26, 1, 3, 27, 111, 112, 113, 114, 115, 116, 117, 118, 119, 120, 121, 122, 123, 124, 125, 126, 127, 128, 129, 130, 131, 132, 133, 134, 135] rfl (by decide +kernel)
set_option maxRecDepth 20000 in
theorem gX4_lineUp_X4_pop : GoodIn wsX4_lineUp (wsV RX4 181 RX4 yX4_pop wsX4_pop) := goodIn_app (goodIn_of _ (by decide +kernel)) ggX4_lineUp_X4_pop
set_option maxRecDepth 20000 in
theorem ggX4_lineUp_X4_pushNumber : GoodIn wsX4_lineUp wsX4_pushNumber := goodIn_r _ [63, 1, 28, 29, 30, 31, 32, 33, 34, 35, 36, 37, 38, 43, 44, 45, 8, 46, 25, 26, 3, 27, 111, 112, 113, 114, 115, 116, 117, 118, 119, 120, 121, 122, 123, 124, 125, 126, 127, 128, 129, 130, 131, 132, 133, 134, 135] rfl (by decide +kernel)
set_option maxRecDepth 20000 in
theorem gX4_lineUp_X4_pushNumber : GoodIn wsX4_lineUp (wsV RX4 274 RX4 yX4_pushNumber wsX4_pushNumber) := goodIn_app (goodIn_of _ (by decide +kernel)) ggX4_lineUp_X4_pushNumber
set_option maxRecDepth 20000 in
theorem ggX4_lineUp_X4_append : GoodIn wsX4_lineUp wsX4_append := goodIn_r _ [67, 68, 69, 1, 14, 15, 16, 8, 17, 18, 19, 20, 56, 57, 58, 59, 25, 26, 3, 27, 39, 40, 41, 31, 42, 35, 34, 38, 37, 36, 111, 112, 113, 114, 115, 116, 117, 118, 119, 120, 121, 122, 123, 124, 125, 126, 127, 128, 129, 130, 131, 132, 133, 134, 135] rfl (by decide +kernel)
set_option maxRecDepth 20000 in
theorem gX4_lineUp_X4_append : GoodIn wsX4_lineUp (wsV RX4 400 RX4 yX4_append wsX4_append) := goodIn_app (goodIn_of _ (by decide +kernel)) ggX4_lineUp_X4_append
set_option maxRecDepth 20000 in
theorem ggX4_lineUp_X4_removeLast : GoodIn wsX4_lineUp wsX4_removeLast := goodIn_r _ [73, 74, 1, 14, 15, 16, 8, 17, 18, 19, 20, 56, 57, 58, 59, 25, 26, 3, 27, 75, 76, 77, 31, 78, 35, 36, 37, 34, 38, 79, 80, 81, 43, 44, 45, 46, 111, 112, 113, 114, 115, 116, 117, 118, 119, 120, 121, 122, 123, 124, 125, 126, 127, 128, 129, 130, 131, 132, 133, 134, 135] rfl (by decide +kernel)
set_option maxRecDepth 20000 in
theorem gX4_lineUp_X4_removeLast : GoodIn wsX4_lineUp (wsV RX4 403 RX4 yX4_removeLast wsX4_removeLast) := goodIn_app (goodIn_of _ (by decide +kernel)) ggX4_lineUp_X4_removeLast
set_option maxRecDepth 20000 in
theorem ggX4_lineUp_X4_exchange : GoodIn wsX4_lineUp wsX4_exchange := goodIn_r _ [85, 1, 55, 74, 86, 87, 88, 8, 89, 2, 3, 56, 57, 58, 59, 25, 26, 27, 90, 91, 92, 93, 94, 14, 15, 16, 17, 18, 19, 20, 95, 96, 97, 31, 98, 35, 36, 34, 37, 38, 79, 80, 81, 99, 100, 101, 102, 103, 104, 105, 106, 111, 112, 113, 114, 115, 116, 117, 118, 119, 120, 121, 122, 123, 124, 125, 126, 127, 128, 129, 130, 131, 132, 133, 134, 135] rfl (by decide +kernel)
set_option maxRecDepth 20000 in
theorem gX4_lineUp_X4_exchange : GoodIn wsX4_lineUp (wsV RX4 406 RX4 yX4_exchange wsX4_exchange) := goodIn_app (goodIn_of _ (by decide +kernel)) ggX4_lineUp_X4_exchange
set_option maxRecDepth 20000 in
theorem ggX4_lineUp_X4_borrowElement : GoodIn wsX4_lineUp wsX4_borrowElement := goodIn_r _ [110, 1, 55, 74, 86, 87, 88, 8, 89, 2, 3, 56, 57, 58, 59, 25, 26, 27, 90, 91, 92, 93, 94, 14, 15, 16, 17, 18, 19, 20, 95, 96, 97, 31, 98, 35, 36, 34, 37, 38, 79, 80, 81, 43, 44, 45, 46, 111, 112, 113, 114, 115, 116, 117, 118, 119, 120, 121, 122, 123, 124, 125, 126, 127, 128, 129, 130, 131, 132, 133, 134, 135] rfl (by decide +kernel)
set_option maxRecDepth 20000 in
theorem gX4_lineUp_X4_borrowElement : GoodIn wsX4_lineUp (wsV RX4 409 RX4 yX4_borrowElement wsX4_borrowElement) := goodIn_app (goodIn_of _ (by decide +kernel)) ggX4_lineUp_X4_borrowElement
set_option maxRecDepth 20000 in
theorem ggX4_append_X4_end : GoodIn wsX4_append wsX4_end := goodIn_r _ [8, 9, 10, 11, 30, 31, 32, 33, 34, 35, 36, 37, 38, 39, 40, 41, 42, 43, 44, 45, 46, 47] rfl (by decide +kernel)
set_option maxRecDepth 20000 in
theorem gX4_append_X4_end : GoodIn wsX4_append (wsV RX4 153 RX4 yX4_end wsX4_end) := goodIn_app (goodIn_of _ (by decide +kernel)) ggX4_append_X4_end
set_option maxRecDepth 20000 in
theorem ggX4_append_X4_pop : GoodIn wsX4_append wsX4_pop := goodIn_r _ [15, 16, 17, 3, 18, 19, 30, 31, 32, 33, 34, 35, 36, 37, 38, 39, 40, 41, 42, 43, 44, 45, 46, 47, 48, 49, 50, 51, 52, 53, 54] rfl (by decide +kernel)
set_option maxRecDepth 20000 in
theorem gX4_append_X4_pop : GoodIn wsX4_append (wsV RX4 181 RX4 yX4_pop wsX4_pop) := goodIn_app (goodIn_of _ (by decide +kernel)) ggX4_append_X4_pop
set_option maxRecDepth 20000 in
theorem ggX4_append_X1_prepend : GoodIn wsX4_append wsX1_prepend := goodIn_r _ [24, 25, 26, 27, 28, 29, 48, 49, 50, 51, 52, 53, 54] rfl (by decide +kernel)
set_option maxRecDepth 20000 in
theorem gX4_append_X1_prepend : GoodIn wsX4_append (wsV RX4 299 RX1 yX1_prepend wsX1_prepend) := goodIn_app (goodIn_of _ (by decide +kernel)) ggX4_append_X1_prepend
set_option maxRecDepth 20000 in
theorem ggX4_removeLast_X4_end : GoodIn wsX4_removeLast wsX4_end := goodIn_r _ [7, 8, 9, 10, 36, 37, 38, 39, 40, 41, 42, 43, 44, 45, 46, 47, 48, 49, 50, 51, 52, 53] rfl (by decide +kernel)
set_option maxRecDepth 20000 in
theorem gX4_removeLast_X4_end : GoodIn wsX4_removeLast (wsV RX4 153 RX4 yX4_end wsX4_end) := goodIn_app (goodIn_of _ (by decide +kernel)) ggX4_removeLast_X4_end
set_option maxRecDepth 20000 in
theorem ggX4_removeLast_X4_pop : GoodIn wsX4_removeLast wsX4_pop := goodIn_r _ [14, 15, 16, 2, 17, 18, 36, 37, 38, 39, 40, 41, 42, 43, 44, 45, 46, 47, 48, 49, 50, 51, 52, 53, 54, 55, 56, 57, 58, 59, 60] rfl (by decide +kernel)
set_option maxRecDepth 20000 in
theorem gX4_removeLast_X4_pop : GoodIn wsX4_removeLast (wsV RX4 181 RX4 yX4_pop wsX4_pop) := goodIn_app (goodIn_of _ (by decide +kernel)) ggX4_removeLast_X4_pop
set_option maxRecDepth 20000 in
theorem ggX4_removeLast_X1_detach : GoodIn wsX4_removeLast wsX1_detach := goodIn_r _ [23, 24, 25, 26, 27, 28, 29, 30, 22, 31, 54, 55, 56, 57, 58, 59, 60] rfl (by decide +kernel)
set_option maxRecDepth 20000 in
theorem gX4_removeLast_X1_detach : GoodIn wsX4_removeLast (wsV RX4 302 RX1 yX1_detach wsX1_detach) := goodIn_app (goodIn_of _ (by decide +kernel)) ggX4_removeLast_X1_detach
set_option maxRecDepth 20000 in
theorem ggX4_removeLast_X4_push : GoodIn wsX4_removeLast wsX4_push := goodIn_r _ [35, 15, 16, 2, 17, 18, 36, 37, 38, 39, 40, 41, 42, 43, 44, 45, 46, 47, 48, 49, 50, 51, 52, 53, 54, 55, 56, 57, 58, 59, 60] rfl (by decide +kernel)
set_option maxRecDepth 20000 in
theorem gX4_removeLast_X4_push : GoodIn wsX4_removeLast (wsV RX4 185 RX4 yX4_push wsX4_push) := goodIn_app (goodIn_of _ (by decide +kernel)) ggX4_removeLast_X4_push
set_option maxRecDepth 20000 in
theorem ggX4_exchange_X4_popOf : GoodIn wsX4_exchange wsX4_popOf := goodIn_r _ [8, 1, 9, 10, 11, 12, 13, 7, 14, 15, 16, 17, 51, 52, 53, 54, 55, 56, 57, 58, 59, 60, 61, 62, 63, 64, 65, 66, 67, 68, 69, 70, 71, 72, 73, 74, 75] rfl (by decide +kernel)
set_option maxRecDepth 20000 in
theorem gX4_exchange_X4_popOf : GoodIn wsX4_exchange (wsV RX4 258 RX4 yX4_popOf wsX4_popOf) := goodIn_app (goodIn_of _ (by decide +kernel)) ggX4_exchange_X4_popOf
set_option maxRecDepth 20000 in
theorem ggX4_exchange_X10_below : GoodIn wsX4_exchange wsX10_below := goodIn_r _ [21, 22] rfl (by decide +kernel)
set_option maxRecDepth 20000 in
theorem gX4_exchange_X10_below : GoodIn wsX4_exchange (va_wsS RX4 335 yX10_below wsX10_below) := goodIn_app (goodIn_of _ (by decide +kernel)) ggX4_exchange_X10_below
set_option maxRecDepth 20000 in
theorem ggX4_exchange_X4_end : GoodIn wsX4_exchange wsX4_end := goodIn_r _ [26, 27, 28, 29, 51, 52, 53, 54, 55, 56, 57, 58, 59, 60, 61, 62, 63, 64, 65, 66, 67, 68] rfl (by decide +kernel)
set_option maxRecDepth 20000 in
theorem gX4_exchange_X4_end : GoodIn wsX4_exchange (wsV RX4 153 RX4 yX4_end wsX4_end) := goodIn_app (goodIn_of _ (by decide +kernel)) ggX4_exchange_X4_end
set_option maxRecDepth 20000 in
theorem ggX4_exchange_X4_pop : GoodIn wsX4_exchange wsX4_pop := goodIn_r _ [14, 15, 16, 1, 10, 17, 51, 52, 53, 54, 55, 56, 57, 58, 59, 60, 61, 62, 63, 64, 65, 66, 67, 68, 69, 70, 71, 72, 73, 74, 75] rfl (by decide +kernel)
set_option maxRecDepth 20000 in
theorem gX4_exchange_X4_pop : GoodIn wsX4_exchange (wsV RX4 181 RX4 yX4_pop wsX4_pop) := goodIn_app (goodIn_of _ (by decide +kernel)) ggX4_exchange_X4_pop
set_option maxRecDepth 20000 in
theorem ggX4_exchange_X1_child : GoodIn wsX4_exchange wsX1_child := goodIn_r _ [34, 35, 36, 37, 38, 39, 40, 41, 33, 42, 69, 70, 71, 72, 73, 74, 75] rfl (by decide +kernel)
set_option maxRecDepth 20000 in
theorem gX4_exchange_X1_child : GoodIn wsX4_exchange (wsV RX4 292 RX1 yX1_child wsX1_child) := goodIn_app (goodIn_of _ (by decide +kernel)) ggX4_exchange_X1_child
set_option maxRecDepth 20000 in
theorem ggX4_exchange_X1_swap : GoodIn wsX4_exchange wsX1_swap := goodIn_r _ [46, 35, 38, 36, 47, 48, 49, 33, 50, 69, 70, 71, 72, 73, 74, 75] rfl (by decide +kernel)
set_option maxRecDepth 20000 in
theorem gX4_exchange_X1_swap : GoodIn wsX4_exchange (wsV RX4 414 RX1 yX1_swap wsX1_swap) := goodIn_app (goodIn_of _ (by decide +kernel)) ggX4_exchange_X1_swap
set_option maxRecDepth 20000 in
theorem ggX4_borrowElement_X4_popOf : GoodIn wsX4_borrowElement wsX4_popOf := goodIn_r _ [8, 1, 9, 10, 11, 12, 13, 7, 14, 15, 16, 17, 47, 48, 49, 50, 51, 52, 53, 54, 55, 56, 57, 58, 59, 60, 61, 62, 63, 64, 65, 66, 67, 68, 69, 70, 71] rfl (by decide +kernel)
set_option maxRecDepth 20000 in
theorem gX4_borrowElement_X4_popOf : GoodIn wsX4_borrowElement (wsV RX4 258 RX4 yX4_popOf wsX4_popOf) := goodIn_app (goodIn_of _ (by decide +kernel)) ggX4_borrowElement_X4_popOf
set_option maxRecDepth 20000 in
theorem ggX4_borrowElement_X10_below : GoodIn wsX4_borrowElement wsX10_below := goodIn_r _ [21, 22] rfl (by decide +kernel)
set_option maxRecDepth 20000 in
theorem gX4_borrowElement_X10_below : GoodIn wsX4_borrowElement (va_wsS RX4 335 yX10_below wsX10_below) := goodIn_app (goodIn_of _ (by decide +kernel)) ggX4_borrowElement_X10_below
set_option maxRecDepth 20000 in
theorem ggX4_borrowElement_X4_end : GoodIn wsX4_borrowElement wsX4_end := goodIn_r _ [26, 27, 28, 29, 47, 48, 49, 50, 51, 52, 53, 54, 55, 56, 57, 58, 59, 60, 61, 62, 63, 64] rfl (by decide +kernel)
set_option maxRecDepth 20000 in
theorem gX4_borrowElement_X4_end : GoodIn wsX4_borrowElement (wsV RX4 153 RX4 yX4_end wsX4_end) := goodIn_app (goodIn_of _ (by decide +kernel)) ggX4_borrowElement_X4_end
set_option maxRecDepth 20000 in
theorem ggX4_borrowElement_X4_pop : GoodIn wsX4_borrowElement wsX4_pop := goodIn_r _ [14, 15, 16, 1, 10, 17, 47, 48, 49, 50, 51, 52, 53, 54, 55, 56, 57, 58, 59, 60, 61, 62, 63, 64, 65, 66, 67, 68, 69, 70, 71] rfl (by decide +kernel)
set_option maxRecDepth 20000 in
theorem gX4_borrowElement_X4_pop : GoodIn wsX4_borrowElement (wsV RX4 181 RX4 yX4_pop wsX4_pop) := goodIn_app (goodIn_of _ (by decide +kernel)) ggX4_borrowElement_X4_pop
set_option maxRecDepth 20000 in
theorem ggX4_borrowElement_X1_child : GoodIn wsX4_borrowElement wsX1_child := goodIn_r _ [34, 35, 36, 37, 38, 39, 40, 41, 33, 42, 65, 66, 67, 68, 69, 70, 71] rfl (by decide +kernel)
set_option maxRecDepth 20000 in
theorem gX4_borrowElement_X1_child : GoodIn wsX4_borrowElement (wsV RX4 292 RX1 yX1_child wsX1_child) := goodIn_app (goodIn_of _ (by decide +kernel)) ggX4_borrowElement_X1_child
set_option maxRecDepth 20000 in
theorem ggX4_borrowElement_X4_push : GoodIn wsX4_borrowElement wsX4_push := goodIn_r _ [46, 15, 16, 1, 10, 17, 47, 48, 49, 50, 51, 52, 53, 54, 55, 56, 57, 58, 59, 60, 61, 62, 63, 64, 65, 66, 67, 68, 69, 70, 71] rfl (by decide +kernel)
set_option maxRecDepth 20000 in
theorem gX4_borrowElement_X4_push : GoodIn wsX4_borrowElement (wsV RX4 185 RX4 yX4_push wsX4_push) := goodIn_app (goodIn_of _ (by decide +kernel)) ggX4_borrowElement_X4_push
set_option maxRecDepth 20000 in
theorem ggX4_hash_X4_pop : GoodIn wsX4_hash wsX4_pop := goodIn_r _ [19, 20, 21, 1, 3, 22, 91, 92, 93, 94, 95, 96, 97, 98, 99, 100, 101, 102, 103, 104, 105, 106, 107, 108, 109, 110, 111, 112, 113, 114, 115] rfl (by decide +kernel)
set_option maxRecDepth 20000 in
theorem gX4_hash_X4_pop : GoodIn wsX4_hash (wsV RX4 181 RX4 yX4_pop wsX4_pop) := goodIn_app (goodIn_of _ (by decide +kernel)) ggX4_hash_X4_pop
set_option maxRecDepth 20000 in
theorem ggX4_hash_X4_pay : GoodIn wsX4_hash wsX4_pay := goodIn_r _ [26, 27, 28, 29, 30, 31, 32, 33, 18, 34, 35, 36, 37, 91, 92, 93, 94, 95, 96, 97, 98, 99, 100, 101, 102, 103, 104, 105, 106, 107, 108, 116, 117, 118, 119, 120, 121, 122, 123, 124, 125, 126, 127, 128, 129, 130, 131, 132, 133, 134] rfl (by decide +kernel)
set_option maxRecDepth 20000 in
theorem gX4_hash_X4_pay : GoodIn wsX4_hash (wsV RX4 199 RX4 yX4_pay wsX4_pay) := goodIn_app (goodIn_of _ (by decide +kernel)) ggX4_hash_X4_pay
set_option maxRecDepth 20000 in
theorem ggX4_hash_X0_start : GoodIn wsX4_hash wsX0_start := goodIn_r _ [42, 43, 44, 45, 46, 47, 48, 49, 50, 135, 136, 137, 138] rfl (by decide +kernel)
set_option maxRecDepth 20000 in
theorem gX4_hash_X0_start : GoodIn wsX4_hash (wsV RX4 423 RX0 yX0_start wsX0_start) := goodIn_app (goodIn_of _ (by decide +kernel)) ggX4_hash_X0_start
set_option maxRecDepth 20000 in
theorem ggX4_hash_X0_put : GoodIn wsX4_hash wsX0_put := goodIn_r _ [54, 49, 55, 50, 56, 57, 58, 41, 59, 44, 60, 135, 136, 137, 138] rfl (by decide +kernel)
set_option maxRecDepth 20000 in
theorem gX4_hash_X0_put : GoodIn wsX4_hash (wsV RX4 426 RX0 yX0_put wsX0_put) := goodIn_app (goodIn_of _ (by decide +kernel)) ggX4_hash_X0_put
set_option maxRecDepth 20000 in
theorem ggX4_hash_X0_finish : GoodIn wsX4_hash wsX0_finish := goodIn_r _ [64, 50, 65, 49, 66, 52, 53, 41, 54, 55, 56, 57, 58, 59, 44, 60, 135, 136, 137, 138] rfl (by decide +kernel)
set_option maxRecDepth 20000 in
theorem gX4_hash_X0_finish : GoodIn wsX4_hash (wsV RX4 429 RX0 yX0_finish wsX0_finish) := goodIn_app (goodIn_of _ (by decide +kernel)) ggX4_hash_X0_finish
set_option maxRecDepth 20000 in
theorem ggX4_hash_X1_make : GoodIn wsX4_hash wsX1_make := goodIn_r _ [71, 72, 73, 74, 75, 76, 77, 109, 110, 111, 112, 113, 114, 115] rfl (by decide +kernel)
set_option maxRecDepth 20000 in
theorem gX4_hash_X1_make : GoodIn wsX4_hash (wsV RX4 134 RX1 yX1_make wsX1_make) := goodIn_app (goodIn_of _ (by decide +kernel)) ggX4_hash_X1_make
set_option maxRecDepth 20000 in
theorem ggX4_hash_X0_part : GoodIn wsX4_hash wsX0_part := goodIn_r _ [81, 44, 82, 135, 136, 137, 138] rfl (by decide +kernel)
set_option maxRecDepth 20000 in
theorem gX4_hash_X0_part : GoodIn wsX4_hash (wsV RX4 432 RX0 yX0_part wsX0_part) := goodIn_app (goodIn_of _ (by decide +kernel)) ggX4_hash_X0_part
set_option maxRecDepth 20000 in
theorem ggX4_hash_X1_prepend : GoodIn wsX4_hash wsX1_prepend := goodIn_r _ [86, 74, 73, 77, 76, 75, 109, 110, 111, 112, 113, 114, 115] rfl (by decide +kernel)
set_option maxRecDepth 20000 in
theorem gX4_hash_X1_prepend : GoodIn wsX4_hash (wsV RX4 299 RX1 yX1_prepend wsX1_prepend) := goodIn_app (goodIn_of _ (by decide +kernel)) ggX4_hash_X1_prepend
set_option maxRecDepth 20000 in
theorem ggX4_hash_X4_push : GoodIn wsX4_hash wsX4_push := goodIn_r _ [90, 20, 21, 1, 3, 22, 91, 92, 93, 94, 95, 96, 97, 98, 99, 100, 101, 102, 103, 104, 105, 106, 107, 108, 109, 110, 111, 112, 113, 114, 115] rfl (by decide +kernel)
set_option maxRecDepth 20000 in
theorem gX4_hash_X4_push : GoodIn wsX4_hash (wsV RX4 185 RX4 yX4_push wsX4_push) := goodIn_app (goodIn_of _ (by decide +kernel)) ggX4_hash_X4_push
set_option maxRecDepth 20000 in
theorem ggX5_numberAt_X5_at : GoodIn wsX5_numberAt wsX5_at := goodIn_r _ [5, 6, 7, 8, 9, 10, 11, 12, 13, 14, 15, 16, 17, 18, 19, 20, 21, 22] rfl (by decide +kernel)
set_option maxRecDepth 20000 in
theorem gX5_numberAt_X5_at : GoodIn wsX5_numberAt (wsV RX5 48 RX5 yX5_at wsX5_at) := goodIn_app (goodIn_of _ (by decide +kernel)) ggX5_numberAt_X5_at
set_option maxRecDepth 20000 in
theorem ggX5_flags_X5_functionColumn : GoodIn wsX5_flags wsX5_functionColumn := goodIn_r _ [5, 6, 7, 8, 9, 10, 11, 12, 13, 14, 15, 16, 17, 18, 19, 20, 21, 22, 23] rfl (by decide +kernel)
set_option maxRecDepth 20000 in
theorem gX5_flags_X5_functionColumn : GoodIn wsX5_flags (wsV RX5 58 RX5 yX5_functionColumn wsX5_functionColumn) := goodIn_app (goodIn_of _ (by decide +kernel)) ggX5_flags_X5_functionColumn
set_option maxRecDepth 20000 in
theorem ggX5_takes_X5_functionColumn : GoodIn wsX5_takes wsX5_functionColumn := goodIn_r _ [5, 6, 7, 8, 9, 10, 11, 12, 13, 14, 15, 16, 17, 18, 19, 20, 21, 22, 23] rfl (by decide +kernel)
set_option maxRecDepth 20000 in
theorem gX5_takes_X5_functionColumn : GoodIn wsX5_takes (wsV RX5 58 RX5 yX5_functionColumn wsX5_functionColumn) := goodIn_app (goodIn_of _ (by decide +kernel)) ggX5_takes_X5_functionColumn
set_option maxRecDepth 20000 in
theorem ggX5_gives_X5_functionColumn : GoodIn wsX5_gives wsX5_functionColumn := goodIn_r _ [5, 6, 7, 8, 9, 10, 11, 12, 13, 14, 15, 16, 17, 18, 19, 20, 21, 22, 23] rfl (by decide +kernel)
set_option maxRecDepth 20000 in
theorem gX5_gives_X5_functionColumn : GoodIn wsX5_gives (wsV RX5 58 RX5 yX5_functionColumn wsX5_functionColumn) := goodIn_app (goodIn_of _ (by decide +kernel)) ggX5_gives_X5_functionColumn
set_option maxRecDepth 20000 in
theorem ggX5_localCount_X5_takes : GoodIn wsX5_localCount wsX5_takes := goodIn_r _ [5, 6, 7, 8, 4, 9, 10, 11, 12, 13, 14, 15, 16, 17, 18, 19, 20, 21, 22, 23, 24, 25, 26, 27] rfl (by decide +kernel)
set_option maxRecDepth 20000 in
theorem gX5_localCount_X5_takes : GoodIn wsX5_localCount (wsV RX5 62 RX5 yX5_takes wsX5_takes) := goodIn_app (goodIn_of _ (by decide +kernel)) ggX5_localCount_X5_takes
set_option maxRecDepth 20000 in
theorem ggX5_localCount_X5_functionColumn : GoodIn wsX5_localCount wsX5_functionColumn := goodIn_r _ [9, 10, 11, 12, 13, 14, 15, 16, 17, 18, 19, 20, 21, 22, 23, 24, 25, 26, 27] rfl (by decide +kernel)
set_option maxRecDepth 20000 in
theorem gX5_localCount_X5_functionColumn : GoodIn wsX5_localCount (wsV RX5 58 RX5 yX5_functionColumn wsX5_functionColumn) := goodIn_app (goodIn_of _ (by decide +kernel)) ggX5_localCount_X5_functionColumn
set_option maxRecDepth 20000 in
theorem ggX5_instructions_X5_functionColumn : GoodIn wsX5_instructions wsX5_functionColumn := goodIn_r _ [5, 6, 7, 8, 9, 10, 11, 12, 13, 14, 15, 16, 17, 18, 19, 20, 21, 22, 23] rfl (by decide +kernel)
set_option maxRecDepth 20000 in
theorem gX5_instructions_X5_functionColumn : GoodIn wsX5_instructions (wsV RX5 58 RX5 yX5_functionColumn wsX5_functionColumn) := goodIn_app (goodIn_of _ (by decide +kernel)) ggX5_instructions_X5_functionColumn
set_option maxRecDepth 20000 in
theorem ggX5_instructionPlace_X5_functionColumn : GoodIn wsX5_instructionPlace wsX5_functionColumn := goodIn_r _ [7, 8, 9, 10, 11, 12, 13, 14, 15, 16, 17, 18, 19, 20, 21, 22, 23, 24, 25] rfl (by decide +kernel)
set_option maxRecDepth 20000 in
theorem gX5_instructionPlace_X5_functionColumn : GoodIn wsX5_instructionPlace (wsV RX5 58 RX5 yX5_functionColumn wsX5_functionColumn) := goodIn_app (goodIn_of _ (by decide +kernel)) ggX5_instructionPlace_X5_functionColumn
set_option maxRecDepth 20000 in
theorem ggX5_takenType_X5_functionColumn : GoodIn wsX5_takenType wsX5_functionColumn := goodIn_r _ [5, 6, 7, 8, 15, 16, 17, 18, 19, 20, 21, 22, 23, 24, 25, 26, 27, 28, 29] rfl (by decide +kernel)
set_option maxRecDepth 20000 in
theorem gX5_takenType_X5_functionColumn : GoodIn wsX5_takenType (wsV RX5 58 RX5 yX5_functionColumn wsX5_functionColumn) := goodIn_app (goodIn_of _ (by decide +kernel)) ggX5_takenType_X5_functionColumn
set_option maxRecDepth 20000 in
theorem ggX5_takenType_X5_typeAt : GoodIn wsX5_takenType wsX5_typeAt := goodIn_r _ [12, 13, 14, 15, 16, 17, 18, 19, 20, 21, 22, 23, 24, 25, 26, 27, 28, 29] rfl (by decide +kernel)
set_option maxRecDepth 20000 in
theorem gX5_takenType_X5_typeAt : GoodIn wsX5_takenType (wsV RX5 65 RX5 yX5_typeAt wsX5_typeAt) := goodIn_app (goodIn_of _ (by decide +kernel)) ggX5_takenType_X5_typeAt
set_option maxRecDepth 20000 in
theorem ggX5_givenType_X5_functionColumn : GoodIn wsX5_givenType wsX5_functionColumn := goodIn_r _ [5, 6, 7, 8, 19, 20, 21, 22, 23, 24, 25, 26, 27, 28, 29, 30, 31, 32, 33] rfl (by decide +kernel)
set_option maxRecDepth 20000 in
theorem gX5_givenType_X5_functionColumn : GoodIn wsX5_givenType (wsV RX5 58 RX5 yX5_functionColumn wsX5_functionColumn) := goodIn_app (goodIn_of _ (by decide +kernel)) ggX5_givenType_X5_functionColumn
set_option maxRecDepth 20000 in
theorem ggX5_givenType_X5_takes : GoodIn wsX5_givenType wsX5_takes := goodIn_r _ [12, 1, 2, 3, 4, 5, 6, 7, 8, 19, 20, 21, 22, 23, 24, 25, 26, 27, 28, 29, 30, 31, 32, 33] rfl (by decide +kernel)
set_option maxRecDepth 20000 in
theorem gX5_givenType_X5_takes : GoodIn wsX5_givenType (wsV RX5 62 RX5 yX5_takes wsX5_takes) := goodIn_app (goodIn_of _ (by decide +kernel)) ggX5_givenType_X5_takes
set_option maxRecDepth 20000 in
theorem ggX5_givenType_X5_typeAt : GoodIn wsX5_givenType wsX5_typeAt := goodIn_r _ [16, 17, 18, 19, 20, 21, 22, 23, 24, 25, 26, 27, 28, 29, 30, 31, 32, 33] rfl (by decide +kernel)
set_option maxRecDepth 20000 in
theorem gX5_givenType_X5_typeAt : GoodIn wsX5_givenType (wsV RX5 65 RX5 yX5_typeAt wsX5_typeAt) := goodIn_app (goodIn_of _ (by decide +kernel)) ggX5_givenType_X5_typeAt
set_option maxRecDepth 20000 in
theorem ggX5_localType_X5_functionColumn : GoodIn wsX5_localType wsX5_functionColumn := goodIn_r _ [5, 6, 7, 8, 23, 24, 25, 26, 27, 28, 29, 30, 31, 32, 33, 34, 35, 36, 37] rfl (by decide +kernel)
set_option maxRecDepth 20000 in
theorem gX5_localType_X5_functionColumn : GoodIn wsX5_localType (wsV RX5 58 RX5 yX5_functionColumn wsX5_functionColumn) := goodIn_app (goodIn_of _ (by decide +kernel)) ggX5_localType_X5_functionColumn
set_option maxRecDepth 20000 in
theorem ggX5_localType_X5_takes : GoodIn wsX5_localType wsX5_takes := goodIn_r _ [12, 1, 2, 3, 4, 5, 6, 7, 8, 23, 24, 25, 26, 27, 28, 29, 30, 31, 32, 33, 34, 35, 36, 37] rfl (by decide +kernel)
set_option maxRecDepth 20000 in
theorem gX5_localType_X5_takes : GoodIn wsX5_localType (wsV RX5 62 RX5 yX5_takes wsX5_takes) := goodIn_app (goodIn_of _ (by decide +kernel)) ggX5_localType_X5_takes
set_option maxRecDepth 20000 in
theorem ggX5_localType_X5_gives : GoodIn wsX5_localType wsX5_gives := goodIn_r _ [16, 1, 2, 3, 4, 5, 6, 7, 8, 23, 24, 25, 26, 27, 28, 29, 30, 31, 32, 33, 34, 35, 36, 37] rfl (by decide +kernel)
set_option maxRecDepth 20000 in
theorem gX5_localType_X5_gives : GoodIn wsX5_localType (wsV RX5 69 RX5 yX5_gives wsX5_gives) := goodIn_app (goodIn_of _ (by decide +kernel)) ggX5_localType_X5_gives
set_option maxRecDepth 20000 in
theorem ggX5_localType_X5_typeAt : GoodIn wsX5_localType wsX5_typeAt := goodIn_r _ [20, 21, 22, 23, 24, 25, 26, 27, 28, 29, 30, 31, 32, 33, 34, 35, 36, 37] rfl (by decide +kernel)
set_option maxRecDepth 20000 in
theorem gX5_localType_X5_typeAt : GoodIn wsX5_localType (wsV RX5 65 RX5 yX5_typeAt wsX5_typeAt) := goodIn_app (goodIn_of _ (by decide +kernel)) ggX5_localType_X5_typeAt
set_option maxRecDepth 20000 in
theorem ggX5_elementType_X5_typeAt : GoodIn wsX5_elementType wsX5_typeAt := goodIn_r _ [6, 7, 8, 9, 10, 11, 12, 13, 14, 15, 16, 17, 18, 19, 20, 21, 22, 23] rfl (by decide +kernel)
set_option maxRecDepth 20000 in
theorem gX5_elementType_X5_typeAt : GoodIn wsX5_elementType (wsV RX5 65 RX5 yX5_typeAt wsX5_typeAt) := goodIn_app (goodIn_of _ (by decide +kernel)) ggX5_elementType_X5_typeAt
set_option maxRecDepth 20000 in
theorem ggX5_isReference_X5_head : GoodIn wsX5_isReference wsX5_head := goodIn_r _ [4] rfl (by decide +kernel)
set_option maxRecDepth 20000 in
theorem gX5_isReference_X5_head : GoodIn wsX5_isReference (va_wsS RX5 78 yX5_head wsX5_head) := goodIn_app (goodIn_of _ (by decide +kernel)) ggX5_isReference_X5_head
set_option maxRecDepth 20000 in
theorem ggX5_pointee_X5_headShift : GoodIn wsX5_pointee wsX5_headShift := goodIn_r _ [4] rfl (by decide +kernel)
set_option maxRecDepth 20000 in
theorem gX5_pointee_X5_headShift : GoodIn wsX5_pointee (va_wsS RX5 82 yX5_headShift wsX5_headShift) := goodIn_app (goodIn_of _ (by decide +kernel)) ggX5_pointee_X5_headShift
set_option maxRecDepth 20000 in
theorem ggX5_prefixed_X5_headShift : GoodIn wsX5_prefixed wsX5_headShift := goodIn_r _ [4] rfl (by decide +kernel)
set_option maxRecDepth 20000 in
theorem gX5_prefixed_X5_headShift : GoodIn wsX5_prefixed (va_wsS RX5 82 yX5_headShift wsX5_headShift) := goodIn_app (goodIn_of _ (by decide +kernel)) ggX5_prefixed_X5_headShift
set_option maxRecDepth 20000 in
theorem ggX5_abilities_X5_head : GoodIn wsX5_abilities wsX5_head := goodIn_r _ [4] rfl (by decide +kernel)
set_option maxRecDepth 20000 in
theorem gX5_abilities_X5_head : GoodIn wsX5_abilities (va_wsS RX5 78 yX5_head wsX5_head) := goodIn_app (goodIn_of _ (by decide +kernel)) ggX5_abilities_X5_head
set_option maxRecDepth 20000 in
theorem ggX5_abilities_X5_endsInStructure : GoodIn wsX5_abilities wsX5_endsInStructure := goodIn_r _ [7, 8, 9] rfl (by decide +kernel)
set_option maxRecDepth 20000 in
theorem gX5_abilities_X5_endsInStructure : GoodIn wsX5_abilities (va_wsS RX5 89 yX5_endsInStructure wsX5_endsInStructure) := goodIn_app (goodIn_of _ (by decide +kernel)) ggX5_abilities_X5_endsInStructure
set_option maxRecDepth 20000 in
theorem ggX5_abilities_X5_structureColumn : GoodIn wsX5_abilities wsX5_structureColumn := goodIn_r _ [13, 14, 15, 16, 17, 18, 19, 20, 21, 22, 23, 24, 25, 26, 27, 28, 29, 30] rfl (by decide +kernel)
set_option maxRecDepth 20000 in
theorem gX5_abilities_X5_structureColumn : GoodIn wsX5_abilities (wsV RX5 72 RX5 yX5_structureColumn wsX5_structureColumn) := goodIn_app (goodIn_of _ (by decide +kernel)) ggX5_abilities_X5_structureColumn
set_option maxRecDepth 20000 in
theorem ggX5_givesPlain_X5_gives : GoodIn wsX5_givesPlain wsX5_gives := goodIn_r _ [6, 7, 8, 9, 5, 10, 11, 12, 13, 28, 29, 30, 31, 32, 33, 34, 35, 36, 37, 38, 39, 40, 41, 42] rfl (by decide +kernel)
set_option maxRecDepth 20000 in
theorem gX5_givesPlain_X5_gives : GoodIn wsX5_givesPlain (wsV RX5 69 RX5 yX5_gives wsX5_gives) := goodIn_app (goodIn_of _ (by decide +kernel)) ggX5_givesPlain_X5_gives
set_option maxRecDepth 20000 in
theorem ggX5_givesPlain_X5_givenType : GoodIn wsX5_givesPlain wsX5_givenType := goodIn_r _ [17, 7, 8, 9, 5, 10, 11, 12, 13, 18, 19, 20, 21, 22, 23, 24, 25, 26, 27, 28, 29, 30, 31, 32, 33, 34, 35, 36, 37, 38, 39, 40, 41, 42] rfl (by decide +kernel)
set_option maxRecDepth 20000 in
theorem gX5_givesPlain_X5_givenType : GoodIn wsX5_givesPlain (wsV RX5 93 RX5 yX5_givenType wsX5_givenType) := goodIn_app (goodIn_of _ (by decide +kernel)) ggX5_givesPlain_X5_givenType
set_option maxRecDepth 20000 in
theorem ggX5_strangeStructure_X5_structureColumn : GoodIn wsX5_strangeStructure wsX5_structureColumn := goodIn_r _ [7, 2, 8, 17, 18, 19, 20, 21, 22, 23, 24, 25, 26, 27, 28, 29, 30, 31] rfl (by decide +kernel)
set_option maxRecDepth 20000 in
theorem gX5_strangeStructure_X5_structureColumn : GoodIn wsX5_strangeStructure (wsV RX5 72 RX5 yX5_structureColumn wsX5_structureColumn) := goodIn_app (goodIn_of _ (by decide +kernel)) ggX5_strangeStructure_X5_structureColumn
set_option maxRecDepth 20000 in
theorem ggX5_strangeStructure_X7_findProgram : GoodIn wsX5_strangeStructure wsX7_findProgram := goodIn_r _ [13, 14, 15, 16, 32, 33, 34, 35, 36, 37, 38, 39, 40, 41, 42, 43, 44, 45, 46, 47, 17, 18, 19, 20, 21, 22, 23, 24, 25, 26, 27, 28, 29, 30, 31] rfl (by decide +kernel)
set_option maxRecDepth 20000 in
theorem gX5_strangeStructure_X7_findProgram : GoodIn wsX5_strangeStructure (wsV RX5 102 RX7 yX7_findProgram wsX7_findProgram) := goodIn_app (goodIn_of _ (by decide +kernel)) ggX5_strangeStructure_X7_findProgram
set_option maxRecDepth 20000 in
theorem ggX5_strangeFunction_X5_functionColumn : GoodIn wsX5_strangeFunction wsX5_functionColumn := goodIn_r _ [7, 2, 1, 8, 58, 59, 60, 61, 62, 63, 64, 65, 66, 67, 68, 69, 70, 71, 72] rfl (by decide +kernel)
set_option maxRecDepth 20000 in
theorem gX5_strangeFunction_X5_functionColumn : GoodIn wsX5_strangeFunction (wsV RX5 58 RX5 yX5_functionColumn wsX5_functionColumn) := goodIn_app (goodIn_of _ (by decide +kernel)) ggX5_strangeFunction_X5_functionColumn
set_option maxRecDepth 20000 in
theorem ggX5_strangeFunction_X7_findProgram : GoodIn wsX5_strangeFunction wsX7_findProgram := goodIn_r _ [13, 14, 15, 16, 73, 74, 75, 76, 77, 78, 79, 80, 81, 82, 83, 84, 85, 86, 87, 88, 58, 59, 60, 61, 62, 63, 64, 65, 66, 67, 68, 69, 70, 71, 72] rfl (by decide +kernel)
set_option maxRecDepth 20000 in
theorem gX5_strangeFunction_X7_findProgram : GoodIn wsX5_strangeFunction (wsV RX5 102 RX7 yX7_findProgram wsX7_findProgram) := goodIn_app (goodIn_of _ (by decide +kernel)) ggX5_strangeFunction_X7_findProgram
set_option maxRecDepth 20000 in
theorem ggX5_strangeFunction_X5_flags : GoodIn wsX5_strangeFunction wsX5_flags := goodIn_r _ [20, 3, 4, 5, 6, 7, 2, 1, 8, 58, 59, 60, 61, 62, 63, 64, 65, 66, 67, 68, 69, 70, 71, 72] rfl (by decide +kernel)
set_option maxRecDepth 20000 in
theorem gX5_strangeFunction_X5_flags : GoodIn wsX5_strangeFunction (wsV RX5 108 RX5 yX5_flags wsX5_flags) := goodIn_app (goodIn_of _ (by decide +kernel)) ggX5_strangeFunction_X5_flags
set_option maxRecDepth 20000 in
theorem ggX5_strangeFunction_X5_sameLists : GoodIn wsX5_strangeFunction wsX5_sameLists := goodIn_r _ [24, 25, 26, 27, 6, 28, 3, 4, 5, 7, 2, 1, 8, 29, 30, 31, 32, 33, 34, 35, 36, 37, 38, 39, 40, 41, 42, 43, 44, 45, 46, 47, 48, 49, 50, 51, 52, 53, 54, 55, 56, 57, 58, 59, 60, 61, 62, 63, 64, 65, 66, 67, 68, 69, 70, 71, 72] rfl (by decide +kernel)
set_option maxRecDepth 20000 in
theorem gX5_strangeFunction_X5_sameLists : GoodIn wsX5_strangeFunction (wsV RX5 111 RX5 yX5_sameLists wsX5_sameLists) := goodIn_app (goodIn_of _ (by decide +kernel)) ggX5_strangeFunction_X5_sameLists
set_option maxRecDepth 20000 in
theorem ggX5_sameLists_X5_takes : GoodIn wsX5_sameLists wsX5_takes := goodIn_r _ [5, 6, 7, 8, 4, 9, 10, 11, 12, 42, 43, 44, 45, 46, 47, 48, 49, 50, 51, 52, 53, 54, 55, 56] rfl (by decide +kernel)
set_option maxRecDepth 20000 in
theorem gX5_sameLists_X5_takes : GoodIn wsX5_sameLists (wsV RX5 62 RX5 yX5_takes wsX5_takes) := goodIn_app (goodIn_of _ (by decide +kernel)) ggX5_sameLists_X5_takes
set_option maxRecDepth 20000 in
theorem ggX5_sameLists_X5_gives : GoodIn wsX5_sameLists wsX5_gives := goodIn_r _ [16, 6, 7, 8, 4, 9, 10, 11, 12, 42, 43, 44, 45, 46, 47, 48, 49, 50, 51, 52, 53, 54, 55, 56] rfl (by decide +kernel)
set_option maxRecDepth 20000 in
theorem gX5_sameLists_X5_gives : GoodIn wsX5_sameLists (wsV RX5 69 RX5 yX5_gives wsX5_gives) := goodIn_app (goodIn_of _ (by decide +kernel)) ggX5_sameLists_X5_gives
set_option maxRecDepth 20000 in
theorem ggX5_sameLists_X5_takenType : GoodIn wsX5_sameLists wsX5_takenType := goodIn_r _ [20, 6, 7, 8, 4, 9, 10, 11, 12, 21, 22, 23, 24, 25, 26, 42, 43, 44, 45, 46, 47, 48, 49, 50, 51, 52, 53, 54, 55, 56] rfl (by decide +kernel)
set_option maxRecDepth 20000 in
theorem gX5_sameLists_X5_takenType : GoodIn wsX5_sameLists (wsV RX5 115 RX5 yX5_takenType wsX5_takenType) := goodIn_app (goodIn_of _ (by decide +kernel)) ggX5_sameLists_X5_takenType
set_option maxRecDepth 20000 in
theorem ggX5_sameLists_X5_sameType : GoodIn wsX5_sameLists wsX5_sameType := goodIn_r _ [30, 31, 32, 4, 33, 34, 35, 36, 37, 38, 39, 40, 41, 42, 43, 44, 45, 46, 47, 48, 49, 50, 51, 52, 53, 54, 55, 56] rfl (by decide +kernel)
set_option maxRecDepth 20000 in
theorem gX5_sameLists_X5_sameType : GoodIn wsX5_sameLists (wsV RX5 118 RX5 yX5_sameType wsX5_sameType) := goodIn_app (goodIn_of _ (by decide +kernel)) ggX5_sameLists_X5_sameType
set_option maxRecDepth 20000 in
theorem ggX5_sameType_X5_endsInStructure : GoodIn wsX5_sameType wsX5_endsInStructure := goodIn_r _ [4, 5, 6] rfl (by decide +kernel)
set_option maxRecDepth 20000 in
theorem gX5_sameType_X5_endsInStructure : GoodIn wsX5_sameType (va_wsS RX5 89 yX5_endsInStructure wsX5_endsInStructure) := goodIn_app (goodIn_of _ (by decide +kernel)) ggX5_sameType_X5_endsInStructure
set_option maxRecDepth 20000 in
theorem ggX5_sameType_X5_structureColumn : GoodIn wsX5_sameType wsX5_structureColumn := goodIn_r _ [10, 11, 12, 13, 14, 15, 16, 17, 18, 19, 20, 21, 22, 23, 24, 25, 26, 27] rfl (by decide +kernel)
set_option maxRecDepth 20000 in
theorem gX5_sameType_X5_structureColumn : GoodIn wsX5_sameType (wsV RX5 72 RX5 yX5_structureColumn wsX5_structureColumn) := goodIn_app (goodIn_of _ (by decide +kernel)) ggX5_sameType_X5_structureColumn
set_option maxRecDepth 20000 in
theorem ggX5_weakStructure_X5_structureColumn : GoodIn wsX5_weakStructure wsX5_structureColumn := goodIn_r _ [6, 7, 8, 35, 36, 37, 38, 39, 40, 41, 42, 43, 44, 45, 46, 47, 48, 49] rfl (by decide +kernel)
set_option maxRecDepth 20000 in
theorem gX5_weakStructure_X5_structureColumn : GoodIn wsX5_weakStructure (wsV RX5 72 RX5 yX5_structureColumn wsX5_structureColumn) := goodIn_app (goodIn_of _ (by decide +kernel)) ggX5_weakStructure_X5_structureColumn
set_option maxRecDepth 20000 in
theorem ggX5_weakStructure_X5_fieldCount : GoodIn wsX5_weakStructure wsX5_fieldCount := goodIn_r _ [12, 2, 3, 4, 5, 6, 7, 8, 35, 36, 37, 38, 39, 40, 41, 42, 43, 44, 45, 46, 47, 48, 49] rfl (by decide +kernel)
set_option maxRecDepth 20000 in
theorem gX5_weakStructure_X5_fieldCount : GoodIn wsX5_weakStructure (wsV RX5 122 RX5 yX5_fieldCount wsX5_fieldCount) := goodIn_app (goodIn_of _ (by decide +kernel)) ggX5_weakStructure_X5_fieldCount
set_option maxRecDepth 20000 in
theorem ggX5_weakStructure_X5_fieldType : GoodIn wsX5_weakStructure wsX5_fieldType := goodIn_r _ [16, 2, 3, 4, 5, 6, 7, 8, 17, 18, 19, 20, 21, 22, 35, 36, 37, 38, 39, 40, 41, 42, 43, 44, 45, 46, 47, 48, 49] rfl (by decide +kernel)
set_option maxRecDepth 20000 in
theorem gX5_weakStructure_X5_fieldType : GoodIn wsX5_weakStructure (wsV RX5 125 RX5 yX5_fieldType wsX5_fieldType) := goodIn_app (goodIn_of _ (by decide +kernel)) ggX5_weakStructure_X5_fieldType
set_option maxRecDepth 20000 in
theorem ggX5_weakStructure_X5_abilities : GoodIn wsX5_weakStructure wsX5_abilities := goodIn_r _ [26, 27, 28, 5, 29, 30, 31, 32, 33, 34, 2, 3, 4, 6, 7, 8, 35, 36, 37, 38, 39, 40, 41, 42, 43, 44, 45, 46, 47, 48, 49] rfl (by decide +kernel)
set_option maxRecDepth 20000 in
theorem gX5_weakStructure_X5_abilities : GoodIn wsX5_weakStructure (wsV RX5 128 RX5 yX5_abilities wsX5_abilities) := goodIn_app (goodIn_of _ (by decide +kernel)) ggX5_weakStructure_X5_abilities
set_option maxRecDepth 20000 in
theorem ggX5_measure_X7_findProgram : GoodIn wsX5_measure wsX7_findProgram := goodIn_r _ [17, 18, 19, 20, 67, 68, 69, 70, 71, 72, 73, 74, 75, 76, 77, 78, 79, 80, 81, 82, 52, 53, 54, 55, 56, 57, 58, 59, 60, 61, 62, 63, 64, 65, 66] rfl (by decide +kernel)
set_option maxRecDepth 20000 in
theorem gX5_measure_X7_findProgram : GoodIn wsX5_measure (wsV RX5 102 RX7 yX7_findProgram wsX7_findProgram) := goodIn_app (goodIn_of _ (by decide +kernel)) ggX5_measure_X7_findProgram
set_option maxRecDepth 20000 in
theorem ggX5_deepStructure_X5_structureColumn : GoodIn wsX5_deepStructure wsX5_structureColumn := goodIn_r _ [6, 7, 8, 9, 10, 11, 12, 13, 14, 15, 16, 17, 18, 19, 20, 21, 22, 23] rfl (by decide +kernel)
set_option maxRecDepth 20000 in
theorem gX5_deepStructure_X5_structureColumn : GoodIn wsX5_deepStructure (wsV RX5 72 RX5 yX5_structureColumn wsX5_structureColumn) := goodIn_app (goodIn_of _ (by decide +kernel)) ggX5_deepStructure_X5_structureColumn
set_option maxRecDepth 20000 in
theorem ggX7_charge_X7_findAccount : GoodIn wsX7_charge wsX7_findAccount := goodIn_r _ [9, 10, 11, 31, 32, 33, 34, 35, 36, 37, 38, 39, 40, 41, 42, 43, 44, 45, 46] rfl (by decide +kernel)
set_option maxRecDepth 20000 in
theorem gX7_charge_X7_findAccount : GoodIn wsX7_charge (wsV RX7 73 RX7 yX7_findAccount wsX7_findAccount) := goodIn_app (goodIn_of _ (by decide +kernel)) ggX7_charge_X7_findAccount
set_option maxRecDepth 20000 in
theorem ggX7_settle_X7_findAccount : GoodIn wsX7_settle wsX7_findAccount := goodIn_r _ [10, 11, 12, 32, 33, 34, 35, 36, 37, 38, 39, 40, 41, 42, 43, 44, 45, 46, 47] rfl (by decide +kernel)
set_option maxRecDepth 20000 in
theorem gX7_settle_X7_findAccount : GoodIn wsX7_settle (wsV RX7 73 RX7 yX7_findAccount wsX7_findAccount) := goodIn_app (goodIn_of _ (by decide +kernel)) ggX7_settle_X7_findAccount
set_option maxRecDepth 20000 in
theorem ggX7_slotFor_X7_findResource : GoodIn wsX7_slotFor wsX7_findResource := goodIn_r _ [9, 10, 1, 2, 3, 15, 16, 17, 18, 19, 20, 21, 22, 23, 24, 25, 26, 27, 28, 29, 30] rfl (by decide +kernel)
set_option maxRecDepth 20000 in
theorem gX7_slotFor_X7_findResource : GoodIn wsX7_slotFor (wsV RX7 89 RX7 yX7_findResource wsX7_findResource) := goodIn_app (goodIn_of _ (by decide +kernel)) ggX7_slotFor_X7_findResource
set_option maxRecDepth 20000 in
theorem ggX7_slotFor_X7_freeSlot : GoodIn wsX7_slotFor wsX7_freeSlot := goodIn_r _ [14, 10, 15, 16, 17, 18, 19, 20, 21, 22, 23, 24, 25, 26, 27, 28, 29, 30] rfl (by decide +kernel)
set_option maxRecDepth 20000 in
theorem gX7_slotFor_X7_freeSlot : GoodIn wsX7_slotFor (wsV RX7 93 RX7 yX7_freeSlot wsX7_freeSlot) := goodIn_app (goodIn_of _ (by decide +kernel)) ggX7_slotFor_X7_freeSlot
set_option maxRecDepth 20000 in
theorem ggX7_removeResource_X7_findResource : GoodIn wsX7_removeResource wsX7_findResource := goodIn_r _ [7, 1, 8, 9, 10, 11, 12, 13, 14, 15, 16, 17, 18, 19, 20, 21, 22, 23, 24, 25, 26] rfl (by decide +kernel)
set_option maxRecDepth 20000 in
theorem gX7_removeResource_X7_findResource : GoodIn wsX7_removeResource (wsV RX7 89 RX7 yX7_findResource wsX7_findResource) := goodIn_app (goodIn_of _ (by decide +kernel)) ggX7_removeResource_X7_findResource
set_option maxRecDepth 20000 in
theorem ggX7_writeBytes_X7_widthOf : GoodIn wsX7_writeBytes wsX7_widthOf := goodIn_r _ [8] rfl (by decide +kernel)
set_option maxRecDepth 20000 in
theorem gX7_writeBytes_X7_widthOf : GoodIn wsX7_writeBytes (va_wsS RX7 97 yX7_widthOf wsX7_widthOf) := goodIn_app (goodIn_of _ (by decide +kernel)) ggX7_writeBytes_X7_widthOf
set_option maxRecDepth 20000 in
theorem ggX8_fits_X5_takes : GoodIn wsX8_fits wsX5_takes := goodIn_r _ [8, 9, 10, 11, 7, 12, 13, 14, 15, 45, 46, 47, 48, 49, 50, 51, 52, 53, 54, 55, 56, 57, 58, 59] rfl (by decide +kernel)
set_option maxRecDepth 20000 in
theorem gX8_fits_X5_takes : GoodIn wsX8_fits (wsV RX8 62 RX5 yX5_takes wsX5_takes) := goodIn_app (goodIn_of _ (by decide +kernel)) ggX8_fits_X5_takes
set_option maxRecDepth 20000 in
theorem ggX8_fits_X5_takenType : GoodIn wsX8_fits wsX5_takenType := goodIn_r _ [19, 9, 10, 11, 7, 12, 13, 14, 15, 20, 21, 22, 23, 24, 25, 45, 46, 47, 48, 49, 50, 51, 52, 53, 54, 55, 56, 57, 58, 59] rfl (by decide +kernel)
set_option maxRecDepth 20000 in
theorem gX8_fits_X5_takenType : GoodIn wsX8_fits (wsV RX8 68 RX5 yX5_takenType wsX5_takenType) := goodIn_app (goodIn_of _ (by decide +kernel)) ggX8_fits_X5_takenType
set_option maxRecDepth 20000 in
theorem ggX9_rebuild_X9_gatherAccounts : GoodIn wsX9_rebuild wsX9_gatherAccounts := goodIn_r _ [10, 11, 12, 13, 14, 15, 16, 17, 18, 19, 20, 21, 22, 23, 24, 25, 26, 27, 28, 29, 30, 31, 32, 33, 34, 35, 36, 37, 38, 39, 40, 41, 42, 43, 44, 45, 9, 46, 47, 48, 49, 50, 51, 52, 53, 54, 55, 56, 57, 58, 59, 60, 61, 62, 63, 64, 65, 66, 2, 67, 68, 69, 70, 71, 72, 73, 74, 75, 76, 77, 78, 79, 80, 81, 82, 83, 163, 164, 165, 166, 167, 168, 169, 170, 171, 172, 173, 174, 175, 176, 177, 178, 150, 151, 152, 153, 154, 155, 156, 157, 158, 159, 160, 161, 162, 179, 180, 181, 182] rfl (by decide +kernel)
set_option maxRecDepth 20000 in
theorem gX9_rebuild_X9_gatherAccounts : GoodIn wsX9_rebuild (wsV RX9 56 RX9 yX9_gatherAccounts wsX9_gatherAccounts) := goodIn_app (goodIn_of _ (by decide +kernel)) ggX9_rebuild_X9_gatherAccounts
set_option maxRecDepth 20000 in
theorem ggX9_rebuild_X9_gatherModules : GoodIn wsX9_rebuild wsX9_gatherModules := goodIn_r _ [87, 88, 89, 12, 90, 91, 16, 17, 18, 19, 20, 21, 22, 23, 24, 25, 26, 27, 28, 92, 93, 94, 95, 96, 97, 98, 62, 34, 35, 36, 37, 38, 39, 40, 41, 42, 43, 44, 45, 9, 46, 47, 48, 49, 50, 51, 52, 33, 53, 54, 55, 56, 57, 58, 59, 60, 61, 63, 64, 65, 66, 2, 67, 68, 69, 70, 71, 72, 73, 74, 30, 31, 32, 75, 76, 77, 78, 79, 80, 81, 82, 83, 163, 164, 165, 166, 167, 168, 169, 170, 171, 172, 173, 174, 175, 176, 177, 178, 150, 151, 152, 153, 154, 155, 156, 157, 158, 159, 160, 161, 162, 183, 184, 185, 186, 187, 188, 189, 190, 191, 192, 193, 194, 195, 196, 197, 179, 180, 181, 182] rfl (by decide +kernel)
set_option maxRecDepth 20000 in
theorem gX9_rebuild_X9_gatherModules : GoodIn wsX9_rebuild (wsV RX9 60 RX9 yX9_gatherModules wsX9_gatherModules) := goodIn_app (goodIn_of _ (by decide +kernel)) ggX9_rebuild_X9_gatherModules
set_option maxRecDepth 20000 in
theorem ggX9_rebuild_X9_gatherResources : GoodIn wsX9_rebuild wsX9_gatherResources := goodIn_r _ [102, 103, 104, 12, 105, 106, 107, 108, 109, 110, 111, 112, 113, 114, 115, 116, 117, 118, 119, 16, 17, 18, 19, 20, 21, 22, 23, 24, 25, 26, 27, 28, 62, 34, 35, 36, 37, 38, 39, 40, 41, 42, 43, 44, 45, 9, 46, 47, 48, 49, 50, 51, 52, 33, 53, 54, 55, 56, 57, 58, 59, 60, 61, 29, 30, 31, 32, 63, 64, 65, 66, 2, 67, 68, 69, 70, 71, 72, 73, 74, 75, 76, 77, 78, 79, 80, 81, 82, 83, 163, 164, 165, 166, 167, 168, 169, 170, 171, 172, 173, 174, 175, 176, 177, 178, 150, 151, 152, 153, 154, 155, 156, 157, 158, 159, 160, 161, 162, 179, 180, 181, 182] rfl (by decide +kernel)
set_option maxRecDepth 20000 in
theorem gX9_rebuild_X9_gatherResources : GoodIn wsX9_rebuild (wsV RX9 63 RX9 yX9_gatherResources wsX9_gatherResources) := goodIn_app (goodIn_of _ (by decide +kernel)) ggX9_rebuild_X9_gatherResources
set_option maxRecDepth 20000 in
theorem ggX9_rebuild_X9_leaveOutDoubles : GoodIn wsX9_rebuild wsX9_leaveOutDoubles := goodIn_r _ [123, 2, 69, 124, 125, 126, 9, 127, 67, 150, 151, 152, 153, 154, 155, 156, 157, 158, 159, 160, 161, 162] rfl (by decide +kernel)
set_option maxRecDepth 20000 in
theorem gX9_rebuild_X9_leaveOutDoubles : GoodIn wsX9_rebuild (wsV RX9 66 RX9 yX9_leaveOutDoubles wsX9_leaveOutDoubles) := goodIn_app (goodIn_of _ (by decide +kernel)) ggX9_rebuild_X9_leaveOutDoubles
set_option maxRecDepth 20000 in
theorem ggX9_rebuild_X9_climb : GoodIn wsX9_rebuild wsX9_climb := goodIn_r _ [131, 69, 132, 133, 134, 135, 68, 136, 137, 24, 25, 26, 67, 3, 138, 12, 5, 139, 140, 141, 9, 142, 2, 143, 144, 145, 124, 125, 126, 127, 16, 17, 18, 19, 20, 21, 22, 23, 27, 28, 62, 34, 35, 36, 37, 38, 39, 40, 41, 42, 70, 71, 72, 73, 74, 30, 31, 32, 33, 146, 147, 148, 149, 29, 48, 49, 50, 51, 52, 53, 54, 55, 56, 57, 58, 59, 60, 61, 150, 151, 152, 153, 154, 155, 156, 157, 158, 159, 160, 161, 162, 179, 180, 181, 182] rfl (by decide +kernel)
set_option maxRecDepth 20000 in
theorem gX9_rebuild_X9_climb : GoodIn wsX9_rebuild (wsV RX9 72 RX9 yX9_climb wsX9_climb) := goodIn_app (goodIn_of _ (by decide +kernel)) ggX9_rebuild_X9_climb
set_option maxRecDepth 20000 in
theorem ggX9_gatherAccounts_X0_start : GoodIn wsX9_gatherAccounts wsX0_start := goodIn_r _ [10, 11, 12, 13, 14, 15, 16, 17, 18, 105, 106, 107, 108] rfl (by decide +kernel)
set_option maxRecDepth 20000 in
theorem gX9_gatherAccounts_X0_start : GoodIn wsX9_gatherAccounts (wsV RX9 81 RX0 yX0_start wsX0_start) := goodIn_app (goodIn_of _ (by decide +kernel)) ggX9_gatherAccounts_X0_start
set_option maxRecDepth 20000 in
theorem ggX9_gatherAccounts_X0_putLong : GoodIn wsX9_gatherAccounts wsX0_putLong := goodIn_r _ [22, 23, 24, 25, 9, 26, 17, 27, 18, 28, 29, 30, 31, 12, 32, 105, 106, 107, 108] rfl (by decide +kernel)
set_option maxRecDepth 20000 in
theorem gX9_gatherAccounts_X0_putLong : GoodIn wsX9_gatherAccounts (wsV RX9 87 RX0 yX0_putLong wsX0_putLong) := goodIn_app (goodIn_of _ (by decide +kernel)) ggX9_gatherAccounts_X0_putLong
set_option maxRecDepth 20000 in
theorem ggX9_gatherAccounts_X9_keepValue : GoodIn wsX9_gatherAccounts wsX9_keepValue := goodIn_r _ [37, 2, 38, 39, 40, 41, 9, 42, 18, 43, 17, 23, 24, 25, 26, 27, 28, 29, 30, 31, 12, 32, 44, 45, 46, 47, 48, 49, 50, 51, 52, 92, 93, 94, 95, 96, 97, 98, 99, 100, 101, 102, 103, 104, 105, 106, 107, 108] rfl (by decide +kernel)
set_option maxRecDepth 20000 in
theorem gX9_gatherAccounts_X9_keepValue : GoodIn wsX9_gatherAccounts (wsV RX9 94 RX9 yX9_keepValue wsX9_keepValue) := goodIn_app (goodIn_of _ (by decide +kernel)) ggX9_gatherAccounts_X9_keepValue
set_option maxRecDepth 20000 in
theorem ggX9_gatherAccounts_X0_put : GoodIn wsX9_gatherAccounts wsX0_put := goodIn_r _ [26, 17, 27, 18, 28, 29, 30, 9, 31, 12, 32, 105, 106, 107, 108] rfl (by decide +kernel)
set_option maxRecDepth 20000 in
theorem gX9_gatherAccounts_X0_put : GoodIn wsX9_gatherAccounts (wsV RX9 99 RX0 yX0_put wsX0_put) := goodIn_app (goodIn_of _ (by decide +kernel)) ggX9_gatherAccounts_X0_put
set_option maxRecDepth 20000 in
theorem ggX9_gatherAccounts_X9_addPlace : GoodIn wsX9_gatherAccounts wsX9_addPlace := goodIn_r _ [57, 2, 58, 59, 38, 60, 61, 39, 40, 41, 9, 42, 18, 43, 17, 23, 24, 25, 26, 27, 28, 29, 30, 31, 12, 32, 44, 45, 46, 47, 48, 49, 50, 51, 52, 6, 7, 8, 10, 11, 13, 14, 15, 16, 53, 62, 63, 64, 65, 66, 20, 21, 22, 67, 68, 69, 36, 70, 71, 72, 73, 74, 75, 92, 93, 94, 95, 96, 97, 98, 99, 100, 101, 102, 103, 104, 105, 106, 107, 108] rfl (by decide +kernel)
set_option maxRecDepth 20000 in
theorem gX9_gatherAccounts_X9_addPlace : GoodIn wsX9_gatherAccounts (wsV RX9 105 RX9 yX9_addPlace wsX9_addPlace) := goodIn_app (goodIn_of _ (by decide +kernel)) ggX9_gatherAccounts_X9_addPlace
set_option maxRecDepth 20000 in
theorem ggX9_gatherModules_X0_start : GoodIn wsX9_gatherModules wsX0_start := goodIn_r _ [10, 11, 12, 13, 14, 15, 16, 17, 18, 126, 127, 128, 129] rfl (by decide +kernel)
set_option maxRecDepth 20000 in
theorem gX9_gatherModules_X0_start : GoodIn wsX9_gatherModules (wsV RX9 81 RX0 yX0_start wsX0_start) := goodIn_app (goodIn_of _ (by decide +kernel)) ggX9_gatherModules_X0_start
set_option maxRecDepth 20000 in
theorem ggX9_gatherModules_X5_at : GoodIn wsX9_gatherModules wsX5_at := goodIn_r _ [23, 24, 25, 111, 112, 113, 114, 115, 116, 117, 118, 119, 120, 121, 122, 123, 124, 125] rfl (by decide +kernel)
set_option maxRecDepth 20000 in
theorem gX9_gatherModules_X5_at : GoodIn wsX9_gatherModules (wsV RX9 121 RX5 yX5_at wsX5_at) := goodIn_app (goodIn_of _ (by decide +kernel)) ggX9_gatherModules_X5_at
set_option maxRecDepth 20000 in
theorem ggX9_gatherModules_X0_put : GoodIn wsX9_gatherModules wsX0_put := goodIn_r _ [29, 17, 30, 18, 31, 32, 33, 9, 34, 12, 35, 126, 127, 128, 129] rfl (by decide +kernel)
set_option maxRecDepth 20000 in
theorem gX9_gatherModules_X0_put : GoodIn wsX9_gatherModules (wsV RX9 99 RX0 yX0_put wsX0_put) := goodIn_app (goodIn_of _ (by decide +kernel)) ggX9_gatherModules_X0_put
set_option maxRecDepth 20000 in
theorem ggX9_gatherModules_X9_keepValue : GoodIn wsX9_gatherModules wsX9_keepValue := goodIn_r _ [40, 3, 41, 42, 43, 44, 9, 45, 18, 46, 17, 47, 27, 28, 29, 30, 31, 32, 33, 34, 12, 35, 48, 49, 50, 51, 52, 53, 54, 55, 56, 98, 99, 100, 101, 102, 103, 104, 105, 106, 107, 108, 109, 110, 126, 127, 128, 129] rfl (by decide +kernel)
set_option maxRecDepth 20000 in
theorem gX9_gatherModules_X9_keepValue : GoodIn wsX9_gatherModules (wsV RX9 94 RX9 yX9_keepValue wsX9_keepValue) := goodIn_app (goodIn_of _ (by decide +kernel)) ggX9_gatherModules_X9_keepValue
set_option maxRecDepth 20000 in
theorem ggX9_gatherModules_X9_addPlace : GoodIn wsX9_gatherModules wsX9_addPlace := goodIn_r _ [60, 3, 61, 62, 41, 63, 64, 42, 43, 44, 9, 45, 18, 46, 17, 47, 27, 28, 29, 30, 31, 32, 33, 34, 12, 35, 48, 49, 50, 51, 52, 53, 54, 55, 56, 6, 7, 8, 10, 11, 13, 14, 15, 16, 26, 65, 66, 67, 68, 69, 70, 71, 72, 73, 74, 75, 39, 76, 77, 78, 79, 80, 81, 98, 99, 100, 101, 102, 103, 104, 105, 106, 107, 108, 109, 110, 126, 127, 128, 129] rfl (by decide +kernel)
set_option maxRecDepth 20000 in
theorem gX9_gatherModules_X9_addPlace : GoodIn wsX9_gatherModules (wsV RX9 105 RX9 yX9_addPlace wsX9_addPlace) := goodIn_app (goodIn_of _ (by decide +kernel)) ggX9_gatherModules_X9_addPlace
set_option maxRecDepth 20000 in
theorem ggX9_gatherResources_X7_writeBytes : GoodIn wsX9_gatherResources wsX7_writeBytes := goodIn_r _ [11, 12, 13, 14, 15, 16, 17, 10, 18, 89, 90, 91, 92, 93, 94, 95, 96, 97, 98, 99, 100, 101, 102, 103, 104] rfl (by decide +kernel)
set_option maxRecDepth 20000 in
theorem gX9_gatherResources_X7_writeBytes : GoodIn wsX9_gatherResources (wsV RX9 131 RX7 yX7_writeBytes wsX7_writeBytes) := goodIn_app (goodIn_of _ (by decide +kernel)) ggX9_gatherResources_X7_writeBytes
set_option maxRecDepth 20000 in
theorem ggX9_gatherResources_X0_start : GoodIn wsX9_gatherResources wsX0_start := goodIn_r _ [23, 24, 25, 26, 27, 28, 29, 30, 31, 118, 119, 120, 121] rfl (by decide +kernel)
set_option maxRecDepth 20000 in
theorem gX9_gatherResources_X0_start : GoodIn wsX9_gatherResources (wsV RX9 81 RX0 yX0_start wsX0_start) := goodIn_app (goodIn_of _ (by decide +kernel)) ggX9_gatherResources_X0_start
set_option maxRecDepth 20000 in
theorem ggX9_gatherResources_X0_put : GoodIn wsX9_gatherResources wsX0_put := goodIn_r _ [35, 30, 36, 31, 37, 38, 39, 22, 40, 25, 41, 118, 119, 120, 121] rfl (by decide +kernel)
set_option maxRecDepth 20000 in
theorem gX9_gatherResources_X0_put : GoodIn wsX9_gatherResources (wsV RX9 99 RX0 yX0_put wsX0_put) := goodIn_app (goodIn_of _ (by decide +kernel)) ggX9_gatherResources_X0_put
set_option maxRecDepth 20000 in
theorem ggX9_gatherResources_X9_keepValue : GoodIn wsX9_gatherResources wsX9_keepValue := goodIn_r _ [46, 3, 47, 48, 49, 50, 22, 51, 31, 52, 30, 53, 33, 34, 35, 36, 37, 38, 39, 40, 25, 41, 54, 55, 56, 57, 58, 59, 60, 61, 62, 105, 106, 107, 108, 109, 110, 111, 112, 113, 114, 115, 116, 117, 118, 119, 120, 121] rfl (by decide +kernel)
set_option maxRecDepth 20000 in
theorem gX9_gatherResources_X9_keepValue : GoodIn wsX9_gatherResources (wsV RX9 94 RX9 yX9_keepValue wsX9_keepValue) := goodIn_app (goodIn_of _ (by decide +kernel)) ggX9_gatherResources_X9_keepValue
set_option maxRecDepth 20000 in
theorem ggX9_gatherResources_X0_putLong : GoodIn wsX9_gatherResources wsX0_putLong := goodIn_r _ [66, 53, 33, 34, 22, 35, 30, 36, 31, 37, 38, 39, 40, 25, 41, 118, 119, 120, 121] rfl (by decide +kernel)
set_option maxRecDepth 20000 in
theorem gX9_gatherResources_X0_putLong : GoodIn wsX9_gatherResources (wsV RX9 87 RX0 yX0_putLong wsX0_putLong) := goodIn_app (goodIn_of _ (by decide +kernel)) ggX9_gatherResources_X0_putLong
set_option maxRecDepth 20000 in
theorem ggX9_gatherResources_X9_addPlace : GoodIn wsX9_gatherResources wsX9_addPlace := goodIn_r _ [70, 3, 71, 72, 47, 73, 74, 48, 49, 50, 22, 51, 31, 52, 30, 53, 33, 34, 35, 36, 37, 38, 39, 40, 25, 41, 54, 55, 56, 57, 58, 59, 60, 61, 62, 19, 20, 21, 23, 24, 26, 27, 28, 29, 32, 75, 76, 77, 78, 79, 64, 65, 66, 80, 81, 82, 45, 83, 84, 85, 86, 87, 88, 105, 106, 107, 108, 109, 110, 111, 112, 113, 114, 115, 116, 117, 118, 119, 120, 121] rfl (by decide +kernel)
set_option maxRecDepth 20000 in
theorem gX9_gatherResources_X9_addPlace : GoodIn wsX9_gatherResources (wsV RX9 105 RX9 yX9_addPlace wsX9_addPlace) := goodIn_app (goodIn_of _ (by decide +kernel)) ggX9_gatherResources_X9_addPlace
set_option maxRecDepth 20000 in
theorem ggX9_keepValue_X0_finish : GoodIn wsX9_keepValue wsX0_finish := goodIn_r _ [7, 8, 9, 10, 11, 12, 13, 6, 14, 15, 16, 17, 18, 19, 20, 21, 44, 45, 46, 47] rfl (by decide +kernel)
set_option maxRecDepth 20000 in
theorem gX9_keepValue_X0_finish : GoodIn wsX9_keepValue (wsV RX9 144 RX0 yX0_finish wsX0_finish) := goodIn_app (goodIn_of _ (by decide +kernel)) ggX9_keepValue_X0_finish
set_option maxRecDepth 20000 in
theorem ggX9_keepValue_X0_copyTo : GoodIn wsX9_keepValue wsX0_copyTo := goodIn_r _ [25, 26, 27, 28, 6, 29, 20, 30, 44, 45, 46, 47] rfl (by decide +kernel)
set_option maxRecDepth 20000 in
theorem gX9_keepValue_X0_copyTo : GoodIn wsX9_keepValue (wsV RX9 147 RX0 yX0_copyTo wsX0_copyTo) := goodIn_app (goodIn_of _ (by decide +kernel)) ggX9_keepValue_X0_copyTo
set_option maxRecDepth 20000 in
theorem ggX9_addPlace_X0_finish : GoodIn wsX9_addPlace wsX0_finish := goodIn_r _ [11, 12, 13, 14, 15, 16, 17, 10, 18, 19, 20, 21, 22, 23, 24, 25, 76, 77, 78, 79] rfl (by decide +kernel)
set_option maxRecDepth 20000 in
theorem gX9_addPlace_X0_finish : GoodIn wsX9_addPlace (wsV RX9 144 RX0 yX0_finish wsX0_finish) := goodIn_app (goodIn_of _ (by decide +kernel)) ggX9_addPlace_X0_finish
set_option maxRecDepth 20000 in
theorem ggX9_addPlace_X0_copyTo : GoodIn wsX9_addPlace wsX0_copyTo := goodIn_r _ [29, 30, 31, 32, 10, 33, 24, 34, 76, 77, 78, 79] rfl (by decide +kernel)
set_option maxRecDepth 20000 in
theorem gX9_addPlace_X0_copyTo : GoodIn wsX9_addPlace (wsV RX9 147 RX0 yX0_copyTo wsX0_copyTo) := goodIn_app (goodIn_of _ (by decide +kernel)) ggX9_addPlace_X0_copyTo
set_option maxRecDepth 20000 in
theorem ggX9_addPlace_X0_start : GoodIn wsX9_addPlace wsX0_start := goodIn_r _ [38, 39, 24, 40, 41, 42, 43, 14, 12, 76, 77, 78, 79] rfl (by decide +kernel)
set_option maxRecDepth 20000 in
theorem gX9_addPlace_X0_start : GoodIn wsX9_addPlace (wsV RX9 81 RX0 yX0_start wsX0_start) := goodIn_app (goodIn_of _ (by decide +kernel)) ggX9_addPlace_X0_start
set_option maxRecDepth 20000 in
theorem ggX9_addPlace_X0_put : GoodIn wsX9_addPlace wsX0_put := goodIn_r _ [18, 14, 19, 12, 20, 21, 22, 10, 23, 24, 25, 76, 77, 78, 79] rfl (by decide +kernel)
set_option maxRecDepth 20000 in
theorem gX9_addPlace_X0_put : GoodIn wsX9_addPlace (wsV RX9 99 RX0 yX0_put wsX0_put) := goodIn_app (goodIn_of _ (by decide +kernel)) ggX9_addPlace_X0_put
set_option maxRecDepth 20000 in
theorem ggX9_addPlace_X0_putLongs : GoodIn wsX9_addPlace wsX0_putLongs := goodIn_r _ [48, 49, 50, 51, 10, 52, 15, 16, 17, 18, 14, 19, 12, 20, 21, 22, 23, 24, 25, 76, 77, 78, 79] rfl (by decide +kernel)
set_option maxRecDepth 20000 in
theorem gX9_addPlace_X0_putLongs : GoodIn wsX9_addPlace (wsV RX9 151 RX0 yX0_putLongs wsX0_putLongs) := goodIn_app (goodIn_of _ (by decide +kernel)) ggX9_addPlace_X0_putLongs
set_option maxRecDepth 20000 in
theorem ggX9_addPlace_X9_isBelow : GoodIn wsX9_addPlace wsX9_isBelow := goodIn_r _ [57, 3, 58, 59, 60, 61, 62, 63, 64, 65, 66, 67, 68, 69, 70, 71, 72, 73, 74, 75] rfl (by decide +kernel)
set_option maxRecDepth 20000 in
theorem gX9_addPlace_X9_isBelow : GoodIn wsX9_addPlace (wsV RX9 154 RX9 yX9_isBelow wsX9_isBelow) := goodIn_app (goodIn_of _ (by decide +kernel)) ggX9_addPlace_X9_isBelow
set_option maxRecDepth 20000 in
theorem ggX9_isBelow_X10_below : GoodIn wsX9_isBelow wsX10_below := goodIn_r _ [5, 6] rfl (by decide +kernel)
set_option maxRecDepth 20000 in
theorem gX9_isBelow_X10_below : GoodIn wsX9_isBelow (va_wsS RX9 158 yX10_below wsX10_below) := goodIn_app (goodIn_of _ (by decide +kernel)) ggX9_isBelow_X10_below
set_option maxRecDepth 20000 in
theorem ggX9_leaveOutDoubles_X9_firstDifference : GoodIn wsX9_leaveOutDoubles wsX9_firstDifference := goodIn_r _ [7, 8, 9, 10, 11, 12, 13, 14, 15, 16, 17, 18, 19, 20, 21] rfl (by decide +kernel)
set_option maxRecDepth 20000 in
theorem gX9_leaveOutDoubles_X9_firstDifference : GoodIn wsX9_leaveOutDoubles (wsV RX9 164 RX9 yX9_firstDifference wsX9_firstDifference) := goodIn_app (goodIn_of _ (by decide +kernel)) ggX9_leaveOutDoubles_X9_firstDifference
set_option maxRecDepth 20000 in
theorem ggX9_parting_X9_firstDifference : GoodIn wsX9_parting wsX9_firstDifference := goodIn_r _ [11, 12, 13, 14, 15, 16, 17, 18, 19, 20, 21, 22, 23, 24, 25] rfl (by decide +kernel)
set_option maxRecDepth 20000 in
theorem gX9_parting_X9_firstDifference : GoodIn wsX9_parting (wsV RX9 164 RX9 yX9_firstDifference wsX9_firstDifference) := goodIn_app (goodIn_of _ (by decide +kernel)) ggX9_parting_X9_firstDifference
set_option maxRecDepth 20000 in
theorem ggX9_climb_X9_parting : GoodIn wsX9_climb wsX9_parting := goodIn_r _ [21, 22, 1, 23, 24, 4, 25, 26, 27, 28, 20, 29, 12, 78, 79, 80, 81, 82, 83, 84, 85, 86, 87, 88, 89, 90] rfl (by decide +kernel)
set_option maxRecDepth 20000 in
theorem gX9_climb_X9_parting : GoodIn wsX9_climb (wsV RX9 173 RX9 yX9_parting wsX9_parting) := goodIn_app (goodIn_of _ (by decide +kernel)) ggX9_climb_X9_parting
set_option maxRecDepth 20000 in
theorem ggX9_climb_X0_start : GoodIn wsX9_climb wsX0_start := goodIn_r _ [34, 35, 36, 37, 9, 10, 11, 38, 39, 91, 92, 93, 94] rfl (by decide +kernel)
set_option maxRecDepth 20000 in
theorem gX9_climb_X0_start : GoodIn wsX9_climb (wsV RX9 81 RX0 yX0_start wsX0_start) := goodIn_app (goodIn_of _ (by decide +kernel)) ggX9_climb_X0_start
set_option maxRecDepth 20000 in
theorem ggX9_climb_X0_put : GoodIn wsX9_climb wsX0_put := goodIn_r _ [43, 38, 44, 39, 45, 46, 47, 33, 48, 36, 49, 91, 92, 93, 94] rfl (by decide +kernel)
set_option maxRecDepth 20000 in
theorem gX9_climb_X0_put : GoodIn wsX9_climb (wsV RX9 99 RX0 yX0_put wsX0_put) := goodIn_app (goodIn_of _ (by decide +kernel)) ggX9_climb_X0_put
set_option maxRecDepth 20000 in
theorem ggX9_climb_X0_putLongs : GoodIn wsX9_climb wsX0_putLongs := goodIn_r _ [53, 54, 55, 56, 33, 57, 58, 41, 42, 43, 38, 44, 39, 45, 46, 47, 48, 36, 49, 91, 92, 93, 94] rfl (by decide +kernel)
set_option maxRecDepth 20000 in
theorem gX9_climb_X0_putLongs : GoodIn wsX9_climb (wsV RX9 151 RX0 yX0_putLongs wsX0_putLongs) := goodIn_app (goodIn_of _ (by decide +kernel)) ggX9_climb_X0_putLongs
set_option maxRecDepth 20000 in
theorem ggX9_climb_X9_putNothing : GoodIn wsX9_climb wsX9_putNothing := goodIn_r _ [62, 15, 63, 55, 56, 33, 57, 58, 41, 42, 43, 38, 44, 39, 45, 46, 47, 48, 36, 49, 78, 79, 80, 81, 82, 83, 84, 85, 86, 87, 88, 89, 90, 91, 92, 93, 94] rfl (by decide +kernel)
set_option maxRecDepth 20000 in
theorem gX9_climb_X9_putNothing : GoodIn wsX9_climb (wsV RX9 185 RX9 yX9_putNothing wsX9_putNothing) := goodIn_app (goodIn_of _ (by decide +kernel)) ggX9_climb_X9_putNothing
set_option maxRecDepth 20000 in
theorem ggX9_climb_X0_finish : GoodIn wsX9_climb wsX0_finish := goodIn_r _ [67, 39, 68, 38, 58, 41, 42, 33, 43, 44, 45, 46, 47, 48, 36, 49, 91, 92, 93, 94] rfl (by decide +kernel)
set_option maxRecDepth 20000 in
theorem gX9_climb_X0_finish : GoodIn wsX9_climb (wsV RX9 144 RX0 yX0_finish wsX0_finish) := goodIn_app (goodIn_of _ (by decide +kernel)) ggX9_climb_X0_finish
set_option maxRecDepth 20000 in
theorem ggX9_climb_X0_copyTo : GoodIn wsX9_climb wsX0_copyTo := goodIn_r _ [72, 73, 74, 75, 33, 76, 36, 77, 91, 92, 93, 94] rfl (by decide +kernel)
set_option maxRecDepth 20000 in
theorem gX9_climb_X0_copyTo : GoodIn wsX9_climb (wsV RX9 147 RX0 yX0_copyTo wsX0_copyTo) := goodIn_app (goodIn_of _ (by decide +kernel)) ggX9_climb_X0_copyTo
set_option maxRecDepth 20000 in
theorem ggX9_putNothing_X0_putLong : GoodIn wsX9_putNothing wsX0_putLong := goodIn_r _ [6, 7, 8, 9, 5, 10, 11, 12, 13, 14, 15, 16, 17, 18, 19, 33, 34, 35, 36] rfl (by decide +kernel)
set_option maxRecDepth 20000 in
theorem gX9_putNothing_X0_putLong : GoodIn wsX9_putNothing (wsV RX9 87 RX0 yX0_putLong wsX0_putLong) := goodIn_app (goodIn_of _ (by decide +kernel)) ggX9_putNothing_X0_putLong
set_option maxRecDepth 20000 in
theorem ggX10_compare_X10_below : GoodIn wsX10_compare wsX10_below := goodIn_r _ [4, 5] rfl (by decide +kernel)
set_option maxRecDepth 20000 in
theorem gX10_compare_X10_below : GoodIn wsX10_compare (va_wsS RX10 11 yX10_below wsX10_below) := goodIn_app (goodIn_of _ (by decide +kernel)) ggX10_compare_X10_below
set_option maxRecDepth 20000 in
theorem ggX10_add_X10_below : GoodIn wsX10_add wsX10_below := goodIn_r _ [7, 8] rfl (by decide +kernel)
set_option maxRecDepth 20000 in
theorem gX10_add_X10_below : GoodIn wsX10_add (va_wsS RX10 11 yX10_below wsX10_below) := goodIn_app (goodIn_of _ (by decide +kernel)) ggX10_add_X10_below
set_option maxRecDepth 20000 in
theorem ggX10_subtract_X10_compare : GoodIn wsX10_subtract wsX10_compare := goodIn_r _ [7, 8, 9, 6, 10, 11] rfl (by decide +kernel)
set_option maxRecDepth 20000 in
theorem gX10_subtract_X10_compare : GoodIn wsX10_subtract (va_wsS RX10 28 yX10_compare wsX10_compare) := goodIn_app (goodIn_of _ (by decide +kernel)) ggX10_subtract_X10_compare
set_option maxRecDepth 20000 in
theorem ggX10_subtract_X10_below : GoodIn wsX10_subtract wsX10_below := goodIn_r _ [10, 11] rfl (by decide +kernel)
set_option maxRecDepth 20000 in
theorem gX10_subtract_X10_below : GoodIn wsX10_subtract (va_wsS RX10 11 yX10_below wsX10_below) := goodIn_app (goodIn_of _ (by decide +kernel)) ggX10_subtract_X10_below
set_option maxRecDepth 20000 in
theorem ggX10_multiply_X10_upperProduct : GoodIn wsX10_multiply wsX10_upperProduct := goodIn_r _ [7, 8] rfl (by decide +kernel)
set_option maxRecDepth 20000 in
theorem gX10_multiply_X10_upperProduct : GoodIn wsX10_multiply (va_wsS RX10 32 yX10_upperProduct wsX10_upperProduct) := goodIn_app (goodIn_of _ (by decide +kernel)) ggX10_multiply_X10_upperProduct
set_option maxRecDepth 20000 in
theorem ggX10_multiply_X10_below : GoodIn wsX10_multiply wsX10_below := goodIn_r _ [11, 12] rfl (by decide +kernel)
set_option maxRecDepth 20000 in
theorem gX10_multiply_X10_below : GoodIn wsX10_multiply (va_wsS RX10 11 yX10_below wsX10_below) := goodIn_app (goodIn_of _ (by decide +kernel)) ggX10_multiply_X10_below
set_option maxRecDepth 20000 in
theorem ggX10_divide_X10_compare : GoodIn wsX10_divide wsX10_compare := goodIn_r _ [9, 10, 11, 8, 12, 13] rfl (by decide +kernel)
