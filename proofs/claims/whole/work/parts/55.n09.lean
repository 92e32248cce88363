theorem dX18_one_427 : decode cX18_one 427 = .ok (.bipush 52, 2) := by decide +kernel
theorem dX18_one_429 : decode cX18_one 429 = .ok (.if_icmp .ge 14, 3) := by decide +kernel
theorem dX18_one_432 : decode cX18_one 432 = .ok (.aload_n 0, 1) := by decide +kernel
theorem dX18_one_433 : decode cX18_one 433 = .ok (.iload_n 3, 1) := by decide +kernel
theorem dX18_one_434 : decode cX18_one 434 = .ok (.lload 4, 2) := by decide +kernel
theorem dX18_one_436 : decode cX18_one 436 = .ok (.l2i, 1) := by decide +kernel
theorem dX18_one_437 : decode cX18_one 437 = .ok (.invokevirtual 508, 3) := by decide +kernel
theorem dX18_one_440 : decode cX18_one 440 = .ok (.goto 17, 3) := by decide +kernel
theorem dX18_one_443 : decode cX18_one 443 = .ok (.iload_n 3, 1) := by decide +kernel
theorem dX18_one_444 : decode cX18_one 444 = .ok (.bipush 51, 2) := by decide +kernel
theorem dX18_one_446 : decode cX18_one 446 = .ok (.if_icmp .le 11, 3) := by decide +kernel
theorem dX18_one_449 : decode cX18_one 449 = .ok (.aload_n 0, 1) := by decide +kernel
theorem dX18_one_450 : decode cX18_one 450 = .ok (.iload_n 3, 1) := by decide +kernel
theorem dX18_one_451 : decode cX18_one 451 = .ok (.lload 6, 2) := by decide +kernel
theorem dX18_one_453 : decode cX18_one 453 = .ok (.l2i, 1) := by decide +kernel
theorem dX18_one_454 : decode cX18_one 454 = .ok (.invokevirtual 511, 3) := by decide +kernel
theorem dX18_one_457 : decode cX18_one 457 = .ok (.return_, 1) := by decide +kernel
theorem dX18_doOne_0 : decode cX18_doOne 0 = .ok (.aload_n 0, 1) := by decide +kernel
theorem dX18_doOne_1 : decode cX18_doOne 1 = .ok (.aload_n 0, 1) := by decide +kernel
theorem dX18_doOne_2 : decode cX18_doOne 2 = .ok (.getfield 541, 3) := by decide +kernel
theorem dX18_doOne_5 : decode cX18_doOne 5 = .ok (.iload_n 1, 1) := by decide +kernel
theorem dX18_doOne_6 : decode cX18_doOne 6 = .ok (.laload, 1) := by decide +kernel
theorem dX18_doOne_7 : decode cX18_doOne 7 = .ok (.putfield 411, 3) := by decide +kernel
theorem dX18_doOne_10 : decode cX18_doOne 10 = .ok (.aload_n 0, 1) := by decide +kernel
theorem dX18_doOne_11 : decode cX18_doOne 11 = .ok (.aload_n 0, 1) := by decide +kernel
theorem dX18_doOne_12 : decode cX18_doOne 12 = .ok (.getfield 547, 3) := by decide +kernel
theorem dX18_doOne_15 : decode cX18_doOne 15 = .ok (.iload_n 1, 1) := by decide +kernel
theorem dX18_doOne_16 : decode cX18_doOne 16 = .ok (.iaload, 1) := by decide +kernel
theorem dX18_doOne_17 : decode cX18_doOne 17 = .ok (.putfield 264, 3) := by decide +kernel
theorem dX18_doOne_20 : decode cX18_doOne 20 = .ok (.aload_n 0, 1) := by decide +kernel
theorem dX18_doOne_21 : decode cX18_doOne 21 = .ok (.iconst 0, 1) := by decide +kernel
theorem dX18_doOne_22 : decode cX18_doOne 22 = .ok (.putfield 261, 3) := by decide +kernel
theorem dX18_doOne_25 : decode cX18_doOne 25 = .ok (.aload_n 0, 1) := by decide +kernel
theorem dX18_doOne_26 : decode cX18_doOne 26 = .ok (.iconst (-1), 1) := by decide +kernel
theorem dX18_doOne_27 : decode cX18_doOne 27 = .ok (.putfield 250, 3) := by decide +kernel
theorem dX18_doOne_30 : decode cX18_doOne 30 = .ok (.aload_n 0, 1) := by decide +kernel
theorem dX18_doOne_31 : decode cX18_doOne 31 = .ok (.lconst 0, 1) := by decide +kernel
theorem dX18_doOne_32 : decode cX18_doOne 32 = .ok (.putfield 253, 3) := by decide +kernel
theorem dX18_doOne_35 : decode cX18_doOne 35 = .ok (.aload_n 0, 1) := by decide +kernel
theorem dX18_doOne_36 : decode cX18_doOne 36 = .ok (.getfield 587, 3) := by decide +kernel
theorem dX18_doOne_39 : decode cX18_doOne 39 = .ok (.iload_n 1, 1) := by decide +kernel
theorem dX18_doOne_40 : decode cX18_doOne 40 = .ok (.iconst 0, 1) := by decide +kernel
theorem dX18_doOne_41 : decode cX18_doOne 41 = .ok (.iastore, 1) := by decide +kernel
theorem dX18_doOne_42 : decode cX18_doOne 42 = .ok (.aload_n 0, 1) := by decide +kernel
theorem dX18_doOne_43 : decode cX18_doOne 43 = .ok (.getfield 581, 3) := by decide +kernel
theorem dX18_doOne_46 : decode cX18_doOne 46 = .ok (.iload_n 1, 1) := by decide +kernel
theorem dX18_doOne_47 : decode cX18_doOne 47 = .ok (.iconst 0, 1) := by decide +kernel
theorem dX18_doOne_48 : decode cX18_doOne 48 = .ok (.iastore, 1) := by decide +kernel
theorem dX18_doOne_49 : decode cX18_doOne 49 = .ok (.aload_n 0, 1) := by decide +kernel
theorem dX18_doOne_50 : decode cX18_doOne 50 = .ok (.aload_n 0, 1) := by decide +kernel
theorem dX18_doOne_51 : decode cX18_doOne 51 = .ok (.getfield 411, 3) := by decide +kernel
theorem dX18_doOne_54 : decode cX18_doOne 54 = .ok (.invokevirtual 288, 3) := by decide +kernel
theorem dX18_doOne_57 : decode cX18_doOne 57 = .ok (.istore_n 2, 1) := by decide +kernel
theorem dX18_doOne_58 : decode cX18_doOne 58 = .ok (.iload_n 2, 1) := by decide +kernel
theorem dX18_doOne_59 : decode cX18_doOne 59 = .ok (.ifCond .ge 7, 3) := by decide +kernel
theorem dX18_doOne_62 : decode cX18_doOne 62 = .ok (.iconst 1, 1) := by decide +kernel
theorem dX18_doOne_63 : decode cX18_doOne 63 = .ok (.goto 43, 3) := by decide +kernel
theorem dX18_doOne_66 : decode cX18_doOne 66 = .ok (.aload_n 0, 1) := by decide +kernel
theorem dX18_doOne_67 : decode cX18_doOne 67 = .ok (.getfield 519, 3) := by decide +kernel
theorem dX18_doOne_70 : decode cX18_doOne 70 = .ok (.iload_n 2, 1) := by decide +kernel
theorem dX18_doOne_71 : decode cX18_doOne 71 = .ok (.laload, 1) := by decide +kernel
theorem dX18_doOne_72 : decode cX18_doOne 72 = .ok (.aload_n 0, 1) := by decide +kernel
theorem dX18_doOne_73 : decode cX18_doOne 73 = .ok (.getfield 544, 3) := by decide +kernel
theorem dX18_doOne_76 : decode cX18_doOne 76 = .ok (.iload_n 1, 1) := by decide +kernel
theorem dX18_doOne_77 : decode cX18_doOne 77 = .ok (.laload, 1) := by decide +kernel
theorem dX18_doOne_78 : decode cX18_doOne 78 = .ok (.lcmp, 1) := by decide +kernel
theorem dX18_doOne_79 : decode cX18_doOne 79 = .ok (.ifCond .eq 7, 3) := by decide +kernel
theorem dX18_doOne_82 : decode cX18_doOne 82 = .ok (.iconst 2, 1) := by decide +kernel
theorem dX18_doOne_83 : decode cX18_doOne 83 = .ok (.goto 23, 3) := by decide +kernel
theorem dX18_doOne_86 : decode cX18_doOne 86 = .ok (.aload_n 0, 1) := by decide +kernel
theorem dX18_doOne_87 : decode cX18_doOne 87 = .ok (.getfield 303, 3) := by decide +kernel
theorem dX18_doOne_90 : decode cX18_doOne 90 = .ok (.iload_n 2, 1) := by decide +kernel
theorem dX18_doOne_91 : decode cX18_doOne 91 = .ok (.laload, 1) := by decide +kernel
theorem dX18_doOne_92 : decode cX18_doOne 92 = .ok (.aload_n 0, 1) := by decide +kernel
theorem dX18_doOne_93 : decode cX18_doOne 93 = .ok (.getfield 264, 3) := by decide +kernel
theorem dX18_doOne_96 : decode cX18_doOne 96 = .ok (.i2l, 1) := by decide +kernel
theorem dX18_doOne_97 : decode cX18_doOne 97 = .ok (.lcmp, 1) := by decide +kernel
theorem dX18_doOne_98 : decode cX18_doOne 98 = .ok (.ifCond .ge 7, 3) := by decide +kernel
theorem dX18_doOne_101 : decode cX18_doOne 101 = .ok (.iconst 3, 1) := by decide +kernel
theorem dX18_doOne_102 : decode cX18_doOne 102 = .ok (.goto 4, 3) := by decide +kernel
theorem dX18_doOne_105 : decode cX18_doOne 105 = .ok (.iconst 0, 1) := by decide +kernel
theorem dX18_doOne_106 : decode cX18_doOne 106 = .ok (.istore_n 3, 1) := by decide +kernel
theorem dX18_doOne_107 : decode cX18_doOne 107 = .ok (.aload_n 0, 1) := by decide +kernel
theorem dX18_doOne_108 : decode cX18_doOne 108 = .ok (.aload_n 0, 1) := by decide +kernel
theorem dX18_doOne_109 : decode cX18_doOne 109 = .ok (.getfield 550, 3) := by decide +kernel
theorem dX18_doOne_112 : decode cX18_doOne 112 = .ok (.iload_n 1, 1) := by decide +kernel
theorem dX18_doOne_113 : decode cX18_doOne 113 = .ok (.iaload, 1) := by decide +kernel
theorem dX18_doOne_114 : decode cX18_doOne 114 = .ok (.invokevirtual 106, 3) := by decide +kernel
theorem dX18_doOne_117 : decode cX18_doOne 117 = .ok (.istore 4, 2) := by decide +kernel
theorem dX18_doOne_119 : decode cX18_doOne 119 = .ok (.iload_n 3, 1) := by decide +kernel
theorem dX18_doOne_120 : decode cX18_doOne 120 = .ok (.ifCond .ne 21, 3) := by decide +kernel
theorem dX18_doOne_123 : decode cX18_doOne 123 = .ok (.aload_n 0, 1) := by decide +kernel
theorem dX18_doOne_124 : decode cX18_doOne 124 = .ok (.getfield 538, 3) := by decide +kernel
theorem dX18_doOne_127 : decode cX18_doOne 127 = .ok (.iload_n 1, 1) := by decide +kernel
theorem dX18_doOne_128 : decode cX18_doOne 128 = .ok (.iaload, 1) := by decide +kernel
theorem dX18_doOne_129 : decode cX18_doOne 129 = .ok (.iconst 2, 1) := by decide +kernel
theorem dX18_doOne_130 : decode cX18_doOne 130 = .ok (.if_icmp .ne 11, 3) := by decide +kernel
theorem dX18_doOne_133 : decode cX18_doOne 133 = .ok (.aload_n 0, 1) := by decide +kernel
theorem dX18_doOne_134 : decode cX18_doOne 134 = .ok (.iload_n 1, 1) := by decide +kernel
theorem dX18_doOne_135 : decode cX18_doOne 135 = .ok (.iload 4, 2) := by decide +kernel
theorem dX18_doOne_137 : decode cX18_doOne 137 = .ok (.invokevirtual 646, 3) := by decide +kernel
theorem dX18_doOne_140 : decode cX18_doOne 140 = .ok (.istore_n 3, 1) := by decide +kernel
theorem dX18_doOne_141 : decode cX18_doOne 141 = .ok (.iload_n 3, 1) := by decide +kernel
theorem dX18_doOne_142 : decode cX18_doOne 142 = .ok (.ifCond .eq 13, 3) := by decide +kernel
theorem dX18_doOne_145 : decode cX18_doOne 145 = .ok (.aload_n 0, 1) := by decide +kernel
theorem dX18_doOne_146 : decode cX18_doOne 146 = .ok (.iconst 3, 1) := by decide +kernel
theorem dX18_doOne_147 : decode cX18_doOne 147 = .ok (.iload_n 3, 1) := by decide +kernel
theorem dX18_doOne_148 : decode cX18_doOne 148 = .ok (.i2l, 1) := by decide +kernel
theorem dX18_doOne_149 : decode cX18_doOne 149 = .ok (.invokevirtual 267, 3) := by decide +kernel
theorem dX18_doOne_152 : decode cX18_doOne 152 = .ok (.goto 76, 3) := by decide +kernel
theorem dX18_doOne_155 : decode cX18_doOne 155 = .ok (.aload_n 0, 1) := by decide +kernel
theorem dX18_doOne_156 : decode cX18_doOne 156 = .ok (.getfield 538, 3) := by decide +kernel
theorem dX18_doOne_159 : decode cX18_doOne 159 = .ok (.iload_n 1, 1) := by decide +kernel
theorem dX18_doOne_160 : decode cX18_doOne 160 = .ok (.iaload, 1) := by decide +kernel
theorem dX18_doOne_161 : decode cX18_doOne 161 = .ok (.iconst 1, 1) := by decide +kernel
theorem dX18_doOne_162 : decode cX18_doOne 162 = .ok (.if_icmp .ne 11, 3) := by decide +kernel
theorem dX18_doOne_165 : decode cX18_doOne 165 = .ok (.aload_n 0, 1) := by decide +kernel
theorem dX18_doOne_166 : decode cX18_doOne 166 = .ok (.iload_n 1, 1) := by decide +kernel
theorem dX18_doOne_167 : decode cX18_doOne 167 = .ok (.invokevirtual 649, 3) := by decide +kernel
theorem dX18_doOne_170 : decode cX18_doOne 170 = .ok (.goto 11, 3) := by decide +kernel
theorem dX18_doOne_173 : decode cX18_doOne 173 = .ok (.aload_n 0, 1) := by decide +kernel
theorem dX18_doOne_174 : decode cX18_doOne 174 = .ok (.iload_n 1, 1) := by decide +kernel
theorem dX18_doOne_175 : decode cX18_doOne 175 = .ok (.iload 4, 2) := by decide +kernel
theorem dX18_doOne_177 : decode cX18_doOne 177 = .ok (.iload_n 2, 1) := by decide +kernel
theorem dX18_doOne_178 : decode cX18_doOne 178 = .ok (.invokevirtual 652, 3) := by decide +kernel
theorem dX18_doOne_181 : decode cX18_doOne 181 = .ok (.aload_n 0, 1) := by decide +kernel
theorem dX18_doOne_182 : decode cX18_doOne 182 = .ok (.aload_n 0, 1) := by decide +kernel
theorem dX18_doOne_183 : decode cX18_doOne 183 = .ok (.getfield 411, 3) := by decide +kernel
theorem dX18_doOne_186 : decode cX18_doOne 186 = .ok (.invokevirtual 288, 3) := by decide +kernel
theorem dX18_doOne_189 : decode cX18_doOne 189 = .ok (.istore_n 2, 1) := by decide +kernel
theorem dX18_doOne_190 : decode cX18_doOne 190 = .ok (.aload_n 0, 1) := by decide +kernel
theorem dX18_doOne_191 : decode cX18_doOne 191 = .ok (.getfield 303, 3) := by decide +kernel
theorem dX18_doOne_194 : decode cX18_doOne 194 = .ok (.iload_n 2, 1) := by decide +kernel
theorem dX18_doOne_195 : decode cX18_doOne 195 = .ok (.dup2, 1) := by decide +kernel
theorem dX18_doOne_196 : decode cX18_doOne 196 = .ok (.laload, 1) := by decide +kernel
theorem dX18_doOne_197 : decode cX18_doOne 197 = .ok (.aload_n 0, 1) := by decide +kernel
theorem dX18_doOne_198 : decode cX18_doOne 198 = .ok (.getfield 261, 3) := by decide +kernel
theorem dX18_doOne_201 : decode cX18_doOne 201 = .ok (.i2l, 1) := by decide +kernel
theorem dX18_doOne_202 : decode cX18_doOne 202 = .ok (.lsub, 1) := by decide +kernel
theorem dX18_doOne_203 : decode cX18_doOne 203 = .ok (.lastore, 1) := by decide +kernel
theorem dX18_doOne_204 : decode cX18_doOne 204 = .ok (.aload_n 0, 1) := by decide +kernel
theorem dX18_doOne_205 : decode cX18_doOne 205 = .ok (.getfield 519, 3) := by decide +kernel
theorem dX18_doOne_208 : decode cX18_doOne 208 = .ok (.iload_n 2, 1) := by decide +kernel
theorem dX18_doOne_209 : decode cX18_doOne 209 = .ok (.dup2, 1) := by decide +kernel
theorem dX18_doOne_210 : decode cX18_doOne 210 = .ok (.laload, 1) := by decide +kernel
theorem dX18_doOne_211 : decode cX18_doOne 211 = .ok (.lconst 1, 1) := by decide +kernel
theorem dX18_doOne_212 : decode cX18_doOne 212 = .ok (.ladd, 1) := by decide +kernel
theorem dX18_doOne_213 : decode cX18_doOne 213 = .ok (.lastore, 1) := by decide +kernel
theorem dX18_doOne_214 : decode cX18_doOne 214 = .ok (.aload_n 0, 1) := by decide +kernel
theorem dX18_doOne_215 : decode cX18_doOne 215 = .ok (.dup, 1) := by decide +kernel
theorem dX18_doOne_216 : decode cX18_doOne 216 = .ok (.getfield 615, 3) := by decide +kernel
theorem dX18_doOne_219 : decode cX18_doOne 219 = .ok (.aload_n 0, 1) := by decide +kernel
theorem dX18_doOne_220 : decode cX18_doOne 220 = .ok (.getfield 261, 3) := by decide +kernel
theorem dX18_doOne_223 : decode cX18_doOne 223 = .ok (.i2l, 1) := by decide +kernel
theorem dX18_doOne_224 : decode cX18_doOne 224 = .ok (.ladd, 1) := by decide +kernel
theorem dX18_doOne_225 : decode cX18_doOne 225 = .ok (.putfield 615, 3) := by decide +kernel
theorem dX18_doOne_228 : decode cX18_doOne 228 = .ok (.aload_n 0, 1) := by decide +kernel
theorem dX18_doOne_229 : decode cX18_doOne 229 = .ok (.getfield 575, 3) := by decide +kernel
theorem dX18_doOne_232 : decode cX18_doOne 232 = .ok (.iload_n 1, 1) := by decide +kernel
theorem dX18_doOne_233 : decode cX18_doOne 233 = .ok (.aload_n 0, 1) := by decide +kernel
theorem dX18_doOne_234 : decode cX18_doOne 234 = .ok (.getfield 250, 3) := by decide +kernel
theorem dX18_doOne_237 : decode cX18_doOne 237 = .ok (.iastore, 1) := by decide +kernel
theorem dX18_doOne_238 : decode cX18_doOne 238 = .ok (.aload_n 0, 1) := by decide +kernel
theorem dX18_doOne_239 : decode cX18_doOne 239 = .ok (.getfield 578, 3) := by decide +kernel
theorem dX18_doOne_242 : decode cX18_doOne 242 = .ok (.iload_n 1, 1) := by decide +kernel
theorem dX18_doOne_243 : decode cX18_doOne 243 = .ok (.aload_n 0, 1) := by decide +kernel
theorem dX18_doOne_244 : decode cX18_doOne 244 = .ok (.getfield 261, 3) := by decide +kernel
theorem dX18_doOne_247 : decode cX18_doOne 247 = .ok (.iastore, 1) := by decide +kernel
theorem dX18_doOne_248 : decode cX18_doOne 248 = .ok (.aload_n 0, 1) := by decide +kernel
theorem dX18_doOne_249 : decode cX18_doOne 249 = .ok (.getfield 584, 3) := by decide +kernel
theorem dX18_doOne_252 : decode cX18_doOne 252 = .ok (.iload_n 1, 1) := by decide +kernel
theorem dX18_doOne_253 : decode cX18_doOne 253 = .ok (.aload_n 0, 1) := by decide +kernel
theorem dX18_doOne_254 : decode cX18_doOne 254 = .ok (.getfield 253, 3) := by decide +kernel
theorem dX18_doOne_257 : decode cX18_doOne 257 = .ok (.lastore, 1) := by decide +kernel
theorem dX18_doOne_258 : decode cX18_doOne 258 = .ok (.return_, 1) := by decide +kernel
theorem dX18_refusal_0 : decode cX18_refusal 0 = .ok (.aload_n 0, 1) := by decide +kernel
theorem dX18_refusal_1 : decode cX18_refusal 1 = .ok (.getfield 553, 3) := by decide +kernel
theorem dX18_refusal_4 : decode cX18_refusal 4 = .ok (.iload_n 1, 1) := by decide +kernel
theorem dX18_refusal_5 : decode cX18_refusal 5 = .ok (.iaload, 1) := by decide +kernel
theorem dX18_refusal_6 : decode cX18_refusal 6 = .ok (.istore_n 3, 1) := by decide +kernel
theorem dX18_refusal_7 : decode cX18_refusal 7 = .ok (.iload_n 2, 1) := by decide +kernel
theorem dX18_refusal_8 : decode cX18_refusal 8 = .ok (.ifCond .ne 28, 3) := by decide +kernel
theorem dX18_refusal_11 : decode cX18_refusal 11 = .ok (.aload_n 0, 1) := by decide +kernel
theorem dX18_refusal_12 : decode cX18_refusal 12 = .ok (.getfield 550, 3) := by decide +kernel
theorem dX18_refusal_15 : decode cX18_refusal 15 = .ok (.iload_n 1, 1) := by decide +kernel
theorem dX18_refusal_16 : decode cX18_refusal 16 = .ok (.iaload, 1) := by decide +kernel
theorem dX18_refusal_17 : decode cX18_refusal 17 = .ok (.ifCond .eq 7, 3) := by decide +kernel
theorem dX18_refusal_20 : decode cX18_refusal 20 = .ok (.iconst 4, 1) := by decide +kernel
theorem dX18_refusal_21 : decode cX18_refusal 21 = .ok (.goto 14, 3) := by decide +kernel
theorem dX18_refusal_24 : decode cX18_refusal 24 = .ok (.iload_n 3, 1) := by decide +kernel
theorem dX18_refusal_25 : decode cX18_refusal 25 = .ok (.iconst 5, 1) := by decide +kernel
theorem dX18_refusal_26 : decode cX18_refusal 26 = .ok (.if_icmp .le 7, 3) := by decide +kernel
theorem dX18_refusal_29 : decode cX18_refusal 29 = .ok (.iconst 5, 1) := by decide +kernel
theorem dX18_refusal_30 : decode cX18_refusal 30 = .ok (.goto 5, 3) := by decide +kernel
theorem dX18_refusal_33 : decode cX18_refusal 33 = .ok (.bipush 6, 2) := by decide +kernel
theorem dX18_refusal_35 : decode cX18_refusal 35 = .ok (.ireturn, 1) := by decide +kernel
theorem dX18_refusal_36 : decode cX18_refusal 36 = .ok (.aload_n 0, 1) := by decide +kernel
theorem dX18_refusal_37 : decode cX18_refusal 37 = .ok (.getfield 17, 3) := by decide +kernel
theorem dX18_refusal_40 : decode cX18_refusal 40 = .ok (.iload_n 2, 1) := by decide +kernel
theorem dX18_refusal_41 : decode cX18_refusal 41 = .ok (.aaload, 1) := by decide +kernel
theorem dX18_refusal_42 : decode cX18_refusal 42 = .ok (.astore 4, 2) := by decide +kernel
theorem dX18_refusal_44 : decode cX18_refusal 44 = .ok (.iload_n 3, 1) := by decide +kernel
theorem dX18_refusal_45 : decode cX18_refusal 45 = .ok (.aload 4, 2) := by decide +kernel
theorem dX18_refusal_47 : decode cX18_refusal 47 = .ok (.getfield 112, 3) := by decide +kernel
theorem dX18_refusal_50 : decode cX18_refusal 50 = .ok (.if_icmp .lt 5, 3) := by decide +kernel
theorem dX18_refusal_53 : decode cX18_refusal 53 = .ok (.iconst 5, 1) := by decide +kernel
theorem dX18_refusal_54 : decode cX18_refusal 54 = .ok (.ireturn, 1) := by decide +kernel
theorem dX18_refusal_55 : decode cX18_refusal 55 = .ok (.aload 4, 2) := by decide +kernel
theorem dX18_refusal_57 : decode cX18_refusal 57 = .ok (.iload_n 3, 1) := by decide +kernel
theorem dX18_refusal_58 : decode cX18_refusal 58 = .ok (.invokevirtual 126, 3) := by decide +kernel
theorem dX18_refusal_61 : decode cX18_refusal 61 = .ok (.iconst 2, 1) := by decide +kernel
theorem dX18_refusal_62 : decode cX18_refusal 62 = .ok (.iand, 1) := by decide +kernel
theorem dX18_refusal_63 : decode cX18_refusal 63 = .ok (.ifCond .ne 6, 3) := by decide +kernel
theorem dX18_refusal_66 : decode cX18_refusal 66 = .ok (.bipush 6, 2) := by decide +kernel
theorem dX18_refusal_68 : decode cX18_refusal 68 = .ok (.ireturn, 1) := by decide +kernel
theorem dX18_refusal_69 : decode cX18_refusal 69 = .ok (.aload 4, 2) := by decide +kernel
theorem dX18_refusal_71 : decode cX18_refusal 71 = .ok (.iload_n 3, 1) := by decide +kernel
theorem dX18_refusal_72 : decode cX18_refusal 72 = .ok (.iconst 0, 1) := by decide +kernel
theorem dX18_refusal_73 : decode cX18_refusal 73 = .ok (.invokevirtual 133, 3) := by decide +kernel
theorem dX18_refusal_76 : decode cX18_refusal 76 = .ok (.aload_n 0, 1) := by decide +kernel
theorem dX18_refusal_77 : decode cX18_refusal 77 = .ok (.getfield 556, 3) := by decide +kernel
theorem dX18_refusal_80 : decode cX18_refusal 80 = .ok (.iload_n 1, 1) := by decide +kernel
theorem dX18_refusal_81 : decode cX18_refusal 81 = .ok (.iaload, 1) := by decide +kernel
theorem dX18_refusal_82 : decode cX18_refusal 82 = .ok (.if_icmp .ne 7, 3) := by decide +kernel
theorem dX18_refusal_85 : decode cX18_refusal 85 = .ok (.iconst 1, 1) := by decide +kernel
theorem dX18_refusal_86 : decode cX18_refusal 86 = .ok (.goto 4, 3) := by decide +kernel
theorem dX18_refusal_89 : decode cX18_refusal 89 = .ok (.iconst 0, 1) := by decide +kernel
theorem dX18_refusal_90 : decode cX18_refusal 90 = .ok (.istore 5, 2) := by decide +kernel
theorem dX18_refusal_92 : decode cX18_refusal 92 = .ok (.iconst 0, 1) := by decide +kernel
theorem dX18_refusal_93 : decode cX18_refusal 93 = .ok (.istore 6, 2) := by decide +kernel
theorem dX18_refusal_95 : decode cX18_refusal 95 = .ok (.iload 6, 2) := by decide +kernel
theorem dX18_refusal_97 : decode cX18_refusal 97 = .ok (.aload_n 0, 1) := by decide +kernel
theorem dX18_refusal_98 : decode cX18_refusal 98 = .ok (.getfield 556, 3) := by decide +kernel
theorem dX18_refusal_101 : decode cX18_refusal 101 = .ok (.iload_n 1, 1) := by decide +kernel
theorem dX18_refusal_102 : decode cX18_refusal 102 = .ok (.iaload, 1) := by decide +kernel
theorem dX18_refusal_103 : decode cX18_refusal 103 = .ok (.if_icmp .ge 47, 3) := by decide +kernel
theorem dX18_refusal_106 : decode cX18_refusal 106 = .ok (.iload 5, 2) := by decide +kernel
theorem dX18_refusal_108 : decode cX18_refusal 108 = .ok (.ifCond .eq 42, 3) := by decide +kernel
theorem dX18_refusal_111 : decode cX18_refusal 111 = .ok (.aload 4, 2) := by decide +kernel
theorem dX18_refusal_113 : decode cX18_refusal 113 = .ok (.iload_n 3, 1) := by decide +kernel
theorem dX18_refusal_114 : decode cX18_refusal 114 = .ok (.iconst 0, 1) := by decide +kernel
theorem dX18_refusal_115 : decode cX18_refusal 115 = .ok (.iload 6, 2) := by decide +kernel
theorem dX18_refusal_117 : decode cX18_refusal 117 = .ok (.invokevirtual 140, 3) := by decide +kernel
theorem dX18_refusal_120 : decode cX18_refusal 120 = .ok (.aload_n 0, 1) := by decide +kernel
theorem dX18_refusal_121 : decode cX18_refusal 121 = .ok (.getfield 559, 3) := by decide +kernel
theorem dX18_refusal_124 : decode cX18_refusal 124 = .ok (.bipush 8, 2) := by decide +kernel
theorem dX18_refusal_126 : decode cX18_refusal 126 = .ok (.iload_n 1, 1) := by decide +kernel
theorem dX18_refusal_127 : decode cX18_refusal 127 = .ok (.imul, 1) := by decide +kernel
theorem dX18_refusal_128 : decode cX18_refusal 128 = .ok (.iload 6, 2) := by decide +kernel
theorem dX18_refusal_130 : decode cX18_refusal 130 = .ok (.iadd, 1) := by decide +kernel
theorem dX18_refusal_131 : decode cX18_refusal 131 = .ok (.baload, 1) := by decide +kernel
theorem dX18_refusal_132 : decode cX18_refusal 132 = .ok (.i2l, 1) := by decide +kernel
theorem dX18_refusal_133 : decode cX18_refusal 133 = .ok (.lcmp, 1) := by decide +kernel
theorem dX18_refusal_134 : decode cX18_refusal 134 = .ok (.ifCond .ne 7, 3) := by decide +kernel
theorem dX18_refusal_137 : decode cX18_refusal 137 = .ok (.iconst 1, 1) := by decide +kernel
theorem dX18_refusal_138 : decode cX18_refusal 138 = .ok (.goto 4, 3) := by decide +kernel
theorem dX18_refusal_141 : decode cX18_refusal 141 = .ok (.iconst 0, 1) := by decide +kernel
theorem dX18_refusal_142 : decode cX18_refusal 142 = .ok (.istore 5, 2) := by decide +kernel
theorem dX18_refusal_144 : decode cX18_refusal 144 = .ok (.iinc 6 1, 3) := by decide +kernel
theorem dX18_refusal_147 : decode cX18_refusal 147 = .ok (.goto (-52), 3) := by decide +kernel
theorem dX18_refusal_150 : decode cX18_refusal 150 = .ok (.iload 5, 2) := by decide +kernel
theorem dX18_refusal_152 : decode cX18_refusal 152 = .ok (.ifCond .ne 6, 3) := by decide +kernel
theorem dX18_refusal_155 : decode cX18_refusal 155 = .ok (.bipush 7, 2) := by decide +kernel
theorem dX18_refusal_157 : decode cX18_refusal 157 = .ok (.ireturn, 1) := by decide +kernel
theorem dX18_refusal_158 : decode cX18_refusal 158 = .ok (.iconst 0, 1) := by decide +kernel
theorem dX18_refusal_159 : decode cX18_refusal 159 = .ok (.istore 6, 2) := by decide +kernel
theorem dX18_refusal_161 : decode cX18_refusal 161 = .ok (.iload 6, 2) := by decide +kernel
theorem dX18_refusal_163 : decode cX18_refusal 163 = .ok (.aload 4, 2) := by decide +kernel
theorem dX18_refusal_165 : decode cX18_refusal 165 = .ok (.iload_n 3, 1) := by decide +kernel
theorem dX18_refusal_166 : decode cX18_refusal 166 = .ok (.iconst 1, 1) := by decide +kernel
theorem dX18_refusal_167 : decode cX18_refusal 167 = .ok (.invokevirtual 133, 3) := by decide +kernel
theorem dX18_refusal_170 : decode cX18_refusal 170 = .ok (.if_icmp .ge 28, 3) := by decide +kernel
theorem dX18_refusal_173 : decode cX18_refusal 173 = .ok (.aload 4, 2) := by decide +kernel
theorem dX18_refusal_175 : decode cX18_refusal 175 = .ok (.iload_n 3, 1) := by decide +kernel
theorem dX18_refusal_176 : decode cX18_refusal 176 = .ok (.iconst 1, 1) := by decide +kernel
theorem dX18_refusal_177 : decode cX18_refusal 177 = .ok (.iload 6, 2) := by decide +kernel
theorem dX18_refusal_179 : decode cX18_refusal 179 = .ok (.invokevirtual 140, 3) := by decide +kernel
theorem dX18_refusal_182 : decode cX18_refusal 182 = .ok (.ldc2_w 122, 3) := by decide +kernel
theorem dX18_refusal_185 : decode cX18_refusal 185 = .ok (.lcmp, 1) := by decide +kernel
theorem dX18_refusal_186 : decode cX18_refusal 186 = .ok (.ifCond .le 6, 3) := by decide +kernel
theorem dX18_refusal_189 : decode cX18_refusal 189 = .ok (.bipush 8, 2) := by decide +kernel
theorem dX18_refusal_191 : decode cX18_refusal 191 = .ok (.ireturn, 1) := by decide +kernel
theorem dX18_refusal_192 : decode cX18_refusal 192 = .ok (.iinc 6 1, 3) := by decide +kernel
theorem dX18_refusal_195 : decode cX18_refusal 195 = .ok (.goto (-34), 3) := by decide +kernel
theorem dX18_refusal_198 : decode cX18_refusal 198 = .ok (.iconst 0, 1) := by decide +kernel
theorem dX18_refusal_199 : decode cX18_refusal 199 = .ok (.ireturn, 1) := by decide +kernel
theorem dX18_publishOne_0 : decode cX18_publishOne 0 = .ok (.aload_n 0, 1) := by decide +kernel
theorem dX18_publishOne_1 : decode cX18_publishOne 1 = .ok (.getfield 572, 3) := by decide +kernel
theorem dX18_publishOne_4 : decode cX18_publishOne 4 = .ok (.iload_n 1, 1) := by decide +kernel
theorem dX18_publishOne_5 : decode cX18_publishOne 5 = .ok (.iaload, 1) := by decide +kernel
theorem dX18_publishOne_6 : decode cX18_publishOne 6 = .ok (.istore_n 2, 1) := by decide +kernel
theorem dX18_publishOne_7 : decode cX18_publishOne 7 = .ok (.bipush 10, 2) := by decide +kernel
theorem dX18_publishOne_9 : decode cX18_publishOne 9 = .ok (.iload_n 2, 1) := by decide +kernel
theorem dX18_publishOne_10 : decode cX18_publishOne 10 = .ok (.bipush 15, 2) := by decide +kernel
theorem dX18_publishOne_12 : decode cX18_publishOne 12 = .ok (.iadd, 1) := by decide +kernel
theorem dX18_publishOne_13 : decode cX18_publishOne 13 = .ok (.bipush 16, 2) := by decide +kernel
theorem dX18_publishOne_15 : decode cX18_publishOne 15 = .ok (.idiv, 1) := by decide +kernel
theorem dX18_publishOne_16 : decode cX18_publishOne 16 = .ok (.iadd, 1) := by decide +kernel
theorem dX18_publishOne_17 : decode cX18_publishOne 17 = .ok (.istore_n 3, 1) := by decide +kernel
theorem dX18_publishOne_18 : decode cX18_publishOne 18 = .ok (.aload_n 0, 1) := by decide +kernel
theorem dX18_publishOne_19 : decode cX18_publishOne 19 = .ok (.iload_n 3, 1) := by decide +kernel
theorem dX18_publishOne_20 : decode cX18_publishOne 20 = .ok (.invokevirtual 353, 3) := by decide +kernel
theorem dX18_publishOne_23 : decode cX18_publishOne 23 = .ok (.ifCond .ne 4, 3) := by decide +kernel
theorem dX18_publishOne_26 : decode cX18_publishOne 26 = .ok (.return_, 1) := by decide +kernel
theorem dX18_publishOne_27 : decode cX18_publishOne 27 = .ok (.aload_n 0, 1) := by decide +kernel
theorem dX18_publishOne_28 : decode cX18_publishOne 28 = .ok (.getfield 7, 3) := by decide +kernel
theorem dX18_publishOne_31 : decode cX18_publishOne 31 = .ok (.bipush 8, 2) := by decide +kernel
theorem dX18_publishOne_33 : decode cX18_publishOne 33 = .ok (.if_icmp .ne 12, 3) := by decide +kernel
theorem dX18_publishOne_36 : decode cX18_publishOne 36 = .ok (.aload_n 0, 1) := by decide +kernel
theorem dX18_publishOne_37 : decode cX18_publishOne 37 = .ok (.iconst 2, 1) := by decide +kernel
theorem dX18_publishOne_38 : decode cX18_publishOne 38 = .ok (.ldc2_w 283, 3) := by decide +kernel
theorem dX18_publishOne_41 : decode cX18_publishOne 41 = .ok (.invokevirtual 267, 3) := by decide +kernel
theorem dX18_publishOne_44 : decode cX18_publishOne 44 = .ok (.return_, 1) := by decide +kernel
theorem dX18_publishOne_45 : decode cX18_publishOne 45 = .ok (.aload_n 0, 1) := by decide +kernel
theorem dX18_publishOne_46 : decode cX18_publishOne 46 = .ok (.aload_n 0, 1) := by decide +kernel
theorem dX18_publishOne_47 : decode cX18_publishOne 47 = .ok (.getfield 569, 3) := by decide +kernel
theorem dX18_publishOne_50 : decode cX18_publishOne 50 = .ok (.sipush 2048, 3) := by decide +kernel
theorem dX18_publishOne_53 : decode cX18_publishOne 53 = .ok (.iload_n 1, 1) := by decide +kernel
theorem dX18_publishOne_54 : decode cX18_publishOne 54 = .ok (.imul, 1) := by decide +kernel
theorem dX18_publishOne_55 : decode cX18_publishOne 55 = .ok (.iload_n 2, 1) := by decide +kernel
theorem dX18_publishOne_56 : decode cX18_publishOne 56 = .ok (.aload_n 0, 1) := by decide +kernel
theorem dX18_publishOne_57 : decode cX18_publishOne 57 = .ok (.getfield 7, 3) := by decide +kernel
theorem dX18_publishOne_60 : decode cX18_publishOne 60 = .ok (.iconst 1, 1) := by decide +kernel
theorem dX18_publishOne_61 : decode cX18_publishOne 61 = .ok (.iadd, 1) := by decide +kernel
theorem dX18_publishOne_62 : decode cX18_publishOne 62 = .ok (.invokevirtual 655, 3) := by decide +kernel
theorem dX18_publishOne_65 : decode cX18_publishOne 65 = .ok (.istore 4, 2) := by decide +kernel
theorem dX18_publishOne_67 : decode cX18_publishOne 67 = .ok (.iload 4, 2) := by decide +kernel
theorem dX18_publishOne_69 : decode cX18_publishOne 69 = .ok (.ifCond .eq 24, 3) := by decide +kernel
theorem dX18_publishOne_72 : decode cX18_publishOne 72 = .ok (.aload_n 0, 1) := by decide +kernel
theorem dX18_publishOne_73 : decode cX18_publishOne 73 = .ok (.getfield 581, 3) := by decide +kernel
theorem dX18_publishOne_76 : decode cX18_publishOne 76 = .ok (.iload_n 1, 1) := by decide +kernel
theorem dX18_publishOne_77 : decode cX18_publishOne 77 = .ok (.aload_n 0, 1) := by decide +kernel
theorem dX18_publishOne_78 : decode cX18_publishOne 78 = .ok (.getfield 215, 3) := by decide +kernel
theorem dX18_publishOne_81 : decode cX18_publishOne 81 = .ok (.iastore, 1) := by decide +kernel
theorem dX18_publishOne_82 : decode cX18_publishOne 82 = .ok (.aload_n 0, 1) := by decide +kernel
theorem dX18_publishOne_83 : decode cX18_publishOne 83 = .ok (.iconst 4, 1) := by decide +kernel
theorem dX18_publishOne_84 : decode cX18_publishOne 84 = .ok (.iload 4, 2) := by decide +kernel
theorem dX18_publishOne_86 : decode cX18_publishOne 86 = .ok (.i2l, 1) := by decide +kernel
theorem dX18_publishOne_87 : decode cX18_publishOne 87 = .ok (.invokevirtual 267, 3) := by decide +kernel
theorem dX18_publishOne_90 : decode cX18_publishOne 90 = .ok (.goto 40, 3) := by decide +kernel
theorem dX18_publishOne_93 : decode cX18_publishOne 93 = .ok (.aload_n 0, 1) := by decide +kernel
theorem dX18_publishOne_94 : decode cX18_publishOne 94 = .ok (.invokevirtual 620, 3) := by decide +kernel
theorem dX18_publishOne_97 : decode cX18_publishOne 97 = .ok (.sipush 256, 3) := by decide +kernel
theorem dX18_publishOne_100 : decode cX18_publishOne 100 = .ok (.if_icmp .ne 14, 3) := by decide +kernel
theorem dX18_publishOne_103 : decode cX18_publishOne 103 = .ok (.aload_n 0, 1) := by decide +kernel
theorem dX18_publishOne_104 : decode cX18_publishOne 104 = .ok (.iconst 2, 1) := by decide +kernel
theorem dX18_publishOne_105 : decode cX18_publishOne 105 = .ok (.ldc2_w 283, 3) := by decide +kernel
theorem dX18_publishOne_108 : decode cX18_publishOne 108 = .ok (.invokevirtual 267, 3) := by decide +kernel
theorem dX18_publishOne_111 : decode cX18_publishOne 111 = .ok (.goto 19, 3) := by decide +kernel
theorem dX18_publishOne_114 : decode cX18_publishOne 114 = .ok (.aload_n 0, 1) := by decide +kernel
theorem dX18_publishOne_115 : decode cX18_publishOne 115 = .ok (.dup, 1) := by decide +kernel
theorem dX18_publishOne_116 : decode cX18_publishOne 116 = .ok (.getfield 7, 3) := by decide +kernel
theorem dX18_publishOne_119 : decode cX18_publishOne 119 = .ok (.iconst 1, 1) := by decide +kernel
theorem dX18_publishOne_120 : decode cX18_publishOne 120 = .ok (.iadd, 1) := by decide +kernel
theorem dX18_publishOne_121 : decode cX18_publishOne 121 = .ok (.putfield 7, 3) := by decide +kernel
theorem dX18_publishOne_124 : decode cX18_publishOne 124 = .ok (.aload_n 0, 1) := by decide +kernel
theorem dX18_publishOne_125 : decode cX18_publishOne 125 = .ok (.iconst 0, 1) := by decide +kernel
theorem dX18_publishOne_126 : decode cX18_publishOne 126 = .ok (.lconst 0, 1) := by decide +kernel
theorem dX18_publishOne_127 : decode cX18_publishOne 127 = .ok (.invokevirtual 267, 3) := by decide +kernel
theorem dX18_publishOne_130 : decode cX18_publishOne 130 = .ok (.return_, 1) := by decide +kernel
theorem dX18_callOne_0 : decode cX18_callOne 0 = .ok (.aload_n 0, 1) := by decide +kernel
theorem dX18_callOne_1 : decode cX18_callOne 1 = .ok (.getfield 40, 3) := by decide +kernel
theorem dX18_callOne_4 : decode cX18_callOne 4 = .ok (.iconst 0, 1) := by decide +kernel
theorem dX18_callOne_5 : decode cX18_callOne 5 = .ok (.putfield 659, 3) := by decide +kernel
theorem dX18_callOne_8 : decode cX18_callOne 8 = .ok (.aload_n 0, 1) := by decide +kernel
theorem dX18_callOne_9 : decode cX18_callOne 9 = .ok (.iconst 0, 1) := by decide +kernel
theorem dX18_callOne_10 : decode cX18_callOne 10 = .ok (.putfield 271, 3) := by decide +kernel
theorem dX18_callOne_13 : decode cX18_callOne 13 = .ok (.aload_n 0, 1) := by decide +kernel
theorem dX18_callOne_14 : decode cX18_callOne 14 = .ok (.iconst 1, 1) := by decide +kernel
theorem dX18_callOne_15 : decode cX18_callOne 15 = .ok (.aload_n 0, 1) := by decide +kernel
theorem dX18_callOne_16 : decode cX18_callOne 16 = .ok (.getfield 411, 3) := by decide +kernel
theorem dX18_callOne_19 : decode cX18_callOne 19 = .ok (.iconst 0, 1) := by decide +kernel
theorem dX18_callOne_20 : decode cX18_callOne 20 = .ok (.invokevirtual 414, 3) := by decide +kernel
theorem dX18_callOne_23 : decode cX18_callOne 23 = .ok (.pop, 1) := by decide +kernel
theorem dX18_callOne_24 : decode cX18_callOne 24 = .ok (.aload_n 0, 1) := by decide +kernel
theorem dX18_callOne_25 : decode cX18_callOne 25 = .ok (.getfield 300, 3) := by decide +kernel
theorem dX18_callOne_28 : decode cX18_callOne 28 = .ok (.iconst 0, 1) := by decide +kernel
theorem dX18_callOne_29 : decode cX18_callOne 29 = .ok (.dup2, 1) := by decide +kernel
theorem dX18_callOne_30 : decode cX18_callOne 30 = .ok (.laload, 1) := by decide +kernel
theorem dX18_callOne_31 : decode cX18_callOne 31 = .ok (.aload_n 0, 1) := by decide +kernel
theorem dX18_callOne_32 : decode cX18_callOne 32 = .ok (.getfield 264, 3) := by decide +kernel
theorem dX18_callOne_35 : decode cX18_callOne 35 = .ok (.i2l, 1) := by decide +kernel
theorem dX18_callOne_36 : decode cX18_callOne 36 = .ok (.lsub, 1) := by decide +kernel
theorem dX18_callOne_37 : decode cX18_callOne 37 = .ok (.lastore, 1) := by decide +kernel
theorem dX18_callOne_38 : decode cX18_callOne 38 = .ok (.aload_n 0, 1) := by decide +kernel
theorem dX18_callOne_39 : decode cX18_callOne 39 = .ok (.iconst 2, 1) := by decide +kernel
theorem dX18_callOne_40 : decode cX18_callOne 40 = .ok (.aload_n 0, 1) := by decide +kernel
theorem dX18_callOne_41 : decode cX18_callOne 41 = .ok (.getfield 550, 3) := by decide +kernel
theorem dX18_callOne_44 : decode cX18_callOne 44 = .ok (.iload_n 1, 1) := by decide +kernel
theorem dX18_callOne_45 : decode cX18_callOne 45 = .ok (.iaload, 1) := by decide +kernel
theorem dX18_callOne_46 : decode cX18_callOne 46 = .ok (.i2l, 1) := by decide +kernel
theorem dX18_callOne_47 : decode cX18_callOne 47 = .ok (.iconst 0, 1) := by decide +kernel
theorem dX18_callOne_48 : decode cX18_callOne 48 = .ok (.invokevirtual 414, 3) := by decide +kernel
theorem dX18_callOne_51 : decode cX18_callOne 51 = .ok (.pop, 1) := by decide +kernel
theorem dX18_callOne_52 : decode cX18_callOne 52 = .ok (.aload_n 0, 1) := by decide +kernel
theorem dX18_callOne_53 : decode cX18_callOne 53 = .ok (.iconst 0, 1) := by decide +kernel
theorem dX18_callOne_54 : decode cX18_callOne 54 = .ok (.putfield 328, 3) := by decide +kernel
theorem dX18_callOne_57 : decode cX18_callOne 57 = .ok (.aload_n 0, 1) := by decide +kernel
theorem dX18_callOne_58 : decode cX18_callOne 58 = .ok (.iconst 0, 1) := by decide +kernel
theorem dX18_callOne_59 : decode cX18_callOne 59 = .ok (.putfield 312, 3) := by decide +kernel
theorem dX18_callOne_62 : decode cX18_callOne 62 = .ok (.iconst 0, 1) := by decide +kernel
theorem dX18_callOne_63 : decode cX18_callOne 63 = .ok (.istore 4, 2) := by decide +kernel
theorem dX18_callOne_65 : decode cX18_callOne 65 = .ok (.iload 4, 2) := by decide +kernel
theorem dX18_callOne_67 : decode cX18_callOne 67 = .ok (.aload_n 0, 1) := by decide +kernel
theorem dX18_callOne_68 : decode cX18_callOne 68 = .ok (.getfield 556, 3) := by decide +kernel
theorem dX18_callOne_71 : decode cX18_callOne 71 = .ok (.iload_n 1, 1) := by decide +kernel
theorem dX18_callOne_72 : decode cX18_callOne 72 = .ok (.iaload, 1) := by decide +kernel
theorem dX18_callOne_73 : decode cX18_callOne 73 = .ok (.if_icmp .ge 51, 3) := by decide +kernel
theorem dX18_callOne_76 : decode cX18_callOne 76 = .ok (.bipush 8, 2) := by decide +kernel
theorem dX18_callOne_78 : decode cX18_callOne 78 = .ok (.iload_n 1, 1) := by decide +kernel
theorem dX18_callOne_79 : decode cX18_callOne 79 = .ok (.imul, 1) := by decide +kernel
theorem dX18_callOne_80 : decode cX18_callOne 80 = .ok (.iload 4, 2) := by decide +kernel
theorem dX18_callOne_82 : decode cX18_callOne 82 = .ok (.iadd, 1) := by decide +kernel
theorem dX18_callOne_83 : decode cX18_callOne 83 = .ok (.istore 5, 2) := by decide +kernel
theorem dX18_callOne_85 : decode cX18_callOne 85 = .ok (.aload_n 0, 1) := by decide +kernel
theorem dX18_callOne_86 : decode cX18_callOne 86 = .ok (.aload_n 0, 1) := by decide +kernel
theorem dX18_callOne_87 : decode cX18_callOne 87 = .ok (.getfield 40, 3) := by decide +kernel
theorem dX18_callOne_90 : decode cX18_callOne 90 = .ok (.aload_n 0, 1) := by decide +kernel
theorem dX18_callOne_91 : decode cX18_callOne 91 = .ok (.getfield 559, 3) := by decide +kernel
theorem dX18_callOne_94 : decode cX18_callOne 94 = .ok (.iload 5, 2) := by decide +kernel
theorem dX18_callOne_96 : decode cX18_callOne 96 = .ok (.baload, 1) := by decide +kernel
theorem dX18_callOne_97 : decode cX18_callOne 97 = .ok (.aload_n 0, 1) := by decide +kernel
theorem dX18_callOne_98 : decode cX18_callOne 98 = .ok (.getfield 562, 3) := by decide +kernel
theorem dX18_callOne_101 : decode cX18_callOne 101 = .ok (.iload 5, 2) := by decide +kernel
theorem dX18_callOne_103 : decode cX18_callOne 103 = .ok (.laload, 1) := by decide +kernel
theorem dX18_callOne_104 : decode cX18_callOne 104 = .ok (.aload_n 0, 1) := by decide +kernel
theorem dX18_callOne_105 : decode cX18_callOne 105 = .ok (.getfield 565, 3) := by decide +kernel
theorem dX18_callOne_108 : decode cX18_callOne 108 = .ok (.iload 5, 2) := by decide +kernel
theorem dX18_callOne_110 : decode cX18_callOne 110 = .ok (.laload, 1) := by decide +kernel
theorem dX18_callOne_111 : decode cX18_callOne 111 = .ok (.invokevirtual 54, 3) := by decide +kernel
theorem dX18_callOne_114 : decode cX18_callOne 114 = .ok (.iconst 0, 1) := by decide +kernel
theorem dX18_callOne_115 : decode cX18_callOne 115 = .ok (.invokevirtual 318, 3) := by decide +kernel
theorem dX18_callOne_118 : decode cX18_callOne 118 = .ok (.iinc 4 1, 3) := by decide +kernel
theorem dX18_callOne_121 : decode cX18_callOne 121 = .ok (.goto (-56), 3) := by decide +kernel
theorem dX18_callOne_124 : decode cX18_callOne 124 = .ok (.aload_n 0, 1) := by decide +kernel
theorem dX18_callOne_125 : decode cX18_callOne 125 = .ok (.iload_n 2, 1) := by decide +kernel
theorem dX18_callOne_126 : decode cX18_callOne 126 = .ok (.aload_n 0, 1) := by decide +kernel
theorem dX18_callOne_127 : decode cX18_callOne 127 = .ok (.getfield 553, 3) := by decide +kernel
theorem dX18_callOne_130 : decode cX18_callOne 130 = .ok (.iload_n 1, 1) := by decide +kernel
theorem dX18_callOne_131 : decode cX18_callOne 131 = .ok (.iaload, 1) := by decide +kernel
theorem dX18_callOne_132 : decode cX18_callOne 132 = .ok (.aload_n 0, 1) := by decide +kernel
theorem dX18_callOne_133 : decode cX18_callOne 133 = .ok (.getfield 556, 3) := by decide +kernel
theorem dX18_callOne_136 : decode cX18_callOne 136 = .ok (.iload_n 1, 1) := by decide +kernel
theorem dX18_callOne_137 : decode cX18_callOne 137 = .ok (.iaload, 1) := by decide +kernel
theorem dX18_callOne_138 : decode cX18_callOne 138 = .ok (.invokevirtual 451, 3) := by decide +kernel
theorem dX18_callOne_141 : decode cX18_callOne 141 = .ok (.aload_n 0, 1) := by decide +kernel
theorem dX18_callOne_142 : decode cX18_callOne 142 = .ok (.invokevirtual 257, 3) := by decide +kernel
theorem dX18_callOne_145 : decode cX18_callOne 145 = .ok (.ifCond .eq 10, 3) := by decide +kernel
theorem dX18_callOne_148 : decode cX18_callOne 148 = .ok (.aload_n 0, 1) := by decide +kernel
theorem dX18_callOne_149 : decode cX18_callOne 149 = .ok (.invokevirtual 662, 3) := by decide +kernel
theorem dX18_callOne_152 : decode cX18_callOne 152 = .ok (.goto (-11), 3) := by decide +kernel
theorem dX18_callOne_155 : decode cX18_callOne 155 = .ok (.aload_n 0, 1) := by decide +kernel
theorem dX18_callOne_156 : decode cX18_callOne 156 = .ok (.getfield 250, 3) := by decide +kernel
theorem dX18_callOne_159 : decode cX18_callOne 159 = .ok (.ifCond .ne 22, 3) := by decide +kernel
theorem dX18_callOne_162 : decode cX18_callOne 162 = .ok (.aload_n 0, 1) := by decide +kernel
theorem dX18_callOne_163 : decode cX18_callOne 163 = .ok (.invokevirtual 665, 3) := by decide +kernel
theorem dX18_callOne_166 : decode cX18_callOne 166 = .ok (.ifCond .eq 15, 3) := by decide +kernel
theorem dX18_callOne_169 : decode cX18_callOne 169 = .ok (.aload_n 0, 1) := by decide +kernel
theorem dX18_callOne_170 : decode cX18_callOne 170 = .ok (.iconst 2, 1) := by decide +kernel
theorem dX18_callOne_171 : decode cX18_callOne 171 = .ok (.putfield 250, 3) := by decide +kernel
theorem dX18_callOne_174 : decode cX18_callOne 174 = .ok (.aload_n 0, 1) := by decide +kernel
theorem dX18_callOne_175 : decode cX18_callOne 175 = .ok (.ldc2_w 283, 3) := by decide +kernel
theorem dX18_callOne_178 : decode cX18_callOne 178 = .ok (.putfield 253, 3) := by decide +kernel
theorem dX18_callOne_181 : decode cX18_callOne 181 = .ok (.aload_n 0, 1) := by decide +kernel
theorem dX18_callOne_182 : decode cX18_callOne 182 = .ok (.getfield 250, 3) := by decide +kernel
theorem dX18_callOne_185 : decode cX18_callOne 185 = .ok (.ifCond .eq 4, 3) := by decide +kernel
theorem dX18_callOne_188 : decode cX18_callOne 188 = .ok (.return_, 1) := by decide +kernel
theorem dX18_callOne_189 : decode cX18_callOne 189 = .ok (.iconst 0, 1) := by decide +kernel
theorem dX18_callOne_190 : decode cX18_callOne 190 = .ok (.istore 4, 2) := by decide +kernel
theorem dX18_callOne_192 : decode cX18_callOne 192 = .ok (.iload 4, 2) := by decide +kernel
theorem dX18_callOne_194 : decode cX18_callOne 194 = .ok (.aload_n 0, 1) := by decide +kernel
theorem dX18_callOne_195 : decode cX18_callOne 195 = .ok (.getfield 312, 3) := by decide +kernel
theorem dX18_callOne_198 : decode cX18_callOne 198 = .ok (.if_icmp .ge 84, 3) := by decide +kernel
theorem dX18_callOne_201 : decode cX18_callOne 201 = .ok (.bipush 8, 2) := by decide +kernel
theorem dX18_callOne_203 : decode cX18_callOne 203 = .ok (.iload_n 1, 1) := by decide +kernel
theorem dX18_callOne_204 : decode cX18_callOne 204 = .ok (.imul, 1) := by decide +kernel
theorem dX18_callOne_205 : decode cX18_callOne 205 = .ok (.iload 4, 2) := by decide +kernel
theorem dX18_callOne_207 : decode cX18_callOne 207 = .ok (.iadd, 1) := by decide +kernel
theorem dX18_callOne_208 : decode cX18_callOne 208 = .ok (.istore 5, 2) := by decide +kernel
theorem dX18_callOne_210 : decode cX18_callOne 210 = .ok (.aload_n 0, 1) := by decide +kernel
theorem dX18_callOne_211 : decode cX18_callOne 211 = .ok (.getfield 590, 3) := by decide +kernel
theorem dX18_callOne_214 : decode cX18_callOne 214 = .ok (.iload 5, 2) := by decide +kernel
theorem dX18_callOne_216 : decode cX18_callOne 216 = .ok (.aload_n 0, 1) := by decide +kernel
theorem dX18_callOne_217 : decode cX18_callOne 217 = .ok (.getfield 40, 3) := by decide +kernel
theorem dX18_callOne_220 : decode cX18_callOne 220 = .ok (.getfield 71, 3) := by decide +kernel
theorem dX18_callOne_223 : decode cX18_callOne 223 = .ok (.aload_n 0, 1) := by decide +kernel
theorem dX18_callOne_224 : decode cX18_callOne 224 = .ok (.getfield 309, 3) := by decide +kernel
theorem dX18_callOne_227 : decode cX18_callOne 227 = .ok (.iload 4, 2) := by decide +kernel
theorem dX18_callOne_229 : decode cX18_callOne 229 = .ok (.iaload, 1) := by decide +kernel
theorem dX18_callOne_230 : decode cX18_callOne 230 = .ok (.baload, 1) := by decide +kernel
theorem dX18_callOne_231 : decode cX18_callOne 231 = .ok (.bastore, 1) := by decide +kernel
theorem dX18_callOne_232 : decode cX18_callOne 232 = .ok (.aload_n 0, 1) := by decide +kernel
theorem dX18_callOne_233 : decode cX18_callOne 233 = .ok (.getfield 593, 3) := by decide +kernel
theorem dX18_callOne_236 : decode cX18_callOne 236 = .ok (.iload 5, 2) := by decide +kernel
theorem dX18_callOne_238 : decode cX18_callOne 238 = .ok (.aload_n 0, 1) := by decide +kernel
theorem dX18_callOne_239 : decode cX18_callOne 239 = .ok (.getfield 40, 3) := by decide +kernel
theorem dX18_callOne_242 : decode cX18_callOne 242 = .ok (.getfield 74, 3) := by decide +kernel
theorem dX18_callOne_245 : decode cX18_callOne 245 = .ok (.aload_n 0, 1) := by decide +kernel
theorem dX18_callOne_246 : decode cX18_callOne 246 = .ok (.getfield 309, 3) := by decide +kernel
theorem dX18_callOne_249 : decode cX18_callOne 249 = .ok (.iload 4, 2) := by decide +kernel
theorem dX18_callOne_251 : decode cX18_callOne 251 = .ok (.iaload, 1) := by decide +kernel
theorem dX18_callOne_252 : decode cX18_callOne 252 = .ok (.laload, 1) := by decide +kernel
theorem dX18_callOne_253 : decode cX18_callOne 253 = .ok (.lastore, 1) := by decide +kernel
theorem dX18_callOne_254 : decode cX18_callOne 254 = .ok (.aload_n 0, 1) := by decide +kernel
theorem dX18_callOne_255 : decode cX18_callOne 255 = .ok (.getfield 596, 3) := by decide +kernel
theorem dX18_callOne_258 : decode cX18_callOne 258 = .ok (.iload 5, 2) := by decide +kernel
theorem dX18_callOne_260 : decode cX18_callOne 260 = .ok (.aload_n 0, 1) := by decide +kernel
theorem dX18_callOne_261 : decode cX18_callOne 261 = .ok (.getfield 40, 3) := by decide +kernel
theorem dX18_callOne_264 : decode cX18_callOne 264 = .ok (.getfield 77, 3) := by decide +kernel
theorem dX18_callOne_267 : decode cX18_callOne 267 = .ok (.aload_n 0, 1) := by decide +kernel
theorem dX18_callOne_268 : decode cX18_callOne 268 = .ok (.getfield 309, 3) := by decide +kernel
theorem dX18_callOne_271 : decode cX18_callOne 271 = .ok (.iload 4, 2) := by decide +kernel
theorem dX18_callOne_273 : decode cX18_callOne 273 = .ok (.iaload, 1) := by decide +kernel
theorem dX18_callOne_274 : decode cX18_callOne 274 = .ok (.laload, 1) := by decide +kernel
theorem dX18_callOne_275 : decode cX18_callOne 275 = .ok (.lastore, 1) := by decide +kernel
theorem dX18_callOne_276 : decode cX18_callOne 276 = .ok (.iinc 4 1, 3) := by decide +kernel
theorem dX18_callOne_279 : decode cX18_callOne 279 = .ok (.goto (-87), 3) := by decide +kernel
theorem dX18_callOne_282 : decode cX18_callOne 282 = .ok (.aload_n 0, 1) := by decide +kernel
theorem dX18_callOne_283 : decode cX18_callOne 283 = .ok (.getfield 587, 3) := by decide +kernel
theorem dX18_callOne_286 : decode cX18_callOne 286 = .ok (.iload_n 1, 1) := by decide +kernel
theorem dX18_callOne_287 : decode cX18_callOne 287 = .ok (.aload_n 0, 1) := by decide +kernel
theorem dX18_callOne_288 : decode cX18_callOne 288 = .ok (.getfield 312, 3) := by decide +kernel
theorem dX18_callOne_291 : decode cX18_callOne 291 = .ok (.iastore, 1) := by decide +kernel
theorem dX18_callOne_292 : decode cX18_callOne 292 = .ok (.aload_n 0, 1) := by decide +kernel
theorem dX18_callOne_293 : decode cX18_callOne 293 = .ok (.invokevirtual 668, 3) := by decide +kernel
theorem dX18_callOne_296 : decode cX18_callOne 296 = .ok (.return_, 1) := by decide +kernel
theorem dX18_isTooMuch_0 : decode cX18_isTooMuch 0 = .ok (.iconst 0, 1) := by decide +kernel
theorem dX18_isTooMuch_1 : decode cX18_isTooMuch 1 = .ok (.istore_n 1, 1) := by decide +kernel
theorem dX18_isTooMuch_2 : decode cX18_isTooMuch 2 = .ok (.iconst 0, 1) := by decide +kernel
theorem dX18_isTooMuch_3 : decode cX18_isTooMuch 3 = .ok (.istore_n 2, 1) := by decide +kernel
theorem dX18_isTooMuch_4 : decode cX18_isTooMuch 4 = .ok (.iconst 0, 1) := by decide +kernel
theorem dX18_isTooMuch_5 : decode cX18_isTooMuch 5 = .ok (.istore_n 3, 1) := by decide +kernel
theorem dX18_isTooMuch_6 : decode cX18_isTooMuch 6 = .ok (.iload_n 3, 1) := by decide +kernel
theorem dX18_isTooMuch_7 : decode cX18_isTooMuch 7 = .ok (.aload_n 0, 1) := by decide +kernel
theorem dX18_isTooMuch_8 : decode cX18_isTooMuch 8 = .ok (.getfield 271, 3) := by decide +kernel
theorem dX18_isTooMuch_11 : decode cX18_isTooMuch 11 = .ok (.if_icmp .ge 164, 3) := by decide +kernel
theorem dX18_isTooMuch_14 : decode cX18_isTooMuch 14 = .ok (.aload_n 0, 1) := by decide +kernel
theorem dX18_isTooMuch_15 : decode cX18_isTooMuch 15 = .ok (.getfield 274, 3) := by decide +kernel
theorem dX18_isTooMuch_18 : decode cX18_isTooMuch 18 = .ok (.iload_n 3, 1) := by decide +kernel
theorem dX18_isTooMuch_19 : decode cX18_isTooMuch 19 = .ok (.iaload, 1) := by decide +kernel
theorem dX18_isTooMuch_20 : decode cX18_isTooMuch 20 = .ok (.iconst 1, 1) := by decide +kernel
theorem dX18_isTooMuch_21 : decode cX18_isTooMuch 21 = .ok (.if_icmp .ne 24, 3) := by decide +kernel
theorem dX18_isTooMuch_24 : decode cX18_isTooMuch 24 = .ok (.aload_n 0, 1) := by decide +kernel
theorem dX18_isTooMuch_25 : decode cX18_isTooMuch 25 = .ok (.aload_n 0, 1) := by decide +kernel
theorem dX18_isTooMuch_26 : decode cX18_isTooMuch 26 = .ok (.getfield 277, 3) := by decide +kernel
theorem dX18_isTooMuch_29 : decode cX18_isTooMuch 29 = .ok (.iload_n 3, 1) := by decide +kernel
theorem dX18_isTooMuch_30 : decode cX18_isTooMuch 30 = .ok (.laload, 1) := by decide +kernel
theorem dX18_isTooMuch_31 : decode cX18_isTooMuch 31 = .ok (.invokevirtual 288, 3) := by decide +kernel
theorem dX18_isTooMuch_34 : decode cX18_isTooMuch 34 = .ok (.ifCond .lt 7, 3) := by decide +kernel
theorem dX18_isTooMuch_37 : decode cX18_isTooMuch 37 = .ok (.iconst 1, 1) := by decide +kernel
theorem dX18_isTooMuch_38 : decode cX18_isTooMuch 38 = .ok (.goto 41, 3) := by decide +kernel
theorem dX18_isTooMuch_41 : decode cX18_isTooMuch 41 = .ok (.iconst 0, 1) := by decide +kernel
theorem dX18_isTooMuch_42 : decode cX18_isTooMuch 42 = .ok (.goto 37, 3) := by decide +kernel
theorem dX18_isTooMuch_45 : decode cX18_isTooMuch 45 = .ok (.aload_n 0, 1) := by decide +kernel
theorem dX18_isTooMuch_46 : decode cX18_isTooMuch 46 = .ok (.getfield 274, 3) := by decide +kernel
theorem dX18_isTooMuch_49 : decode cX18_isTooMuch 49 = .ok (.iload_n 3, 1) := by decide +kernel
theorem dX18_isTooMuch_50 : decode cX18_isTooMuch 50 = .ok (.iaload, 1) := by decide +kernel
theorem dX18_isTooMuch_51 : decode cX18_isTooMuch 51 = .ok (.iconst 3, 1) := by decide +kernel
theorem dX18_isTooMuch_52 : decode cX18_isTooMuch 52 = .ok (.if_icmp .ne 26, 3) := by decide +kernel
theorem dX18_isTooMuch_55 : decode cX18_isTooMuch 55 = .ok (.aload_n 0, 1) := by decide +kernel
theorem dX18_isTooMuch_56 : decode cX18_isTooMuch 56 = .ok (.aload_n 0, 1) := by decide +kernel
theorem dX18_isTooMuch_57 : decode cX18_isTooMuch 57 = .ok (.getfield 277, 3) := by decide +kernel
theorem dX18_isTooMuch_60 : decode cX18_isTooMuch 60 = .ok (.iload_n 3, 1) := by decide +kernel
theorem dX18_isTooMuch_61 : decode cX18_isTooMuch 61 = .ok (.laload, 1) := by decide +kernel
theorem dX18_isTooMuch_62 : decode cX18_isTooMuch 62 = .ok (.aload_n 0, 1) := by decide +kernel
theorem dX18_isTooMuch_63 : decode cX18_isTooMuch 63 = .ok (.getfield 280, 3) := by decide +kernel
theorem dX18_isTooMuch_66 : decode cX18_isTooMuch 66 = .ok (.iload_n 3, 1) := by decide +kernel
theorem dX18_isTooMuch_67 : decode cX18_isTooMuch 67 = .ok (.iaload, 1) := by decide +kernel
theorem dX18_isTooMuch_68 : decode cX18_isTooMuch 68 = .ok (.invokevirtual 292, 3) := by decide +kernel
theorem dX18_isTooMuch_71 : decode cX18_isTooMuch 71 = .ok (.ifCond .lt 7, 3) := by decide +kernel
theorem dX18_isTooMuch_74 : decode cX18_isTooMuch 74 = .ok (.iconst 1, 1) := by decide +kernel
theorem dX18_isTooMuch_75 : decode cX18_isTooMuch 75 = .ok (.goto 4, 3) := by decide +kernel
theorem dX18_isTooMuch_78 : decode cX18_isTooMuch 78 = .ok (.iconst 0, 1) := by decide +kernel
theorem dX18_isTooMuch_79 : decode cX18_isTooMuch 79 = .ok (.istore 4, 2) := by decide +kernel
theorem dX18_isTooMuch_81 : decode cX18_isTooMuch 81 = .ok (.aload_n 0, 1) := by decide +kernel
theorem dX18_isTooMuch_82 : decode cX18_isTooMuch 82 = .ok (.getfield 274, 3) := by decide +kernel
theorem dX18_isTooMuch_85 : decode cX18_isTooMuch 85 = .ok (.iload_n 3, 1) := by decide +kernel
theorem dX18_isTooMuch_86 : decode cX18_isTooMuch 86 = .ok (.iaload, 1) := by decide +kernel
theorem dX18_isTooMuch_87 : decode cX18_isTooMuch 87 = .ok (.iconst 2, 1) := by decide +kernel
theorem dX18_isTooMuch_88 : decode cX18_isTooMuch 88 = .ok (.if_icmp .ne 6, 3) := by decide +kernel
theorem dX18_isTooMuch_91 : decode cX18_isTooMuch 91 = .ok (.goto 78, 3) := by decide +kernel
theorem dX18_isTooMuch_94 : decode cX18_isTooMuch 94 = .ok (.iload_n 1, 1) := by decide +kernel
theorem dX18_isTooMuch_95 : decode cX18_isTooMuch 95 = .ok (.aload_n 0, 1) := by decide +kernel
theorem dX18_isTooMuch_96 : decode cX18_isTooMuch 96 = .ok (.getfield 296, 3) := by decide +kernel
theorem dX18_isTooMuch_99 : decode cX18_isTooMuch 99 = .ok (.iload_n 3, 1) := by decide +kernel
theorem dX18_isTooMuch_100 : decode cX18_isTooMuch 100 = .ok (.baload, 1) := by decide +kernel
theorem dX18_isTooMuch_101 : decode cX18_isTooMuch 101 = .ok (.ifCond .eq 7, 3) := by decide +kernel
theorem dX18_isTooMuch_104 : decode cX18_isTooMuch 104 = .ok (.iconst 1, 1) := by decide +kernel
theorem dX18_isTooMuch_105 : decode cX18_isTooMuch 105 = .ok (.goto 4, 3) := by decide +kernel
theorem dX18_isTooMuch_108 : decode cX18_isTooMuch 108 = .ok (.iconst 0, 1) := by decide +kernel
theorem dX18_isTooMuch_109 : decode cX18_isTooMuch 109 = .ok (.iload 4, 2) := by decide +kernel
theorem dX18_isTooMuch_111 : decode cX18_isTooMuch 111 = .ok (.ifCond .eq 7, 3) := by decide +kernel
theorem dX18_isTooMuch_114 : decode cX18_isTooMuch 114 = .ok (.iconst 1, 1) := by decide +kernel
theorem dX18_isTooMuch_115 : decode cX18_isTooMuch 115 = .ok (.goto 4, 3) := by decide +kernel
theorem dX18_isTooMuch_118 : decode cX18_isTooMuch 118 = .ok (.iconst 0, 1) := by decide +kernel
theorem dX18_isTooMuch_119 : decode cX18_isTooMuch 119 = .ok (.isub, 1) := by decide +kernel
theorem dX18_isTooMuch_120 : decode cX18_isTooMuch 120 = .ok (.iadd, 1) := by decide +kernel
theorem dX18_isTooMuch_121 : decode cX18_isTooMuch 121 = .ok (.istore_n 1, 1) := by decide +kernel
theorem dX18_isTooMuch_122 : decode cX18_isTooMuch 122 = .ok (.iload_n 2, 1) := by decide +kernel
theorem dX18_isTooMuch_123 : decode cX18_isTooMuch 123 = .ok (.ifCond .ne 40, 3) := by decide +kernel
theorem dX18_isTooMuch_126 : decode cX18_isTooMuch 126 = .ok (.aload_n 0, 1) := by decide +kernel
theorem dX18_isTooMuch_127 : decode cX18_isTooMuch 127 = .ok (.getfield 274, 3) := by decide +kernel
theorem dX18_isTooMuch_130 : decode cX18_isTooMuch 130 = .ok (.iload_n 3, 1) := by decide +kernel
theorem dX18_isTooMuch_131 : decode cX18_isTooMuch 131 = .ok (.iaload, 1) := by decide +kernel
theorem dX18_isTooMuch_132 : decode cX18_isTooMuch 132 = .ok (.iconst 3, 1) := by decide +kernel
theorem dX18_isTooMuch_133 : decode cX18_isTooMuch 133 = .ok (.if_icmp .ne 34, 3) := by decide +kernel
theorem dX18_isTooMuch_136 : decode cX18_isTooMuch 136 = .ok (.aload_n 0, 1) := by decide +kernel
theorem dX18_isTooMuch_137 : decode cX18_isTooMuch 137 = .ok (.getfield 296, 3) := by decide +kernel
theorem dX18_isTooMuch_140 : decode cX18_isTooMuch 140 = .ok (.iload_n 3, 1) := by decide +kernel
theorem dX18_isTooMuch_141 : decode cX18_isTooMuch 141 = .ok (.baload, 1) := by decide +kernel
theorem dX18_isTooMuch_142 : decode cX18_isTooMuch 142 = .ok (.ifCond .eq 25, 3) := by decide +kernel
theorem dX18_isTooMuch_145 : decode cX18_isTooMuch 145 = .ok (.aload_n 0, 1) := by decide +kernel
theorem dX18_isTooMuch_146 : decode cX18_isTooMuch 146 = .ok (.getfield 40, 3) := by decide +kernel
theorem dX18_isTooMuch_149 : decode cX18_isTooMuch 149 = .ok (.aload_n 0, 1) := by decide +kernel
theorem dX18_isTooMuch_150 : decode cX18_isTooMuch 150 = .ok (.getfield 285, 3) := by decide +kernel
theorem dX18_isTooMuch_153 : decode cX18_isTooMuch 153 = .ok (.iload_n 3, 1) := by decide +kernel
theorem dX18_isTooMuch_154 : decode cX18_isTooMuch 154 = .ok (.iaload, 1) := by decide +kernel
theorem dX18_isTooMuch_155 : decode cX18_isTooMuch 155 = .ok (.invokevirtual 357, 3) := by decide +kernel
theorem dX18_isTooMuch_158 : decode cX18_isTooMuch 158 = .ok (.bipush 64, 2) := by decide +kernel
theorem dX18_isTooMuch_160 : decode cX18_isTooMuch 160 = .ok (.if_icmp .le 7, 3) := by decide +kernel
theorem dX18_isTooMuch_163 : decode cX18_isTooMuch 163 = .ok (.iconst 1, 1) := by decide +kernel
theorem dX18_isTooMuch_164 : decode cX18_isTooMuch 164 = .ok (.goto 4, 3) := by decide +kernel
theorem dX18_isTooMuch_167 : decode cX18_isTooMuch 167 = .ok (.iconst 0, 1) := by decide +kernel
theorem dX18_isTooMuch_168 : decode cX18_isTooMuch 168 = .ok (.istore_n 2, 1) := by decide +kernel
theorem dX18_isTooMuch_169 : decode cX18_isTooMuch 169 = .ok (.iinc 3 1, 3) := by decide +kernel
theorem dX18_isTooMuch_172 : decode cX18_isTooMuch 172 = .ok (.goto (-166), 3) := by decide +kernel
theorem dX18_isTooMuch_175 : decode cX18_isTooMuch 175 = .ok (.iload_n 2, 1) := by decide +kernel
theorem dX18_isTooMuch_176 : decode cX18_isTooMuch 176 = .ok (.ifCond .ne 15, 3) := by decide +kernel
theorem dX18_isTooMuch_179 : decode cX18_isTooMuch 179 = .ok (.aload_n 0, 1) := by decide +kernel
theorem dX18_isTooMuch_180 : decode cX18_isTooMuch 180 = .ok (.invokevirtual 620, 3) := by decide +kernel
theorem dX18_isTooMuch_183 : decode cX18_isTooMuch 183 = .ok (.iload_n 1, 1) := by decide +kernel
theorem dX18_isTooMuch_184 : decode cX18_isTooMuch 184 = .ok (.iadd, 1) := by decide +kernel
theorem dX18_isTooMuch_185 : decode cX18_isTooMuch 185 = .ok (.sipush 256, 3) := by decide +kernel
theorem dX18_isTooMuch_188 : decode cX18_isTooMuch 188 = .ok (.if_icmp .le 7, 3) := by decide +kernel
theorem dX18_isTooMuch_191 : decode cX18_isTooMuch 191 = .ok (.iconst 1, 1) := by decide +kernel
theorem dX18_isTooMuch_192 : decode cX18_isTooMuch 192 = .ok (.goto 4, 3) := by decide +kernel
theorem dX18_isTooMuch_195 : decode cX18_isTooMuch 195 = .ok (.iconst 0, 1) := by decide +kernel
theorem dX18_isTooMuch_196 : decode cX18_isTooMuch 196 = .ok (.ireturn, 1) := by decide +kernel
theorem dX18_settle_0 : decode cX18_settle 0 = .ok (.aload_n 0, 1) := by decide +kernel
theorem dX18_settle_1 : decode cX18_settle 1 = .ok (.getfield 300, 3) := by decide +kernel
theorem dX18_settle_4 : decode cX18_settle 4 = .ok (.iconst 0, 1) := by decide +kernel
theorem dX18_settle_5 : decode cX18_settle 5 = .ok (.dup2, 1) := by decide +kernel
theorem dX18_settle_6 : decode cX18_settle 6 = .ok (.laload, 1) := by decide +kernel
theorem dX18_settle_7 : decode cX18_settle 7 = .ok (.aload_n 0, 1) := by decide +kernel
theorem dX18_settle_8 : decode cX18_settle 8 = .ok (.getfield 264, 3) := by decide +kernel
theorem dX18_settle_11 : decode cX18_settle 11 = .ok (.i2l, 1) := by decide +kernel
theorem dX18_settle_12 : decode cX18_settle 12 = .ok (.ladd, 1) := by decide +kernel
theorem dX18_settle_13 : decode cX18_settle 13 = .ok (.lastore, 1) := by decide +kernel
theorem dX18_settle_14 : decode cX18_settle 14 = .ok (.iconst 0, 1) := by decide +kernel
theorem dX18_settle_15 : decode cX18_settle 15 = .ok (.istore_n 1, 1) := by decide +kernel
theorem dX18_settle_16 : decode cX18_settle 16 = .ok (.iload_n 1, 1) := by decide +kernel
theorem dX18_settle_17 : decode cX18_settle 17 = .ok (.aload_n 0, 1) := by decide +kernel
theorem dX18_settle_18 : decode cX18_settle 18 = .ok (.getfield 271, 3) := by decide +kernel
theorem dX18_settle_21 : decode cX18_settle 21 = .ok (.if_icmp .ge 57, 3) := by decide +kernel
theorem dX18_settle_24 : decode cX18_settle 24 = .ok (.aload_n 0, 1) := by decide +kernel
theorem dX18_settle_25 : decode cX18_settle 25 = .ok (.getfield 274, 3) := by decide +kernel
theorem dX18_settle_28 : decode cX18_settle 28 = .ok (.iload_n 1, 1) := by decide +kernel
theorem dX18_settle_29 : decode cX18_settle 29 = .ok (.iaload, 1) := by decide +kernel
theorem dX18_settle_30 : decode cX18_settle 30 = .ok (.iconst 3, 1) := by decide +kernel
theorem dX18_settle_31 : decode cX18_settle 31 = .ok (.if_icmp .ne 41, 3) := by decide +kernel
theorem dX18_settle_34 : decode cX18_settle 34 = .ok (.aload_n 0, 1) := by decide +kernel
theorem dX18_settle_35 : decode cX18_settle 35 = .ok (.getfield 296, 3) := by decide +kernel
theorem dX18_settle_38 : decode cX18_settle 38 = .ok (.iload_n 1, 1) := by decide +kernel
theorem dX18_settle_39 : decode cX18_settle 39 = .ok (.baload, 1) := by decide +kernel
theorem dX18_settle_40 : decode cX18_settle 40 = .ok (.ifCond .eq 6, 3) := by decide +kernel
theorem dX18_settle_43 : decode cX18_settle 43 = .ok (.goto 29, 3) := by decide +kernel
theorem dX18_settle_46 : decode cX18_settle 46 = .ok (.aload_n 0, 1) := by decide +kernel
theorem dX18_settle_47 : decode cX18_settle 47 = .ok (.aload_n 0, 1) := by decide +kernel
theorem dX18_settle_48 : decode cX18_settle 48 = .ok (.getfield 277, 3) := by decide +kernel
theorem dX18_settle_51 : decode cX18_settle 51 = .ok (.iload_n 1, 1) := by decide +kernel
theorem dX18_settle_52 : decode cX18_settle 52 = .ok (.laload, 1) := by decide +kernel
theorem dX18_settle_53 : decode cX18_settle 53 = .ok (.aload_n 0, 1) := by decide +kernel
theorem dX18_settle_54 : decode cX18_settle 54 = .ok (.getfield 280, 3) := by decide +kernel
theorem dX18_settle_57 : decode cX18_settle 57 = .ok (.iload_n 1, 1) := by decide +kernel
theorem dX18_settle_58 : decode cX18_settle 58 = .ok (.iaload, 1) := by decide +kernel
theorem dX18_settle_59 : decode cX18_settle 59 = .ok (.invokevirtual 292, 3) := by decide +kernel
theorem dX18_settle_62 : decode cX18_settle 62 = .ok (.istore_n 2, 1) := by decide +kernel
theorem dX18_settle_63 : decode cX18_settle 63 = .ok (.iload_n 2, 1) := by decide +kernel
theorem dX18_settle_64 : decode cX18_settle 64 = .ok (.ifCond .lt 8, 3) := by decide +kernel
theorem dX18_settle_67 : decode cX18_settle 67 = .ok (.aload_n 0, 1) := by decide +kernel
theorem dX18_settle_68 : decode cX18_settle 68 = .ok (.iload_n 2, 1) := by decide +kernel
theorem dX18_settle_69 : decode cX18_settle 69 = .ok (.invokevirtual 671, 3) := by decide +kernel
theorem dX18_settle_72 : decode cX18_settle 72 = .ok (.iinc 1 1, 3) := by decide +kernel
theorem dX18_settle_75 : decode cX18_settle 75 = .ok (.goto (-59), 3) := by decide +kernel
theorem dX18_settle_78 : decode cX18_settle 78 = .ok (.iconst 0, 1) := by decide +kernel
theorem dX18_settle_79 : decode cX18_settle 79 = .ok (.istore_n 1, 1) := by decide +kernel
theorem dX18_settle_80 : decode cX18_settle 80 = .ok (.iload_n 1, 1) := by decide +kernel
theorem dX18_settle_81 : decode cX18_settle 81 = .ok (.aload_n 0, 1) := by decide +kernel
theorem dX18_settle_82 : decode cX18_settle 82 = .ok (.getfield 271, 3) := by decide +kernel
theorem dX18_settle_85 : decode cX18_settle 85 = .ok (.if_icmp .ge 155, 3) := by decide +kernel
theorem dX18_settle_88 : decode cX18_settle 88 = .ok (.aload_n 0, 1) := by decide +kernel
theorem dX18_settle_89 : decode cX18_settle 89 = .ok (.getfield 296, 3) := by decide +kernel
theorem dX18_settle_92 : decode cX18_settle 92 = .ok (.iload_n 1, 1) := by decide +kernel
theorem dX18_settle_93 : decode cX18_settle 93 = .ok (.baload, 1) := by decide +kernel
theorem dX18_settle_94 : decode cX18_settle 94 = .ok (.ifCond .eq 140, 3) := by decide +kernel
theorem dX18_settle_97 : decode cX18_settle 97 = .ok (.aload_n 0, 1) := by decide +kernel
theorem dX18_settle_98 : decode cX18_settle 98 = .ok (.getfield 274, 3) := by decide +kernel
theorem dX18_settle_101 : decode cX18_settle 101 = .ok (.iload_n 1, 1) := by decide +kernel
theorem dX18_settle_102 : decode cX18_settle 102 = .ok (.iaload, 1) := by decide +kernel
theorem dX18_settle_103 : decode cX18_settle 103 = .ok (.iconst 2, 1) := by decide +kernel
theorem dX18_settle_104 : decode cX18_settle 104 = .ok (.if_icmp .ne 6, 3) := by decide +kernel
theorem dX18_settle_107 : decode cX18_settle 107 = .ok (.goto 127, 3) := by decide +kernel
theorem dX18_settle_110 : decode cX18_settle 110 = .ok (.aload_n 0, 1) := by decide +kernel
theorem dX18_settle_111 : decode cX18_settle 111 = .ok (.getfield 274, 3) := by decide +kernel
theorem dX18_settle_114 : decode cX18_settle 114 = .ok (.iload_n 1, 1) := by decide +kernel
theorem dX18_settle_115 : decode cX18_settle 115 = .ok (.iaload, 1) := by decide +kernel
theorem dX18_settle_116 : decode cX18_settle 116 = .ok (.iconst 1, 1) := by decide +kernel
theorem dX18_settle_117 : decode cX18_settle 117 = .ok (.if_icmp .ne 46, 3) := by decide +kernel
theorem dX18_settle_120 : decode cX18_settle 120 = .ok (.aload_n 0, 1) := by decide +kernel
theorem dX18_settle_121 : decode cX18_settle 121 = .ok (.aload_n 0, 1) := by decide +kernel
theorem dX18_settle_122 : decode cX18_settle 122 = .ok (.getfield 277, 3) := by decide +kernel
theorem dX18_settle_125 : decode cX18_settle 125 = .ok (.iload_n 1, 1) := by decide +kernel
theorem dX18_settle_126 : decode cX18_settle 126 = .ok (.laload, 1) := by decide +kernel
theorem dX18_settle_127 : decode cX18_settle 127 = .ok (.invokevirtual 288, 3) := by decide +kernel
theorem dX18_settle_130 : decode cX18_settle 130 = .ok (.istore_n 2, 1) := by decide +kernel
theorem dX18_settle_131 : decode cX18_settle 131 = .ok (.aload_n 0, 1) := by decide +kernel
theorem dX18_settle_132 : decode cX18_settle 132 = .ok (.getfield 303, 3) := by decide +kernel
theorem dX18_settle_135 : decode cX18_settle 135 = .ok (.iload_n 2, 1) := by decide +kernel
theorem dX18_settle_136 : decode cX18_settle 136 = .ok (.ifCond .ge 16, 3) := by decide +kernel
theorem dX18_settle_139 : decode cX18_settle 139 = .ok (.aload_n 0, 1) := by decide +kernel
theorem dX18_settle_140 : decode cX18_settle 140 = .ok (.aload_n 0, 1) := by decide +kernel
theorem dX18_settle_141 : decode cX18_settle 141 = .ok (.getfield 277, 3) := by decide +kernel
theorem dX18_settle_144 : decode cX18_settle 144 = .ok (.iload_n 1, 1) := by decide +kernel
theorem dX18_settle_145 : decode cX18_settle 145 = .ok (.laload, 1) := by decide +kernel
theorem dX18_settle_146 : decode cX18_settle 146 = .ok (.invokevirtual 623, 3) := by decide +kernel
theorem dX18_settle_149 : decode cX18_settle 149 = .ok (.goto 4, 3) := by decide +kernel
theorem dX18_settle_152 : decode cX18_settle 152 = .ok (.iload_n 2, 1) := by decide +kernel
theorem dX18_settle_153 : decode cX18_settle 153 = .ok (.aload_n 0, 1) := by decide +kernel
theorem dX18_settle_154 : decode cX18_settle 154 = .ok (.getfield 300, 3) := by decide +kernel
theorem dX18_settle_157 : decode cX18_settle 157 = .ok (.iload_n 1, 1) := by decide +kernel
theorem dX18_settle_158 : decode cX18_settle 158 = .ok (.laload, 1) := by decide +kernel
theorem dX18_settle_159 : decode cX18_settle 159 = .ok (.lastore, 1) := by decide +kernel
theorem dX18_settle_160 : decode cX18_settle 160 = .ok (.goto 74, 3) := by decide +kernel
theorem dX18_settle_163 : decode cX18_settle 163 = .ok (.aload_n 0, 1) := by decide +kernel
theorem dX18_settle_164 : decode cX18_settle 164 = .ok (.aload_n 0, 1) := by decide +kernel
theorem dX18_settle_165 : decode cX18_settle 165 = .ok (.getfield 277, 3) := by decide +kernel
theorem dX18_settle_168 : decode cX18_settle 168 = .ok (.iload_n 1, 1) := by decide +kernel
theorem dX18_settle_169 : decode cX18_settle 169 = .ok (.laload, 1) := by decide +kernel
theorem dX18_settle_170 : decode cX18_settle 170 = .ok (.aload_n 0, 1) := by decide +kernel
theorem dX18_settle_171 : decode cX18_settle 171 = .ok (.getfield 280, 3) := by decide +kernel
theorem dX18_settle_174 : decode cX18_settle 174 = .ok (.iload_n 1, 1) := by decide +kernel
theorem dX18_settle_175 : decode cX18_settle 175 = .ok (.iaload, 1) := by decide +kernel
theorem dX18_settle_176 : decode cX18_settle 176 = .ok (.invokevirtual 292, 3) := by decide +kernel
theorem dX18_settle_179 : decode cX18_settle 179 = .ok (.istore_n 2, 1) := by decide +kernel
theorem dX18_settle_180 : decode cX18_settle 180 = .ok (.iload_n 2, 1) := by decide +kernel
theorem dX18_settle_181 : decode cX18_settle 181 = .ok (.ifCond .ge 42, 3) := by decide +kernel
theorem dX18_settle_184 : decode cX18_settle 184 = .ok (.aload_n 0, 1) := by decide +kernel
theorem dX18_settle_185 : decode cX18_settle 185 = .ok (.getfield 10, 3) := by decide +kernel
theorem dX18_settle_188 : decode cX18_settle 188 = .ok (.istore_n 2, 1) := by decide +kernel
theorem dX18_settle_189 : decode cX18_settle 189 = .ok (.aload_n 0, 1) := by decide +kernel
theorem dX18_settle_190 : decode cX18_settle 190 = .ok (.getfield 27, 3) := by decide +kernel
theorem dX18_settle_193 : decode cX18_settle 193 = .ok (.iload_n 2, 1) := by decide +kernel
theorem dX18_settle_194 : decode cX18_settle 194 = .ok (.aload_n 0, 1) := by decide +kernel
theorem dX18_settle_195 : decode cX18_settle 195 = .ok (.getfield 277, 3) := by decide +kernel
theorem dX18_settle_198 : decode cX18_settle 198 = .ok (.iload_n 1, 1) := by decide +kernel
theorem dX18_settle_199 : decode cX18_settle 199 = .ok (.laload, 1) := by decide +kernel
theorem dX18_settle_200 : decode cX18_settle 200 = .ok (.lastore, 1) := by decide +kernel
theorem dX18_settle_201 : decode cX18_settle 201 = .ok (.aload_n 0, 1) := by decide +kernel
theorem dX18_settle_202 : decode cX18_settle 202 = .ok (.getfield 30, 3) := by decide +kernel
theorem dX18_settle_205 : decode cX18_settle 205 = .ok (.iload_n 2, 1) := by decide +kernel
theorem dX18_settle_206 : decode cX18_settle 206 = .ok (.aload_n 0, 1) := by decide +kernel
theorem dX18_settle_207 : decode cX18_settle 207 = .ok (.getfield 280, 3) := by decide +kernel
theorem dX18_settle_210 : decode cX18_settle 210 = .ok (.iload_n 1, 1) := by decide +kernel
theorem dX18_settle_211 : decode cX18_settle 211 = .ok (.iaload, 1) := by decide +kernel
theorem dX18_settle_212 : decode cX18_settle 212 = .ok (.iastore, 1) := by decide +kernel
theorem dX18_settle_213 : decode cX18_settle 213 = .ok (.aload_n 0, 1) := by decide +kernel
theorem dX18_settle_214 : decode cX18_settle 214 = .ok (.dup, 1) := by decide +kernel
theorem dX18_settle_215 : decode cX18_settle 215 = .ok (.getfield 10, 3) := by decide +kernel
theorem dX18_settle_218 : decode cX18_settle 218 = .ok (.iconst 1, 1) := by decide +kernel
theorem dX18_settle_219 : decode cX18_settle 219 = .ok (.iadd, 1) := by decide +kernel
theorem dX18_settle_220 : decode cX18_settle 220 = .ok (.putfield 10, 3) := by decide +kernel
theorem dX18_settle_223 : decode cX18_settle 223 = .ok (.aload_n 0, 1) := by decide +kernel
theorem dX18_settle_224 : decode cX18_settle 224 = .ok (.iload_n 2, 1) := by decide +kernel
theorem dX18_settle_225 : decode cX18_settle 225 = .ok (.aload_n 0, 1) := by decide +kernel
theorem dX18_settle_226 : decode cX18_settle 226 = .ok (.getfield 285, 3) := by decide +kernel
theorem dX18_settle_229 : decode cX18_settle 229 = .ok (.iload_n 1, 1) := by decide +kernel
theorem dX18_settle_230 : decode cX18_settle 230 = .ok (.iaload, 1) := by decide +kernel
theorem dX18_settle_231 : decode cX18_settle 231 = .ok (.invokevirtual 674, 3) := by decide +kernel
theorem dX18_settle_234 : decode cX18_settle 234 = .ok (.iinc 1 1, 3) := by decide +kernel
theorem dX18_settle_237 : decode cX18_settle 237 = .ok (.goto (-157), 3) := by decide +kernel
theorem dX18_settle_240 : decode cX18_settle 240 = .ok (.return_, 1) := by decide +kernel
theorem dX18_coinsIn_0 : decode cX18_coinsIn 0 = .ok (.lconst 0, 1) := by decide +kernel
theorem dX18_coinsIn_1 : decode cX18_coinsIn 1 = .ok (.lstore_n 2, 1) := by decide +kernel
theorem dX18_coinsIn_2 : decode cX18_coinsIn 2 = .ok (.iconst 1, 1) := by decide +kernel
theorem dX18_coinsIn_3 : decode cX18_coinsIn 3 = .ok (.istore 4, 2) := by decide +kernel
theorem dX18_coinsIn_5 : decode cX18_coinsIn 5 = .ok (.bipush 64, 2) := by decide +kernel
theorem dX18_coinsIn_7 : decode cX18_coinsIn 7 = .ok (.iload_n 1, 1) := by decide +kernel
theorem dX18_coinsIn_8 : decode cX18_coinsIn 8 = .ok (.imul, 1) := by decide +kernel
theorem dX18_coinsIn_9 : decode cX18_coinsIn 9 = .ok (.istore 5, 2) := by decide +kernel
theorem dX18_coinsIn_11 : decode cX18_coinsIn 11 = .ok (.iload 4, 2) := by decide +kernel
theorem dX18_coinsIn_13 : decode cX18_coinsIn 13 = .ok (.ifCond .le 59, 3) := by decide +kernel
theorem dX18_coinsIn_16 : decode cX18_coinsIn 16 = .ok (.iload 4, 2) := by decide +kernel
theorem dX18_coinsIn_18 : decode cX18_coinsIn 18 = .ok (.aload_n 0, 1) := by decide +kernel
theorem dX18_coinsIn_19 : decode cX18_coinsIn 19 = .ok (.getfield 60, 3) := by decide +kernel
theorem dX18_coinsIn_22 : decode cX18_coinsIn 22 = .ok (.iload 5, 2) := by decide +kernel
theorem dX18_coinsIn_24 : decode cX18_coinsIn 24 = .ok (.iaload, 1) := by decide +kernel
theorem dX18_coinsIn_25 : decode cX18_coinsIn 25 = .ok (.iconst 1, 1) := by decide +kernel
theorem dX18_coinsIn_26 : decode cX18_coinsIn 26 = .ok (.isub, 1) := by decide +kernel
theorem dX18_coinsIn_27 : decode cX18_coinsIn 27 = .ok (.iadd, 1) := by decide +kernel
theorem dX18_coinsIn_28 : decode cX18_coinsIn 28 = .ok (.istore 4, 2) := by decide +kernel
theorem dX18_coinsIn_30 : decode cX18_coinsIn 30 = .ok (.aload_n 0, 1) := by decide +kernel
theorem dX18_coinsIn_31 : decode cX18_coinsIn 31 = .ok (.getfield 44, 3) := by decide +kernel
theorem dX18_coinsIn_34 : decode cX18_coinsIn 34 = .ok (.iload 5, 2) := by decide +kernel
theorem dX18_coinsIn_36 : decode cX18_coinsIn 36 = .ok (.baload, 1) := by decide +kernel
theorem dX18_coinsIn_37 : decode cX18_coinsIn 37 = .ok (.bipush 6, 2) := by decide +kernel
theorem dX18_coinsIn_39 : decode cX18_coinsIn 39 = .ok (.if_icmp .ne 27, 3) := by decide +kernel
theorem dX18_coinsIn_42 : decode cX18_coinsIn 42 = .ok (.aload_n 0, 1) := by decide +kernel
theorem dX18_coinsIn_43 : decode cX18_coinsIn 43 = .ok (.getfield 51, 3) := by decide +kernel
theorem dX18_coinsIn_46 : decode cX18_coinsIn 46 = .ok (.iload 5, 2) := by decide +kernel
theorem dX18_coinsIn_48 : decode cX18_coinsIn 48 = .ok (.laload, 1) := by decide +kernel
theorem dX18_coinsIn_49 : decode cX18_coinsIn 49 = .ok (.lconst 0, 1) := by decide +kernel
theorem dX18_coinsIn_50 : decode cX18_coinsIn 50 = .ok (.lcmp, 1) := by decide +kernel
theorem dX18_coinsIn_51 : decode cX18_coinsIn 51 = .ok (.ifCond .ne 15, 3) := by decide +kernel
theorem dX18_coinsIn_54 : decode cX18_coinsIn 54 = .ok (.lload_n 2, 1) := by decide +kernel
theorem dX18_coinsIn_55 : decode cX18_coinsIn 55 = .ok (.aload_n 0, 1) := by decide +kernel
theorem dX18_coinsIn_56 : decode cX18_coinsIn 56 = .ok (.getfield 51, 3) := by decide +kernel
theorem dX18_coinsIn_59 : decode cX18_coinsIn 59 = .ok (.iload 5, 2) := by decide +kernel
theorem dX18_coinsIn_61 : decode cX18_coinsIn 61 = .ok (.iconst 1, 1) := by decide +kernel
theorem dX18_coinsIn_62 : decode cX18_coinsIn 62 = .ok (.iadd, 1) := by decide +kernel
theorem dX18_coinsIn_63 : decode cX18_coinsIn 63 = .ok (.laload, 1) := by decide +kernel
theorem dX18_coinsIn_64 : decode cX18_coinsIn 64 = .ok (.ladd, 1) := by decide +kernel
theorem dX18_coinsIn_65 : decode cX18_coinsIn 65 = .ok (.lstore_n 2, 1) := by decide +kernel
theorem dX18_coinsIn_66 : decode cX18_coinsIn 66 = .ok (.iinc 5 1, 3) := by decide +kernel
theorem dX18_coinsIn_69 : decode cX18_coinsIn 69 = .ok (.goto (-58), 3) := by decide +kernel
theorem dX18_coinsIn_72 : decode cX18_coinsIn 72 = .ok (.lload_n 2, 1) := by decide +kernel
theorem dX18_coinsIn_73 : decode cX18_coinsIn 73 = .ok (.lreturn, 1) := by decide +kernel
theorem dX18_keepFour_0 : decode cX18_keepFour 0 = .ok (.aload_n 0, 1) := by decide +kernel
theorem dX18_keepFour_1 : decode cX18_keepFour 1 = .ok (.getfield 94, 3) := by decide +kernel
theorem dX18_keepFour_4 : decode cX18_keepFour 4 = .ok (.invokevirtual 436, 3) := by decide +kernel
theorem dX18_keepFour_7 : decode cX18_keepFour 7 = .ok (.iconst 0, 1) := by decide +kernel
theorem dX18_keepFour_8 : decode cX18_keepFour 8 = .ok (.istore_n 2, 1) := by decide +kernel
theorem dX18_keepFour_9 : decode cX18_keepFour 9 = .ok (.iload_n 2, 1) := by decide +kernel
theorem dX18_keepFour_10 : decode cX18_keepFour 10 = .ok (.iconst 4, 1) := by decide +kernel
theorem dX18_keepFour_11 : decode cX18_keepFour 11 = .ok (.if_icmp .ge 20, 3) := by decide +kernel
theorem dX18_keepFour_14 : decode cX18_keepFour 14 = .ok (.aload_n 1, 1) := by decide +kernel
theorem dX18_keepFour_15 : decode cX18_keepFour 15 = .ok (.iload_n 2, 1) := by decide +kernel
theorem dX18_keepFour_16 : decode cX18_keepFour 16 = .ok (.aload_n 0, 1) := by decide +kernel
theorem dX18_keepFour_17 : decode cX18_keepFour 17 = .ok (.getfield 94, 3) := by decide +kernel
theorem dX18_keepFour_20 : decode cX18_keepFour 20 = .ok (.iload_n 2, 1) := by decide +kernel
theorem dX18_keepFour_21 : decode cX18_keepFour 21 = .ok (.invokevirtual 694, 3) := by decide +kernel
theorem dX18_keepFour_24 : decode cX18_keepFour 24 = .ok (.lastore, 1) := by decide +kernel
theorem dX18_keepFour_25 : decode cX18_keepFour 25 = .ok (.iinc 2 1, 3) := by decide +kernel
theorem dX18_keepFour_28 : decode cX18_keepFour 28 = .ok (.goto (-19), 3) := by decide +kernel
theorem dX18_keepFour_31 : decode cX18_keepFour 31 = .ok (.aload_n 0, 1) := by decide +kernel
theorem dX18_keepFour_32 : decode cX18_keepFour 32 = .ok (.getfield 94, 3) := by decide +kernel
theorem dX18_keepFour_35 : decode cX18_keepFour 35 = .ok (.invokevirtual 433, 3) := by decide +kernel
theorem dX18_keepFour_38 : decode cX18_keepFour 38 = .ok (.return_, 1) := by decide +kernel
theorem dJ9_max_7cf53_0 : decode cJ9_max_7cf53 0 = .ok (.iload_n 0, 1) := by decide +kernel
theorem dJ9_max_7cf53_1 : decode cJ9_max_7cf53 1 = .ok (.iload_n 1, 1) := by decide +kernel
theorem dJ9_max_7cf53_2 : decode cJ9_max_7cf53 2 = .ok (.if_icmp .lt 7, 3) := by decide +kernel
theorem dJ9_max_7cf53_5 : decode cJ9_max_7cf53 5 = .ok (.iload_n 0, 1) := by decide +kernel
theorem dJ9_max_7cf53_6 : decode cJ9_max_7cf53 6 = .ok (.goto 4, 3) := by decide +kernel
theorem dJ9_max_7cf53_9 : decode cJ9_max_7cf53 9 = .ok (.iload_n 1, 1) := by decide +kernel
theorem dJ9_max_7cf53_10 : decode cJ9_max_7cf53 10 = .ok (.ireturn, 1) := by decide +kernel
theorem dJ9_min_7cf53_0 : decode cJ9_min_7cf53 0 = .ok (.iload_n 0, 1) := by decide +kernel
theorem dJ9_min_7cf53_1 : decode cJ9_min_7cf53 1 = .ok (.iload_n 1, 1) := by decide +kernel
theorem dJ9_min_7cf53_2 : decode cJ9_min_7cf53 2 = .ok (.if_icmp .gt 7, 3) := by decide +kernel
theorem dJ9_min_7cf53_5 : decode cJ9_min_7cf53 5 = .ok (.iload_n 0, 1) := by decide +kernel
theorem dJ9_min_7cf53_6 : decode cJ9_min_7cf53 6 = .ok (.goto 4, 3) := by decide +kernel
theorem dJ9_min_7cf53_9 : decode cJ9_min_7cf53 9 = .ok (.iload_n 1, 1) := by decide +kernel
theorem dJ9_min_7cf53_10 : decode cJ9_min_7cf53 10 = .ok (.ireturn, 1) := by decide +kernel
theorem dJ9_min_f86c9_0 : decode cJ9_min_f86c9 0 = .ok (.lload_n 0, 1) := by decide +kernel
theorem dJ9_min_f86c9_1 : decode cJ9_min_f86c9 1 = .ok (.lload_n 2, 1) := by decide +kernel
theorem dJ9_min_f86c9_2 : decode cJ9_min_f86c9 2 = .ok (.lcmp, 1) := by decide +kernel
theorem dJ9_min_f86c9_3 : decode cJ9_min_f86c9 3 = .ok (.ifCond .gt 7, 3) := by decide +kernel
theorem dJ9_min_f86c9_6 : decode cJ9_min_f86c9 6 = .ok (.lload_n 0, 1) := by decide +kernel
theorem dJ9_min_f86c9_7 : decode cJ9_min_f86c9 7 = .ok (.goto 4, 3) := by decide +kernel
theorem dJ9_min_f86c9_10 : decode cJ9_min_f86c9 10 = .ok (.lload_n 2, 1) := by decide +kernel
theorem dJ9_min_f86c9_11 : decode cJ9_min_f86c9 11 = .ok (.lreturn, 1) := by decide +kernel
set_option maxRecDepth 20000 in
theorem ggX0_put_X0_mix : GoodIn wsX0_put wsX0_mix := goodIn_r _ [8, 2, 9, 10, 11, 12, 13, 14] rfl (by decide +kernel)
set_option maxRecDepth 20000 in
theorem gX0_put_X0_mix : GoodIn wsX0_put (wsV RX0 33 RX0 yX0_mix wsX0_mix) := goodIn_app (goodIn_of _ (by decide +kernel)) ggX0_put_X0_mix
set_option maxRecDepth 20000 in
theorem ggX0_putLong_X0_put : GoodIn wsX0_putLong wsX0_put := goodIn_r _ [5, 6, 7, 8, 9, 10, 11, 4, 12, 13, 14, 15, 16, 17, 18] rfl (by decide +kernel)
set_option maxRecDepth 20000 in
theorem gX0_putLong_X0_put : GoodIn wsX0_putLong (wsV RX0 36 RX0 yX0_put wsX0_put) := goodIn_app (goodIn_of _ (by decide +kernel)) ggX0_putLong_X0_put
set_option maxRecDepth 20000 in
theorem ggX0_putLongs_X0_putLong : GoodIn wsX0_putLongs wsX0_putLong := goodIn_r _ [5, 6, 7, 8, 4, 9, 10, 11, 12, 13, 14, 15, 16, 17, 18, 19, 20, 21, 22] rfl (by decide +kernel)
set_option maxRecDepth 20000 in
theorem gX0_putLongs_X0_putLong : GoodIn wsX0_putLongs (wsV RX0 40 RX0 yX0_putLong wsX0_putLong) := goodIn_app (goodIn_of _ (by decide +kernel)) ggX0_putLongs_X0_putLong
set_option maxRecDepth 20000 in
theorem ggX0_finish_X0_put : GoodIn wsX0_finish wsX0_put := goodIn_r _ [8, 3, 9, 1, 10, 11, 12, 7, 13, 14, 15, 16, 17, 18, 19] rfl (by decide +kernel)
set_option maxRecDepth 20000 in
theorem gX0_finish_X0_put : GoodIn wsX0_finish (wsV RX0 36 RX0 yX0_put wsX0_put) := goodIn_app (goodIn_of _ (by decide +kernel)) ggX0_finish_X0_put
set_option maxRecDepth 20000 in
theorem ggX0_copyTo_X0_part : GoodIn wsX0_copyTo wsX0_part := goodIn_r _ [5, 6, 7, 8, 9, 10, 11] rfl (by decide +kernel)
set_option maxRecDepth 20000 in
theorem gX0_copyTo_X0_part : GoodIn wsX0_copyTo (wsV RX0 48 RX0 yX0_part wsX0_part) := goodIn_app (goodIn_of _ (by decide +kernel)) ggX0_copyTo_X0_part
set_option maxRecDepth 20000 in
theorem ggX1_swap_X1_assign : GoodIn wsX1_swap wsX1_assign := goodIn_r _ [8, 1, 2, 3, 9, 10, 11, 12, 13, 14, 15] rfl (by decide +kernel)
set_option maxRecDepth 20000 in
theorem gX1_swap_X1_assign : GoodIn wsX1_swap (wsV RX1 33 RX1 yX1_assign wsX1_assign) := goodIn_app (goodIn_of _ (by decide +kernel)) ggX1_swap_X1_assign
set_option maxRecDepth 20000 in
theorem ggX1_sizeOf_X1_sizeAt : GoodIn wsX1_sizeOf wsX1_sizeAt := goodIn_r _ [5, 6, 7, 8, 9, 10, 11, 4, 12, 1, 2, 3, 13, 14, 15, 16, 17, 18, 19] rfl (by decide +kernel)
set_option maxRecDepth 20000 in
theorem gX1_sizeOf_X1_sizeAt : GoodIn wsX1_sizeOf (wsV RX1 37 RX1 yX1_sizeAt wsX1_sizeAt) := goodIn_app (goodIn_of _ (by decide +kernel)) ggX1_sizeOf_X1_sizeAt
set_option maxRecDepth 20000 in
theorem ggX1_copyOf_X1_copyAt : GoodIn wsX1_copyOf wsX1_copyAt := goodIn_r _ [5, 6, 7, 8, 9, 10, 11, 12, 4, 13, 14, 15, 16, 17, 18, 1, 2, 3, 19, 20, 21, 22, 23, 24, 25] rfl (by decide +kernel)
set_option maxRecDepth 20000 in
theorem gX1_copyOf_X1_copyAt : GoodIn wsX1_copyOf (wsV RX1 41 RX1 yX1_copyAt wsX1_copyAt) := goodIn_app (goodIn_of _ (by decide +kernel)) ggX1_copyOf_X1_copyAt
set_option maxRecDepth 20000 in
theorem ggX1_areAlike_X1_alikeAt : GoodIn wsX1_areAlike wsX1_alikeAt := goodIn_r _ [5, 6, 7, 8, 9, 10, 11, 4, 12, 1, 2, 3, 13, 14, 15, 16, 17, 18, 19] rfl (by decide +kernel)
set_option maxRecDepth 20000 in
theorem gX1_areAlike_X1_alikeAt : GoodIn wsX1_areAlike (wsV RX1 44 RX1 yX1_alikeAt wsX1_alikeAt) := goodIn_app (goodIn_of _ (by decide +kernel)) ggX1_areAlike_X1_alikeAt
set_option maxRecDepth 20000 in
theorem ggX1_sizeAt_X1_holdsOthers : GoodIn wsX1_sizeAt wsX1_holdsOthers := goodIn_r _ [8] rfl (by decide +kernel)
set_option maxRecDepth 20000 in
theorem gX1_sizeAt_X1_holdsOthers : GoodIn wsX1_sizeAt (va_wsS RX1 48 yX1_holdsOthers wsX1_holdsOthers) := goodIn_app (goodIn_of _ (by decide +kernel)) ggX1_sizeAt_X1_holdsOthers
set_option maxRecDepth 20000 in
theorem ggX1_sizeAt_X1_sizeAt : GoodIn wsX1_sizeAt wsX1_sizeAt := goodIn_r _ [0, 1, 2, 3, 4, 5, 6, 7, 8, 9, 10, 11, 12, 13, 14, 15, 16, 17, 18] rfl (by decide +kernel)
set_option maxRecDepth 20000 in
theorem gX1_sizeAt_X1_sizeAt : GoodIn wsX1_sizeAt (wsV RX1 37 RX1 yX1_sizeAt wsX1_sizeAt) := goodIn_app (goodIn_of _ (by decide +kernel)) ggX1_sizeAt_X1_sizeAt
set_option maxRecDepth 20000 in
theorem ggX1_copyAt_X1_make : GoodIn wsX1_copyAt wsX1_make := goodIn_r _ [9, 10, 11, 1, 2, 3, 4, 18, 19, 20, 21, 22, 23, 24] rfl (by decide +kernel)
set_option maxRecDepth 20000 in
theorem gX1_copyAt_X1_make : GoodIn wsX1_copyAt (wsV RX1 52 RX1 yX1_make wsX1_make) := goodIn_app (goodIn_of _ (by decide +kernel)) ggX1_copyAt_X1_make
set_option maxRecDepth 20000 in
theorem ggX1_copyAt_X1_holdsOthers : GoodIn wsX1_copyAt wsX1_holdsOthers := goodIn_r _ [14] rfl (by decide +kernel)
set_option maxRecDepth 20000 in
theorem gX1_copyAt_X1_holdsOthers : GoodIn wsX1_copyAt (va_wsS RX1 48 yX1_holdsOthers wsX1_holdsOthers) := goodIn_app (goodIn_of _ (by decide +kernel)) ggX1_copyAt_X1_holdsOthers
set_option maxRecDepth 20000 in
theorem ggX1_copyAt_X1_copyAt : GoodIn wsX1_copyAt wsX1_copyAt := goodIn_r _ [0, 1, 2, 3, 4, 5, 6, 7, 8, 9, 10, 11, 12, 13, 14, 15, 16, 17, 18, 19, 20, 21, 22, 23, 24] rfl (by decide +kernel)
set_option maxRecDepth 20000 in
theorem gX1_copyAt_X1_copyAt : GoodIn wsX1_copyAt (wsV RX1 41 RX1 yX1_copyAt wsX1_copyAt) := goodIn_app (goodIn_of _ (by decide +kernel)) ggX1_copyAt_X1_copyAt
set_option maxRecDepth 20000 in
theorem ggX1_alikeAt_X1_holdsOthers : GoodIn wsX1_alikeAt wsX1_holdsOthers := goodIn_r _ [8] rfl (by decide +kernel)
set_option maxRecDepth 20000 in
theorem gX1_alikeAt_X1_holdsOthers : GoodIn wsX1_alikeAt (va_wsS RX1 48 yX1_holdsOthers wsX1_holdsOthers) := goodIn_app (goodIn_of _ (by decide +kernel)) ggX1_alikeAt_X1_holdsOthers
set_option maxRecDepth 20000 in
theorem ggX1_alikeAt_X1_alikeAt : GoodIn wsX1_alikeAt wsX1_alikeAt := goodIn_r _ [0, 1, 2, 3, 4, 5, 6, 7, 8, 9, 10, 11, 12, 13, 14, 15, 16, 17, 18] rfl (by decide +kernel)
set_option maxRecDepth 20000 in
theorem gX1_alikeAt_X1_alikeAt : GoodIn wsX1_alikeAt (wsV RX1 44 RX1 yX1_alikeAt wsX1_alikeAt) := goodIn_app (goodIn_of _ (by decide +kernel)) ggX1_alikeAt_X1_alikeAt
set_option maxRecDepth 20000 in
theorem ggX1_store_X1_storeNode : GoodIn wsX1_store wsX1_storeNode := goodIn_r _ [5, 6, 7, 8, 9, 10, 11, 12, 13, 14, 4, 15, 16, 17, 18, 19, 20, 1, 2, 3, 21, 22, 23, 24, 25, 26, 27, 28, 29, 30, 31, 32, 33, 34, 35, 36, 37, 38, 39, 40, 41, 42, 43] rfl (by decide +kernel)
set_option maxRecDepth 20000 in
theorem gX1_store_X1_storeNode : GoodIn wsX1_store (wsV RX1 56 RX1 yX1_storeNode wsX1_storeNode) := goodIn_app (goodIn_of _ (by decide +kernel)) ggX1_store_X1_storeNode
set_option maxRecDepth 20000 in
theorem ggX1_storeNode_X1_holdsOthers : GoodIn wsX1_storeNode wsX1_holdsOthers := goodIn_r _ [11] rfl (by decide +kernel)
set_option maxRecDepth 20000 in
theorem gX1_storeNode_X1_holdsOthers : GoodIn wsX1_storeNode (va_wsS RX1 48 yX1_holdsOthers wsX1_holdsOthers) := goodIn_app (goodIn_of _ (by decide +kernel)) ggX1_storeNode_X1_holdsOthers
set_option maxRecDepth 20000 in
theorem ggX1_storeNode_X1_child : GoodIn wsX1_storeNode wsX1_child := goodIn_r _ [15, 7, 5, 16, 36, 37, 38, 39, 40, 41, 42] rfl (by decide +kernel)
set_option maxRecDepth 20000 in
theorem gX1_storeNode_X1_child : GoodIn wsX1_storeNode (wsV RX1 71 RX1 yX1_child wsX1_child) := goodIn_app (goodIn_of _ (by decide +kernel)) ggX1_storeNode_X1_child
set_option maxRecDepth 20000 in
theorem ggX1_storeNode_X1_storeNode : GoodIn wsX1_storeNode wsX1_storeNode := goodIn_r _ [0, 1, 2, 3, 4, 5, 6, 7, 8, 9, 10, 11, 12, 13, 14, 15, 16, 17, 18, 19, 20, 21, 22, 23, 24, 25, 26, 27, 28, 29, 30, 31, 32, 33, 34, 35, 36, 37, 38, 39, 40, 41, 42] rfl (by decide +kernel)
set_option maxRecDepth 20000 in
theorem gX1_storeNode_X1_storeNode : GoodIn wsX1_storeNode (wsV RX1 56 RX1 yX1_storeNode wsX1_storeNode) := goodIn_app (goodIn_of _ (by decide +kernel)) ggX1_storeNode_X1_storeNode
set_option maxRecDepth 20000 in
theorem ggX1_load_X1_loadNode : GoodIn wsX1_load wsX1_loadNode := goodIn_r _ [6, 1, 7, 8, 9, 10, 11, 12, 5, 13, 14, 15, 16, 17, 18, 19, 20, 21, 22, 2, 3, 4, 23, 24, 25, 26, 27, 28, 29, 30, 31, 32, 33, 34, 35, 36, 37, 38, 39, 40, 41, 42, 43, 44, 45, 46, 47, 48, 49] rfl (by decide +kernel)
set_option maxRecDepth 20000 in
theorem gX1_load_X1_loadNode : GoodIn wsX1_load (wsV RX1 78 RX1 yX1_loadNode wsX1_loadNode) := goodIn_app (goodIn_of _ (by decide +kernel)) ggX1_load_X1_loadNode
set_option maxRecDepth 20000 in
theorem ggX1_loadNode_X1_holdsOthers : GoodIn wsX1_loadNode wsX1_holdsOthers := goodIn_r _ [9] rfl (by decide +kernel)
set_option maxRecDepth 20000 in
theorem gX1_loadNode_X1_holdsOthers : GoodIn wsX1_loadNode (va_wsS RX1 48 yX1_holdsOthers wsX1_holdsOthers) := goodIn_app (goodIn_of _ (by decide +kernel)) ggX1_loadNode_X1_holdsOthers
set_option maxRecDepth 20000 in
theorem ggX1_loadNode_X1_make : GoodIn wsX1_loadNode wsX1_make := goodIn_r _ [13, 14, 3, 15, 16, 17, 18, 26, 27, 28, 29, 30, 31, 32] rfl (by decide +kernel)
set_option maxRecDepth 20000 in
theorem gX1_loadNode_X1_make : GoodIn wsX1_loadNode (wsV RX1 52 RX1 yX1_make wsX1_make) := goodIn_app (goodIn_of _ (by decide +kernel)) ggX1_loadNode_X1_make
set_option maxRecDepth 20000 in
theorem ggX1_loadNode_X1_loadNode : GoodIn wsX1_loadNode wsX1_loadNode := goodIn_r _ [0, 1, 2, 3, 4, 5, 6, 7, 8, 9, 10, 11, 12, 13, 14, 15, 16, 17, 18, 19, 20, 21, 22, 23, 24, 25, 26, 27, 28, 29, 30, 31, 32, 33, 34, 35, 36, 37, 38, 39, 40, 41, 42, 43, 44, 45, 46, 47, 48] rfl (by decide +kernel)
set_option maxRecDepth 20000 in
theorem gX1_loadNode_X1_loadNode : GoodIn wsX1_loadNode (wsV RX1 78 RX1 yX1_loadNode wsX1_loadNode) := goodIn_app (goodIn_of _ (by decide +kernel)) ggX1_loadNode_X1_loadNode
set_option maxRecDepth 20000 in
theorem ggX1_loadNode_X1_prepend : GoodIn wsX1_loadNode wsX1_prepend := goodIn_r _ [25, 18, 17, 16, 26, 27, 28, 29, 30, 31, 32] rfl (by decide +kernel)
set_option maxRecDepth 20000 in
theorem gX1_loadNode_X1_prepend : GoodIn wsX1_loadNode (wsV RX1 82 RX1 yX1_prepend wsX1_prepend) := goodIn_app (goodIn_of _ (by decide +kernel)) ggX1_loadNode_X1_prepend
set_option maxRecDepth 20000 in
theorem ggX2_open_X2_ask : GoodIn wsX2_open wsX2_ask := goodIn_r _ [8, 1, 9, 10, 11, 12, 13, 14, 15, 16, 17, 18, 19, 20, 21, 22, 23, 24, 25, 26, 27, 28, 29, 30, 31, 32, 33, 34, 35, 36, 37, 38, 39, 40, 41, 42, 43, 44, 45, 46, 47, 48, 49, 50, 51, 52, 53, 54, 55, 56, 57, 58, 59, 60, 61, 62, 63, 64, 65, 66, 67, 68, 69, 70, 71, 72, 73, 74, 75, 95, 96, 97, 98, 99, 100, 101, 102, 103, 104, 105, 106, 107, 108, 109, 110, 111, 112, 113, 114, 115, 116, 117] rfl (by decide +kernel)
set_option maxRecDepth 20000 in
theorem gX2_open_X2_ask : GoodIn wsX2_open (wsV RX2 56 RX2 yX2_ask wsX2_ask) := goodIn_app (goodIn_of _ (by decide +kernel)) ggX2_open_X2_ask
set_option maxRecDepth 20000 in
theorem ggX2_ask_X7_findAccount : GoodIn wsX2_ask wsX7_findAccount := goodIn_r _ [17, 18, 19, 69, 70, 71, 72, 73, 74, 75, 76, 77, 78, 79, 80, 81, 82, 83, 84] rfl (by decide +kernel)
set_option maxRecDepth 20000 in
theorem gX2_ask_X7_findAccount : GoodIn wsX2_ask (wsV RX2 62 RX7 yX7_findAccount wsX7_findAccount) := goodIn_app (goodIn_of _ (by decide +kernel)) ggX2_ask_X7_findAccount
set_option maxRecDepth 20000 in
theorem ggX2_ask_X7_findResource : GoodIn wsX2_ask wsX7_findResource := goodIn_r _ [23, 24, 25, 26, 27, 69, 70, 71, 72, 73, 74, 75, 76, 77, 78, 79, 80, 81, 82, 83, 84] rfl (by decide +kernel)
set_option maxRecDepth 20000 in
theorem gX2_ask_X7_findResource : GoodIn wsX2_ask (wsV RX2 69 RX7 yX7_findResource wsX7_findResource) := goodIn_app (goodIn_of _ (by decide +kernel)) ggX2_ask_X7_findResource
set_option maxRecDepth 20000 in
theorem ggX2_ask_X1_load : GoodIn wsX2_ask wsX1_load := goodIn_r _ [32, 33, 34, 35, 36, 31, 37, 38, 39, 40, 41, 42, 43, 44, 45, 46, 47, 48, 49, 50, 51, 52, 53, 54, 55, 56, 57, 85, 86, 87, 88, 89, 90, 91, 69, 70, 71, 72, 73, 74, 75, 76, 77, 78, 79, 80, 81, 82, 83, 84] rfl (by decide +kernel)
set_option maxRecDepth 20000 in
theorem gX2_ask_X1_load : GoodIn wsX2_ask (wsV RX2 73 RX1 yX1_load wsX1_load) := goodIn_app (goodIn_of _ (by decide +kernel)) ggX2_ask_X1_load
set_option maxRecDepth 20000 in
theorem ggX2_fits_X7_placeCount : GoodIn wsX2_fits wsX7_placeCount := goodIn_r _ [12, 13, 14, 15, 43, 44, 45, 46, 47, 48, 49, 50, 51, 52, 53, 54, 55, 56, 57, 58] rfl (by decide +kernel)
set_option maxRecDepth 20000 in
theorem gX2_fits_X7_placeCount : GoodIn wsX2_fits (wsV RX2 79 RX7 yX7_placeCount wsX7_placeCount) := goodIn_app (goodIn_of _ (by decide +kernel)) ggX2_fits_X7_placeCount
set_option maxRecDepth 20000 in
theorem ggX2_fits_X1_sizeOf : GoodIn wsX2_fits wsX1_sizeOf := goodIn_r _ [20, 21, 22, 23, 19, 24, 25, 26, 27, 28, 29, 30, 31, 59, 60, 61, 62, 63, 64, 65] rfl (by decide +kernel)
set_option maxRecDepth 20000 in
theorem gX2_fits_X1_sizeOf : GoodIn wsX2_fits (wsV RX2 83 RX1 yX1_sizeOf wsX1_sizeOf) := goodIn_app (goodIn_of _ (by decide +kernel)) ggX2_fits_X1_sizeOf
set_option maxRecDepth 20000 in
theorem ggX2_commit_X7_removeResource : GoodIn wsX2_commit wsX7_removeResource := goodIn_r _ [15, 16, 17, 18, 19, 20, 14, 21, 22, 23, 24, 92, 93, 94, 95, 96, 97, 98, 99, 100, 101, 102, 103, 104, 105, 106, 107] rfl (by decide +kernel)
set_option maxRecDepth 20000 in
theorem gX2_commit_X7_removeResource : GoodIn wsX2_commit (wsV RX2 87 RX7 yX7_removeResource wsX7_removeResource) := goodIn_app (goodIn_of _ (by decide +kernel)) ggX2_commit_X7_removeResource
set_option maxRecDepth 20000 in
theorem ggX2_commit_X7_findAccount : GoodIn wsX2_commit wsX7_findAccount := goodIn_r _ [28, 29, 30, 92, 93, 94, 95, 96, 97, 98, 99, 100, 101, 102, 103, 104, 105, 106, 107] rfl (by decide +kernel)
set_option maxRecDepth 20000 in
theorem gX2_commit_X7_findAccount : GoodIn wsX2_commit (wsV RX2 62 RX7 yX7_findAccount wsX7_findAccount) := goodIn_app (goodIn_of _ (by decide +kernel)) ggX2_commit_X7_findAccount
set_option maxRecDepth 20000 in
theorem ggX2_commit_X7_openAccount : GoodIn wsX2_commit wsX7_openAccount := goodIn_r _ [34, 29, 35, 36, 37, 38, 30, 39, 40, 92, 93, 94, 95, 96, 97, 98, 99, 100, 101, 102, 103, 104, 105, 106, 107] rfl (by decide +kernel)
set_option maxRecDepth 20000 in
theorem gX2_commit_X7_openAccount : GoodIn wsX2_commit (wsV RX2 91 RX7 yX7_openAccount wsX7_openAccount) := goodIn_app (goodIn_of _ (by decide +kernel)) ggX2_commit_X7_openAccount
set_option maxRecDepth 20000 in
theorem ggX2_commit_X2_storeResource : GoodIn wsX2_commit wsX2_storeResource := goodIn_r _ [45, 5, 6, 7, 8, 46, 47, 48, 49, 50, 51, 14, 52, 22, 23, 24, 17, 18, 19, 20, 21, 16, 53, 54, 55, 56, 57, 58, 59, 60, 61, 62, 63, 64, 65, 66, 67, 68, 69, 70, 71, 72, 73, 74, 75, 76, 77, 78, 79, 80, 81, 82, 83, 84, 85, 86, 87, 88, 89, 90, 91, 92, 93, 94, 95, 96, 97, 98, 99, 100, 101, 102, 103, 104, 105, 106, 107, 108, 109, 110, 111, 112, 113, 114] rfl (by decide +kernel)
set_option maxRecDepth 20000 in
theorem gX2_commit_X2_storeResource : GoodIn wsX2_commit (wsV RX2 94 RX2 yX2_storeResource wsX2_storeResource) := goodIn_app (goodIn_of _ (by decide +kernel)) ggX2_commit_X2_storeResource
set_option maxRecDepth 20000 in
theorem ggX2_storeResource_X7_slotFor : GoodIn wsX2_storeResource wsX7_slotFor := goodIn_r _ [12, 13, 14, 15, 16, 17, 18, 19, 11, 20, 21, 22, 23, 24, 25, 61, 62, 63, 64, 65, 66, 67, 68, 69, 70, 71, 72, 73, 74, 75, 76] rfl (by decide +kernel)
set_option maxRecDepth 20000 in
theorem gX2_storeResource_X7_slotFor : GoodIn wsX2_storeResource (wsV RX2 98 RX7 yX7_slotFor wsX7_slotFor) := goodIn_app (goodIn_of _ (by decide +kernel)) ggX2_storeResource_X7_slotFor
set_option maxRecDepth 20000 in
theorem ggX2_storeResource_X1_store : GoodIn wsX2_storeResource wsX1_store := goodIn_r _ [30, 31, 32, 33, 29, 34, 35, 36, 37, 38, 39, 40, 41, 42, 43, 44, 45, 46, 47, 48, 49, 61, 62, 63, 64, 65, 66, 67, 68, 69, 70, 71, 72, 73, 74, 75, 76, 77, 78, 79, 80, 81, 82, 83] rfl (by decide +kernel)
set_option maxRecDepth 20000 in
theorem gX2_storeResource_X1_store : GoodIn wsX2_storeResource (wsV RX2 104 RX1 yX1_store wsX1_store) := goodIn_app (goodIn_of _ (by decide +kernel)) ggX2_storeResource_X1_store
set_option maxRecDepth 20000 in
theorem ggX3_look_X3_prepare : GoodIn wsX3_look wsX3_prepare := goodIn_r _ [10, 11, 1, 12, 13, 14, 15, 16, 17, 18, 19, 20, 21, 22, 23, 24, 25, 26, 27, 28, 29, 30, 31, 32, 33, 34, 35, 36, 37, 38, 39, 40, 41, 42, 43, 44, 45, 46, 47, 48, 49, 50, 51, 52, 53, 54, 55, 56, 57, 58, 59, 60, 61, 62, 63, 64, 65, 66, 67, 68, 69, 70, 71, 72, 73, 74, 75, 76, 77, 78, 79, 80, 81, 82, 83, 84, 85, 86, 87, 88, 89, 90, 91, 92, 93, 94, 95, 96, 97, 98, 99, 100, 101, 102, 103, 104, 105, 106, 107, 108, 9, 109, 110, 111, 112, 113, 114, 115, 116, 117, 118, 119, 120, 121, 2, 284, 285, 286, 287, 288, 289, 290, 291, 292, 293, 294, 295, 296, 297, 298, 299, 300, 301, 302, 303, 304, 305, 306, 307, 308, 309, 310, 311, 312, 313, 314, 315, 316, 317, 318, 319, 320] rfl (by decide +kernel)
set_option maxRecDepth 20000 in
theorem gX3_look_X3_prepare : GoodIn wsX3_look (wsV RX3 60 RX3 yX3_prepare wsX3_prepare) := goodIn_app (goodIn_of _ (by decide +kernel)) ggX3_look_X3_prepare
set_option maxRecDepth 20000 in
theorem ggX3_look_X5_instructions : GoodIn wsX3_look wsX5_instructions := goodIn_r _ [29, 30, 31, 32, 28, 33, 34, 35, 36, 306, 307, 308, 309, 310, 311, 312, 313, 314, 315, 316, 317, 318, 319, 320] rfl (by decide +kernel)
set_option maxRecDepth 20000 in
theorem gX3_look_X5_instructions : GoodIn wsX3_look (wsV RX3 67 RX5 yX5_instructions wsX5_instructions) := goodIn_app (goodIn_of _ (by decide +kernel)) ggX3_look_X5_instructions
set_option maxRecDepth 20000 in
theorem ggX3_look_X3_arrive : GoodIn wsX3_look wsX3_arrive := goodIn_r _ [125, 16, 5, 17, 24, 18, 110, 20, 111, 19, 112, 23, 113, 114, 115, 116, 118, 119, 120, 9, 121, 2, 284, 285, 286, 287, 288, 289, 290, 291, 292, 293, 294, 295, 296, 297, 298, 299, 300, 301, 302, 303, 304, 305] rfl (by decide +kernel)
set_option maxRecDepth 20000 in
theorem gX3_look_X3_arrive : GoodIn wsX3_look (wsV RX3 71 RX3 yX3_arrive wsX3_arrive) := goodIn_app (goodIn_of _ (by decide +kernel)) ggX3_look_X3_arrive
set_option maxRecDepth 20000 in
theorem ggX3_look_X3_operate : GoodIn wsX3_look wsX3_operate := goodIn_r _ [129, 1, 11, 5, 12, 13, 14, 15, 2, 37, 38, 39, 28, 40, 41, 42, 30, 31, 32, 33, 34, 35, 36, 53, 48, 49, 50, 51, 52, 130, 131, 132, 9, 133, 18, 134, 135, 136, 20, 21, 117, 137, 78, 79, 80, 138, 82, 83, 84, 62, 55, 56, 57, 71, 72, 73, 74, 75, 76, 118, 119, 120, 121, 139, 140, 141, 142, 143, 144, 145, 146, 147, 148, 149, 150, 151, 152, 153, 154, 91, 92, 93, 94, 88, 89, 90, 95, 96, 97, 98, 99, 100, 101, 102, 103, 104, 105, 155, 156, 157, 158, 159, 160, 161, 162, 163, 164, 165, 166, 167, 168, 169, 170, 171, 172, 173, 174, 175, 176, 177, 22, 23, 19, 85, 86, 87, 178, 179, 180, 181, 182, 183, 184, 185, 186, 187, 188, 189, 190, 191, 192, 193, 194, 195, 196, 197, 198, 199, 200, 201, 202, 203, 204, 205, 206, 207, 208, 209, 210, 211, 212, 213, 214, 215, 216, 217, 218, 219, 220, 221, 222, 223, 224, 225, 226, 227, 228, 229, 230, 231, 232, 233, 234, 235, 236, 237, 238, 239, 240, 241, 242, 54, 243, 68, 69, 70, 244, 245, 246, 247, 248, 249, 250, 251, 252, 253, 254, 255, 256, 257, 258, 259, 260, 261, 262, 263, 264, 265, 266, 267, 268, 269, 270, 271, 43, 44, 45, 46, 47, 272, 273, 274, 275, 24, 276, 277, 278, 279, 16, 106, 107, 108, 109, 17, 110, 111, 112, 113, 114, 115, 116, 280, 281, 282, 283, 25, 26, 27, 29, 284, 285, 286, 287, 288, 289, 290, 291, 292, 293, 294, 295, 296, 297, 298, 299, 300, 301, 302, 303, 304, 305, 306, 307, 308, 309, 310, 311, 312, 313, 314, 315, 316, 317, 318, 319, 320] rfl (by decide +kernel)
set_option maxRecDepth 20000 in
theorem gX3_look_X3_operate : GoodIn wsX3_look (wsV RX3 74 RX3 yX3_operate wsX3_operate) := goodIn_app (goodIn_of _ (by decide +kernel)) ggX3_look_X3_operate
set_option maxRecDepth 20000 in
theorem ggX3_prepare_X5_instructions : GoodIn wsX3_prepare wsX5_instructions := goodIn_r _ [20, 21, 22, 23, 19, 24, 25, 26, 27, 137, 138, 139, 140, 141, 142, 143, 144, 145, 146, 147, 148, 149, 150, 151] rfl (by decide +kernel)
set_option maxRecDepth 20000 in
theorem gX3_prepare_X5_instructions : GoodIn wsX3_prepare (wsV RX3 67 RX5 yX5_instructions wsX5_instructions) := goodIn_app (goodIn_of _ (by decide +kernel)) ggX3_prepare_X5_instructions
set_option maxRecDepth 20000 in
theorem ggX3_prepare_X5_instructionPlace : GoodIn wsX3_prepare wsX5_instructionPlace := goodIn_r _ [31, 32, 33, 21, 22, 23, 19, 24, 25, 26, 27, 137, 138, 139, 140, 141, 142, 143, 144, 145, 146, 147, 148, 149, 150, 151] rfl (by decide +kernel)
set_option maxRecDepth 20000 in
theorem gX3_prepare_X5_instructionPlace : GoodIn wsX3_prepare (wsV RX3 86 RX5 yX5_instructionPlace wsX5_instructionPlace) := goodIn_app (goodIn_of _ (by decide +kernel)) ggX3_prepare_X5_instructionPlace
set_option maxRecDepth 20000 in
theorem ggX3_prepare_X5_numberAt : GoodIn wsX3_prepare wsX5_numberAt := goodIn_r _ [37, 38, 39, 40, 19, 41, 42, 43, 137, 138, 139, 140, 141, 142, 143, 144, 145, 146, 147, 148, 149, 150, 151] rfl (by decide +kernel)
set_option maxRecDepth 20000 in
theorem gX3_prepare_X5_numberAt : GoodIn wsX3_prepare (wsV RX3 89 RX5 yX5_numberAt wsX5_numberAt) := goodIn_app (goodIn_of _ (by decide +kernel)) ggX3_prepare_X5_numberAt
set_option maxRecDepth 20000 in
theorem ggX3_prepare_X5_at : GoodIn wsX3_prepare wsX5_at := goodIn_r _ [41, 42, 43, 137, 138, 139, 140, 141, 142, 143, 144, 145, 146, 147, 148, 149, 150, 151] rfl (by decide +kernel)
set_option maxRecDepth 20000 in
theorem gX3_prepare_X5_at : GoodIn wsX3_prepare (wsV RX3 93 RX5 yX5_at wsX5_at) := goodIn_app (goodIn_of _ (by decide +kernel)) ggX3_prepare_X5_at
set_option maxRecDepth 20000 in
theorem ggX3_prepare_X5_takes : GoodIn wsX3_prepare wsX5_takes := goodIn_r _ [48, 21, 22, 23, 19, 24, 25, 26, 27, 137, 138, 139, 140, 141, 142, 143, 144, 145, 146, 147, 148, 149, 150, 151] rfl (by decide +kernel)
set_option maxRecDepth 20000 in
theorem gX3_prepare_X5_takes : GoodIn wsX3_prepare (wsV RX3 102 RX5 yX5_takes wsX5_takes) := goodIn_app (goodIn_of _ (by decide +kernel)) ggX3_prepare_X5_takes
set_option maxRecDepth 20000 in
theorem ggX3_prepare_X5_localCount : GoodIn wsX3_prepare wsX5_localCount := goodIn_r _ [52, 53, 46, 47, 19, 48, 21, 22, 23, 24, 25, 26, 27, 137, 138, 139, 140, 141, 142, 143, 144, 145, 146, 147, 148, 149, 150, 151] rfl (by decide +kernel)
set_option maxRecDepth 20000 in
theorem gX3_prepare_X5_localCount : GoodIn wsX3_prepare (wsV RX3 111 RX5 yX5_localCount wsX5_localCount) := goodIn_app (goodIn_of _ (by decide +kernel)) ggX3_prepare_X5_localCount
set_option maxRecDepth 20000 in
theorem ggX3_prepare_X5_localType : GoodIn wsX3_prepare wsX5_localType := goodIn_r _ [57, 53, 46, 47, 19, 48, 21, 22, 23, 24, 25, 26, 27, 58, 59, 60, 61, 62, 63, 64, 65, 66, 67, 68, 69, 70, 71, 72, 73, 74, 75, 137, 138, 139, 140, 141, 142, 143, 144, 145, 146, 147, 148, 149, 150, 151] rfl (by decide +kernel)
set_option maxRecDepth 20000 in
theorem gX3_prepare_X5_localType : GoodIn wsX3_prepare (wsV RX3 114 RX5 yX5_localType wsX5_localType) := goodIn_app (goodIn_of _ (by decide +kernel)) ggX3_prepare_X5_localType
set_option maxRecDepth 20000 in
theorem ggX3_prepare_X5_isReference : GoodIn wsX3_prepare wsX5_isReference := goodIn_r _ [78, 79, 80, 19, 81] rfl (by decide +kernel)
set_option maxRecDepth 20000 in
theorem gX3_prepare_X5_isReference : GoodIn wsX3_prepare (va_wsS RX3 116 yX5_isReference wsX5_isReference) := goodIn_app (goodIn_of _ (by decide +kernel)) ggX3_prepare_X5_isReference
set_option maxRecDepth 20000 in
theorem ggX3_prepare_X5_abilities : GoodIn wsX3_prepare wsX5_abilities := goodIn_r _ [85, 79, 80, 19, 81, 86, 87, 88, 89, 90, 91, 92, 93, 94, 95, 96, 137, 138, 139, 140, 141, 142, 143, 144, 145, 146, 147, 148, 149, 150, 151] rfl (by decide +kernel)
set_option maxRecDepth 20000 in
theorem gX3_prepare_X5_abilities : GoodIn wsX3_prepare (wsV RX3 120 RX5 yX5_abilities wsX5_abilities) := goodIn_app (goodIn_of _ (by decide +kernel)) ggX3_prepare_X5_abilities
set_option maxRecDepth 20000 in
theorem ggX3_prepare_X3_join : GoodIn wsX3_prepare wsX3_join := goodIn_r _ [101, 8, 102, 11, 103, 10, 14, 104, 105, 106, 107, 108, 12, 109, 110, 111, 112, 100, 113, 114, 115, 116, 117, 118, 119, 120, 121, 122, 123, 124, 125, 126, 127, 128, 129, 130, 131, 132, 133, 134, 135, 136] rfl (by decide +kernel)
set_option maxRecDepth 20000 in
theorem gX3_prepare_X3_join : GoodIn wsX3_prepare (wsV RX3 128 RX3 yX3_join wsX3_join) := goodIn_app (goodIn_of _ (by decide +kernel)) ggX3_prepare_X3_join
set_option maxRecDepth 20000 in
theorem ggX3_arrive_X3_fail : GoodIn wsX3_arrive wsX3_fail := goodIn_r _ [20, 21, 22, 23, 24, 25, 26, 27, 28, 29, 30, 31, 32, 33, 34, 35, 36, 37, 38, 39, 40, 41, 42, 43] rfl (by decide +kernel)
set_option maxRecDepth 20000 in
theorem gX3_arrive_X3_fail : GoodIn wsX3_arrive (wsV RX3 131 RX3 yX3_fail wsX3_fail) := goodIn_app (goodIn_of _ (by decide +kernel)) ggX3_arrive_X3_fail
set_option maxRecDepth 20000 in
theorem ggX3_operate_X5_instructionPlace : GoodIn wsX3_operate wsX5_instructionPlace := goodIn_r _ [13, 14, 15, 16, 17, 18, 12, 19, 20, 21, 22, 281, 282, 283, 284, 285, 286, 287, 288, 289, 290, 291, 292, 293, 294, 295] rfl (by decide +kernel)
set_option maxRecDepth 20000 in
theorem gX3_operate_X5_instructionPlace : GoodIn wsX3_operate (wsV RX3 86 RX5 yX5_instructionPlace wsX5_instructionPlace) := goodIn_app (goodIn_of _ (by decide +kernel)) ggX3_operate_X5_instructionPlace
set_option maxRecDepth 20000 in
theorem ggX3_operate_X5_at : GoodIn wsX3_operate wsX5_at := goodIn_r _ [26, 27, 28, 281, 282, 283, 284, 285, 286, 287, 288, 289, 290, 291, 292, 293, 294, 295] rfl (by decide +kernel)
set_option maxRecDepth 20000 in
theorem gX3_operate_X5_at : GoodIn wsX3_operate (wsV RX3 93 RX5 yX5_at wsX5_at) := goodIn_app (goodIn_of _ (by decide +kernel)) ggX3_operate_X5_at
set_option maxRecDepth 20000 in
theorem ggX3_operate_X3_giveBack : GoodIn wsX3_operate wsX3_giveBack := goodIn_r _ [33, 34, 1, 2, 35, 36, 37, 38, 39, 40, 41, 42, 43, 12, 44, 16, 17, 18, 19, 20, 21, 22, 45, 46, 47, 48, 49, 50, 51, 52, 53, 54, 55, 56, 57, 58, 59, 60, 61, 32, 62, 8, 259, 260, 261, 262, 263, 264, 265, 266, 267, 268, 269, 270, 271, 272, 273, 274, 275, 276, 277, 278, 279, 280, 281, 282, 283, 284, 285, 286, 287, 288, 289, 290, 291, 292, 293, 294, 295] rfl (by decide +kernel)
set_option maxRecDepth 20000 in
theorem gX3_operate_X3_giveBack : GoodIn wsX3_operate (wsV RX3 140 RX3 yX3_giveBack wsX3_giveBack) := goodIn_app (goodIn_of _ (by decide +kernel)) ggX3_operate_X3_giveBack
set_option maxRecDepth 20000 in
theorem ggX3_operate_X3_steer : GoodIn wsX3_operate wsX3_steer := goodIn_r _ [66, 67, 34, 68, 69, 70, 32, 71, 36, 72, 73, 74, 35, 59, 60, 61, 62, 8, 75, 76, 77, 78, 1, 79, 80, 81, 12, 82, 83, 84, 85, 86, 87, 88, 89, 90, 91, 92, 93, 94, 95, 96, 97, 98, 99, 100, 259, 260, 261, 262, 263, 264, 265, 266, 267, 268, 269, 270, 271, 272, 273, 274, 275, 276, 277, 278, 279, 280, 281, 282, 283, 284, 285, 286, 287, 288, 289, 290, 291, 292, 293, 294, 295] rfl (by decide +kernel)
set_option maxRecDepth 20000 in
theorem gX3_operate_X3_steer : GoodIn wsX3_operate (wsV RX3 143 RX3 yX3_steer wsX3_steer) := goodIn_app (goodIn_of _ (by decide +kernel)) ggX3_operate_X3_steer
set_option maxRecDepth 20000 in
theorem ggX3_operate_X3_set : GoodIn wsX3_operate wsX3_set := goodIn_r _ [104, 105, 67, 106, 107, 108, 109, 110, 32, 111, 112, 113, 114, 115, 34, 35, 36, 73, 59, 60, 61, 62, 8, 259, 260, 261, 262, 263, 264, 265, 266, 267, 268, 269, 270, 271, 272, 273, 274, 275, 276, 277, 278, 279, 280] rfl (by decide +kernel)
set_option maxRecDepth 20000 in
theorem gX3_operate_X3_set : GoodIn wsX3_operate (wsV RX3 146 RX3 yX3_set wsX3_set) := goodIn_app (goodIn_of _ (by decide +kernel)) ggX3_operate_X3_set
set_option maxRecDepth 20000 in
theorem ggX3_operate_X3_useLocal : GoodIn wsX3_operate wsX3_useLocal := goodIn_r _ [119, 120, 8, 72, 74, 38, 121, 122, 40, 123, 124, 12, 125, 83, 84, 85, 97, 98, 99, 32, 100, 68, 69, 70, 71, 34, 36, 73, 35, 59, 60, 61, 62, 126, 127, 128, 129, 75, 76, 77, 78, 1, 79, 80, 81, 82, 86, 87, 88, 89, 90, 91, 92, 93, 94, 95, 96, 130, 131, 132, 133, 134, 135, 136, 137, 138, 139, 140, 141, 112, 113, 114, 115, 259, 260, 261, 262, 263, 264, 265, 266, 267, 268, 269, 270, 271, 272, 273, 274, 275, 276, 277, 278, 279, 280, 281, 282, 283, 284, 285, 286, 287, 288, 289, 290, 291, 292, 293, 294, 295] rfl (by decide +kernel)
set_option maxRecDepth 20000 in
theorem gX3_operate_X3_useLocal : GoodIn wsX3_operate (wsV RX3 149 RX3 yX3_useLocal wsX3_useLocal) := goodIn_app (goodIn_of _ (by decide +kernel)) ggX3_operate_X3_useLocal
set_option maxRecDepth 20000 in
theorem ggX3_operate_X3_borrowLocal : GoodIn wsX3_operate wsX3_borrowLocal := goodIn_r _ [145, 120, 126, 127, 128, 32, 129, 38, 59, 60, 61, 62, 8, 123, 124, 12, 125, 83, 84, 85, 130, 131, 132, 133, 34, 36, 35, 121, 134, 135, 136, 137, 146, 147, 148, 149, 150, 151, 112, 113, 114, 115, 73, 259, 260, 261, 262, 263, 264, 265, 266, 267, 268, 269, 270, 271, 272, 273, 274, 275, 276, 277, 278, 279, 280] rfl (by decide +kernel)
set_option maxRecDepth 20000 in
theorem gX3_operate_X3_borrowLocal : GoodIn wsX3_operate (wsV RX3 153 RX3 yX3_borrowLocal wsX3_borrowLocal) := goodIn_app (goodIn_of _ (by decide +kernel)) ggX3_operate_X3_borrowLocal
set_option maxRecDepth 20000 in
theorem ggX3_operate_X3_refer : GoodIn wsX3_operate wsX3_refer := goodIn_r _ [155, 1, 72, 74, 156, 157, 12, 158, 159, 160, 161, 32, 162, 68, 69, 70, 71, 34, 36, 73, 35, 59, 60, 61, 62, 8, 123, 124, 125, 83, 84, 85, 163, 164, 165, 149, 150, 151, 134, 135, 136, 137, 166, 167, 168, 169, 91, 92, 93, 94, 95, 96, 53, 54, 55, 56, 57, 58, 146, 147, 148, 112, 113, 114, 115, 170, 171, 172, 173, 75, 76, 77, 78, 79, 80, 81, 82, 86, 87, 88, 89, 90, 108, 109, 110, 111, 97, 98, 99, 100, 174, 175, 176, 177, 121, 122, 120, 259, 260, 261, 262, 263, 264, 265, 266, 267, 268, 269, 270, 271, 272, 273, 274, 275, 276, 277, 278, 279, 280, 281, 282, 283, 284, 285, 286, 287, 288, 289, 290, 291, 292, 293, 294, 295] rfl (by decide +kernel)
set_option maxRecDepth 20000 in
theorem gX3_operate_X3_refer : GoodIn wsX3_operate (wsV RX3 157 RX3 yX3_refer wsX3_refer) := goodIn_app (goodIn_of _ (by decide +kernel)) ggX3_operate_X3_refer
set_option maxRecDepth 20000 in
theorem ggX3_operate_X3_pack : GoodIn wsX3_operate wsX3_pack := goodIn_r _ [181, 1, 182, 183, 184, 12, 185, 91, 92, 93, 94, 95, 96, 166, 167, 168, 169, 53, 54, 55, 56, 57, 58, 97, 98, 99, 32, 100, 68, 69, 70, 71, 34, 36, 72, 73, 74, 35, 59, 60, 61, 62, 8, 156, 157, 158, 108, 109, 110, 111, 112, 113, 114, 115, 259, 260, 261, 262, 263, 264, 265, 266, 267, 268, 269, 270, 271, 272, 273, 274, 275, 276, 277, 278, 279, 280, 281, 282, 283, 284, 285, 286, 287, 288, 289, 290, 291, 292, 293, 294, 295] rfl (by decide +kernel)
set_option maxRecDepth 20000 in
theorem gX3_operate_X3_pack : GoodIn wsX3_operate (wsV RX3 161 RX3 yX3_pack wsX3_pack) := goodIn_app (goodIn_of _ (by decide +kernel)) ggX3_operate_X3_pack
set_option maxRecDepth 20000 in
theorem ggX3_operate_X3_enter : GoodIn wsX3_operate wsX3_enter := goodIn_r _ [189, 1, 8, 2, 34, 35, 36, 190, 191, 50, 51, 12, 52, 16, 17, 18, 19, 20, 21, 22, 192, 193, 194, 195, 53, 54, 55, 56, 57, 58, 97, 98, 99, 32, 100, 68, 69, 70, 71, 72, 73, 74, 59, 60, 61, 62, 196, 197, 198, 199, 134, 135, 136, 137, 84, 85, 174, 175, 176, 177, 121, 122, 120, 200, 201, 202, 203, 130, 131, 132, 133, 41, 42, 43, 44, 45, 46, 47, 48, 49, 123, 124, 125, 83, 112, 113, 114, 115, 259, 260, 261, 262, 263, 264, 265, 266, 267, 268, 269, 270, 271, 272, 273, 274, 275, 276, 277, 278, 279, 280, 281, 282, 283, 284, 285, 286, 287, 288, 289, 290, 291, 292, 293, 294, 295] rfl (by decide +kernel)
set_option maxRecDepth 20000 in
theorem gX3_operate_X3_enter : GoodIn wsX3_operate (wsV RX3 164 RX3 yX3_enter wsX3_enter) := goodIn_app (goodIn_of _ (by decide +kernel)) ggX3_operate_X3_enter
set_option maxRecDepth 20000 in
theorem ggX3_operate_X3_reckon : GoodIn wsX3_operate wsX3_reckon := goodIn_r _ [207, 105, 97, 98, 99, 32, 100, 68, 69, 70, 71, 34, 36, 72, 73, 74, 35, 59, 60, 61, 62, 8, 208, 209, 210, 106, 123, 124, 12, 125, 83, 84, 85, 75, 76, 77, 78, 1, 79, 80, 81, 82, 86, 87, 88, 89, 90, 91, 92, 93, 94, 95, 96, 108, 109, 110, 111, 112, 113, 114, 115, 259, 260, 261, 262, 263, 264, 265, 266, 267, 268, 269, 270, 271, 272, 273, 274, 275, 276, 277, 278, 279, 280, 281, 282, 283, 284, 285, 286, 287, 288, 289, 290, 291, 292, 293, 294, 295] rfl (by decide +kernel)
set_option maxRecDepth 20000 in
theorem gX3_operate_X3_reckon : GoodIn wsX3_operate (wsV RX3 167 RX3 yX3_reckon wsX3_reckon) := goodIn_app (goodIn_of _ (by decide +kernel)) ggX3_operate_X3_reckon
set_option maxRecDepth 20000 in
theorem ggX3_operate_X3_keep : GoodIn wsX3_operate wsX3_keep := goodIn_r _ [214, 107, 1, 2, 156, 157, 12, 158, 97, 98, 99, 32, 100, 68, 69, 70, 71, 34, 36, 72, 73, 74, 35, 59, 60, 61, 62, 8, 196, 197, 198, 199, 16, 17, 18, 19, 20, 21, 22, 75, 76, 77, 78, 79, 80, 81, 82, 83, 84, 85, 86, 87, 88, 89, 90, 91, 92, 93, 94, 95, 96, 130, 131, 132, 133, 121, 120, 134, 135, 136, 137, 108, 109, 110, 111, 112, 113, 114, 115, 146, 147, 148, 149, 150, 151, 259, 260, 261, 262, 263, 264, 265, 266, 267, 268, 269, 270, 271, 272, 273, 274, 275, 276, 277, 278, 279, 280, 281, 282, 283, 284, 285, 286, 287, 288, 289, 290, 291, 292, 293, 294, 295] rfl (by decide +kernel)
set_option maxRecDepth 20000 in
theorem gX3_operate_X3_keep : GoodIn wsX3_operate (wsV RX3 170 RX3 yX3_keep wsX3_keep) := goodIn_app (goodIn_of _ (by decide +kernel)) ggX3_operate_X3_keep
set_option maxRecDepth 20000 in
theorem ggX3_operate_X3_lineUp : GoodIn wsX3_operate wsX3_lineUp := goodIn_r _ [218, 1, 105, 67, 72, 219, 220, 221, 12, 222, 223, 53, 54, 55, 56, 57, 58, 146, 147, 148, 149, 150, 151, 97, 98, 99, 32, 100, 68, 69, 70, 71, 34, 36, 73, 74, 35, 59, 60, 61, 62, 8, 108, 109, 110, 111, 112, 113, 114, 115, 159, 160, 161, 162, 123, 124, 125, 83, 84, 85, 163, 164, 165, 134, 135, 136, 137, 174, 175, 176, 177, 121, 122, 120, 259, 260, 261, 262, 263, 264, 265, 266, 267, 268, 269, 270, 271, 272, 273, 274, 275, 276, 277, 278, 279, 280, 281, 282, 283, 284, 285, 286, 287, 288, 289, 290, 291, 292, 293, 294, 295] rfl (by decide +kernel)
set_option maxRecDepth 20000 in
theorem gX3_operate_X3_lineUp : GoodIn wsX3_operate (wsV RX3 173 RX3 yX3_lineUp wsX3_lineUp) := goodIn_app (goodIn_of _ (by decide +kernel)) ggX3_operate_X3_lineUp
set_option maxRecDepth 20000 in
theorem ggX3_operate_X5_numberAt : GoodIn wsX3_operate wsX5_numberAt := goodIn_r _ [227, 228, 24, 25, 12, 26, 27, 28, 281, 282, 283, 284, 285, 286, 287, 288, 289, 290, 291, 292, 293, 294, 295] rfl (by decide +kernel)
set_option maxRecDepth 20000 in
theorem gX3_operate_X5_numberAt : GoodIn wsX3_operate (wsV RX3 89 RX5 yX5_numberAt wsX5_numberAt) := goodIn_app (goodIn_of _ (by decide +kernel)) ggX3_operate_X5_numberAt
set_option maxRecDepth 20000 in
theorem ggX3_operate_X3_leave : GoodIn wsX3_operate wsX3_leave := goodIn_r _ [232, 233, 34, 3, 1, 2, 234, 235, 236, 32, 237, 238, 239, 240, 241, 242, 243, 244, 38, 245, 122, 121, 246, 247, 248, 249, 250, 39, 40, 59, 60, 61, 62, 8, 251, 252, 253, 254, 255, 256, 257, 12, 258, 16, 17, 18, 19, 20, 21, 22, 259, 260, 261, 262, 263, 264, 265, 266, 267, 268, 269, 270, 271, 272, 273, 274, 275, 276, 277, 278, 279, 280, 281, 282, 283, 284, 285, 286, 287, 288, 289, 290, 291, 292, 293, 294, 295] rfl (by decide +kernel)
set_option maxRecDepth 20000 in
theorem gX3_operate_X3_leave : GoodIn wsX3_operate (wsV RX3 176 RX3 yX3_leave wsX3_leave) := goodIn_app (goodIn_of _ (by decide +kernel)) ggX3_operate_X3_leave
set_option maxRecDepth 20000 in
theorem ggX3_leave_X3_come : GoodIn wsX3_leave wsX3_come := goodIn_r _ [10, 11, 3, 12, 13, 14, 9, 15, 16, 17, 18, 19, 20, 21, 22, 23, 24, 25, 26, 27, 28, 29, 30, 31, 32, 33, 34, 35, 36, 37, 50, 51, 52, 53, 54, 55, 56, 57, 58, 59, 60, 61, 62, 63, 64, 65, 66, 67, 68, 69, 70, 71] rfl (by decide +kernel)
set_option maxRecDepth 20000 in
theorem gX3_leave_X3_come : GoodIn wsX3_leave (wsV RX3 179 RX3 yX3_come wsX3_come) := goodIn_app (goodIn_of _ (by decide +kernel)) ggX3_leave_X3_come
set_option maxRecDepth 20000 in
theorem ggX3_leave_X5_instructions : GoodIn wsX3_leave wsX5_instructions := goodIn_r _ [42, 43, 44, 45, 41, 46, 47, 48, 49, 72, 73, 74, 75, 76, 77, 78, 79, 80, 81, 82, 83, 84, 85, 86] rfl (by decide +kernel)
set_option maxRecDepth 20000 in
theorem gX3_leave_X5_instructions : GoodIn wsX3_leave (wsV RX3 67 RX5 yX5_instructions wsX5_instructions) := goodIn_app (goodIn_of _ (by decide +kernel)) ggX3_leave_X5_instructions
set_option maxRecDepth 20000 in
theorem ggX3_leave_X3_fail : GoodIn wsX3_leave wsX3_fail := goodIn_r _ [32, 33, 50, 51, 52, 53, 54, 55, 56, 57, 58, 59, 60, 61, 62, 63, 64, 65, 66, 67, 68, 69, 70, 71] rfl (by decide +kernel)
set_option maxRecDepth 20000 in
theorem gX3_leave_X3_fail : GoodIn wsX3_leave (wsV RX3 131 RX3 yX3_fail wsX3_fail) := goodIn_app (goodIn_of _ (by decide +kernel)) ggX3_leave_X3_fail
set_option maxRecDepth 20000 in
theorem ggX3_come_X3_join : GoodIn wsX3_come wsX3_join := goodIn_r _ [7, 8, 9, 10, 11, 12, 13, 14, 15, 16, 17, 18, 19, 20, 21, 22, 23, 6, 24, 25, 30, 31, 32, 33, 34, 35, 36, 37, 38, 39, 40, 41, 42, 43, 44, 45, 46, 47, 48, 49, 50, 51] rfl (by decide +kernel)
set_option maxRecDepth 20000 in
theorem gX3_come_X3_join : GoodIn wsX3_come (wsV RX3 128 RX3 yX3_join wsX3_join) := goodIn_app (goodIn_of _ (by decide +kernel)) ggX3_come_X3_join
set_option maxRecDepth 20000 in
theorem ggX3_come_X3_comeBack : GoodIn wsX3_come wsX3_comeBack := goodIn_r _ [29, 9, 10, 20, 19, 12, 11, 13, 14, 21, 22, 23, 6, 24, 25, 30, 31, 32, 33, 34, 35, 36, 37, 38, 39, 40, 41, 42, 43, 44, 45, 46, 47, 48, 49, 50, 51] rfl (by decide +kernel)
set_option maxRecDepth 20000 in
theorem gX3_come_X3_comeBack : GoodIn wsX3_come (wsV RX3 182 RX3 yX3_comeBack wsX3_comeBack) := goodIn_app (goodIn_of _ (by decide +kernel)) ggX3_come_X3_comeBack
set_option maxRecDepth 20000 in
theorem ggX3_join_X3_fail : GoodIn wsX3_join wsX3_fail := goodIn_r _ [18, 19, 20, 21, 22, 23, 24, 25, 26, 27, 28, 29, 30, 31, 32, 33, 34, 35, 36, 37, 38, 39, 40, 41] rfl (by decide +kernel)
set_option maxRecDepth 20000 in
theorem gX3_join_X3_fail : GoodIn wsX3_join (wsV RX3 131 RX3 yX3_fail wsX3_fail) := goodIn_app (goodIn_of _ (by decide +kernel)) ggX3_join_X3_fail
set_option maxRecDepth 20000 in
theorem ggX3_comeBack_X3_fail : GoodIn wsX3_comeBack wsX3_fail := goodIn_r _ [13, 14, 15, 16, 17, 18, 19, 20, 21, 22, 23, 24, 25, 26, 27, 28, 29, 30, 31, 32, 33, 34, 35, 36] rfl (by decide +kernel)
set_option maxRecDepth 20000 in
theorem gX3_comeBack_X3_fail : GoodIn wsX3_comeBack (wsV RX3 131 RX3 yX3_fail wsX3_fail) := goodIn_app (goodIn_of _ (by decide +kernel)) ggX3_comeBack_X3_fail
set_option maxRecDepth 20000 in
theorem ggX3_has_X5_abilities : GoodIn wsX3_has wsX5_abilities := goodIn_r _ [6, 7, 8, 5, 9, 10, 11, 12, 13, 14, 15, 16, 17, 18, 19, 20, 43, 44, 45, 46, 47, 48, 49, 50, 51, 52, 53, 54, 55, 56, 57] rfl (by decide +kernel)
set_option maxRecDepth 20000 in
theorem gX3_has_X5_abilities : GoodIn wsX3_has (wsV RX3 120 RX5 yX5_abilities wsX5_abilities) := goodIn_app (goodIn_of _ (by decide +kernel)) ggX3_has_X5_abilities
set_option maxRecDepth 20000 in
theorem ggX3_writes_X5_head : GoodIn wsX3_writes wsX5_head := goodIn_r _ [4] rfl (by decide +kernel)
set_option maxRecDepth 20000 in
theorem gX3_writes_X5_head : GoodIn wsX3_writes (va_wsS RX3 187 yX5_head wsX5_head) := goodIn_app (goodIn_of _ (by decide +kernel)) ggX3_writes_X5_head
set_option maxRecDepth 20000 in
theorem ggX3_take_X3_fail : GoodIn wsX3_take wsX3_fail := goodIn_r _ [11, 12, 13, 14, 15, 16, 17, 18, 19, 20, 21, 22, 23, 24, 25, 26, 27, 28, 29, 30, 31, 32, 33, 34] rfl (by decide +kernel)
set_option maxRecDepth 20000 in
theorem gX3_take_X3_fail : GoodIn wsX3_take (wsV RX3 131 RX3 yX3_fail wsX3_fail) := goodIn_app (goodIn_of _ (by decide +kernel)) ggX3_take_X3_fail
set_option maxRecDepth 20000 in
theorem ggX3_takeOnly_X3_take : GoodIn wsX3_takeOnly wsX3_take := goodIn_r _ [5, 6, 7, 8, 9, 10, 11, 12, 13, 14, 4, 15, 16, 17, 18, 19, 20, 21, 22, 23, 24, 25, 26, 27, 28, 29, 30, 31, 32, 33, 34, 35, 36, 37, 38] rfl (by decide +kernel)
set_option maxRecDepth 20000 in
theorem gX3_takeOnly_X3_take : GoodIn wsX3_takeOnly (wsV RX3 200 RX3 yX3_take wsX3_take) := goodIn_app (goodIn_of _ (by decide +kernel)) ggX3_takeOnly_X3_take
set_option maxRecDepth 20000 in
theorem ggX3_takeOnly_X3_fail : GoodIn wsX3_takeOnly wsX3_fail := goodIn_r _ [15, 16, 17, 18, 19, 20, 21, 22, 23, 24, 25, 26, 27, 28, 29, 30, 31, 32, 33, 34, 35, 36, 37, 38] rfl (by decide +kernel)
set_option maxRecDepth 20000 in
theorem gX3_takeOnly_X3_fail : GoodIn wsX3_takeOnly (wsV RX3 131 RX3 yX3_fail wsX3_fail) := goodIn_app (goodIn_of _ (by decide +kernel)) ggX3_takeOnly_X3_fail
set_option maxRecDepth 20000 in
theorem ggX3_takeReference_X3_take : GoodIn wsX3_takeReference wsX3_take := goodIn_r _ [5, 6, 7, 8, 9, 10, 11, 12, 13, 14, 4, 15, 16, 34, 35, 36, 37, 38, 39, 40, 41, 42, 43, 44, 45, 46, 47, 48, 49, 50, 51, 52, 53, 54, 55] rfl (by decide +kernel)
set_option maxRecDepth 20000 in
theorem gX3_takeReference_X3_take : GoodIn wsX3_takeReference (wsV RX3 200 RX3 yX3_take wsX3_take) := goodIn_app (goodIn_of _ (by decide +kernel)) ggX3_takeReference_X3_take
set_option maxRecDepth 20000 in
theorem ggX3_takeReference_X5_isReference : GoodIn wsX3_takeReference wsX5_isReference := goodIn_r _ [20, 21, 22, 19, 23] rfl (by decide +kernel)
set_option maxRecDepth 20000 in
theorem gX3_takeReference_X5_isReference : GoodIn wsX3_takeReference (va_wsS RX3 116 yX5_isReference wsX5_isReference) := goodIn_app (goodIn_of _ (by decide +kernel)) ggX3_takeReference_X5_isReference
set_option maxRecDepth 20000 in
theorem ggX3_takeReference_X3_fail : GoodIn wsX3_takeReference wsX3_fail := goodIn_r _ [15, 16, 34, 35, 36, 37, 38, 39, 40, 41, 42, 43, 44, 45, 46, 47, 48, 49, 50, 51, 52, 53, 54, 55] rfl (by decide +kernel)
set_option maxRecDepth 20000 in
theorem gX3_takeReference_X3_fail : GoodIn wsX3_takeReference (wsV RX3 131 RX3 yX3_fail wsX3_fail) := goodIn_app (goodIn_of _ (by decide +kernel)) ggX3_takeReference_X3_fail
set_option maxRecDepth 20000 in
theorem ggX3_takeReference_X3_writes : GoodIn wsX3_takeReference wsX3_writes := goodIn_r _ [26, 27, 22, 19, 23] rfl (by decide +kernel)
set_option maxRecDepth 20000 in
theorem gX3_takeReference_X3_writes : GoodIn wsX3_takeReference (va_wsS RX3 204 yX3_writes wsX3_writes) := goodIn_app (goodIn_of _ (by decide +kernel)) ggX3_takeReference_X3_writes
set_option maxRecDepth 20000 in
theorem ggX3_takeReference_X5_pointee : GoodIn wsX3_takeReference wsX5_pointee := goodIn_r _ [30, 31, 32, 19, 33] rfl (by decide +kernel)
set_option maxRecDepth 20000 in
theorem gX3_takeReference_X5_pointee : GoodIn wsX3_takeReference (va_wsS RX3 207 yX5_pointee wsX5_pointee) := goodIn_app (goodIn_of _ (by decide +kernel)) ggX3_takeReference_X5_pointee
set_option maxRecDepth 20000 in
theorem ggX3_takeReferenceTo_X3_take : GoodIn wsX3_takeReferenceTo wsX3_take := goodIn_r _ [5, 6, 7, 8, 9, 10, 11, 12, 13, 14, 4, 15, 16, 34, 35, 36, 37, 38, 39, 40, 41, 42, 43, 44, 45, 46, 47, 48, 49, 50, 51, 52, 53, 54, 55] rfl (by decide +kernel)
set_option maxRecDepth 20000 in
theorem gX3_takeReferenceTo_X3_take : GoodIn wsX3_takeReferenceTo (wsV RX3 200 RX3 yX3_take wsX3_take) := goodIn_app (goodIn_of _ (by decide +kernel)) ggX3_takeReferenceTo_X3_take
set_option maxRecDepth 20000 in
theorem ggX3_takeReferenceTo_X5_isReference : GoodIn wsX3_takeReferenceTo wsX5_isReference := goodIn_r _ [20, 21, 22, 19, 23] rfl (by decide +kernel)
set_option maxRecDepth 20000 in
theorem gX3_takeReferenceTo_X5_isReference : GoodIn wsX3_takeReferenceTo (va_wsS RX3 116 yX5_isReference wsX5_isReference) := goodIn_app (goodIn_of _ (by decide +kernel)) ggX3_takeReferenceTo_X5_isReference
set_option maxRecDepth 20000 in
theorem ggX3_takeReferenceTo_X5_pointee : GoodIn wsX3_takeReferenceTo wsX5_pointee := goodIn_r _ [26, 27, 28, 19, 29] rfl (by decide +kernel)
set_option maxRecDepth 20000 in
theorem gX3_takeReferenceTo_X5_pointee : GoodIn wsX3_takeReferenceTo (va_wsS RX3 207 yX5_pointee wsX5_pointee) := goodIn_app (goodIn_of _ (by decide +kernel)) ggX3_takeReferenceTo_X5_pointee
set_option maxRecDepth 20000 in
theorem ggX3_takeReferenceTo_X3_fail : GoodIn wsX3_takeReferenceTo wsX3_fail := goodIn_r _ [15, 16, 34, 35, 36, 37, 38, 39, 40, 41, 42, 43, 44, 45, 46, 47, 48, 49, 50, 51, 52, 53, 54, 55] rfl (by decide +kernel)
set_option maxRecDepth 20000 in
theorem gX3_takeReferenceTo_X3_fail : GoodIn wsX3_takeReferenceTo (wsV RX3 131 RX3 yX3_fail wsX3_fail) := goodIn_app (goodIn_of _ (by decide +kernel)) ggX3_takeReferenceTo_X3_fail
set_option maxRecDepth 20000 in
theorem ggX3_takeReferenceTo_X3_writes : GoodIn wsX3_takeReferenceTo wsX3_writes := goodIn_r _ [32, 33, 22, 19, 23] rfl (by decide +kernel)
set_option maxRecDepth 20000 in
theorem gX3_takeReferenceTo_X3_writes : GoodIn wsX3_takeReferenceTo (va_wsS RX3 204 yX3_writes wsX3_writes) := goodIn_app (goodIn_of _ (by decide +kernel)) ggX3_takeReferenceTo_X3_writes
set_option maxRecDepth 20000 in
theorem ggX3_put_X3_putReference : GoodIn wsX3_put wsX3_putReference := goodIn_r _ [5, 6, 7, 8, 9, 10, 11, 12, 4, 13, 14, 15, 16, 17, 18, 19, 20, 21, 22, 23, 24, 25, 26, 27, 28, 29, 30, 31, 32, 33, 34, 35, 36] rfl (by decide +kernel)
set_option maxRecDepth 20000 in
theorem gX3_put_X3_putReference : GoodIn wsX3_put (wsV RX3 211 RX3 yX3_putReference wsX3_putReference) := goodIn_app (goodIn_of _ (by decide +kernel)) ggX3_put_X3_putReference
set_option maxRecDepth 20000 in
theorem ggX3_putReference_X3_fail : GoodIn wsX3_putReference wsX3_fail := goodIn_r _ [9, 10, 11, 12, 13, 14, 15, 16, 17, 18, 19, 20, 21, 22, 23, 24, 25, 26, 27, 28, 29, 30, 31, 32] rfl (by decide +kernel)
set_option maxRecDepth 20000 in
theorem gX3_putReference_X3_fail : GoodIn wsX3_putReference (wsV RX3 131 RX3 yX3_fail wsX3_fail) := goodIn_app (goodIn_of _ (by decide +kernel)) ggX3_putReference_X3_fail
set_option maxRecDepth 20000 in
theorem ggX3_isLive_X3_writes : GoodIn wsX3_isLive wsX3_writes := goodIn_r _ [9, 10, 11, 12, 13] rfl (by decide +kernel)
set_option maxRecDepth 20000 in
theorem gX3_isLive_X3_writes : GoodIn wsX3_isLive (va_wsS RX3 204 yX3_writes wsX3_writes) := goodIn_app (goodIn_of _ (by decide +kernel)) ggX3_isLive_X3_writes
set_option maxRecDepth 20000 in
theorem ggX3_isSole_X3_writes : GoodIn wsX3_isSole wsX3_writes := goodIn_r _ [11, 12, 13, 14, 15] rfl (by decide +kernel)
set_option maxRecDepth 20000 in
theorem gX3_isSole_X3_writes : GoodIn wsX3_isSole (va_wsS RX3 204 yX3_writes wsX3_writes) := goodIn_app (goodIn_of _ (by decide +kernel)) ggX3_isSole_X3_writes
set_option maxRecDepth 20000 in
theorem ggX3_steer_X3_take : GoodIn wsX3_steer wsX3_take := goodIn_r _ [7, 2, 8, 9, 10, 11, 12, 13, 14, 15, 6, 16, 17, 46, 47, 48, 49, 50, 51, 52, 53, 54, 55, 56, 57, 58, 59, 60, 61, 62, 63, 64, 65, 66, 67] rfl (by decide +kernel)
set_option maxRecDepth 20000 in
theorem gX3_steer_X3_take : GoodIn wsX3_steer (wsV RX3 200 RX3 yX3_take wsX3_take) := goodIn_app (goodIn_of _ (by decide +kernel)) ggX3_steer_X3_take
set_option maxRecDepth 20000 in
theorem ggX3_steer_X3_has : GoodIn wsX3_steer wsX3_has := goodIn_r _ [21, 22, 23, 24, 25, 26, 27, 28, 29, 30, 31, 32, 33, 34, 35, 36, 37, 38, 39, 40, 41, 46, 47, 48, 49, 50, 51, 52, 53, 54, 55, 56, 57, 58, 59, 60, 61, 62, 63, 64, 65, 66, 67, 68, 69, 70, 71, 72, 73, 74, 75, 76, 77, 78, 79, 80, 81, 82] rfl (by decide +kernel)
set_option maxRecDepth 20000 in
theorem gX3_steer_X3_has : GoodIn wsX3_steer (wsV RX3 215 RX3 yX3_has wsX3_has) := goodIn_app (goodIn_of _ (by decide +kernel)) ggX3_steer_X3_has
set_option maxRecDepth 20000 in
theorem ggX3_steer_X3_fail : GoodIn wsX3_steer wsX3_fail := goodIn_r _ [16, 17, 46, 47, 48, 49, 50, 51, 52, 53, 54, 55, 56, 57, 58, 59, 60, 61, 62, 63, 64, 65, 66, 67] rfl (by decide +kernel)
set_option maxRecDepth 20000 in
theorem gX3_steer_X3_fail : GoodIn wsX3_steer (wsV RX3 131 RX3 yX3_fail wsX3_fail) := goodIn_app (goodIn_of _ (by decide +kernel)) ggX3_steer_X3_fail
set_option maxRecDepth 20000 in
theorem ggX3_steer_X3_takeOnly : GoodIn wsX3_steer wsX3_takeOnly := goodIn_r _ [45, 3, 4, 5, 6, 7, 2, 8, 9, 10, 11, 12, 13, 14, 15, 16, 17, 46, 47, 48, 49, 50, 51, 52, 53, 54, 55, 56, 57, 58, 59, 60, 61, 62, 63, 64, 65, 66, 67] rfl (by decide +kernel)
set_option maxRecDepth 20000 in
theorem gX3_steer_X3_takeOnly : GoodIn wsX3_steer (wsV RX3 221 RX3 yX3_takeOnly wsX3_takeOnly) := goodIn_app (goodIn_of _ (by decide +kernel)) ggX3_steer_X3_takeOnly
set_option maxRecDepth 20000 in
theorem ggX3_giveBack_X5_gives : GoodIn wsX3_giveBack wsX5_gives := goodIn_r _ [14, 15, 16, 17, 13, 18, 19, 20, 21, 64, 65, 66, 67, 68, 69, 70, 71, 72, 73, 74, 75, 76, 77, 78] rfl (by decide +kernel)
set_option maxRecDepth 20000 in
theorem gX3_giveBack_X5_gives : GoodIn wsX3_giveBack (wsV RX3 225 RX5 yX5_gives wsX5_gives) := goodIn_app (goodIn_of _ (by decide +kernel)) ggX3_giveBack_X5_gives
set_option maxRecDepth 20000 in
theorem ggX3_giveBack_X5_givenType : GoodIn wsX3_giveBack wsX5_givenType := goodIn_r _ [25, 15, 16, 17, 13, 18, 19, 20, 21, 26, 27, 28, 29, 30, 31, 32, 33, 34, 35, 64, 65, 66, 67, 68, 69, 70, 71, 72, 73, 74, 75, 76, 77, 78] rfl (by decide +kernel)
set_option maxRecDepth 20000 in
theorem gX3_giveBack_X5_givenType : GoodIn wsX3_giveBack (wsV RX3 228 RX5 yX5_givenType wsX5_givenType) := goodIn_app (goodIn_of _ (by decide +kernel)) ggX3_giveBack_X5_givenType
set_option maxRecDepth 20000 in
theorem ggX3_giveBack_X3_fail : GoodIn wsX3_giveBack wsX3_fail := goodIn_r _ [40, 41, 42, 43, 44, 45, 46, 47, 48, 49, 50, 51, 52, 53, 54, 55, 56, 57, 58, 59, 60, 61, 62, 63] rfl (by decide +kernel)
set_option maxRecDepth 20000 in
theorem gX3_giveBack_X3_fail : GoodIn wsX3_giveBack (wsV RX3 131 RX3 yX3_fail wsX3_fail) := goodIn_app (goodIn_of _ (by decide +kernel)) ggX3_giveBack_X3_fail
set_option maxRecDepth 20000 in
theorem ggX3_set_X3_put : GoodIn wsX3_set wsX3_put := goodIn_r _ [9, 10, 11, 12, 8, 13, 14, 15, 16, 17, 18, 19, 20, 21, 22, 23, 24, 25, 26, 27, 28, 29, 30, 31, 32, 33, 34, 35, 36, 37, 38, 39, 40, 41, 42, 43, 44] rfl (by decide +kernel)
set_option maxRecDepth 20000 in
theorem gX3_set_X3_put : GoodIn wsX3_set (wsV RX3 233 RX3 yX3_put wsX3_put) := goodIn_app (goodIn_of _ (by decide +kernel)) ggX3_set_X3_put
set_option maxRecDepth 20000 in
theorem ggX3_useLocal_X5_isReference : GoodIn wsX3_useLocal wsX5_isReference := goodIn_r _ [12, 13, 14, 11, 15] rfl (by decide +kernel)
set_option maxRecDepth 20000 in
theorem gX3_useLocal_X5_isReference : GoodIn wsX3_useLocal (va_wsS RX3 116 yX5_isReference wsX5_isReference) := goodIn_app (goodIn_of _ (by decide +kernel)) ggX3_useLocal_X5_isReference
set_option maxRecDepth 20000 in
theorem ggX3_useLocal_X3_takeOnly : GoodIn wsX3_useLocal wsX3_takeOnly := goodIn_r _ [20, 21, 22, 23, 19, 24, 25, 26, 3, 27, 4, 28, 29, 30, 31, 32, 2, 73, 74, 75, 76, 77, 78, 79, 80, 81, 82, 83, 84, 85, 86, 87, 88, 89, 90, 91, 92, 93, 94] rfl (by decide +kernel)
set_option maxRecDepth 20000 in
theorem gX3_useLocal_X3_takeOnly : GoodIn wsX3_useLocal (wsV RX3 221 RX3 yX3_takeOnly wsX3_takeOnly) := goodIn_app (goodIn_of _ (by decide +kernel)) ggX3_useLocal_X3_takeOnly
set_option maxRecDepth 20000 in
theorem ggX3_useLocal_X3_isThere : GoodIn wsX3_useLocal wsX3_isThere := goodIn_r _ [36, 5, 73, 74, 75, 76, 77, 78, 79, 80, 81, 82, 83, 84, 85, 86, 87, 88, 89, 90, 91, 92, 93, 94] rfl (by decide +kernel)
set_option maxRecDepth 20000 in
theorem gX3_useLocal_X3_isThere : GoodIn wsX3_useLocal (wsV RX3 238 RX3 yX3_isThere wsX3_isThere) := goodIn_app (goodIn_of _ (by decide +kernel)) ggX3_useLocal_X3_isThere
set_option maxRecDepth 20000 in
theorem ggX3_useLocal_X3_has : GoodIn wsX3_useLocal wsX3_has := goodIn_r _ [40, 41, 42, 43, 44, 11, 45, 13, 14, 15, 46, 47, 48, 49, 50, 51, 52, 53, 54, 55, 56, 73, 74, 75, 76, 77, 78, 79, 80, 81, 82, 83, 84, 85, 86, 87, 88, 89, 90, 91, 92, 93, 94, 95, 96, 97, 98, 99, 100, 101, 102, 103, 104, 105, 106, 107, 108, 109] rfl (by decide +kernel)
set_option maxRecDepth 20000 in
theorem gX3_useLocal_X3_has : GoodIn wsX3_useLocal (wsV RX3 215 RX3 yX3_has wsX3_has) := goodIn_app (goodIn_of _ (by decide +kernel)) ggX3_useLocal_X3_has
set_option maxRecDepth 20000 in
theorem ggX3_useLocal_X3_fail : GoodIn wsX3_useLocal wsX3_fail := goodIn_r _ [32, 2, 73, 74, 75, 76, 77, 78, 79, 80, 81, 82, 83, 84, 85, 86, 87, 88, 89, 90, 91, 92, 93, 94] rfl (by decide +kernel)
set_option maxRecDepth 20000 in
theorem gX3_useLocal_X3_fail : GoodIn wsX3_useLocal (wsV RX3 131 RX3 yX3_fail wsX3_fail) := goodIn_app (goodIn_of _ (by decide +kernel)) ggX3_useLocal_X3_fail
set_option maxRecDepth 20000 in
theorem ggX3_useLocal_X3_isLive : GoodIn wsX3_useLocal wsX3_isLive := goodIn_r _ [60, 25, 26, 28, 6, 1, 61, 62, 19, 63, 64, 14, 11, 15, 73, 74, 75, 76, 77, 78, 79, 80, 81, 82, 83, 84, 85, 86, 87, 88, 89, 90, 91, 92, 93, 94] rfl (by decide +kernel)
set_option maxRecDepth 20000 in
theorem gX3_useLocal_X3_isLive : GoodIn wsX3_useLocal (wsV RX3 242 RX3 yX3_isLive wsX3_isLive) := goodIn_app (goodIn_of _ (by decide +kernel)) ggX3_useLocal_X3_isLive
set_option maxRecDepth 20000 in
theorem ggX3_useLocal_X3_setLocal : GoodIn wsX3_useLocal wsX3_setLocal := goodIn_r _ [68, 6, 7, 8, 73, 74, 75, 76, 77, 78, 79, 80, 81, 82, 83, 84, 85, 86, 87, 88, 89, 90, 91, 92, 93, 94] rfl (by decide +kernel)
set_option maxRecDepth 20000 in
theorem gX3_useLocal_X3_setLocal : GoodIn wsX3_useLocal (wsV RX3 246 RX3 yX3_setLocal wsX3_setLocal) := goodIn_app (goodIn_of _ (by decide +kernel)) ggX3_useLocal_X3_setLocal
set_option maxRecDepth 20000 in
theorem ggX3_useLocal_X3_putReference : GoodIn wsX3_useLocal wsX3_putReference := goodIn_r _ [72, 25, 28, 26, 27, 29, 30, 31, 19, 32, 2, 73, 74, 75, 76, 77, 78, 79, 80, 81, 82, 83, 84, 85, 86, 87, 88, 89, 90, 91, 92, 93, 94] rfl (by decide +kernel)
set_option maxRecDepth 20000 in
theorem gX3_useLocal_X3_putReference : GoodIn wsX3_useLocal (wsV RX3 211 RX3 yX3_putReference wsX3_putReference) := goodIn_app (goodIn_of _ (by decide +kernel)) ggX3_useLocal_X3_putReference
set_option maxRecDepth 20000 in
theorem ggX3_borrowLocal_X3_isThere : GoodIn wsX3_borrowLocal wsX3_isThere := goodIn_r _ [6, 7, 43, 44, 45, 46, 47, 48, 49, 50, 51, 52, 53, 54, 55, 56, 57, 58, 59, 60, 61, 62, 63, 64] rfl (by decide +kernel)
set_option maxRecDepth 20000 in
theorem gX3_borrowLocal_X3_isThere : GoodIn wsX3_borrowLocal (wsV RX3 238 RX3 yX3_isThere wsX3_isThere) := goodIn_app (goodIn_of _ (by decide +kernel)) ggX3_borrowLocal_X3_isThere
set_option maxRecDepth 20000 in
theorem ggX3_borrowLocal_X3_fail : GoodIn wsX3_borrowLocal wsX3_fail := goodIn_r _ [11, 12, 43, 44, 45, 46, 47, 48, 49, 50, 51, 52, 53, 54, 55, 56, 57, 58, 59, 60, 61, 62, 63, 64] rfl (by decide +kernel)
set_option maxRecDepth 20000 in
theorem gX3_borrowLocal_X3_fail : GoodIn wsX3_borrowLocal (wsV RX3 131 RX3 yX3_fail wsX3_fail) := goodIn_app (goodIn_of _ (by decide +kernel)) ggX3_borrowLocal_X3_fail
set_option maxRecDepth 20000 in
theorem ggX3_borrowLocal_X5_isReference : GoodIn wsX3_borrowLocal wsX5_isReference := goodIn_r _ [16, 17, 18, 15, 19] rfl (by decide +kernel)
set_option maxRecDepth 20000 in
theorem gX3_borrowLocal_X5_isReference : GoodIn wsX3_borrowLocal (va_wsS RX3 116 yX5_isReference wsX5_isReference) := goodIn_app (goodIn_of _ (by decide +kernel)) ggX3_borrowLocal_X5_isReference
set_option maxRecDepth 20000 in
theorem ggX3_borrowLocal_X3_isLive : GoodIn wsX3_borrowLocal wsX3_isLive := goodIn_r _ [23, 24, 25, 26, 27, 1, 28, 29, 5, 30, 31, 18, 15, 19, 43, 44, 45, 46, 47, 48, 49, 50, 51, 52, 53, 54, 55, 56, 57, 58, 59, 60, 61, 62, 63, 64] rfl (by decide +kernel)
set_option maxRecDepth 20000 in
theorem gX3_borrowLocal_X3_isLive : GoodIn wsX3_borrowLocal (wsV RX3 242 RX3 yX3_isLive wsX3_isLive) := goodIn_app (goodIn_of _ (by decide +kernel)) ggX3_borrowLocal_X3_isLive
set_option maxRecDepth 20000 in
theorem ggX3_borrowLocal_X5_prefixed : GoodIn wsX3_borrowLocal wsX5_prefixed := goodIn_r _ [34, 35, 36, 15, 37] rfl (by decide +kernel)
set_option maxRecDepth 20000 in
theorem gX3_borrowLocal_X5_prefixed : GoodIn wsX3_borrowLocal (va_wsS RX3 250 yX5_prefixed wsX5_prefixed) := goodIn_app (goodIn_of _ (by decide +kernel)) ggX3_borrowLocal_X5_prefixed
set_option maxRecDepth 20000 in
theorem ggX3_borrowLocal_X3_putReference : GoodIn wsX3_borrowLocal wsX3_putReference := goodIn_r _ [41, 24, 26, 25, 42, 8, 9, 10, 5, 11, 12, 43, 44, 45, 46, 47, 48, 49, 50, 51, 52, 53, 54, 55, 56, 57, 58, 59, 60, 61, 62, 63, 64] rfl (by decide +kernel)
set_option maxRecDepth 20000 in
theorem gX3_borrowLocal_X3_putReference : GoodIn wsX3_borrowLocal (wsV RX3 211 RX3 yX3_putReference wsX3_putReference) := goodIn_app (goodIn_of _ (by decide +kernel)) ggX3_borrowLocal_X3_putReference
set_option maxRecDepth 20000 in
theorem ggX3_refer_X5_structureType : GoodIn wsX3_refer wsX5_structureType := goodIn_r _ [7] rfl (by decide +kernel)
set_option maxRecDepth 20000 in
theorem gX3_refer_X5_structureType : GoodIn wsX3_refer (va_wsS RX3 254 yX5_structureType wsX5_structureType) := goodIn_app (goodIn_of _ (by decide +kernel)) ggX3_refer_X5_structureType
set_option maxRecDepth 20000 in
theorem ggX3_refer_X3_takeReferenceTo : GoodIn wsX3_refer wsX3_takeReferenceTo := goodIn_r _ [12, 13, 14, 15, 11, 16, 17, 18, 2, 19, 3, 20, 21, 22, 23, 24, 25, 26, 27, 6, 28, 29, 30, 31, 32, 33, 34, 35, 36, 37, 38, 39, 40, 41, 97, 98, 99, 100, 101, 102, 103, 104, 105, 106, 107, 108, 109, 110, 111, 112, 113, 114, 115, 116, 117, 118] rfl (by decide +kernel)
set_option maxRecDepth 20000 in
theorem gX3_refer_X3_takeReferenceTo : GoodIn wsX3_refer (wsV RX3 258 RX3 yX3_takeReferenceTo wsX3_takeReferenceTo) := goodIn_app (goodIn_of _ (by decide +kernel)) ggX3_refer_X3_takeReferenceTo
set_option maxRecDepth 20000 in
theorem ggX3_refer_X5_fieldType : GoodIn wsX3_refer wsX5_fieldType := goodIn_r _ [45, 46, 47, 48, 6, 49, 50, 51, 52, 53, 54, 55, 56, 57, 119, 120, 121, 122, 123, 124, 125, 126, 127, 128, 129, 130, 131, 132, 133] rfl (by decide +kernel)
set_option maxRecDepth 20000 in
theorem gX3_refer_X5_fieldType : GoodIn wsX3_refer (wsV RX3 262 RX5 yX5_fieldType wsX5_fieldType) := goodIn_app (goodIn_of _ (by decide +kernel)) ggX3_refer_X5_fieldType
set_option maxRecDepth 20000 in
theorem ggX3_refer_X5_prefixed : GoodIn wsX3_refer wsX5_prefixed := goodIn_r _ [60, 35, 36, 6, 37] rfl (by decide +kernel)
set_option maxRecDepth 20000 in
theorem gX3_refer_X5_prefixed : GoodIn wsX3_refer (va_wsS RX3 250 yX5_prefixed wsX5_prefixed) := goodIn_app (goodIn_of _ (by decide +kernel)) ggX3_refer_X5_prefixed
set_option maxRecDepth 20000 in
theorem ggX3_refer_X3_putReference : GoodIn wsX3_refer wsX3_putReference := goodIn_r _ [64, 17, 20, 18, 19, 21, 22, 23, 11, 24, 25, 97, 98, 99, 100, 101, 102, 103, 104, 105, 106, 107, 108, 109, 110, 111, 112, 113, 114, 115, 116, 117, 118] rfl (by decide +kernel)
set_option maxRecDepth 20000 in
theorem gX3_refer_X3_putReference : GoodIn wsX3_refer (wsV RX3 211 RX3 yX3_putReference wsX3_putReference) := goodIn_app (goodIn_of _ (by decide +kernel)) ggX3_refer_X3_putReference
set_option maxRecDepth 20000 in
theorem ggX3_refer_X3_takeReference : GoodIn wsX3_refer wsX3_takeReference := goodIn_r _ [68, 13, 14, 15, 11, 16, 17, 18, 2, 19, 3, 20, 21, 22, 23, 24, 25, 26, 27, 6, 28, 29, 30, 31, 38, 39, 40, 41, 32, 33, 34, 35, 36, 37, 97, 98, 99, 100, 101, 102, 103, 104, 105, 106, 107, 108, 109, 110, 111, 112, 113, 114, 115, 116, 117, 118] rfl (by decide +kernel)
set_option maxRecDepth 20000 in
theorem gX3_refer_X3_takeReference : GoodIn wsX3_refer (wsV RX3 265 RX3 yX3_takeReference wsX3_takeReference) := goodIn_app (goodIn_of _ (by decide +kernel)) ggX3_refer_X3_takeReference
set_option maxRecDepth 20000 in
theorem ggX3_refer_X3_has : GoodIn wsX3_refer wsX3_has := goodIn_r _ [72, 1, 73, 74, 75, 6, 76, 29, 30, 31, 77, 78, 79, 80, 81, 46, 47, 48, 49, 50, 51, 97, 98, 99, 100, 101, 102, 103, 104, 105, 106, 107, 108, 109, 110, 111, 112, 113, 114, 115, 116, 117, 118, 119, 120, 121, 122, 123, 124, 125, 126, 127, 128, 129, 130, 131, 132, 133] rfl (by decide +kernel)
set_option maxRecDepth 20000 in
theorem gX3_refer_X3_has : GoodIn wsX3_refer (wsV RX3 215 RX3 yX3_has wsX3_has) := goodIn_app (goodIn_of _ (by decide +kernel)) ggX3_refer_X3_has
set_option maxRecDepth 20000 in
theorem ggX3_refer_X3_fail : GoodIn wsX3_refer wsX3_fail := goodIn_r _ [24, 25, 97, 98, 99, 100, 101, 102, 103, 104, 105, 106, 107, 108, 109, 110, 111, 112, 113, 114, 115, 116, 117, 118] rfl (by decide +kernel)
set_option maxRecDepth 20000 in
theorem gX3_refer_X3_fail : GoodIn wsX3_refer (wsV RX3 131 RX3 yX3_fail wsX3_fail) := goodIn_app (goodIn_of _ (by decide +kernel)) ggX3_refer_X3_fail
set_option maxRecDepth 20000 in
theorem ggX3_refer_X3_put : GoodIn wsX3_refer wsX3_put := goodIn_r _ [85, 61, 62, 63, 11, 64, 17, 20, 18, 19, 21, 22, 23, 24, 25, 97, 98, 99, 100, 101, 102, 103, 104, 105, 106, 107, 108, 109, 110, 111, 112, 113, 114, 115, 116, 117, 118] rfl (by decide +kernel)
set_option maxRecDepth 20000 in
theorem gX3_refer_X3_put : GoodIn wsX3_refer (wsV RX3 233 RX3 yX3_put wsX3_put) := goodIn_app (goodIn_of _ (by decide +kernel)) ggX3_refer_X3_put
set_option maxRecDepth 20000 in
theorem ggX3_refer_X3_takeOnly : GoodIn wsX3_refer wsX3_takeOnly := goodIn_r _ [89, 13, 14, 15, 11, 16, 17, 18, 2, 19, 3, 20, 21, 22, 23, 24, 25, 97, 98, 99, 100, 101, 102, 103, 104, 105, 106, 107, 108, 109, 110, 111, 112, 113, 114, 115, 116, 117, 118] rfl (by decide +kernel)
set_option maxRecDepth 20000 in
theorem gX3_refer_X3_takeOnly : GoodIn wsX3_refer (wsV RX3 221 RX3 yX3_takeOnly wsX3_takeOnly) := goodIn_app (goodIn_of _ (by decide +kernel)) ggX3_refer_X3_takeOnly
set_option maxRecDepth 20000 in
theorem ggX3_refer_X5_abilities : GoodIn wsX3_refer wsX5_abilities := goodIn_r _ [76, 29, 30, 6, 31, 77, 78, 79, 80, 81, 46, 47, 48, 49, 50, 51, 119, 120, 121, 122, 123, 124, 125, 126, 127, 128, 129, 130, 131, 132, 133] rfl (by decide +kernel)
set_option maxRecDepth 20000 in
theorem gX3_refer_X5_abilities : GoodIn wsX3_refer (wsV RX3 120 RX5 yX5_abilities wsX5_abilities) := goodIn_app (goodIn_of _ (by decide +kernel)) ggX3_refer_X5_abilities
set_option maxRecDepth 20000 in
theorem ggX3_refer_X3_isSole : GoodIn wsX3_refer wsX3_isSole := goodIn_r _ [93, 17, 18, 19, 20, 94, 95, 96, 38, 39, 11, 40, 41, 30, 6, 31, 97, 98, 99, 100, 101, 102, 103, 104, 105, 106, 107, 108, 109, 110, 111, 112, 113, 114, 115, 116, 117, 118] rfl (by decide +kernel)
set_option maxRecDepth 20000 in
theorem gX3_refer_X3_isSole : GoodIn wsX3_refer (wsV RX3 269 RX3 yX3_isSole wsX3_isSole) := goodIn_app (goodIn_of _ (by decide +kernel)) ggX3_refer_X3_isSole
set_option maxRecDepth 20000 in
theorem ggX3_pack_X5_fieldCount : GoodIn wsX3_pack wsX5_fieldCount := goodIn_r _ [6, 7, 8, 9, 5, 10, 11, 12, 76, 77, 78, 79, 80, 81, 82, 83, 84, 85, 86, 87, 88, 89, 90] rfl (by decide +kernel)
set_option maxRecDepth 20000 in
theorem gX3_pack_X5_fieldCount : GoodIn wsX3_pack (wsV RX3 272 RX5 yX5_fieldCount wsX5_fieldCount) := goodIn_app (goodIn_of _ (by decide +kernel)) ggX3_pack_X5_fieldCount
set_option maxRecDepth 20000 in
theorem ggX3_pack_X5_fieldType : GoodIn wsX3_pack wsX5_fieldType := goodIn_r _ [16, 7, 8, 9, 5, 10, 11, 12, 17, 18, 19, 20, 21, 22, 76, 77, 78, 79, 80, 81, 82, 83, 84, 85, 86, 87, 88, 89, 90] rfl (by decide +kernel)
set_option maxRecDepth 20000 in
theorem gX3_pack_X5_fieldType : GoodIn wsX3_pack (wsV RX3 262 RX5 yX5_fieldType wsX5_fieldType) := goodIn_app (goodIn_of _ (by decide +kernel)) ggX3_pack_X5_fieldType
set_option maxRecDepth 20000 in
theorem ggX3_pack_X3_takeOnly : GoodIn wsX3_pack wsX3_takeOnly := goodIn_r _ [27, 28, 29, 30, 26, 31, 32, 33, 34, 35, 36, 37, 38, 39, 40, 41, 42, 54, 55, 56, 57, 58, 59, 60, 61, 62, 63, 64, 65, 66, 67, 68, 69, 70, 71, 72, 73, 74, 75] rfl (by decide +kernel)
set_option maxRecDepth 20000 in
theorem gX3_pack_X3_takeOnly : GoodIn wsX3_pack (wsV RX3 221 RX3 yX3_takeOnly wsX3_takeOnly) := goodIn_app (goodIn_of _ (by decide +kernel)) ggX3_pack_X3_takeOnly
set_option maxRecDepth 20000 in
theorem ggX3_pack_X5_structureType : GoodIn wsX3_pack wsX5_structureType := goodIn_r _ [45] rfl (by decide +kernel)
set_option maxRecDepth 20000 in
theorem gX3_pack_X5_structureType : GoodIn wsX3_pack (va_wsS RX3 254 yX5_structureType wsX5_structureType) := goodIn_app (goodIn_of _ (by decide +kernel)) ggX3_pack_X5_structureType
set_option maxRecDepth 20000 in
theorem ggX3_pack_X3_put : GoodIn wsX3_pack wsX3_put := goodIn_r _ [49, 50, 51, 52, 26, 53, 32, 37, 33, 35, 38, 39, 40, 41, 42, 54, 55, 56, 57, 58, 59, 60, 61, 62, 63, 64, 65, 66, 67, 68, 69, 70, 71, 72, 73, 74, 75] rfl (by decide +kernel)
set_option maxRecDepth 20000 in
theorem gX3_pack_X3_put : GoodIn wsX3_pack (wsV RX3 233 RX3 yX3_put wsX3_put) := goodIn_app (goodIn_of _ (by decide +kernel)) ggX3_pack_X3_put
set_option maxRecDepth 20000 in
theorem ggX3_enter_X5_takes : GoodIn wsX3_enter wsX5_takes := goodIn_r _ [12, 13, 14, 15, 11, 16, 17, 18, 19, 110, 111, 112, 113, 114, 115, 116, 117, 118, 119, 120, 121, 122, 123, 124] rfl (by decide +kernel)
set_option maxRecDepth 20000 in
theorem gX3_enter_X5_takes : GoodIn wsX3_enter (wsV RX3 102 RX5 yX5_takes wsX5_takes) := goodIn_app (goodIn_of _ (by decide +kernel)) ggX3_enter_X5_takes
set_option maxRecDepth 20000 in
theorem ggX3_enter_X5_takenType : GoodIn wsX3_enter wsX5_takenType := goodIn_r _ [23, 13, 14, 15, 11, 16, 17, 18, 19, 24, 25, 26, 27, 28, 29, 110, 111, 112, 113, 114, 115, 116, 117, 118, 119, 120, 121, 122, 123, 124] rfl (by decide +kernel)
set_option maxRecDepth 20000 in
theorem gX3_enter_X5_takenType : GoodIn wsX3_enter (wsV RX3 275 RX5 yX5_takenType wsX5_takenType) := goodIn_app (goodIn_of _ (by decide +kernel)) ggX3_enter_X5_takenType
set_option maxRecDepth 20000 in
theorem ggX3_enter_X3_takeOnly : GoodIn wsX3_enter wsX3_takeOnly := goodIn_r _ [34, 35, 36, 37, 33, 38, 4, 6, 39, 40, 41, 5, 42, 43, 44, 45, 2, 88, 89, 90, 91, 92, 93, 94, 95, 96, 97, 98, 99, 100, 101, 102, 103, 104, 105, 106, 107, 108, 109] rfl (by decide +kernel)
set_option maxRecDepth 20000 in
theorem gX3_enter_X3_takeOnly : GoodIn wsX3_enter (wsV RX3 221 RX3 yX3_takeOnly wsX3_takeOnly) := goodIn_app (goodIn_of _ (by decide +kernel)) ggX3_enter_X3_takeOnly
set_option maxRecDepth 20000 in
theorem ggX3_enter_X5_flags : GoodIn wsX3_enter wsX5_flags := goodIn_r _ [49, 13, 14, 15, 11, 16, 17, 18, 19, 110, 111, 112, 113, 114, 115, 116, 117, 118, 119, 120, 121, 122, 123, 124] rfl (by decide +kernel)
set_option maxRecDepth 20000 in
theorem gX3_enter_X5_flags : GoodIn wsX3_enter (wsV RX3 278 RX5 yX5_flags wsX5_flags) := goodIn_app (goodIn_of _ (by decide +kernel)) ggX3_enter_X5_flags
set_option maxRecDepth 20000 in
theorem ggX3_enter_X3_fail : GoodIn wsX3_enter wsX3_fail := goodIn_r _ [45, 2, 88, 89, 90, 91, 92, 93, 94, 95, 96, 97, 98, 99, 100, 101, 102, 103, 104, 105, 106, 107, 108, 109] rfl (by decide +kernel)
set_option maxRecDepth 20000 in
theorem gX3_enter_X3_fail : GoodIn wsX3_enter (wsV RX3 131 RX3 yX3_fail wsX3_fail) := goodIn_app (goodIn_of _ (by decide +kernel)) ggX3_enter_X3_fail
set_option maxRecDepth 20000 in
theorem ggX3_enter_X3_writes : GoodIn wsX3_enter wsX3_writes := goodIn_r _ [52, 53, 54, 11, 55] rfl (by decide +kernel)
set_option maxRecDepth 20000 in
theorem gX3_enter_X3_writes : GoodIn wsX3_enter (va_wsS RX3 204 yX3_writes wsX3_writes) := goodIn_app (goodIn_of _ (by decide +kernel)) ggX3_enter_X3_writes
set_option maxRecDepth 20000 in
theorem ggX3_enter_X3_isSole : GoodIn wsX3_enter wsX3_isSole := goodIn_r _ [59, 4, 6, 40, 5, 60, 61, 62, 50, 51, 33, 52, 53, 54, 11, 55, 88, 89, 90, 91, 92, 93, 94, 95, 96, 97, 98, 99, 100, 101, 102, 103, 104, 105, 106, 107, 108, 109] rfl (by decide +kernel)
set_option maxRecDepth 20000 in
theorem gX3_enter_X3_isSole : GoodIn wsX3_enter (wsV RX3 269 RX3 yX3_isSole wsX3_isSole) := goodIn_app (goodIn_of _ (by decide +kernel)) ggX3_enter_X3_isSole
set_option maxRecDepth 20000 in
theorem ggX3_enter_X3_meetsOther : GoodIn wsX3_enter wsX3_meetsOther := goodIn_r _ [66, 4, 6, 88, 89, 90, 91, 92, 93, 94, 95, 96, 97, 98, 99, 100, 101, 102, 103, 104, 105, 106, 107, 108, 109] rfl (by decide +kernel)
set_option maxRecDepth 20000 in
theorem gX3_enter_X3_meetsOther : GoodIn wsX3_enter (wsV RX3 281 RX3 yX3_meetsOther wsX3_meetsOther) := goodIn_app (goodIn_of _ (by decide +kernel)) ggX3_enter_X3_meetsOther
set_option maxRecDepth 20000 in
theorem ggX3_enter_X3_isLive : GoodIn wsX3_enter wsX3_isLive := goodIn_r _ [70, 4, 6, 5, 60, 62, 50, 51, 33, 52, 53, 54, 11, 55, 88, 89, 90, 91, 92, 93, 94, 95, 96, 97, 98, 99, 100, 101, 102, 103, 104, 105, 106, 107, 108, 109] rfl (by decide +kernel)
set_option maxRecDepth 20000 in
theorem gX3_enter_X3_isLive : GoodIn wsX3_enter (wsV RX3 242 RX3 yX3_isLive wsX3_isLive) := goodIn_app (goodIn_of _ (by decide +kernel)) ggX3_enter_X3_isLive
set_option maxRecDepth 20000 in
theorem ggX3_enter_X5_gives : GoodIn wsX3_enter wsX5_gives := goodIn_r _ [74, 13, 14, 15, 11, 16, 17, 18, 19, 110, 111, 112, 113, 114, 115, 116, 117, 118, 119, 120, 121, 122, 123, 124] rfl (by decide +kernel)
set_option maxRecDepth 20000 in
theorem gX3_enter_X5_gives : GoodIn wsX3_enter (wsV RX3 225 RX5 yX5_gives wsX5_gives) := goodIn_app (goodIn_of _ (by decide +kernel)) ggX3_enter_X5_gives
set_option maxRecDepth 20000 in
theorem ggX3_enter_X5_givenType : GoodIn wsX3_enter wsX5_givenType := goodIn_r _ [78, 13, 14, 15, 11, 16, 17, 18, 19, 79, 9, 10, 12, 24, 25, 26, 27, 28, 29, 110, 111, 112, 113, 114, 115, 116, 117, 118, 119, 120, 121, 122, 123, 124] rfl (by decide +kernel)
set_option maxRecDepth 20000 in
theorem gX3_enter_X5_givenType : GoodIn wsX3_enter (wsV RX3 228 RX5 yX5_givenType wsX5_givenType) := goodIn_app (goodIn_of _ (by decide +kernel)) ggX3_enter_X5_givenType
set_option maxRecDepth 20000 in
theorem ggX3_enter_X5_isReference : GoodIn wsX3_enter wsX5_isReference := goodIn_r _ [82, 83, 54, 11, 55] rfl (by decide +kernel)
set_option maxRecDepth 20000 in
theorem gX3_enter_X5_isReference : GoodIn wsX3_enter (va_wsS RX3 116 yX5_isReference wsX5_isReference) := goodIn_app (goodIn_of _ (by decide +kernel)) ggX3_enter_X5_isReference
set_option maxRecDepth 20000 in
theorem ggX3_enter_X3_putReference : GoodIn wsX3_enter wsX3_putReference := goodIn_r _ [87, 4, 5, 6, 40, 42, 43, 44, 33, 45, 2, 88, 89, 90, 91, 92, 93, 94, 95, 96, 97, 98, 99, 100, 101, 102, 103, 104, 105, 106, 107, 108, 109] rfl (by decide +kernel)
set_option maxRecDepth 20000 in
theorem gX3_enter_X3_putReference : GoodIn wsX3_enter (wsV RX3 211 RX3 yX3_putReference wsX3_putReference) := goodIn_app (goodIn_of _ (by decide +kernel)) ggX3_enter_X3_putReference
set_option maxRecDepth 20000 in
theorem ggX3_reckon_X3_takeOnly : GoodIn wsX3_reckon wsX3_takeOnly := goodIn_r _ [6, 7, 8, 9, 5, 10, 11, 12, 13, 14, 15, 16, 17, 18, 19, 20, 21, 61, 62, 63, 64, 65, 66, 67, 68, 69, 70, 71, 72, 73, 74, 75, 76, 77, 78, 79, 80, 81, 82] rfl (by decide +kernel)
set_option maxRecDepth 20000 in
theorem gX3_reckon_X3_takeOnly : GoodIn wsX3_reckon (wsV RX3 221 RX3 yX3_takeOnly wsX3_takeOnly) := goodIn_app (goodIn_of _ (by decide +kernel)) ggX3_reckon_X3_takeOnly
set_option maxRecDepth 20000 in
theorem ggX3_reckon_X3_take : GoodIn wsX3_reckon wsX3_take := goodIn_r _ [10, 11, 12, 13, 14, 15, 16, 17, 18, 19, 5, 20, 21, 61, 62, 63, 64, 65, 66, 67, 68, 69, 70, 71, 72, 73, 74, 75, 76, 77, 78, 79, 80, 81, 82] rfl (by decide +kernel)
set_option maxRecDepth 20000 in
theorem gX3_reckon_X3_take : GoodIn wsX3_reckon (wsV RX3 200 RX3 yX3_take wsX3_take) := goodIn_app (goodIn_of _ (by decide +kernel)) ggX3_reckon_X3_take
set_option maxRecDepth 20000 in
theorem ggX3_reckon_X3_isNumber : GoodIn wsX3_reckon wsX3_isNumber := goodIn_r _ [24, 1, 25] rfl (by decide +kernel)
set_option maxRecDepth 20000 in
theorem gX3_reckon_X3_isNumber : GoodIn wsX3_reckon (va_wsS RX3 287 yX3_isNumber wsX3_isNumber) := goodIn_app (goodIn_of _ (by decide +kernel)) ggX3_reckon_X3_isNumber
set_option maxRecDepth 20000 in
theorem ggX3_reckon_X5_isReference : GoodIn wsX3_reckon wsX5_isReference := goodIn_r _ [29, 30, 31, 28, 32] rfl (by decide +kernel)
set_option maxRecDepth 20000 in
theorem gX3_reckon_X5_isReference : GoodIn wsX3_reckon (va_wsS RX3 116 yX5_isReference wsX5_isReference) := goodIn_app (goodIn_of _ (by decide +kernel)) ggX3_reckon_X5_isReference
set_option maxRecDepth 20000 in
theorem ggX3_reckon_X3_fail : GoodIn wsX3_reckon wsX3_fail := goodIn_r _ [20, 21, 61, 62, 63, 64, 65, 66, 67, 68, 69, 70, 71, 72, 73, 74, 75, 76, 77, 78, 79, 80, 81, 82] rfl (by decide +kernel)
set_option maxRecDepth 20000 in
theorem gX3_reckon_X3_fail : GoodIn wsX3_reckon (wsV RX3 131 RX3 yX3_fail wsX3_fail) := goodIn_app (goodIn_of _ (by decide +kernel)) ggX3_reckon_X3_fail
set_option maxRecDepth 20000 in
theorem ggX3_reckon_X3_has : GoodIn wsX3_reckon wsX3_has := goodIn_r _ [36, 37, 38, 39, 40, 28, 41, 30, 31, 32, 42, 43, 44, 45, 46, 47, 48, 49, 50, 51, 52, 61, 62, 63, 64, 65, 66, 67, 68, 69, 70, 71, 72, 73, 74, 75, 76, 77, 78, 79, 80, 81, 82, 83, 84, 85, 86, 87, 88, 89, 90, 91, 92, 93, 94, 95, 96, 97] rfl (by decide +kernel)
set_option maxRecDepth 20000 in
theorem gX3_reckon_X3_has : GoodIn wsX3_reckon (wsV RX3 215 RX3 yX3_has wsX3_has) := goodIn_app (goodIn_of _ (by decide +kernel)) ggX3_reckon_X3_has
set_option maxRecDepth 20000 in
theorem ggX3_reckon_X3_put : GoodIn wsX3_reckon wsX3_put := goodIn_r _ [56, 57, 58, 59, 5, 60, 11, 16, 12, 14, 17, 18, 19, 20, 21, 61, 62, 63, 64, 65, 66, 67, 68, 69, 70, 71, 72, 73, 74, 75, 76, 77, 78, 79, 80, 81, 82] rfl (by decide +kernel)
set_option maxRecDepth 20000 in
theorem gX3_reckon_X3_put : GoodIn wsX3_reckon (wsV RX3 233 RX3 yX3_put wsX3_put) := goodIn_app (goodIn_of _ (by decide +kernel)) ggX3_reckon_X3_put
set_option maxRecDepth 20000 in
theorem ggX3_keep_X5_structureType : GoodIn wsX3_keep wsX5_structureType := goodIn_r _ [7] rfl (by decide +kernel)
set_option maxRecDepth 20000 in
theorem gX3_keep_X5_structureType : GoodIn wsX3_keep (va_wsS RX3 254 yX5_structureType wsX5_structureType) := goodIn_app (goodIn_of _ (by decide +kernel)) ggX3_keep_X5_structureType
set_option maxRecDepth 20000 in
theorem ggX3_keep_X3_takeOnly : GoodIn wsX3_keep wsX3_takeOnly := goodIn_r _ [12, 13, 14, 15, 11, 16, 17, 18, 19, 20, 21, 22, 23, 24, 25, 26, 27, 85, 86, 87, 88, 89, 90, 91, 92, 93, 94, 95, 96, 97, 98, 99, 100, 101, 102, 103, 104, 105, 106] rfl (by decide +kernel)
set_option maxRecDepth 20000 in
theorem gX3_keep_X3_takeOnly : GoodIn wsX3_keep (wsV RX3 221 RX3 yX3_takeOnly wsX3_takeOnly) := goodIn_app (goodIn_of _ (by decide +kernel)) ggX3_keep_X3_takeOnly
set_option maxRecDepth 20000 in
theorem ggX3_keep_X5_flags : GoodIn wsX3_keep wsX5_flags := goodIn_r _ [31, 32, 33, 34, 6, 35, 36, 37, 38, 107, 108, 109, 110, 111, 112, 113, 114, 115, 116, 117, 118, 119, 120, 121] rfl (by decide +kernel)
set_option maxRecDepth 20000 in
theorem gX3_keep_X5_flags : GoodIn wsX3_keep (wsV RX3 278 RX5 yX5_flags wsX5_flags) := goodIn_app (goodIn_of _ (by decide +kernel)) ggX3_keep_X5_flags
set_option maxRecDepth 20000 in
theorem ggX3_keep_X3_fail : GoodIn wsX3_keep wsX3_fail := goodIn_r _ [26, 27, 85, 86, 87, 88, 89, 90, 91, 92, 93, 94, 95, 96, 97, 98, 99, 100, 101, 102, 103, 104, 105, 106] rfl (by decide +kernel)
set_option maxRecDepth 20000 in
theorem gX3_keep_X3_fail : GoodIn wsX3_keep (wsV RX3 131 RX3 yX3_fail wsX3_fail) := goodIn_app (goodIn_of _ (by decide +kernel)) ggX3_keep_X3_fail
set_option maxRecDepth 20000 in
theorem ggX3_keep_X3_has : GoodIn wsX3_keep wsX3_has := goodIn_r _ [42, 2, 43, 44, 45, 6, 46, 47, 48, 49, 50, 51, 52, 53, 54, 55, 56, 57, 58, 59, 60, 85, 86, 87, 88, 89, 90, 91, 92, 93, 94, 95, 96, 97, 98, 99, 100, 101, 102, 103, 104, 105, 106, 107, 108, 109, 110, 111, 112, 113, 114, 115, 116, 117, 118, 119, 120, 121] rfl (by decide +kernel)
set_option maxRecDepth 20000 in
theorem gX3_keep_X3_has : GoodIn wsX3_keep (wsV RX3 215 RX3 yX3_has wsX3_has) := goodIn_app (goodIn_of _ (by decide +kernel)) ggX3_keep_X3_has
set_option maxRecDepth 20000 in
theorem ggX3_keep_X3_isLive : GoodIn wsX3_keep wsX3_isLive := goodIn_r _ [64, 17, 18, 22, 65, 66, 67, 68, 11, 69, 70, 48, 6, 49, 85, 86, 87, 88, 89, 90, 91, 92, 93, 94, 95, 96, 97, 98, 99, 100, 101, 102, 103, 104, 105, 106] rfl (by decide +kernel)
set_option maxRecDepth 20000 in
theorem gX3_keep_X3_isLive : GoodIn wsX3_keep (wsV RX3 242 RX3 yX3_isLive wsX3_isLive) := goodIn_app (goodIn_of _ (by decide +kernel)) ggX3_keep_X3_isLive
set_option maxRecDepth 20000 in
theorem ggX3_keep_X3_put : GoodIn wsX3_keep wsX3_put := goodIn_r _ [74, 75, 76, 77, 11, 78, 17, 22, 18, 20, 23, 24, 25, 26, 27, 85, 86, 87, 88, 89, 90, 91, 92, 93, 94, 95, 96, 97, 98, 99, 100, 101, 102, 103, 104, 105, 106] rfl (by decide +kernel)
set_option maxRecDepth 20000 in
theorem gX3_keep_X3_put : GoodIn wsX3_keep (wsV RX3 233 RX3 yX3_put wsX3_put) := goodIn_app (goodIn_of _ (by decide +kernel)) ggX3_keep_X3_put
set_option maxRecDepth 20000 in
theorem ggX3_keep_X5_prefixed : GoodIn wsX3_keep wsX5_prefixed := goodIn_r _ [81, 82, 83, 6, 84] rfl (by decide +kernel)
set_option maxRecDepth 20000 in
theorem gX3_keep_X5_prefixed : GoodIn wsX3_keep (va_wsS RX3 250 yX5_prefixed wsX5_prefixed) := goodIn_app (goodIn_of _ (by decide +kernel)) ggX3_keep_X5_prefixed
set_option maxRecDepth 20000 in
theorem ggX3_keep_X3_putReference : GoodIn wsX3_keep wsX3_putReference := goodIn_r _ [78, 17, 22, 18, 20, 23, 24, 25, 11, 26, 27, 85, 86, 87, 88, 89, 90, 91, 92, 93, 94, 95, 96, 97, 98, 99, 100, 101, 102, 103, 104, 105, 106] rfl (by decide +kernel)
set_option maxRecDepth 20000 in
theorem gX3_keep_X3_putReference : GoodIn wsX3_keep (wsV RX3 211 RX3 yX3_putReference wsX3_putReference) := goodIn_app (goodIn_of _ (by decide +kernel)) ggX3_keep_X3_putReference
set_option maxRecDepth 20000 in
theorem ggX3_lineUp_X5_elementType : GoodIn wsX3_lineUp wsX5_elementType := goodIn_r _ [9, 10, 11, 12, 13, 8, 14, 15, 16, 96, 97, 98, 99, 100, 101, 102, 103, 104, 105, 106, 107, 108, 109, 110] rfl (by decide +kernel)
set_option maxRecDepth 20000 in
theorem gX3_lineUp_X5_elementType : GoodIn wsX3_lineUp (wsV RX3 290 RX5 yX5_elementType wsX5_elementType) := goodIn_app (goodIn_of _ (by decide +kernel)) ggX3_lineUp_X5_elementType
set_option maxRecDepth 20000 in
theorem ggX3_lineUp_X5_prefixed : GoodIn wsX3_lineUp wsX5_prefixed := goodIn_r _ [19, 20, 21, 8, 22] rfl (by decide +kernel)
set_option maxRecDepth 20000 in
theorem gX3_lineUp_X5_prefixed : GoodIn wsX3_lineUp (va_wsS RX3 250 yX5_prefixed wsX5_prefixed) := goodIn_app (goodIn_of _ (by decide +kernel)) ggX3_lineUp_X5_prefixed
set_option maxRecDepth 20000 in
theorem ggX3_lineUp_X3_takeOnly : GoodIn wsX3_lineUp wsX3_takeOnly := goodIn_r _ [27, 28, 29, 30, 26, 31, 32, 33, 4, 34, 35, 36, 37, 38, 39, 40, 41, 74, 75, 76, 77, 78, 79, 80, 81, 82, 83, 84, 85, 86, 87, 88, 89, 90, 91, 92, 93, 94, 95] rfl (by decide +kernel)
set_option maxRecDepth 20000 in
theorem gX3_lineUp_X3_takeOnly : GoodIn wsX3_lineUp (wsV RX3 221 RX3 yX3_takeOnly wsX3_takeOnly) := goodIn_app (goodIn_of _ (by decide +kernel)) ggX3_lineUp_X3_takeOnly
set_option maxRecDepth 20000 in
theorem ggX3_lineUp_X3_put : GoodIn wsX3_lineUp wsX3_put := goodIn_r _ [45, 46, 47, 48, 26, 49, 32, 36, 33, 34, 37, 38, 39, 40, 41, 74, 75, 76, 77, 78, 79, 80, 81, 82, 83, 84, 85, 86, 87, 88, 89, 90, 91, 92, 93, 94, 95] rfl (by decide +kernel)
set_option maxRecDepth 20000 in
theorem gX3_lineUp_X3_put : GoodIn wsX3_lineUp (wsV RX3 233 RX3 yX3_put wsX3_put) := goodIn_app (goodIn_of _ (by decide +kernel)) ggX3_lineUp_X3_put
set_option maxRecDepth 20000 in
theorem ggX3_lineUp_X3_takeReferenceTo : GoodIn wsX3_lineUp wsX3_takeReferenceTo := goodIn_r _ [53, 28, 29, 30, 26, 31, 32, 33, 4, 34, 35, 36, 37, 38, 39, 40, 41, 54, 55, 8, 56, 57, 58, 59, 60, 61, 62, 20, 21, 22, 63, 64, 65, 66, 74, 75, 76, 77, 78, 79, 80, 81, 82, 83, 84, 85, 86, 87, 88, 89, 90, 91, 92, 93, 94, 95] rfl (by decide +kernel)
set_option maxRecDepth 20000 in
theorem gX3_lineUp_X3_takeReferenceTo : GoodIn wsX3_lineUp (wsV RX3 258 RX3 yX3_takeReferenceTo wsX3_takeReferenceTo) := goodIn_app (goodIn_of _ (by decide +kernel)) ggX3_lineUp_X3_takeReferenceTo
set_option maxRecDepth 20000 in
theorem ggX3_lineUp_X3_isSole : GoodIn wsX3_lineUp wsX3_isSole := goodIn_r _ [70, 32, 33, 34, 36, 71, 72, 73, 63, 64, 26, 65, 66, 58, 8, 59, 74, 75, 76, 77, 78, 79, 80, 81, 82, 83, 84, 85, 86, 87, 88, 89, 90, 91, 92, 93, 94, 95] rfl (by decide +kernel)
set_option maxRecDepth 20000 in
theorem gX3_lineUp_X3_isSole : GoodIn wsX3_lineUp (wsV RX3 269 RX3 yX3_isSole wsX3_isSole) := goodIn_app (goodIn_of _ (by decide +kernel)) ggX3_lineUp_X3_isSole
set_option maxRecDepth 20000 in
theorem ggX3_lineUp_X3_fail : GoodIn wsX3_lineUp wsX3_fail := goodIn_r _ [40, 41, 74, 75, 76, 77, 78, 79, 80, 81, 82, 83, 84, 85, 86, 87, 88, 89, 90, 91, 92, 93, 94, 95] rfl (by decide +kernel)
set_option maxRecDepth 20000 in
theorem gX3_lineUp_X3_fail : GoodIn wsX3_lineUp (wsV RX3 131 RX3 yX3_fail wsX3_fail) := goodIn_app (goodIn_of _ (by decide +kernel)) ggX3_lineUp_X3_fail
set_option maxRecDepth 20000 in
theorem ggX3_lineUp_X3_putReference : GoodIn wsX3_lineUp wsX3_putReference := goodIn_r _ [49, 32, 36, 33, 34, 37, 38, 39, 26, 40, 41, 74, 75, 76, 77, 78, 79, 80, 81, 82, 83, 84, 85, 86, 87, 88, 89, 90, 91, 92, 93, 94, 95] rfl (by decide +kernel)
set_option maxRecDepth 20000 in
theorem gX3_lineUp_X3_putReference : GoodIn wsX3_lineUp (wsV RX3 211 RX3 yX3_putReference wsX3_putReference) := goodIn_app (goodIn_of _ (by decide +kernel)) ggX3_lineUp_X3_putReference
set_option maxRecDepth 20000 in
theorem ggX4_run_X1_clear : GoodIn wsX4_run wsX1_clear := goodIn_r _ [27, 28, 551, 552, 553, 554, 555, 556, 557] rfl (by decide +kernel)
set_option maxRecDepth 20000 in
theorem gX4_run_X1_clear : GoodIn wsX4_run (wsV RX4 94 RX1 yX1_clear wsX1_clear) := goodIn_app (goodIn_of _ (by decide +kernel)) ggX4_run_X1_clear
set_option maxRecDepth 20000 in
theorem ggX4_run_X2_open : GoodIn wsX4_run wsX2_open := goodIn_r _ [33, 34, 35, 36, 37, 38, 39, 32, 40, 41, 42, 43, 44, 45, 46, 47, 48, 49, 50, 51, 52, 53, 54, 55, 56, 57, 58, 59, 60, 61, 62, 63, 64, 65, 66, 67, 68, 69, 26, 70, 71, 72, 73, 74, 75, 76, 77, 78, 79, 80, 81, 82, 83, 84, 85, 86, 28, 87, 88, 89, 90, 91, 92, 93, 94, 558, 559, 560, 561, 562, 563, 564, 565, 566, 567, 568, 532, 533, 534, 535, 536, 537, 538, 539, 540, 541, 542, 543, 544, 545, 546, 547, 548, 549, 550, 569, 570, 571, 572, 573, 574, 575, 576, 577, 578, 579, 580, 581, 582, 583, 584, 551, 552, 553, 554, 555, 556, 557] rfl (by decide +kernel)
set_option maxRecDepth 20000 in
theorem gX4_run_X2_open : GoodIn wsX4_run (wsV RX4 97 RX2 yX2_open wsX2_open) := goodIn_app (goodIn_of _ (by decide +kernel)) ggX4_run_X2_open
set_option maxRecDepth 20000 in
theorem ggX4_run_X7_findProgram : GoodIn wsX4_run wsX7_findProgram := goodIn_r _ [98, 99, 100, 101, 569, 570, 571, 572, 573, 574, 575, 576, 577, 578, 579, 580, 581, 582, 583, 584, 585, 586, 587, 588, 589, 590, 591, 592, 593, 594, 595, 596, 597, 598, 599] rfl (by decide +kernel)
set_option maxRecDepth 20000 in
theorem gX4_run_X7_findProgram : GoodIn wsX4_run (wsV RX4 109 RX7 yX7_findProgram wsX7_findProgram) := goodIn_app (goodIn_of _ (by decide +kernel)) ggX4_run_X7_findProgram
set_option maxRecDepth 20000 in
theorem ggX4_run_X4_pushFrame : GoodIn wsX4_run wsX4_pushFrame := goodIn_r _ [106, 8, 107, 108, 109, 18, 13, 513, 514, 515, 516, 517, 518, 519, 520, 521, 522, 523, 524, 525, 526, 527, 528, 529, 530, 531] rfl (by decide +kernel)
set_option maxRecDepth 20000 in
theorem gX4_run_X4_pushFrame : GoodIn wsX4_run (wsV RX4 118 RX4 yX4_pushFrame wsX4_pushFrame) := goodIn_app (goodIn_of _ (by decide +kernel)) ggX4_run_X4_pushFrame
set_option maxRecDepth 20000 in
theorem ggX4_run_X1_make : GoodIn wsX4_run wsX1_make := goodIn_r _ [86, 28, 77, 87, 88, 89, 90, 551, 552, 553, 554, 555, 556, 557] rfl (by decide +kernel)
set_option maxRecDepth 20000 in
theorem gX4_run_X1_make : GoodIn wsX4_run (wsV RX4 135 RX1 yX1_make wsX1_make) := goodIn_app (goodIn_of _ (by decide +kernel)) ggX4_run_X1_make
set_option maxRecDepth 20000 in
theorem ggX4_run_X4_step : GoodIn wsX4_run wsX4_step := goodIn_r _ [114, 107, 8, 109, 108, 115, 17, 116, 117, 118, 119, 120, 121, 122, 123, 124, 125, 126, 127, 128, 129, 130, 131, 132, 133, 134, 135, 105, 136, 3, 4, 5, 137, 138, 139, 140, 141, 142, 143, 144, 145, 146, 147, 148, 149, 150, 151, 152, 1, 153, 2, 154, 155, 156, 157, 158, 159, 160, 161, 162, 163, 6, 22, 164, 165, 166, 167, 18, 19, 168, 169, 170, 171, 172, 173, 174, 175, 176, 177, 178, 179, 180, 181, 182, 183, 184, 185, 186, 187, 188, 110, 84, 85, 26, 86, 28, 77, 87, 88, 89, 90, 189, 190, 191, 192, 13, 193, 194, 195, 196, 197, 198, 199, 200, 201, 202, 203, 204, 80, 81, 82, 205, 206, 207, 208, 209, 210, 211, 212, 83, 213, 214, 215, 216, 217, 218, 219, 220, 20, 221, 222, 223, 224, 225, 226, 227, 228, 229, 230, 231, 232, 233, 234, 235, 236, 237, 238, 239, 240, 241, 242, 243, 92, 93, 94, 244, 245, 246, 247, 21, 248, 249, 250, 251, 252, 253, 254, 255, 256, 7, 257, 258, 259, 260, 261, 262, 263, 38, 39, 32, 40, 34, 41, 42, 43, 44, 45, 46, 47, 48, 49, 50, 51, 52, 53, 54, 55, 56, 57, 58, 59, 60, 61, 62, 63, 64, 65, 66, 67, 68, 69, 70, 71, 72, 73, 74, 75, 76, 78, 79, 91, 264, 265, 266, 267, 268, 269, 270, 271, 272, 273, 274, 275, 276, 277, 278, 279, 280, 281, 9, 282, 283, 284, 285, 95, 96, 97, 98, 99, 100, 101, 286, 287, 288, 289, 102, 103, 104, 106, 290, 291, 292, 293, 294, 295, 296, 297, 298, 299, 300, 301, 302, 303, 304, 305, 306, 307, 308, 309, 310, 311, 312, 313, 314, 315, 316, 317, 318, 319, 320, 321, 322, 323, 324, 325, 326, 327, 328, 329, 330, 331, 332, 333, 334, 335, 336, 337, 338, 339, 340, 341, 342, 343, 344, 345, 346, 347, 348, 349, 350, 351, 352, 353, 354, 355, 356, 357, 358, 359, 360, 361, 362, 363, 364, 365, 366, 367, 368, 369, 370, 371, 372, 373, 374, 375, 376, 377, 378, 379, 380, 381, 382, 383, 384, 385, 386, 387, 388, 389, 390, 391, 392, 393, 394, 395, 396, 397, 398, 399, 400, 401, 402, 403, 404, 405, 406, 407, 408, 409, 410, 411, 412, 413, 414, 415, 416, 417, 418, 419, 420, 421, 422, 423, 424, 425, 426, 427, 428, 429, 430, 431, 432, 433, 434, 435, 436, 437, 438, 439, 440, 441, 442, 443, 444, 445, 446, 447, 448, 513, 514, 515, 516, 517, 518, 519, 520, 521, 522, 523, 524, 525, 526, 527, 528, 529, 530, 531, 585, 586, 587, 588, 589, 590, 591, 592, 593, 594, 595, 596, 597, 598, 599, 532, 533, 534, 535, 536, 537, 538, 539, 540, 541, 542, 543, 544, 545, 546, 547, 548, 549, 550, 551, 552, 553, 554, 555, 556, 557, 558, 559, 560, 561, 562, 563, 564, 565, 566, 567, 568, 569, 570, 571, 572, 573, 574, 575, 576, 577, 578, 579, 580, 581, 582, 583, 584, 600, 601, 602, 603, 604, 605, 606, 607, 608] rfl (by decide +kernel)
set_option maxRecDepth 20000 in
theorem gX4_run_X4_step : GoodIn wsX4_run (wsV RX4 139 RX4 yX4_step wsX4_step) := goodIn_app (goodIn_of _ (by decide +kernel)) ggX4_run_X4_step
set_option maxRecDepth 20000 in
theorem ggX4_run_X2_fits : GoodIn wsX4_run wsX2_fits := goodIn_r _ [452, 47, 34, 41, 51, 49, 46, 50, 453, 454, 455, 55, 456, 57, 99, 457, 458, 198, 199, 26, 200, 201, 202, 203, 204, 87, 89, 88, 90, 80, 81, 82, 558, 559, 560, 561, 562, 563, 564, 565, 566, 567, 568, 569, 570, 571, 572, 573, 574, 575, 576, 577, 578, 579, 580, 581, 582, 583, 584, 551, 552, 553, 554, 555, 556, 557] rfl (by decide +kernel)
set_option maxRecDepth 20000 in
theorem gX4_run_X2_fits : GoodIn wsX4_run (wsV RX4 142 RX2 yX2_fits wsX2_fits) := goodIn_app (goodIn_of _ (by decide +kernel)) ggX4_run_X2_fits
set_option maxRecDepth 20000 in
theorem ggX4_run_X4_end : GoodIn wsX4_run wsX4_end := goodIn_r _ [136, 3, 4, 5, 513, 514, 515, 516, 517, 518, 519, 520, 521, 522, 523, 524, 525, 526, 527, 528, 529, 530, 531] rfl (by decide +kernel)
set_option maxRecDepth 20000 in
theorem gX4_run_X4_end : GoodIn wsX4_run (wsV RX4 148 RX4 yX4_end wsX4_end) := goodIn_app (goodIn_of _ (by decide +kernel)) ggX4_run_X4_end
set_option maxRecDepth 20000 in
theorem ggX4_run_X8_addResult : GoodIn wsX4_run wsX8_addResult := goodIn_r _ [463, 464, 465, 466, 467, 532, 533, 534, 535, 536, 537, 538, 539, 540, 541, 542, 543, 544, 545, 546, 547, 548, 549, 550] rfl (by decide +kernel)
set_option maxRecDepth 20000 in
theorem gX4_run_X8_addResult : GoodIn wsX4_run (wsV RX4 161 RX8 yX8_addResult wsX8_addResult) := goodIn_app (goodIn_of _ (by decide +kernel)) ggX4_run_X8_addResult
set_option maxRecDepth 20000 in
theorem ggX4_run_X2_commit : GoodIn wsX4_run wsX2_commit := goodIn_r _ [471, 34, 41, 50, 51, 47, 42, 43, 44, 48, 45, 472, 473, 474, 55, 475, 63, 457, 476, 60, 61, 62, 64, 65, 66, 52, 53, 54, 56, 57, 58, 477, 478, 479, 480, 481, 117, 118, 119, 482, 483, 484, 485, 486, 32, 487, 488, 49, 46, 489, 490, 491, 492, 493, 494, 495, 496, 497, 498, 499, 26, 500, 501, 502, 503, 504, 76, 77, 87, 78, 88, 79, 89, 80, 81, 82, 505, 222, 223, 224, 90, 558, 559, 560, 561, 562, 563, 564, 565, 566, 567, 568, 569, 570, 571, 572, 573, 574, 575, 576, 577, 578, 579, 580, 581, 582, 583, 584, 551, 552, 553, 554, 555, 556, 557] rfl (by decide +kernel)
set_option maxRecDepth 20000 in
theorem gX4_run_X2_commit : GoodIn wsX4_run (wsV RX4 165 RX2 yX2_commit wsX2_commit) := goodIn_app (goodIn_of _ (by decide +kernel)) ggX4_run_X2_commit
set_option maxRecDepth 20000 in
theorem ggX4_run_X8_end : GoodIn wsX4_run wsX8_end := goodIn_r _ [509, 510, 511, 512, 532, 533, 534, 535, 536, 537, 538, 539, 540, 541, 542, 543, 544, 545, 546, 547, 548, 549, 550] rfl (by decide +kernel)
set_option maxRecDepth 20000 in
theorem gX4_run_X8_end : GoodIn wsX4_run (wsV RX4 168 RX8 yX8_end wsX8_end) := goodIn_app (goodIn_of _ (by decide +kernel)) ggX4_run_X8_end
set_option maxRecDepth 20000 in
theorem ggX4_pay_X4_end : GoodIn wsX4_pay wsX4_end := goodIn_r _ [9, 10, 11, 12, 13, 14, 15, 16, 17, 18, 19, 20, 21, 22, 23, 24, 25, 26, 27, 28, 29, 30, 31] rfl (by decide +kernel)
set_option maxRecDepth 20000 in
theorem gX4_pay_X4_end : GoodIn wsX4_pay (wsV RX4 148 RX4 yX4_end wsX4_end) := goodIn_app (goodIn_of _ (by decide +kernel)) ggX4_pay_X4_end
set_option maxRecDepth 20000 in
theorem ggX4_pushNumber_X1_make : GoodIn wsX4_pushNumber wsX1_make := goodIn_r _ [6, 7, 8, 9, 10, 11, 12, 41, 42, 43, 44, 45, 46, 47] rfl (by decide +kernel)
set_option maxRecDepth 20000 in
theorem gX4_pushNumber_X1_make : GoodIn wsX4_pushNumber (wsV RX4 135 RX1 yX1_make wsX1_make) := goodIn_app (goodIn_of _ (by decide +kernel)) ggX4_pushNumber_X1_make
set_option maxRecDepth 20000 in
theorem ggX4_pushNumber_X4_push : GoodIn wsX4_pushNumber wsX4_push := goodIn_r _ [17, 18, 19, 20, 21, 22, 23, 24, 25, 26, 27, 28, 29, 30, 31, 32, 33, 34, 35, 36, 37, 38, 39, 40] rfl (by decide +kernel)
set_option maxRecDepth 20000 in
theorem gX4_pushNumber_X4_push : GoodIn wsX4_pushNumber (wsV RX4 176 RX4 yX4_push wsX4_push) := goodIn_app (goodIn_of _ (by decide +kernel)) ggX4_pushNumber_X4_push
set_option maxRecDepth 20000 in
theorem ggX4_step_X5_instructions : GoodIn wsX4_step wsX5_instructions := goodIn_r _ [16, 17, 18, 19, 15, 20, 21, 22, 23, 447, 448, 449, 450, 451, 452, 453, 454, 455, 456, 457, 458, 459, 460, 461] rfl (by decide +kernel)
set_option maxRecDepth 20000 in
theorem gX4_step_X5_instructions : GoodIn wsX4_step (wsV RX4 180 RX5 yX5_instructions wsX5_instructions) := goodIn_app (goodIn_of _ (by decide +kernel)) ggX4_step_X5_instructions
set_option maxRecDepth 20000 in
theorem ggX4_step_X4_end : GoodIn wsX4_step wsX4_end := goodIn_r _ [28, 29, 30, 31, 428, 429, 430, 431, 432, 433, 434, 435, 436, 437, 438, 439, 440, 441, 442, 443, 444, 445, 446] rfl (by decide +kernel)
set_option maxRecDepth 20000 in
theorem gX4_step_X4_end : GoodIn wsX4_step (wsV RX4 148 RX4 yX4_end wsX4_end) := goodIn_app (goodIn_of _ (by decide +kernel)) ggX4_step_X4_end
set_option maxRecDepth 20000 in
theorem ggX4_step_X5_instructionPlace : GoodIn wsX4_step wsX5_instructionPlace := goodIn_r _ [35, 36, 37, 17, 18, 19, 15, 20, 21, 22, 23, 447, 448, 449, 450, 451, 452, 453, 454, 455, 456, 457, 458, 459, 460, 461] rfl (by decide +kernel)
set_option maxRecDepth 20000 in
theorem gX4_step_X5_instructionPlace : GoodIn wsX4_step (wsV RX4 184 RX5 yX5_instructionPlace wsX5_instructionPlace) := goodIn_app (goodIn_of _ (by decide +kernel)) ggX4_step_X5_instructionPlace
set_option maxRecDepth 20000 in
theorem ggX4_step_X5_at : GoodIn wsX4_step wsX5_at := goodIn_r _ [41, 42, 43, 447, 448, 449, 450, 451, 452, 453, 454, 455, 456, 457, 458, 459, 460, 461] rfl (by decide +kernel)
set_option maxRecDepth 20000 in
theorem gX4_step_X5_at : GoodIn wsX4_step (wsV RX4 188 RX5 yX5_at wsX5_at) := goodIn_app (goodIn_of _ (by decide +kernel)) ggX4_step_X5_at
set_option maxRecDepth 20000 in
theorem ggX4_step_X4_pay : GoodIn wsX4_step wsX4_pay := goodIn_r _ [47, 48, 49, 50, 51, 24, 25, 26, 27, 28, 29, 30, 31, 428, 429, 430, 431, 432, 433, 434, 435, 436, 437, 438, 439, 440, 441, 442, 443, 444, 445, 446, 462, 463, 464, 465, 466, 467, 468, 469, 470, 471, 472, 473, 474, 475, 476, 477, 478, 479, 480] rfl (by decide +kernel)
set_option maxRecDepth 20000 in
theorem gX4_step_X4_pay : GoodIn wsX4_step (wsV RX4 191 RX4 yX4_pay wsX4_pay) := goodIn_app (goodIn_of _ (by decide +kernel)) ggX4_step_X4_pay
set_option maxRecDepth 20000 in
theorem ggX4_step_X5_numberAt : GoodIn wsX4_step wsX5_numberAt := goodIn_r _ [55, 56, 39, 40, 15, 41, 42, 43, 447, 448, 449, 450, 451, 452, 453, 454, 455, 456, 457, 458, 459, 460, 461] rfl (by decide +kernel)
set_option maxRecDepth 20000 in
theorem gX4_step_X5_numberAt : GoodIn wsX4_step (wsV RX4 195 RX5 yX5_numberAt wsX5_numberAt) := goodIn_app (goodIn_of _ (by decide +kernel)) ggX4_step_X5_numberAt
set_option maxRecDepth 20000 in
theorem ggX4_step_X4_steer : GoodIn wsX4_step wsX4_steer := goodIn_r _ [60, 61, 62, 3, 2, 63, 64, 65, 27, 66, 67, 5, 68, 69, 70, 71, 72, 1, 4, 29, 73, 74, 75, 15, 76, 17, 18, 19, 20, 21, 22, 23, 77, 78, 79, 80, 24, 25, 26, 28, 30, 31, 428, 429, 430, 431, 432, 433, 434, 435, 436, 437, 438, 439, 440, 441, 442, 443, 444, 445, 446, 481, 482, 483, 484, 485, 486, 487, 447, 448, 449, 450, 451, 452, 453, 454, 455, 456, 457, 458, 459, 460, 461] rfl (by decide +kernel)
set_option maxRecDepth 20000 in
theorem gX4_step_X4_steer : GoodIn wsX4_step (wsV RX4 199 RX4 yX4_steer wsX4_steer) := goodIn_app (goodIn_of _ (by decide +kernel)) ggX4_step_X4_steer
set_option maxRecDepth 20000 in
theorem ggX4_step_X4_set : GoodIn wsX4_step wsX4_set := goodIn_r _ [84, 48, 85, 38, 39, 40, 15, 41, 42, 43, 86, 87, 88, 27, 89, 61, 90, 91, 92, 93, 94, 95, 96, 97, 98, 99, 100, 77, 78, 79, 80, 67, 2, 5, 68, 52, 53, 54, 55, 56, 428, 429, 430, 431, 432, 433, 434, 435, 436, 437, 438, 439, 440, 441, 442, 443, 444, 445, 446, 462, 463, 464, 465, 466, 467, 468, 469, 470, 471, 472, 473, 474, 475, 476, 477, 478, 479, 480, 447, 448, 449, 450, 451, 452, 453, 454, 455, 456, 457, 458, 459, 460, 461, 481, 482, 483, 484, 485, 486, 487] rfl (by decide +kernel)
set_option maxRecDepth 20000 in
theorem gX4_step_X4_set : GoodIn wsX4_step (wsV RX4 203 RX4 yX4_set wsX4_set) := goodIn_app (goodIn_of _ (by decide +kernel)) ggX4_step_X4_set
set_option maxRecDepth 20000 in
theorem ggX4_step_X4_useLocal : GoodIn wsX4_step wsX4_useLocal := goodIn_r _ [104, 105, 5, 63, 64, 65, 27, 66, 67, 2, 68, 106, 107, 108, 109, 61, 110, 111, 112, 93, 113, 114, 115, 116, 117, 97, 99, 98, 100, 118, 119, 120, 44, 45, 46, 47, 48, 49, 50, 51, 24, 25, 26, 28, 29, 30, 31, 121, 122, 123, 124, 125, 126, 127, 128, 129, 91, 92, 94, 95, 96, 77, 78, 79, 80, 86, 87, 88, 89, 90, 428, 429, 430, 431, 432, 433, 434, 435, 436, 437, 438, 439, 440, 441, 442, 443, 444, 445, 446, 481, 482, 483, 484, 485, 486, 487, 462, 463, 464, 465, 466, 467, 468, 469, 470, 471, 472, 473, 474, 475, 476, 477, 478, 479, 480] rfl (by decide +kernel)
set_option maxRecDepth 20000 in
theorem gX4_step_X4_useLocal : GoodIn wsX4_step (wsV RX4 212 RX4 yX4_useLocal wsX4_useLocal) := goodIn_app (goodIn_of _ (by decide +kernel)) ggX4_step_X4_useLocal
set_option maxRecDepth 20000 in
theorem ggX4_step_X4_refer : GoodIn wsX4_step wsX4_refer := goodIn_r _ [133, 61, 62, 63, 64, 65, 27, 66, 67, 2, 5, 68, 134, 135, 136, 137, 138, 139, 140, 141, 93, 142, 99, 98, 100, 77, 78, 79, 80, 106, 107, 108, 109, 110, 111, 112, 113, 114, 115, 116, 117, 97, 118, 119, 120, 44, 45, 46, 47, 48, 49, 50, 51, 24, 25, 26, 28, 29, 30, 31, 121, 122, 123, 124, 125, 126, 127, 128, 129, 91, 92, 94, 95, 96, 143, 144, 145, 146, 428, 429, 430, 431, 432, 433, 434, 435, 436, 437, 438, 439, 440, 441, 442, 443, 444, 445, 446, 481, 482, 483, 484, 485, 486, 487, 462, 463, 464, 465, 466, 467, 468, 469, 470, 471, 472, 473, 474, 475, 476, 477, 478, 479, 480] rfl (by decide +kernel)
set_option maxRecDepth 20000 in
theorem gX4_step_X4_refer : GoodIn wsX4_step (wsV RX4 215 RX4 yX4_refer wsX4_refer) := goodIn_app (goodIn_of _ (by decide +kernel)) ggX4_step_X4_refer
set_option maxRecDepth 20000 in
theorem ggX4_step_X5_fieldCount : GoodIn wsX4_step wsX5_fieldCount := goodIn_r _ [150, 151, 152, 153, 15, 154, 155, 156, 447, 448, 449, 450, 451, 452, 453, 454, 455, 456, 457, 458, 459, 460, 461] rfl (by decide +kernel)
set_option maxRecDepth 20000 in
theorem gX4_step_X5_fieldCount : GoodIn wsX4_step (wsV RX4 218 RX5 yX5_fieldCount wsX5_fieldCount) := goodIn_app (goodIn_of _ (by decide +kernel)) ggX4_step_X5_fieldCount
set_option maxRecDepth 20000 in
theorem ggX4_step_X4_gather : GoodIn wsX4_step wsX4_gather := goodIn_r _ [160, 67, 2, 5, 61, 68, 90, 91, 92, 93, 94, 95, 96, 97, 98, 99, 100, 161, 162, 163, 164, 77, 78, 79, 27, 80, 428, 429, 430, 431, 432, 433, 434, 435, 436, 437, 438, 439, 440, 441, 442, 443, 444, 445, 446, 481, 482, 483, 484, 485, 486, 487] rfl (by decide +kernel)
set_option maxRecDepth 20000 in
theorem gX4_step_X4_gather : GoodIn wsX4_step (wsV RX4 221 RX4 yX4_gather wsX4_gather) := goodIn_app (goodIn_of _ (by decide +kernel)) ggX4_step_X4_gather
set_option maxRecDepth 20000 in
theorem ggX4_step_X4_scatter : GoodIn wsX4_step wsX4_scatter := goodIn_r _ [168, 67, 2, 61, 169, 5, 68, 63, 64, 65, 27, 66, 170, 171, 172, 93, 173, 99, 98, 96, 100, 428, 429, 430, 431, 432, 433, 434, 435, 436, 437, 438, 439, 440, 441, 442, 443, 444, 445, 446, 481, 482, 483, 484, 485, 486, 487] rfl (by decide +kernel)
set_option maxRecDepth 20000 in
theorem gX4_step_X4_scatter : GoodIn wsX4_step (wsV RX4 224 RX4 yX4_scatter wsX4_scatter) := goodIn_app (goodIn_of _ (by decide +kernel)) ggX4_step_X4_scatter
set_option maxRecDepth 20000 in
theorem ggX4_step_X5_functionColumn : GoodIn wsX4_step wsX5_functionColumn := goodIn_r _ [20, 21, 22, 23, 447, 448, 449, 450, 451, 452, 453, 454, 455, 456, 457, 458, 459, 460, 461] rfl (by decide +kernel)
set_option maxRecDepth 20000 in
theorem gX4_step_X5_functionColumn : GoodIn wsX4_step (wsV RX4 227 RX5 yX5_functionColumn wsX5_functionColumn) := goodIn_app (goodIn_of _ (by decide +kernel)) ggX4_step_X5_functionColumn
set_option maxRecDepth 20000 in
theorem ggX4_step_X4_useCoin : GoodIn wsX4_step wsX4_useCoin := goodIn_r _ [178, 179, 61, 62, 6, 180, 181, 182, 183, 184, 27, 185, 67, 2, 5, 68, 186, 187, 188, 189, 190, 191, 192, 193, 194, 195, 196, 197, 198, 199, 200, 201, 202, 203, 204, 205, 206, 207, 208, 209, 210, 211, 212, 213, 214, 215, 216, 217, 218, 219, 220, 93, 221, 222, 223, 224, 225, 226, 227, 96, 228, 229, 118, 119, 120, 129, 91, 92, 94, 95, 97, 98, 99, 100, 230, 162, 163, 164, 24, 25, 26, 28, 29, 30, 31, 44, 45, 46, 47, 48, 49, 50, 51, 231, 232, 233, 234, 235, 236, 237, 238, 239, 63, 64, 65, 66, 86, 87, 88, 89, 90, 77, 78, 79, 80, 134, 135, 136, 137, 138, 240, 241, 242, 243, 244, 428, 429, 430, 431, 432, 433, 434, 435, 436, 437, 438, 439, 440, 441, 442, 443, 444, 445, 446, 481, 482, 483, 484, 485, 486, 487, 488, 489, 490, 491, 492, 493, 494, 495, 496, 497, 498, 499, 500, 501, 502, 503, 504, 505, 506, 507, 508, 509, 510, 511, 512, 513, 514, 462, 463, 464, 465, 466, 467, 468, 469, 470, 471, 472, 473, 474, 475, 476, 477, 478, 479, 480] rfl (by decide +kernel)
set_option maxRecDepth 20000 in
theorem gX4_step_X4_useCoin : GoodIn wsX4_step (wsV RX4 230 RX4 yX4_useCoin wsX4_useCoin) := goodIn_app (goodIn_of _ (by decide +kernel)) ggX4_step_X4_useCoin
set_option maxRecDepth 20000 in
theorem ggX4_step_X4_enter : GoodIn wsX4_step wsX4_enter := goodIn_r _ [248, 249, 2, 179, 6, 67, 7, 8, 9, 10, 68, 105, 250, 251, 252, 253, 254, 255, 256, 206, 257, 258, 259, 260, 186, 187, 188, 189, 190, 191, 192, 193, 194, 195, 196, 197, 198, 199, 200, 201, 202, 203, 204, 205, 207, 208, 209, 210, 211, 212, 213, 214, 215, 216, 217, 218, 219, 220, 93, 221, 222, 223, 224, 225, 226, 227, 96, 228, 229, 118, 119, 120, 129, 91, 92, 94, 95, 97, 98, 99, 100, 230, 162, 163, 164, 24, 25, 26, 27, 28, 29, 30, 31, 44, 45, 46, 47, 48, 49, 50, 51, 261, 262, 263, 15, 264, 17, 18, 19, 20, 21, 22, 23, 265, 266, 267, 268, 1, 4, 3, 428, 429, 430, 431, 432, 433, 434, 435, 436, 437, 438, 439, 440, 441, 442, 443, 444, 445, 446, 499, 500, 501, 502, 503, 504, 505, 506, 507, 508, 509, 510, 511, 512, 513, 514, 447, 448, 449, 450, 451, 452, 453, 454, 455, 456, 457, 458, 459, 460, 461, 488, 489, 490, 491, 492, 493, 494, 495, 496, 497, 498, 481, 482, 483, 484, 485, 486, 487, 462, 463, 464, 465, 466, 467, 468, 469, 470, 471, 472, 473, 474, 475, 476, 477, 478, 479, 480] rfl (by decide +kernel)
set_option maxRecDepth 20000 in
theorem gX4_step_X4_enter : GoodIn wsX4_step (wsV RX4 233 RX4 yX4_enter wsX4_enter) := goodIn_app (goodIn_of _ (by decide +kernel)) ggX4_step_X4_enter
set_option maxRecDepth 20000 in
theorem ggX4_step_X4_reckon : GoodIn wsX4_step wsX4_reckon := goodIn_r _ [272, 61, 62, 273, 169, 138, 63, 64, 65, 27, 66, 67, 2, 5, 68, 86, 87, 88, 89, 90, 91, 92, 93, 94, 95, 96, 97, 98, 99, 100, 77, 78, 79, 80, 274, 275, 276, 237, 277, 278, 279, 280, 281, 282, 283, 284, 285, 286, 287, 288, 289, 290, 24, 25, 26, 28, 29, 30, 31, 291, 292, 293, 294, 110, 111, 112, 113, 114, 115, 116, 117, 118, 119, 120, 44, 45, 46, 47, 48, 49, 50, 51, 295, 296, 297, 298, 299, 300, 301, 302, 303, 304, 305, 306, 236, 238, 239, 307, 308, 309, 310, 311, 312, 313, 314, 315, 316, 317, 318, 319, 320, 321, 322, 323, 324, 325, 326, 327, 328, 329, 330, 331, 332, 333, 334, 335, 336, 337, 338, 339, 340, 341, 342, 343, 344, 345, 346, 347, 348, 349, 350, 351, 352, 353, 428, 429, 430, 431, 432, 433, 434, 435, 436, 437, 438, 439, 440, 441, 442, 443, 444, 445, 446, 481, 482, 483, 484, 485, 486, 487, 515, 516, 517, 518, 519, 462, 463, 464, 465, 466, 467, 468, 469, 470, 471, 472, 473, 474, 475, 476, 477, 478, 479, 480] rfl (by decide +kernel)
set_option maxRecDepth 20000 in
theorem gX4_step_X4_reckon : GoodIn wsX4_step (wsV RX4 236 RX4 yX4_reckon wsX4_reckon) := goodIn_app (goodIn_of _ (by decide +kernel)) ggX4_step_X4_reckon
set_option maxRecDepth 20000 in
theorem ggX4_step_X4_keep : GoodIn wsX4_step wsX4_keep := goodIn_r _ [357, 48, 85, 61, 62, 179, 6, 180, 358, 359, 63, 64, 65, 27, 66, 67, 2, 5, 68, 186, 187, 188, 189, 190, 191, 192, 193, 194, 195, 196, 197, 198, 199, 200, 201, 202, 203, 204, 205, 206, 207, 208, 209, 210, 211, 212, 213, 214, 215, 216, 217, 218, 219, 220, 93, 221, 222, 223, 224, 225, 226, 227, 96, 228, 229, 118, 119, 120, 129, 91, 92, 94, 95, 97, 98, 99, 100, 230, 162, 163, 164, 24, 25, 26, 28, 29, 30, 31, 110, 111, 112, 113, 114, 115, 116, 117, 44, 45, 46, 47, 49, 50, 51, 77, 78, 79, 80, 86, 87, 88, 89, 90, 428, 429, 430, 431, 432, 433, 434, 435, 436, 437, 438, 439, 440, 441, 442, 443, 444, 445, 446, 462, 463, 464, 465, 466, 467, 468, 469, 470, 471, 472, 473, 474, 475, 476, 477, 478, 479, 480, 481, 482, 483, 484, 485, 486, 487, 488, 489, 490, 491, 492, 493, 494, 495, 496, 497, 498, 499, 500, 501, 502, 503, 504, 505, 506, 507, 508, 509, 510, 511, 512, 513, 514] rfl (by decide +kernel)
set_option maxRecDepth 20000 in
theorem gX4_step_X4_keep : GoodIn wsX4_step (wsV RX4 242 RX4 yX4_keep wsX4_keep) := goodIn_app (goodIn_of _ (by decide +kernel)) ggX4_step_X4_keep
set_option maxRecDepth 20000 in
theorem ggX4_step_X4_hash : GoodIn wsX4_step wsX4_hash := goodIn_r _ [363, 61, 169, 364, 365, 366, 9, 367, 62, 368, 369, 370, 371, 63, 64, 65, 27, 66, 67, 2, 5, 68, 44, 45, 46, 47, 48, 49, 50, 51, 24, 25, 26, 28, 29, 30, 31, 372, 373, 374, 375, 376, 377, 378, 379, 251, 252, 253, 380, 381, 382, 383, 384, 385, 386, 387, 388, 389, 390, 391, 392, 393, 394, 395, 396, 397, 90, 91, 92, 93, 94, 95, 96, 97, 98, 99, 100, 398, 399, 400, 401, 402, 161, 162, 163, 164, 77, 78, 79, 80, 428, 429, 430, 431, 432, 433, 434, 435, 436, 437, 438, 439, 440, 441, 442, 443, 444, 445, 446, 481, 482, 483, 484, 485, 486, 487, 462, 463, 464, 465, 466, 467, 468, 469, 470, 471, 472, 473, 474, 475, 476, 477, 478, 479, 480, 520, 521, 522, 523] rfl (by decide +kernel)
set_option maxRecDepth 20000 in
theorem gX4_step_X4_hash : GoodIn wsX4_step (wsV RX4 246 RX4 yX4_hash wsX4_hash) := goodIn_app (goodIn_of _ (by decide +kernel)) ggX4_step_X4_hash
set_option maxRecDepth 20000 in
theorem ggX4_step_X4_lineUp : GoodIn wsX4_step wsX4_lineUp := goodIn_r _ [406, 61, 169, 44, 45, 46, 27, 47, 48, 49, 50, 51, 24, 25, 26, 28, 29, 30, 31, 157, 158, 159, 160, 67, 2, 5, 68, 90, 91, 92, 93, 94, 95, 96, 97, 98, 99, 100, 161, 162, 163, 164, 77, 78, 79, 80, 182, 183, 184, 185, 134, 135, 136, 137, 138, 62, 63, 64, 65, 66, 86, 87, 88, 89, 407, 408, 409, 410, 364, 6, 411, 412, 413, 414, 244, 170, 171, 172, 173, 415, 416, 417, 418, 235, 236, 237, 238, 239, 139, 140, 141, 142, 419, 420, 421, 422, 423, 144, 145, 146, 424, 425, 426, 427, 428, 429, 430, 431, 432, 433, 434, 435, 436, 437, 438, 439, 440, 441, 442, 443, 444, 445, 446, 481, 482, 483, 484, 485, 486, 487, 462, 463, 464, 465, 466, 467, 468, 469, 470, 471, 472, 473, 474, 475, 476, 477, 478, 479, 480] rfl (by decide +kernel)
set_option maxRecDepth 20000 in
theorem gX4_step_X4_lineUp : GoodIn wsX4_step (wsV RX4 249 RX4 yX4_lineUp wsX4_lineUp) := goodIn_app (goodIn_of _ (by decide +kernel)) ggX4_step_X4_lineUp
set_option maxRecDepth 20000 in
theorem ggX4_steer_X4_pop : GoodIn wsX4_steer wsX4_pop := goodIn_r _ [9, 10, 4, 11, 12, 42, 43, 44, 45, 46, 47, 48, 49, 50, 51, 52, 53, 54, 55, 56, 57, 58, 59, 60] rfl (by decide +kernel)
set_option maxRecDepth 20000 in
theorem gX4_steer_X4_pop : GoodIn wsX4_steer (wsV RX4 252 RX4 yX4_pop wsX4_pop) := goodIn_app (goodIn_of _ (by decide +kernel)) ggX4_steer_X4_pop
set_option maxRecDepth 20000 in
theorem ggX4_steer_X4_giveBack : GoodIn wsX4_steer wsX4_giveBack := goodIn_r _ [16, 17, 4, 18, 10, 11, 19, 12, 20, 21, 22, 23, 24, 25, 26, 27, 28, 29, 30, 31, 32, 33, 34, 8, 35, 42, 43, 44, 45, 46, 47, 48, 49, 50, 51, 52, 53, 54, 55, 56, 57, 58, 59, 60, 68, 69, 70, 71, 72, 73, 74, 75, 76, 77, 78, 79, 80, 81, 82] rfl (by decide +kernel)
set_option maxRecDepth 20000 in
theorem gX4_steer_X4_giveBack : GoodIn wsX4_steer (wsV RX4 256 RX4 yX4_giveBack wsX4_giveBack) := goodIn_app (goodIn_of _ (by decide +kernel)) ggX4_steer_X4_giveBack
set_option maxRecDepth 20000 in
theorem ggX4_steer_X4_end : GoodIn wsX4_steer wsX4_end := goodIn_r _ [39, 19, 40, 41, 42, 43, 44, 45, 46, 47, 48, 49, 50, 51, 52, 53, 54, 55, 56, 57, 58, 59, 60] rfl (by decide +kernel)
set_option maxRecDepth 20000 in
theorem gX4_steer_X4_end : GoodIn wsX4_steer (wsV RX4 148 RX4 yX4_end wsX4_end) := goodIn_app (goodIn_of _ (by decide +kernel)) ggX4_steer_X4_end
set_option maxRecDepth 20000 in
theorem ggX4_giveBack_X5_gives : GoodIn wsX4_giveBack wsX5_gives := goodIn_r _ [12, 13, 14, 15, 11, 16, 17, 18, 19, 44, 45, 46, 47, 48, 49, 50, 51, 52, 53, 54, 55, 56, 57, 58] rfl (by decide +kernel)
set_option maxRecDepth 20000 in
theorem gX4_giveBack_X5_gives : GoodIn wsX4_giveBack (wsV RX4 259 RX5 yX5_gives wsX5_gives) := goodIn_app (goodIn_of _ (by decide +kernel)) ggX4_giveBack_X5_gives
set_option maxRecDepth 20000 in
theorem ggX4_giveBack_X4_push : GoodIn wsX4_giveBack wsX4_push := goodIn_r _ [24, 4, 2, 5, 7, 25, 26, 27, 28, 29, 30, 31, 32, 33, 34, 35, 36, 37, 38, 39, 40, 41, 42, 43] rfl (by decide +kernel)
set_option maxRecDepth 20000 in
theorem gX4_giveBack_X4_push : GoodIn wsX4_giveBack (wsV RX4 176 RX4 yX4_push wsX4_push) := goodIn_app (goodIn_of _ (by decide +kernel)) ggX4_giveBack_X4_push
set_option maxRecDepth 20000 in
theorem ggX4_set_X5_at : GoodIn wsX4_set wsX5_at := goodIn_r _ [7, 8, 9, 78, 79, 80, 81, 82, 83, 84, 85, 86, 87, 88, 89, 90, 91, 92] rfl (by decide +kernel)
set_option maxRecDepth 20000 in
theorem gX4_set_X5_at : GoodIn wsX4_set (wsV RX4 188 RX5 yX5_at wsX5_at) := goodIn_app (goodIn_of _ (by decide +kernel)) ggX4_set_X5_at
set_option maxRecDepth 20000 in
theorem ggX4_set_X4_pushNumber : GoodIn wsX4_set wsX4_pushNumber := goodIn_r _ [14, 15, 16, 17, 18, 19, 20, 21, 22, 23, 24, 25, 26, 27, 28, 29, 13, 30, 31, 32, 33, 34, 40, 41, 42, 43, 44, 45, 46, 47, 48, 49, 50, 51, 52, 53, 54, 55, 56, 57, 58, 93, 94, 95, 96, 97, 98, 99] rfl (by decide +kernel)
set_option maxRecDepth 20000 in
theorem gX4_set_X4_pushNumber : GoodIn wsX4_set (wsV RX4 262 RX4 yX4_pushNumber wsX4_pushNumber) := goodIn_app (goodIn_of _ (by decide +kernel)) ggX4_set_X4_pushNumber
set_option maxRecDepth 20000 in
theorem ggX4_set_X5_numberAt : GoodIn wsX4_set wsX5_numberAt := goodIn_r _ [38, 39, 4, 5, 6, 7, 8, 9, 78, 79, 80, 81, 82, 83, 84, 85, 86, 87, 88, 89, 90, 91, 92] rfl (by decide +kernel)
set_option maxRecDepth 20000 in
theorem gX4_set_X5_numberAt : GoodIn wsX4_set (wsV RX4 195 RX5 yX5_numberAt wsX5_numberAt) := goodIn_app (goodIn_of _ (by decide +kernel)) ggX4_set_X5_numberAt
set_option maxRecDepth 20000 in
theorem ggX4_useLocal_X4_pop : GoodIn wsX4_useLocal wsX4_pop := goodIn_r _ [7, 8, 9, 2, 10, 70, 71, 72, 73, 74, 75, 76, 77, 78, 79, 80, 81, 82, 83, 84, 85, 86, 87, 88] rfl (by decide +kernel)
set_option maxRecDepth 20000 in
theorem gX4_useLocal_X4_pop : GoodIn wsX4_useLocal (wsV RX4 252 RX4 yX4_pop wsX4_pop) := goodIn_app (goodIn_of _ (by decide +kernel)) ggX4_useLocal_X4_pop
set_option maxRecDepth 20000 in
theorem ggX4_useLocal_X4_pushCopy : GoodIn wsX4_useLocal wsX4_pushCopy := goodIn_r _ [14, 15, 16, 17, 18, 19, 20, 21, 22, 23, 24, 25, 26, 27, 28, 29, 30, 31, 32, 33, 34, 6, 35, 36, 37, 38, 39, 40, 41, 42, 43, 44, 45, 46, 47, 48, 49, 50, 51, 52, 53, 54, 55, 56, 57, 58, 59, 60, 61, 62, 63, 64, 8, 9, 2, 10, 70, 71, 72, 73, 74, 75, 76, 77, 78, 79, 80, 81, 82, 83, 84, 85, 86, 87, 88, 89, 90, 91, 92, 93, 94, 95, 96, 97, 98, 99, 100, 101, 102, 103, 104, 105, 106, 107, 108, 109, 110, 111, 112, 113, 114] rfl (by decide +kernel)
set_option maxRecDepth 20000 in
theorem gX4_useLocal_X4_pushCopy : GoodIn wsX4_useLocal (wsV RX4 268 RX4 yX4_pushCopy wsX4_pushCopy) := goodIn_app (goodIn_of _ (by decide +kernel)) ggX4_useLocal_X4_pushCopy
set_option maxRecDepth 20000 in
theorem ggX4_useLocal_X4_push : GoodIn wsX4_useLocal wsX4_push := goodIn_r _ [64, 8, 9, 2, 10, 70, 71, 72, 73, 74, 75, 76, 77, 78, 79, 80, 81, 82, 83, 84, 85, 86, 87, 88] rfl (by decide +kernel)
set_option maxRecDepth 20000 in
theorem gX4_useLocal_X4_push : GoodIn wsX4_useLocal (wsV RX4 176 RX4 yX4_push wsX4_push) := goodIn_app (goodIn_of _ (by decide +kernel)) ggX4_useLocal_X4_push
set_option maxRecDepth 20000 in
theorem ggX4_useLocal_X4_pushNumber : GoodIn wsX4_useLocal wsX4_pushNumber := goodIn_r _ [68, 15, 69, 56, 57, 19, 58, 59, 60, 25, 27, 26, 28, 61, 62, 63, 6, 64, 8, 9, 2, 10, 70, 71, 72, 73, 74, 75, 76, 77, 78, 79, 80, 81, 82, 83, 84, 85, 86, 87, 88, 89, 90, 91, 92, 93, 94, 95] rfl (by decide +kernel)
set_option maxRecDepth 20000 in
theorem gX4_useLocal_X4_pushNumber : GoodIn wsX4_useLocal (wsV RX4 262 RX4 yX4_pushNumber wsX4_pushNumber) := goodIn_app (goodIn_of _ (by decide +kernel)) ggX4_useLocal_X4_pushNumber
set_option maxRecDepth 20000 in
theorem ggX4_pushCopy_X1_sizeOf : GoodIn wsX4_pushCopy wsX1_sizeOf := goodIn_r _ [6, 7, 8, 9, 5, 10, 11, 12, 13, 14, 15, 16, 17, 75, 76, 77, 78, 79, 80, 81] rfl (by decide +kernel)
set_option maxRecDepth 20000 in
theorem gX4_pushCopy_X1_sizeOf : GoodIn wsX4_pushCopy (wsV RX4 271 RX1 yX1_sizeOf wsX1_sizeOf) := goodIn_app (goodIn_of _ (by decide +kernel)) ggX4_pushCopy_X1_sizeOf
set_option maxRecDepth 20000 in
theorem ggX4_pushCopy_X4_pay : GoodIn wsX4_pushCopy wsX4_pay := goodIn_r _ [22, 23, 24, 25, 26, 27, 28, 29, 21, 30, 31, 32, 33, 56, 57, 58, 59, 60, 61, 62, 63, 64, 65, 66, 67, 68, 69, 70, 71, 72, 73, 74, 82, 83, 84, 85, 86, 87, 88, 89, 90, 91, 92, 93, 94, 95, 96, 97, 98, 99, 100] rfl (by decide +kernel)
set_option maxRecDepth 20000 in
theorem gX4_pushCopy_X4_pay : GoodIn wsX4_pushCopy (wsV RX4 191 RX4 yX4_pay wsX4_pay) := goodIn_app (goodIn_of _ (by decide +kernel)) ggX4_pushCopy_X4_pay
set_option maxRecDepth 20000 in
theorem ggX4_pushCopy_X1_copyOf : GoodIn wsX4_pushCopy wsX1_copyOf := goodIn_r _ [37, 38, 39, 40, 5, 41, 11, 13, 12, 14, 42, 43, 44, 45, 46, 47, 15, 16, 17, 75, 76, 77, 78, 79, 80, 81] rfl (by decide +kernel)
set_option maxRecDepth 20000 in
theorem gX4_pushCopy_X1_copyOf : GoodIn wsX4_pushCopy (wsV RX4 274 RX1 yX1_copyOf wsX1_copyOf) := goodIn_app (goodIn_of _ (by decide +kernel)) ggX4_pushCopy_X1_copyOf
set_option maxRecDepth 20000 in
theorem ggX4_pushCopy_X4_push : GoodIn wsX4_pushCopy wsX4_push := goodIn_r _ [51, 52, 53, 54, 55, 56, 57, 58, 59, 60, 61, 62, 63, 64, 65, 66, 67, 68, 69, 70, 71, 72, 73, 74] rfl (by decide +kernel)
set_option maxRecDepth 20000 in
theorem gX4_pushCopy_X4_push : GoodIn wsX4_pushCopy (wsV RX4 176 RX4 yX4_push wsX4_push) := goodIn_app (goodIn_of _ (by decide +kernel)) ggX4_pushCopy_X4_push
set_option maxRecDepth 20000 in
theorem ggX4_refer_X4_pop : GoodIn wsX4_refer wsX4_pop := goodIn_r _ [7, 8, 9, 10, 11, 78, 79, 80, 81, 82, 83, 84, 85, 86, 87, 88, 89, 90, 91, 92, 93, 94, 95, 96] rfl (by decide +kernel)
set_option maxRecDepth 20000 in
theorem gX4_refer_X4_pop : GoodIn wsX4_refer (wsV RX4 252 RX4 yX4_pop wsX4_pop) := goodIn_app (goodIn_of _ (by decide +kernel)) ggX4_refer_X4_pop
set_option maxRecDepth 20000 in
theorem ggX4_refer_X4_target : GoodIn wsX4_refer wsX4_target := goodIn_r _ [15, 1, 16, 2, 10, 78, 79, 80, 81, 82, 83, 84, 85, 86, 87, 88, 89, 90, 91, 92, 93, 94, 95, 96, 97, 98, 99, 100, 101, 102, 103] rfl (by decide +kernel)
set_option maxRecDepth 20000 in
theorem gX4_refer_X4_target : GoodIn wsX4_refer (wsV RX4 277 RX4 yX4_target wsX4_target) := goodIn_app (goodIn_of _ (by decide +kernel)) ggX4_refer_X4_target
set_option maxRecDepth 20000 in
theorem ggX4_refer_X1_child : GoodIn wsX4_refer wsX1_child := goodIn_r _ [21, 22, 23, 24, 97, 98, 99, 100, 101, 102, 103] rfl (by decide +kernel)
set_option maxRecDepth 20000 in
theorem gX4_refer_X1_child : GoodIn wsX4_refer (wsV RX4 280 RX1 yX1_child wsX1_child) := goodIn_app (goodIn_of _ (by decide +kernel)) ggX4_refer_X1_child
set_option maxRecDepth 20000 in
theorem ggX4_refer_X4_push : GoodIn wsX4_refer wsX4_push := goodIn_r _ [28, 8, 9, 10, 11, 78, 79, 80, 81, 82, 83, 84, 85, 86, 87, 88, 89, 90, 91, 92, 93, 94, 95, 96] rfl (by decide +kernel)
set_option maxRecDepth 20000 in
theorem gX4_refer_X4_push : GoodIn wsX4_refer (wsV RX4 176 RX4 yX4_push wsX4_push) := goodIn_app (goodIn_of _ (by decide +kernel)) ggX4_refer_X4_push
set_option maxRecDepth 20000 in
theorem ggX4_refer_X4_pushCopy : GoodIn wsX4_refer wsX4_pushCopy := goodIn_r _ [32, 1, 33, 34, 35, 20, 36, 37, 38, 39, 40, 41, 22, 23, 24, 42, 43, 44, 45, 46, 47, 6, 48, 49, 50, 51, 52, 53, 54, 55, 56, 57, 58, 59, 60, 61, 62, 63, 64, 65, 66, 67, 68, 69, 70, 71, 72, 73, 25, 26, 27, 28, 8, 9, 10, 11, 78, 79, 80, 81, 82, 83, 84, 85, 86, 87, 88, 89, 90, 91, 92, 93, 94, 95, 96, 97, 98, 99, 100, 101, 102, 103, 104, 105, 106, 107, 108, 109, 110, 111, 112, 113, 114, 115, 116, 117, 118, 119, 120, 121, 122] rfl (by decide +kernel)
set_option maxRecDepth 20000 in
theorem gX4_refer_X4_pushCopy : GoodIn wsX4_refer (wsV RX4 268 RX4 yX4_pushCopy wsX4_pushCopy) := goodIn_app (goodIn_of _ (by decide +kernel)) ggX4_refer_X4_pushCopy
set_option maxRecDepth 20000 in
theorem ggX4_refer_X1_assign : GoodIn wsX4_refer wsX1_assign := goodIn_r _ [77, 41, 22, 23, 97, 98, 99, 100, 101, 102, 103] rfl (by decide +kernel)
set_option maxRecDepth 20000 in
theorem gX4_refer_X1_assign : GoodIn wsX4_refer (wsV RX4 284 RX1 yX1_assign wsX1_assign) := goodIn_app (goodIn_of _ (by decide +kernel)) ggX4_refer_X1_assign
set_option maxRecDepth 20000 in
theorem ggX4_gather_X1_make : GoodIn wsX4_gather wsX1_make := goodIn_r _ [10, 11, 12, 13, 14, 15, 16, 45, 46, 47, 48, 49, 50, 51] rfl (by decide +kernel)
set_option maxRecDepth 20000 in
theorem gX4_gather_X1_make : GoodIn wsX4_gather (wsV RX4 135 RX1 yX1_make wsX1_make) := goodIn_app (goodIn_of _ (by decide +kernel)) ggX4_gather_X1_make
set_option maxRecDepth 20000 in
theorem ggX4_gather_X1_prepend : GoodIn wsX4_gather wsX1_prepend := goodIn_r _ [20, 16, 15, 14, 45, 46, 47, 48, 49, 50, 51] rfl (by decide +kernel)
set_option maxRecDepth 20000 in
theorem gX4_gather_X1_prepend : GoodIn wsX4_gather (wsV RX4 287 RX1 yX1_prepend wsX1_prepend) := goodIn_app (goodIn_of _ (by decide +kernel)) ggX4_gather_X1_prepend
set_option maxRecDepth 20000 in
theorem ggX4_gather_X4_push : GoodIn wsX4_gather wsX4_push := goodIn_r _ [25, 1, 2, 3, 5, 26, 27, 28, 29, 30, 31, 32, 33, 34, 35, 36, 37, 38, 39, 40, 41, 42, 43, 44] rfl (by decide +kernel)
set_option maxRecDepth 20000 in
theorem gX4_gather_X4_push : GoodIn wsX4_gather (wsV RX4 176 RX4 yX4_push wsX4_push) := goodIn_app (goodIn_of _ (by decide +kernel)) ggX4_gather_X4_push
set_option maxRecDepth 20000 in
theorem ggX4_scatter_X4_pop : GoodIn wsX4_scatter wsX4_pop := goodIn_r _ [11, 1, 2, 5, 6, 21, 22, 23, 24, 25, 26, 27, 28, 29, 30, 31, 32, 33, 34, 35, 36, 37, 38, 39] rfl (by decide +kernel)
set_option maxRecDepth 20000 in
theorem gX4_scatter_X4_pop : GoodIn wsX4_scatter (wsV RX4 252 RX4 yX4_pop wsX4_pop) := goodIn_app (goodIn_of _ (by decide +kernel)) ggX4_scatter_X4_pop
set_option maxRecDepth 20000 in
theorem ggX4_scatter_X1_detach : GoodIn wsX4_scatter wsX1_detach := goodIn_r _ [16, 17, 18, 19, 20, 40, 41, 42, 43, 44, 45, 46] rfl (by decide +kernel)
set_option maxRecDepth 20000 in
theorem gX4_scatter_X1_detach : GoodIn wsX4_scatter (wsV RX4 290 RX1 yX1_detach wsX1_detach) := goodIn_app (goodIn_of _ (by decide +kernel)) ggX4_scatter_X1_detach
set_option maxRecDepth 20000 in
theorem ggX4_enter_X7_findProgram : GoodIn wsX4_enter wsX7_findProgram := goodIn_r _ [20, 21, 22, 23, 139, 140, 141, 142, 143, 144, 145, 146, 147, 148, 149, 150, 151, 152, 153, 154, 155, 156, 157, 158, 159, 160, 161, 162, 163, 164, 165, 166, 167, 168, 169] rfl (by decide +kernel)
set_option maxRecDepth 20000 in
theorem gX4_enter_X7_findProgram : GoodIn wsX4_enter (wsV RX4 109 RX7 yX7_findProgram wsX7_findProgram) := goodIn_app (goodIn_of _ (by decide +kernel)) ggX4_enter_X7_findProgram
set_option maxRecDepth 20000 in
theorem ggX4_enter_X2_ask : GoodIn wsX4_enter wsX2_ask := goodIn_r _ [28, 29, 30, 31, 32, 33, 34, 35, 36, 37, 38, 39, 40, 41, 42, 43, 19, 44, 45, 46, 47, 48, 49, 50, 51, 52, 53, 54, 55, 56, 57, 58, 59, 60, 61, 62, 63, 64, 65, 66, 67, 68, 69, 70, 71, 72, 73, 74, 75, 76, 77, 78, 79, 80, 81, 82, 83, 84, 170, 171, 172, 173, 174, 175, 176, 177, 178, 179, 180, 139, 140, 141, 142, 143, 144, 145, 146, 147, 148, 149, 150, 151, 152, 153, 154, 181, 182, 183, 184, 185, 186, 187] rfl (by decide +kernel)
set_option maxRecDepth 20000 in
theorem gX4_enter_X2_ask : GoodIn wsX4_enter (wsV RX4 293 RX2 yX2_ask wsX2_ask) := goodIn_app (goodIn_of _ (by decide +kernel)) ggX4_enter_X2_ask
set_option maxRecDepth 20000 in
theorem ggX4_enter_X4_end : GoodIn wsX4_enter wsX4_end := goodIn_r _ [89, 90, 91, 92, 120, 121, 122, 123, 124, 125, 126, 127, 128, 129, 130, 131, 132, 133, 134, 135, 136, 137, 138] rfl (by decide +kernel)
set_option maxRecDepth 20000 in
theorem gX4_enter_X4_end : GoodIn wsX4_enter (wsV RX4 148 RX4 yX4_end wsX4_end) := goodIn_app (goodIn_of _ (by decide +kernel)) ggX4_enter_X4_end
set_option maxRecDepth 20000 in
theorem ggX4_enter_X4_pay : GoodIn wsX4_enter wsX4_pay := goodIn_r _ [96, 97, 98, 99, 100, 85, 86, 87, 88, 89, 90, 91, 92, 120, 121, 122, 123, 124, 125, 126, 127, 128, 129, 130, 131, 132, 133, 134, 135, 136, 137, 138, 188, 189, 190, 191, 192, 193, 194, 195, 196, 197, 198, 199, 200, 201, 202, 203, 204, 205, 206] rfl (by decide +kernel)
set_option maxRecDepth 20000 in
theorem gX4_enter_X4_pay : GoodIn wsX4_enter (wsV RX4 191 RX4 yX4_pay wsX4_pay) := goodIn_app (goodIn_of _ (by decide +kernel)) ggX4_enter_X4_pay
set_option maxRecDepth 20000 in
theorem ggX4_enter_X5_takes : GoodIn wsX4_enter wsX5_takes := goodIn_r _ [105, 106, 107, 108, 104, 109, 110, 111, 112, 155, 156, 157, 158, 159, 160, 161, 162, 163, 164, 165, 166, 167, 168, 169] rfl (by decide +kernel)
set_option maxRecDepth 20000 in
theorem gX4_enter_X5_takes : GoodIn wsX4_enter (wsV RX4 297 RX5 yX5_takes wsX5_takes) := goodIn_app (goodIn_of _ (by decide +kernel)) ggX4_enter_X5_takes
set_option maxRecDepth 20000 in
theorem ggX4_enter_X4_pushFrame : GoodIn wsX4_enter wsX4_pushFrame := goodIn_r _ [116, 2, 117, 118, 119, 5, 11, 120, 121, 122, 123, 124, 125, 126, 127, 128, 129, 130, 131, 132, 133, 134, 135, 136, 137, 138] rfl (by decide +kernel)
set_option maxRecDepth 20000 in
theorem gX4_enter_X4_pushFrame : GoodIn wsX4_enter (wsV RX4 118 RX4 yX4_pushFrame wsX4_pushFrame) := goodIn_app (goodIn_of _ (by decide +kernel)) ggX4_enter_X4_pushFrame
set_option maxRecDepth 20000 in
theorem ggX4_useCoin_X4_peek : GoodIn wsX4_useCoin wsX4_peek := goodIn_r _ [11, 12, 13, 14, 15, 125, 126, 127, 128, 129, 130, 131, 132, 133, 134, 135, 136, 137, 138, 139, 140, 141, 142, 143] rfl (by decide +kernel)
set_option maxRecDepth 20000 in
theorem gX4_useCoin_X4_peek : GoodIn wsX4_useCoin (wsV RX4 306 RX4 yX4_peek wsX4_peek) := goodIn_app (goodIn_of _ (by decide +kernel)) ggX4_useCoin_X4_peek
set_option maxRecDepth 20000 in
theorem ggX4_useCoin_X2_ask : GoodIn wsX4_useCoin wsX2_ask := goodIn_r _ [20, 21, 22, 23, 24, 25, 26, 27, 28, 29, 30, 31, 32, 33, 34, 35, 36, 37, 38, 39, 40, 41, 42, 43, 44, 45, 46, 47, 48, 49, 50, 51, 52, 53, 54, 55, 56, 57, 58, 59, 60, 61, 62, 63, 64, 65, 66, 67, 68, 69, 70, 71, 72, 73, 74, 75, 76, 77, 151, 152, 153, 154, 155, 156, 157, 158, 159, 160, 161, 162, 163, 164, 165, 166, 167, 168, 169, 170, 171, 172, 173, 174, 175, 176, 177, 144, 145, 146, 147, 148, 149, 150] rfl (by decide +kernel)
set_option maxRecDepth 20000 in
theorem gX4_useCoin_X2_ask : GoodIn wsX4_useCoin (wsV RX4 293 RX2 yX2_ask wsX2_ask) := goodIn_app (goodIn_of _ (by decide +kernel)) ggX4_useCoin_X2_ask
set_option maxRecDepth 20000 in
theorem ggX4_useCoin_X4_end : GoodIn wsX4_useCoin wsX4_end := goodIn_r _ [81, 82, 83, 84, 125, 126, 127, 128, 129, 130, 131, 132, 133, 134, 135, 136, 137, 138, 139, 140, 141, 142, 143] rfl (by decide +kernel)
set_option maxRecDepth 20000 in
theorem gX4_useCoin_X4_end : GoodIn wsX4_useCoin (wsV RX4 148 RX4 yX4_end wsX4_end) := goodIn_app (goodIn_of _ (by decide +kernel)) ggX4_useCoin_X4_end
set_option maxRecDepth 20000 in
theorem ggX4_useCoin_X4_pay : GoodIn wsX4_useCoin wsX4_pay := goodIn_r _ [88, 89, 90, 91, 92, 78, 79, 80, 10, 81, 82, 83, 84, 125, 126, 127, 128, 129, 130, 131, 132, 133, 134, 135, 136, 137, 138, 139, 140, 141, 142, 143, 178, 179, 180, 181, 182, 183, 184, 185, 186, 187, 188, 189, 190, 191, 192, 193, 194, 195, 196] rfl (by decide +kernel)
set_option maxRecDepth 20000 in
theorem gX4_useCoin_X4_pay : GoodIn wsX4_useCoin (wsV RX4 191 RX4 yX4_pay wsX4_pay) := goodIn_app (goodIn_of _ (by decide +kernel)) ggX4_useCoin_X4_pay
set_option maxRecDepth 20000 in
theorem ggX4_useCoin_X4_withdraw : GoodIn wsX4_useCoin wsX4_withdraw := goodIn_r _ [96, 1, 6, 97, 98, 99, 100, 101, 78, 79, 80, 10, 81, 82, 83, 84, 102, 103, 104, 105, 12, 13, 14, 15, 106, 107, 108, 109, 2, 110, 66, 67, 51, 68, 69, 59, 70, 71, 72, 73, 111, 112, 113, 114, 125, 126, 127, 128, 129, 130, 131, 132, 133, 134, 135, 136, 137, 138, 139, 140, 141, 142, 143, 151, 152, 153, 154, 155, 156, 157, 158, 159, 160, 161, 144, 145, 146, 147, 148, 149, 150] rfl (by decide +kernel)
set_option maxRecDepth 20000 in
theorem gX4_useCoin_X4_withdraw : GoodIn wsX4_useCoin (wsV RX4 309 RX4 yX4_withdraw wsX4_withdraw) := goodIn_app (goodIn_of _ (by decide +kernel)) ggX4_useCoin_X4_withdraw
set_option maxRecDepth 20000 in
theorem ggX4_useCoin_X4_pop : GoodIn wsX4_useCoin wsX4_pop := goodIn_r _ [105, 12, 13, 14, 15, 125, 126, 127, 128, 129, 130, 131, 132, 133, 134, 135, 136, 137, 138, 139, 140, 141, 142, 143] rfl (by decide +kernel)
set_option maxRecDepth 20000 in
theorem gX4_useCoin_X4_pop : GoodIn wsX4_useCoin (wsV RX4 252 RX4 yX4_pop wsX4_pop) := goodIn_app (goodIn_of _ (by decide +kernel)) ggX4_useCoin_X4_pop
set_option maxRecDepth 20000 in
theorem ggX4_useCoin_X4_target : GoodIn wsX4_useCoin wsX4_target := goodIn_r _ [118, 2, 119, 3, 14, 125, 126, 127, 128, 129, 130, 131, 132, 133, 134, 135, 136, 137, 138, 139, 140, 141, 142, 143, 144, 145, 146, 147, 148, 149, 150] rfl (by decide +kernel)
set_option maxRecDepth 20000 in
theorem gX4_useCoin_X4_target : GoodIn wsX4_useCoin (wsV RX4 277 RX4 yX4_target wsX4_target) := goodIn_app (goodIn_of _ (by decide +kernel)) ggX4_useCoin_X4_target
set_option maxRecDepth 20000 in
theorem ggX4_useCoin_X4_pushNumber : GoodIn wsX4_useCoin wsX4_pushNumber := goodIn_r _ [109, 2, 110, 66, 67, 51, 68, 69, 59, 70, 71, 72, 73, 111, 112, 113, 10, 114, 12, 13, 14, 15, 125, 126, 127, 128, 129, 130, 131, 132, 133, 134, 135, 136, 137, 138, 139, 140, 141, 142, 143, 144, 145, 146, 147, 148, 149, 150] rfl (by decide +kernel)
set_option maxRecDepth 20000 in
theorem gX4_useCoin_X4_pushNumber : GoodIn wsX4_useCoin (wsV RX4 262 RX4 yX4_pushNumber wsX4_pushNumber) := goodIn_app (goodIn_of _ (by decide +kernel)) ggX4_useCoin_X4_pushNumber
set_option maxRecDepth 20000 in
theorem ggX4_useCoin_X4_split : GoodIn wsX4_useCoin wsX4_split := goodIn_r _ [123, 2, 3, 124, 102, 103, 104, 10, 105, 12, 13, 14, 15, 97, 98, 99, 100, 101, 78, 79, 80, 81, 82, 83, 84, 106, 107, 108, 109, 110, 66, 67, 51, 68, 69, 59, 70, 71, 72, 73, 111, 112, 113, 114, 125, 126, 127, 128, 129, 130, 131, 132, 133, 134, 135, 136, 137, 138, 139, 140, 141, 142, 143, 144, 145, 146, 147, 148, 149, 150] rfl (by decide +kernel)
set_option maxRecDepth 20000 in
theorem gX4_useCoin_X4_split : GoodIn wsX4_useCoin (wsV RX4 320 RX4 yX4_split wsX4_split) := goodIn_app (goodIn_of _ (by decide +kernel)) ggX4_useCoin_X4_split
set_option maxRecDepth 20000 in
theorem ggX4_withdraw_X10_below : GoodIn wsX4_withdraw wsX10_below := goodIn_r _ [6, 7] rfl (by decide +kernel)
set_option maxRecDepth 20000 in
theorem gX4_withdraw_X10_below : GoodIn wsX4_withdraw (va_wsS RX4 323 yX10_below wsX10_below) := goodIn_app (goodIn_of _ (by decide +kernel)) ggX4_withdraw_X10_below
set_option maxRecDepth 20000 in
theorem ggX4_withdraw_X4_end : GoodIn wsX4_withdraw wsX4_end := goodIn_r _ [12, 13, 14, 15, 44, 45, 46, 47, 48, 49, 50, 51, 52, 53, 54, 55, 56, 57, 58, 59, 60, 61, 62] rfl (by decide +kernel)
set_option maxRecDepth 20000 in
theorem gX4_withdraw_X4_end : GoodIn wsX4_withdraw (wsV RX4 148 RX4 yX4_end wsX4_end) := goodIn_app (goodIn_of _ (by decide +kernel)) ggX4_withdraw_X4_end
set_option maxRecDepth 20000 in
theorem ggX4_withdraw_X4_pop : GoodIn wsX4_withdraw wsX4_pop := goodIn_r _ [19, 20, 21, 22, 23, 44, 45, 46, 47, 48, 49, 50, 51, 52, 53, 54, 55, 56, 57, 58, 59, 60, 61, 62] rfl (by decide +kernel)
set_option maxRecDepth 20000 in
theorem gX4_withdraw_X4_pop : GoodIn wsX4_withdraw (wsV RX4 252 RX4 yX4_pop wsX4_pop) := goodIn_app (goodIn_of _ (by decide +kernel)) ggX4_withdraw_X4_pop
set_option maxRecDepth 20000 in
theorem ggX4_withdraw_X4_pushNumber : GoodIn wsX4_withdraw wsX4_pushNumber := goodIn_r _ [27, 28, 29, 30, 31, 32, 33, 34, 35, 36, 37, 38, 39, 40, 41, 42, 11, 43, 20, 21, 22, 23, 44, 45, 46, 47, 48, 49, 50, 51, 52, 53, 54, 55, 56, 57, 58, 59, 60, 61, 62, 74, 75, 76, 77, 78, 79, 80] rfl (by decide +kernel)
set_option maxRecDepth 20000 in
theorem gX4_withdraw_X4_pushNumber : GoodIn wsX4_withdraw (wsV RX4 262 RX4 yX4_pushNumber wsX4_pushNumber) := goodIn_app (goodIn_of _ (by decide +kernel)) ggX4_withdraw_X4_pushNumber
set_option maxRecDepth 20000 in
theorem ggX4_split_X4_pop : GoodIn wsX4_split wsX4_pop := goodIn_r _ [8, 9, 10, 11, 12, 44, 45, 46, 47, 48, 49, 50, 51, 52, 53, 54, 55, 56, 57, 58, 59, 60, 61, 62] rfl (by decide +kernel)
set_option maxRecDepth 20000 in
theorem gX4_split_X4_pop : GoodIn wsX4_split (wsV RX4 252 RX4 yX4_pop wsX4_pop) := goodIn_app (goodIn_of _ (by decide +kernel)) ggX4_split_X4_pop
set_option maxRecDepth 20000 in
theorem ggX4_split_X10_below : GoodIn wsX4_split wsX10_below := goodIn_r _ [16, 17] rfl (by decide +kernel)
set_option maxRecDepth 20000 in
theorem gX4_split_X10_below : GoodIn wsX4_split (va_wsS RX4 323 yX10_below wsX10_below) := goodIn_app (goodIn_of _ (by decide +kernel)) ggX4_split_X10_below
set_option maxRecDepth 20000 in
theorem ggX4_split_X4_end : GoodIn wsX4_split wsX4_end := goodIn_r _ [21, 22, 23, 24, 44, 45, 46, 47, 48, 49, 50, 51, 52, 53, 54, 55, 56, 57, 58, 59, 60, 61, 62] rfl (by decide +kernel)
set_option maxRecDepth 20000 in
theorem gX4_split_X4_end : GoodIn wsX4_split (wsV RX4 148 RX4 yX4_end wsX4_end) := goodIn_app (goodIn_of _ (by decide +kernel)) ggX4_split_X4_end
set_option maxRecDepth 20000 in
theorem ggX4_split_X4_pushNumber : GoodIn wsX4_split wsX4_pushNumber := goodIn_r _ [28, 1, 29, 30, 31, 32, 33, 34, 35, 36, 37, 38, 39, 40, 41, 42, 7, 43, 9, 10, 11, 12, 44, 45, 46, 47, 48, 49, 50, 51, 52, 53, 54, 55, 56, 57, 58, 59, 60, 61, 62, 63, 64, 65, 66, 67, 68, 69] rfl (by decide +kernel)
set_option maxRecDepth 20000 in
theorem gX4_split_X4_pushNumber : GoodIn wsX4_split (wsV RX4 262 RX4 yX4_pushNumber wsX4_pushNumber) := goodIn_app (goodIn_of _ (by decide +kernel)) ggX4_split_X4_pushNumber
set_option maxRecDepth 20000 in
theorem ggX4_reckon_X4_pop : GoodIn wsX4_reckon wsX4_pop := goodIn_r _ [10, 11, 12, 13, 14, 144, 145, 146, 147, 148, 149, 150, 151, 152, 153, 154, 155, 156, 157, 158, 159, 160, 161, 162] rfl (by decide +kernel)
set_option maxRecDepth 20000 in
theorem gX4_reckon_X4_pop : GoodIn wsX4_reckon (wsV RX4 252 RX4 yX4_pop wsX4_pop) := goodIn_app (goodIn_of _ (by decide +kernel)) ggX4_reckon_X4_pop
set_option maxRecDepth 20000 in
theorem ggX4_reckon_X4_pushNumber : GoodIn wsX4_reckon wsX4_pushNumber := goodIn_r _ [18, 1, 19, 20, 21, 22, 23, 24, 25, 26, 27, 28, 29, 30, 31, 32, 9, 33, 11, 12, 13, 14, 144, 145, 146, 147, 148, 149, 150, 151, 152, 153, 154, 155, 156, 157, 158, 159, 160, 161, 162, 163, 164, 165, 166, 167, 168, 169] rfl (by decide +kernel)
set_option maxRecDepth 20000 in
theorem gX4_reckon_X4_pushNumber : GoodIn wsX4_reckon (wsV RX4 262 RX4 yX4_pushNumber wsX4_pushNumber) := goodIn_app (goodIn_of _ (by decide +kernel)) ggX4_reckon_X4_pushNumber
set_option maxRecDepth 20000 in
theorem ggX4_reckon_X10_set : GoodIn wsX4_reckon wsX10_set := goodIn_r _ [38, 39, 40, 41, 170, 171, 172, 173, 174] rfl (by decide +kernel)
set_option maxRecDepth 20000 in
theorem gX4_reckon_X10_set : GoodIn wsX4_reckon (wsV RX4 329 RX10 yX10_set wsX10_set) := goodIn_app (goodIn_of _ (by decide +kernel)) ggX4_reckon_X10_set
set_option maxRecDepth 20000 in
theorem ggX4_reckon_X4_pushWide : GoodIn wsX4_reckon wsX4_pushWide := goodIn_r _ [45, 3, 46, 47, 48, 49, 50, 37, 51, 41, 39, 40, 52, 53, 54, 9, 55, 56, 57, 58, 15, 16, 17, 18, 1, 19, 20, 21, 22, 23, 24, 25, 26, 27, 28, 29, 30, 31, 32, 33, 11, 12, 13, 14, 144, 145, 146, 147, 148, 149, 150, 151, 152, 153, 154, 155, 156, 157, 158, 159, 160, 161, 162, 170, 171, 172, 173, 174, 163, 164, 165, 166, 167, 168, 169] rfl (by decide +kernel)
set_option maxRecDepth 20000 in
theorem gX4_reckon_X4_pushWide : GoodIn wsX4_reckon (wsV RX4 332 RX4 yX4_pushWide wsX4_pushWide) := goodIn_app (goodIn_of _ (by decide +kernel)) ggX4_reckon_X4_pushWide
set_option maxRecDepth 20000 in
theorem ggX4_reckon_X4_compare : GoodIn wsX4_reckon wsX4_compare := goodIn_r _ [62, 1, 4, 2, 63, 64, 65, 22, 66, 67, 68, 69, 70, 26, 28, 27, 29, 71, 72, 73, 74, 75, 76, 9, 77, 78, 79, 80, 81, 52, 53, 54, 55, 56, 57, 58, 82, 83, 84, 85, 86, 87, 88, 89, 90, 91, 37, 92, 93, 94, 95, 96, 15, 16, 17, 18, 19, 20, 21, 23, 24, 25, 30, 31, 32, 33, 11, 12, 13, 14, 144, 145, 146, 147, 148, 149, 150, 151, 152, 153, 154, 155, 156, 157, 158, 159, 160, 161, 162, 163, 164, 165, 166, 167, 168, 169, 175, 176, 177, 178, 179, 180, 181, 182, 183, 184, 185, 186, 187, 188, 189, 190, 191, 192, 193] rfl (by decide +kernel)
set_option maxRecDepth 20000 in
theorem gX4_reckon_X4_compare : GoodIn wsX4_reckon (wsV RX4 335 RX4 yX4_compare wsX4_compare) := goodIn_app (goodIn_of _ (by decide +kernel)) ggX4_reckon_X4_compare
set_option maxRecDepth 20000 in
theorem ggX4_reckon_X4_shift : GoodIn wsX4_reckon wsX4_shift := goodIn_r _ [100, 3, 101, 102, 37, 103, 52, 53, 54, 9, 55, 56, 57, 58, 104, 105, 106, 107, 40, 39, 108, 109, 110, 111, 112, 113, 114, 115, 116, 42, 43, 44, 45, 46, 47, 48, 49, 50, 51, 41, 15, 16, 17, 18, 1, 19, 20, 21, 22, 23, 24, 25, 26, 27, 28, 29, 30, 31, 32, 33, 11, 12, 13, 14, 144, 145, 146, 147, 148, 149, 150, 151, 152, 153, 154, 155, 156, 157, 158, 159, 160, 161, 162, 170, 171, 172, 173, 174, 163, 164, 165, 166, 167, 168, 169] rfl (by decide +kernel)
set_option maxRecDepth 20000 in
theorem gX4_reckon_X4_shift : GoodIn wsX4_reckon (wsV RX4 338 RX4 yX4_shift wsX4_shift) := goodIn_app (goodIn_of _ (by decide +kernel)) ggX4_reckon_X4_shift
set_option maxRecDepth 20000 in
theorem ggX4_reckon_X4_combine : GoodIn wsX4_reckon wsX4_combine := goodIn_r _ [120, 3, 46, 47, 121, 122, 123, 37, 124, 40, 39, 41, 93, 94, 95, 96, 125, 126, 127, 128, 129, 91, 92, 130, 131, 132, 133, 134, 135, 136, 137, 138, 139, 140, 141, 142, 143, 34, 35, 36, 38, 144, 145, 146, 147, 148, 149, 150, 151, 152, 153, 154, 155, 156, 157, 158, 159, 160, 161, 162, 170, 171, 172, 173, 174] rfl (by decide +kernel)
set_option maxRecDepth 20000 in
theorem gX4_reckon_X4_combine : GoodIn wsX4_reckon (wsV RX4 342 RX4 yX4_combine wsX4_combine) := goodIn_app (goodIn_of _ (by decide +kernel)) ggX4_reckon_X4_combine
set_option maxRecDepth 20000 in
theorem ggX4_pushWide_X10_fits : GoodIn wsX4_pushWide wsX10_fits := goodIn_r _ [8, 9, 10, 11, 63, 64, 65, 66, 67] rfl (by decide +kernel)
set_option maxRecDepth 20000 in
theorem gX4_pushWide_X10_fits : GoodIn wsX4_pushWide (wsV RX4 345 RX10 yX10_fits wsX10_fits) := goodIn_app (goodIn_of _ (by decide +kernel)) ggX4_pushWide_X10_fits
set_option maxRecDepth 20000 in
theorem ggX4_pushWide_X4_end : GoodIn wsX4_pushWide wsX4_end := goodIn_r _ [16, 17, 18, 19, 44, 45, 46, 47, 48, 49, 50, 51, 52, 53, 54, 55, 56, 57, 58, 59, 60, 61, 62] rfl (by decide +kernel)
set_option maxRecDepth 20000 in
theorem gX4_pushWide_X4_end : GoodIn wsX4_pushWide (wsV RX4 148 RX4 yX4_end wsX4_end) := goodIn_app (goodIn_of _ (by decide +kernel)) ggX4_pushWide_X4_end
set_option maxRecDepth 20000 in
theorem ggX4_pushWide_X4_pushNumber : GoodIn wsX4_pushWide wsX4_pushNumber := goodIn_r _ [23, 24, 25, 26, 27, 28, 29, 30, 31, 32, 33, 34, 35, 36, 37, 38, 15, 39, 40, 41, 42, 43, 44, 45, 46, 47, 48, 49, 50, 51, 52, 53, 54, 55, 56, 57, 58, 59, 60, 61, 62, 68, 69, 70, 71, 72, 73, 74] rfl (by decide +kernel)
set_option maxRecDepth 20000 in
theorem gX4_pushWide_X4_pushNumber : GoodIn wsX4_pushWide (wsV RX4 262 RX4 yX4_pushNumber wsX4_pushNumber) := goodIn_app (goodIn_of _ (by decide +kernel)) ggX4_pushWide_X4_pushNumber
set_option maxRecDepth 20000 in
theorem ggX4_combine_X10_add : GoodIn wsX4_combine wsX10_add := goodIn_r _ [8, 9, 10, 11, 12, 13, 7, 14, 15, 60, 61, 62, 63, 64] rfl (by decide +kernel)
set_option maxRecDepth 20000 in
theorem gX4_combine_X10_add : GoodIn wsX4_combine (wsV RX4 351 RX10 yX10_add wsX10_add) := goodIn_app (goodIn_of _ (by decide +kernel)) ggX4_combine_X10_add
set_option maxRecDepth 20000 in
theorem ggX4_combine_X10_subtract : GoodIn wsX4_combine wsX10_subtract := goodIn_r _ [19, 10, 9, 11, 20, 21, 7, 22, 12, 13, 14, 15, 60, 61, 62, 63, 64] rfl (by decide +kernel)
set_option maxRecDepth 20000 in
theorem gX4_combine_X10_subtract : GoodIn wsX4_combine (wsV RX4 354 RX10 yX10_subtract wsX10_subtract) := goodIn_app (goodIn_of _ (by decide +kernel)) ggX4_combine_X10_subtract
set_option maxRecDepth 20000 in
theorem ggX4_combine_X10_multiply : GoodIn wsX4_combine wsX10_multiply := goodIn_r _ [26, 10, 9, 11, 27, 28, 7, 29, 30, 12, 13, 14, 15, 60, 61, 62, 63, 64] rfl (by decide +kernel)
set_option maxRecDepth 20000 in
theorem gX4_combine_X10_multiply : GoodIn wsX4_combine (wsV RX4 357 RX10 yX10_multiply wsX10_multiply) := goodIn_app (goodIn_of _ (by decide +kernel)) ggX4_combine_X10_multiply
set_option maxRecDepth 20000 in
theorem ggX4_combine_X10_divide : GoodIn wsX4_combine wsX10_divide := goodIn_r _ [34, 11, 35, 36, 10, 9, 20, 21, 7, 22, 12, 13, 14, 15, 60, 61, 62, 63, 64] rfl (by decide +kernel)
set_option maxRecDepth 20000 in
theorem gX4_combine_X10_divide : GoodIn wsX4_combine (wsV RX4 360 RX10 yX10_divide wsX10_divide) := goodIn_app (goodIn_of _ (by decide +kernel)) ggX4_combine_X10_divide
set_option maxRecDepth 20000 in
theorem ggX4_combine_X10_set : GoodIn wsX4_combine wsX10_set := goodIn_r _ [40, 10, 9, 11, 60, 61, 62, 63, 64] rfl (by decide +kernel)
set_option maxRecDepth 20000 in
theorem gX4_combine_X10_set : GoodIn wsX4_combine (wsV RX4 329 RX10 yX10_set wsX10_set) := goodIn_app (goodIn_of _ (by decide +kernel)) ggX4_combine_X10_set
set_option maxRecDepth 20000 in
theorem ggX4_shift_X10_bitsOf : GoodIn wsX4_shift wsX10_bitsOf := goodIn_r _ [5] rfl (by decide +kernel)
set_option maxRecDepth 20000 in
theorem gX4_shift_X10_bitsOf : GoodIn wsX4_shift (va_wsS RX4 364 yX10_bitsOf wsX10_bitsOf) := goodIn_app (goodIn_of _ (by decide +kernel)) ggX4_shift_X10_bitsOf
set_option maxRecDepth 20000 in
theorem ggX4_shift_X4_end : GoodIn wsX4_shift wsX4_end := goodIn_r _ [10, 11, 12, 13, 64, 65, 66, 67, 68, 69, 70, 71, 72, 73, 74, 75, 76, 77, 78, 79, 80, 81, 82] rfl (by decide +kernel)
set_option maxRecDepth 20000 in
theorem gX4_shift_X4_end : GoodIn wsX4_shift (wsV RX4 148 RX4 yX4_end wsX4_end) := goodIn_app (goodIn_of _ (by decide +kernel)) ggX4_shift_X4_end
set_option maxRecDepth 20000 in
theorem ggX4_shift_X10_shiftUp : GoodIn wsX4_shift wsX10_shiftUp := goodIn_r _ [17, 18, 19, 83, 84, 85, 86, 87] rfl (by decide +kernel)
set_option maxRecDepth 20000 in
theorem gX4_shift_X10_shiftUp : GoodIn wsX4_shift (wsV RX4 367 RX10 yX10_shiftUp wsX10_shiftUp) := goodIn_app (goodIn_of _ (by decide +kernel)) ggX4_shift_X10_shiftUp
set_option maxRecDepth 20000 in
theorem ggX4_shift_X10_cut : GoodIn wsX4_shift wsX10_cut := goodIn_r _ [23, 19, 18, 24, 83, 84, 85, 86, 87] rfl (by decide +kernel)
set_option maxRecDepth 20000 in
theorem gX4_shift_X10_cut : GoodIn wsX4_shift (wsV RX4 370 RX10 yX10_cut wsX10_cut) := goodIn_app (goodIn_of _ (by decide +kernel)) ggX4_shift_X10_cut
set_option maxRecDepth 20000 in
theorem ggX4_shift_X10_shiftDown : GoodIn wsX4_shift wsX10_shiftDown := goodIn_r _ [28, 19, 18, 83, 84, 85, 86, 87] rfl (by decide +kernel)
set_option maxRecDepth 20000 in
theorem gX4_shift_X10_shiftDown : GoodIn wsX4_shift (wsV RX4 373 RX10 yX10_shiftDown wsX10_shiftDown) := goodIn_app (goodIn_of _ (by decide +kernel)) ggX4_shift_X10_shiftDown
set_option maxRecDepth 20000 in
theorem ggX4_shift_X4_pushWide : GoodIn wsX4_shift wsX4_pushWide := goodIn_r _ [32, 1, 33, 34, 35, 36, 37, 4, 38, 39, 19, 18, 6, 7, 8, 9, 10, 11, 12, 13, 40, 41, 42, 43, 44, 45, 46, 47, 48, 49, 50, 51, 52, 53, 54, 55, 56, 57, 58, 59, 60, 61, 62, 63, 64, 65, 66, 67, 68, 69, 70, 71, 72, 73, 74, 75, 76, 77, 78, 79, 80, 81, 82, 83, 84, 85, 86, 87, 88, 89, 90, 91, 92, 93, 94] rfl (by decide +kernel)
set_option maxRecDepth 20000 in
theorem gX4_shift_X4_pushWide : GoodIn wsX4_shift (wsV RX4 332 RX4 yX4_pushWide wsX4_pushWide) := goodIn_app (goodIn_of _ (by decide +kernel)) ggX4_shift_X4_pushWide
set_option maxRecDepth 20000 in
theorem ggX4_compare_X1_sizeOf : GoodIn wsX4_compare wsX1_sizeOf := goodIn_r _ [8, 9, 10, 11, 7, 12, 13, 14, 15, 16, 17, 18, 19, 89, 90, 91, 92, 93, 94, 95] rfl (by decide +kernel)
set_option maxRecDepth 20000 in
theorem gX4_compare_X1_sizeOf : GoodIn wsX4_compare (wsV RX4 271 RX1 yX1_sizeOf wsX1_sizeOf) := goodIn_app (goodIn_of _ (by decide +kernel)) ggX4_compare_X1_sizeOf
set_option maxRecDepth 20000 in
theorem ggX4_compare_X4_pay : GoodIn wsX4_compare wsX4_pay := goodIn_r _ [24, 25, 26, 27, 28, 29, 30, 31, 23, 32, 33, 34, 35, 70, 71, 72, 73, 74, 75, 76, 77, 78, 79, 80, 81, 82, 83, 84, 85, 86, 87, 88, 96, 97, 98, 99, 100, 101, 102, 103, 104, 105, 106, 107, 108, 109, 110, 111, 112, 113, 114] rfl (by decide +kernel)
set_option maxRecDepth 20000 in
theorem gX4_compare_X4_pay : GoodIn wsX4_compare (wsV RX4 191 RX4 yX4_pay wsX4_pay) := goodIn_app (goodIn_of _ (by decide +kernel)) ggX4_compare_X4_pay
set_option maxRecDepth 20000 in
theorem ggX4_compare_X1_areAlike : GoodIn wsX4_compare wsX1_areAlike := goodIn_r _ [39, 40, 41, 42, 7, 43, 13, 15, 14, 16, 17, 18, 19, 89, 90, 91, 92, 93, 94, 95] rfl (by decide +kernel)
set_option maxRecDepth 20000 in
theorem gX4_compare_X1_areAlike : GoodIn wsX4_compare (wsV RX4 376 RX1 yX1_areAlike wsX1_areAlike) := goodIn_app (goodIn_of _ (by decide +kernel)) ggX4_compare_X1_areAlike
set_option maxRecDepth 20000 in
theorem ggX4_compare_X10_compare : GoodIn wsX4_compare wsX10_compare := goodIn_r _ [47, 48, 49, 46, 50, 51] rfl (by decide +kernel)
set_option maxRecDepth 20000 in
theorem gX4_compare_X10_compare : GoodIn wsX4_compare (va_wsS RX4 380 yX10_compare wsX10_compare) := goodIn_app (goodIn_of _ (by decide +kernel)) ggX4_compare_X10_compare
set_option maxRecDepth 20000 in
theorem ggX4_compare_X4_pushNumber : GoodIn wsX4_compare wsX4_pushNumber := goodIn_r _ [55, 1, 56, 57, 58, 7, 59, 60, 61, 13, 15, 14, 16, 62, 63, 64, 23, 65, 66, 67, 68, 69, 70, 71, 72, 73, 74, 75, 76, 77, 78, 79, 80, 81, 82, 83, 84, 85, 86, 87, 88, 89, 90, 91, 92, 93, 94, 95] rfl (by decide +kernel)
set_option maxRecDepth 20000 in
theorem gX4_compare_X4_pushNumber : GoodIn wsX4_compare (wsV RX4 262 RX4 yX4_pushNumber wsX4_pushNumber) := goodIn_app (goodIn_of _ (by decide +kernel)) ggX4_compare_X4_pushNumber
set_option maxRecDepth 20000 in
theorem ggX4_keep_X4_pop : GoodIn wsX4_keep wsX4_pop := goodIn_r _ [14, 15, 16, 17, 18, 112, 113, 114, 115, 116, 117, 118, 119, 120, 121, 122, 123, 124, 125, 126, 127, 128, 129, 130] rfl (by decide +kernel)
set_option maxRecDepth 20000 in
theorem gX4_keep_X4_pop : GoodIn wsX4_keep (wsV RX4 252 RX4 yX4_pop wsX4_pop) := goodIn_app (goodIn_of _ (by decide +kernel)) ggX4_keep_X4_pop
set_option maxRecDepth 20000 in
theorem ggX4_keep_X2_ask : GoodIn wsX4_keep wsX2_ask := goodIn_r _ [23, 24, 25, 26, 27, 28, 29, 30, 31, 32, 33, 34, 35, 36, 37, 38, 39, 40, 41, 42, 43, 44, 45, 46, 47, 48, 49, 50, 51, 52, 53, 54, 55, 56, 57, 58, 59, 60, 61, 62, 63, 64, 65, 66, 67, 68, 69, 70, 71, 72, 73, 74, 75, 76, 77, 78, 79, 80, 157, 158, 159, 160, 161, 162, 163, 164, 165, 166, 167, 168, 169, 170, 171, 172, 173, 174, 175, 176, 177, 178, 179, 180, 181, 182, 183, 150, 151, 152, 153, 154, 155, 156] rfl (by decide +kernel)
set_option maxRecDepth 20000 in
theorem gX4_keep_X2_ask : GoodIn wsX4_keep (wsV RX4 293 RX2 yX2_ask wsX2_ask) := goodIn_app (goodIn_of _ (by decide +kernel)) ggX4_keep_X2_ask
set_option maxRecDepth 20000 in
theorem ggX4_keep_X4_end : GoodIn wsX4_keep wsX4_end := goodIn_r _ [84, 85, 86, 87, 112, 113, 114, 115, 116, 117, 118, 119, 120, 121, 122, 123, 124, 125, 126, 127, 128, 129, 130] rfl (by decide +kernel)
set_option maxRecDepth 20000 in
theorem gX4_keep_X4_end : GoodIn wsX4_keep (wsV RX4 148 RX4 yX4_end wsX4_end) := goodIn_app (goodIn_of _ (by decide +kernel)) ggX4_keep_X4_end
set_option maxRecDepth 20000 in
theorem ggX4_keep_X1_sizeOf : GoodIn wsX4_keep wsX1_sizeOf := goodIn_r _ [91, 92, 93, 94, 54, 95, 73, 75, 74, 76, 65, 66, 67, 150, 151, 152, 153, 154, 155, 156] rfl (by decide +kernel)
set_option maxRecDepth 20000 in
theorem gX4_keep_X1_sizeOf : GoodIn wsX4_keep (wsV RX4 271 RX1 yX1_sizeOf wsX1_sizeOf) := goodIn_app (goodIn_of _ (by decide +kernel)) ggX4_keep_X1_sizeOf
set_option maxRecDepth 20000 in
theorem ggX4_keep_X4_pay : GoodIn wsX4_keep wsX4_pay := goodIn_r _ [99, 1, 100, 101, 102, 81, 82, 83, 13, 84, 85, 86, 87, 112, 113, 114, 115, 116, 117, 118, 119, 120, 121, 122, 123, 124, 125, 126, 127, 128, 129, 130, 131, 132, 133, 134, 135, 136, 137, 138, 139, 140, 141, 142, 143, 144, 145, 146, 147, 148, 149] rfl (by decide +kernel)
set_option maxRecDepth 20000 in
theorem gX4_keep_X4_pay : GoodIn wsX4_keep (wsV RX4 191 RX4 yX4_pay wsX4_pay) := goodIn_app (goodIn_of _ (by decide +kernel)) ggX4_keep_X4_pay
set_option maxRecDepth 20000 in
theorem ggX4_keep_X4_push : GoodIn wsX4_keep wsX4_push := goodIn_r _ [106, 15, 16, 17, 18, 112, 113, 114, 115, 116, 117, 118, 119, 120, 121, 122, 123, 124, 125, 126, 127, 128, 129, 130] rfl (by decide +kernel)
set_option maxRecDepth 20000 in
theorem gX4_keep_X4_push : GoodIn wsX4_keep (wsV RX4 176 RX4 yX4_push wsX4_push) := goodIn_app (goodIn_of _ (by decide +kernel)) ggX4_keep_X4_push
set_option maxRecDepth 20000 in
theorem ggX4_keep_X4_pushNumber : GoodIn wsX4_keep wsX4_pushNumber := goodIn_r _ [110, 3, 111, 69, 70, 54, 71, 72, 62, 73, 74, 75, 76, 103, 104, 105, 13, 106, 15, 16, 17, 18, 112, 113, 114, 115, 116, 117, 118, 119, 120, 121, 122, 123, 124, 125, 126, 127, 128, 129, 130, 150, 151, 152, 153, 154, 155, 156] rfl (by decide +kernel)
set_option maxRecDepth 20000 in
theorem gX4_keep_X4_pushNumber : GoodIn wsX4_keep (wsV RX4 262 RX4 yX4_pushNumber wsX4_pushNumber) := goodIn_app (goodIn_of _ (by decide +kernel)) ggX4_keep_X4_pushNumber
set_option maxRecDepth 20000 in
theorem ggX4_lineUp_X4_pay : GoodIn wsX4_lineUp wsX4_pay := goodIn_r _ [7, 8, 9, 10, 11, 12, 13, 14, 6, 15, 16, 17, 18, 104, 105, 106, 107, 108, 109, 110, 111, 112, 113, 114, 115, 116, 117, 118, 119, 120, 121, 122, 130, 131, 132, 133, 134, 135, 136, 137, 138, 139, 140, 141, 142, 143, 144, 145, 146, 147, 148] rfl (by decide +kernel)
set_option maxRecDepth 20000 in
theorem gX4_lineUp_X4_pay : GoodIn wsX4_lineUp (wsV RX4 191 RX4 yX4_pay wsX4_pay) := goodIn_app (goodIn_of _ (by decide +kernel)) ggX4_lineUp_X4_pay
set_option maxRecDepth 20000 in
theorem ggX4_lineUp_X4_gather : GoodIn wsX4_lineUp wsX4_gather := goodIn_r _ [22, 23, 24, 25, 1, 26, 27, 28, 29, 30, 31, 32, 33, 34, 35, 36, 37, 38, 39, 40, 41, 42, 43, 44, 6, 45, 104, 105, 106, 107, 108, 109, 110, 111, 112, 113, 114, 115, 116, 117, 118, 119, 120, 121, 122, 123, 124, 125, 126, 127, 128, 129] rfl (by decide +kernel)
set_option maxRecDepth 20000 in
theorem gX4_lineUp_X4_gather : GoodIn wsX4_lineUp (wsV RX4 221 RX4 yX4_gather wsX4_gather) := goodIn_app (goodIn_of _ (by decide +kernel)) ggX4_lineUp_X4_gather
set_option maxRecDepth 20000 in
theorem ggX4_lineUp_X4_peek : GoodIn wsX4_lineUp wsX4_peek := goodIn_r _ [49, 23, 24, 25, 26, 104, 105, 106, 107, 108, 109, 110, 111, 112, 113, 114, 115, 116, 117, 118, 119, 120, 121, 122] rfl (by decide +kernel)
set_option maxRecDepth 20000 in
theorem gX4_lineUp_X4_peek : GoodIn wsX4_lineUp (wsV RX4 306 RX4 yX4_peek wsX4_peek) := goodIn_app (goodIn_of _ (by decide +kernel)) ggX4_lineUp_X4_peek
set_option maxRecDepth 20000 in
theorem ggX4_lineUp_X4_target : GoodIn wsX4_lineUp wsX4_target := goodIn_r _ [53, 1, 54, 55, 25, 104, 105, 106, 107, 108, 109, 110, 111, 112, 113, 114, 115, 116, 117, 118, 119, 120, 121, 122, 123, 124, 125, 126, 127, 128, 129] rfl (by decide +kernel)
set_option maxRecDepth 20000 in
theorem gX4_lineUp_X4_target : GoodIn wsX4_lineUp (wsV RX4 277 RX4 yX4_target wsX4_target) := goodIn_app (goodIn_of _ (by decide +kernel)) ggX4_lineUp_X4_target
set_option maxRecDepth 20000 in
theorem ggX4_lineUp_X4_pop : GoodIn wsX4_lineUp wsX4_pop := goodIn_r _ [59, 23, 24, 25, 26, 104, 105, 106, 107, 108, 109, 110, 111, 112, 113, 114, 115, 116, 117, 118, 119, 120, 121, 122] rfl (by decide +kernel)
set_option maxRecDepth 20000 in
theorem gX4_lineUp_X4_pop : GoodIn wsX4_lineUp (wsV RX4 252 RX4 yX4_pop wsX4_pop) := goodIn_app (goodIn_of _ (by decide +kernel)) ggX4_lineUp_X4_pop
set_option maxRecDepth 20000 in
theorem ggX4_lineUp_X4_pushNumber : GoodIn wsX4_lineUp wsX4_pushNumber := goodIn_r _ [63, 1, 27, 28, 29, 30, 31, 32, 33, 34, 35, 36, 37, 42, 43, 44, 6, 45, 23, 24, 25, 26, 104, 105, 106, 107, 108, 109, 110, 111, 112, 113, 114, 115, 116, 117, 118, 119, 120, 121, 122, 123, 124, 125, 126, 127, 128, 129] rfl (by decide +kernel)
set_option maxRecDepth 20000 in
theorem gX4_lineUp_X4_pushNumber : GoodIn wsX4_lineUp (wsV RX4 262 RX4 yX4_pushNumber wsX4_pushNumber) := goodIn_app (goodIn_of _ (by decide +kernel)) ggX4_lineUp_X4_pushNumber
set_option maxRecDepth 20000 in
theorem ggX4_lineUp_X4_append : GoodIn wsX4_lineUp wsX4_append := goodIn_r _ [67, 68, 69, 1, 12, 13, 14, 6, 15, 16, 17, 18, 56, 57, 58, 59, 23, 24, 25, 26, 38, 39, 40, 30, 41, 37, 36, 35, 104, 105, 106, 107, 108, 109, 110, 111, 112, 113, 114, 115, 116, 117, 118, 119, 120, 121, 122, 123, 124, 125, 126, 127, 128, 129] rfl (by decide +kernel)
set_option maxRecDepth 20000 in
theorem gX4_lineUp_X4_append : GoodIn wsX4_lineUp (wsV RX4 388 RX4 yX4_append wsX4_append) := goodIn_app (goodIn_of _ (by decide +kernel)) ggX4_lineUp_X4_append
set_option maxRecDepth 20000 in
theorem ggX4_lineUp_X4_removeLast : GoodIn wsX4_lineUp wsX4_removeLast := goodIn_r _ [73, 74, 1, 12, 13, 14, 6, 15, 16, 17, 18, 56, 57, 58, 59, 23, 24, 25, 26, 75, 76, 77, 30, 78, 36, 35, 33, 37, 42, 43, 44, 45, 104, 105, 106, 107, 108, 109, 110, 111, 112, 113, 114, 115, 116, 117, 118, 119, 120, 121, 122, 123, 124, 125, 126, 127, 128, 129] rfl (by decide +kernel)
set_option maxRecDepth 20000 in
theorem gX4_lineUp_X4_removeLast : GoodIn wsX4_lineUp (wsV RX4 391 RX4 yX4_removeLast wsX4_removeLast) := goodIn_app (goodIn_of _ (by decide +kernel)) ggX4_lineUp_X4_removeLast
set_option maxRecDepth 20000 in
theorem ggX4_lineUp_X4_exchange : GoodIn wsX4_lineUp wsX4_exchange := goodIn_r _ [82, 1, 55, 74, 56, 57, 58, 6, 59, 23, 24, 25, 26, 83, 84, 85, 86, 87, 12, 13, 14, 15, 16, 17, 18, 88, 89, 90, 30, 91, 36, 35, 37, 92, 93, 94, 95, 34, 96, 97, 98, 99, 104, 105, 106, 107, 108, 109, 110, 111, 112, 113, 114, 115, 116, 117, 118, 119, 120, 121, 122, 123, 124, 125, 126, 127, 128, 129] rfl (by decide +kernel)
set_option maxRecDepth 20000 in
theorem gX4_lineUp_X4_exchange : GoodIn wsX4_lineUp (wsV RX4 394 RX4 yX4_exchange wsX4_exchange) := goodIn_app (goodIn_of _ (by decide +kernel)) ggX4_lineUp_X4_exchange
set_option maxRecDepth 20000 in
theorem ggX4_lineUp_X4_borrowElement : GoodIn wsX4_lineUp wsX4_borrowElement := goodIn_r _ [103, 1, 55, 74, 56, 57, 58, 6, 59, 23, 24, 25, 26, 83, 84, 85, 86, 87, 12, 13, 14, 15, 16, 17, 18, 88, 89, 90, 30, 91, 36, 35, 37, 42, 43, 44, 45, 104, 105, 106, 107, 108, 109, 110, 111, 112, 113, 114, 115, 116, 117, 118, 119, 120, 121, 122, 123, 124, 125, 126, 127, 128, 129] rfl (by decide +kernel)
set_option maxRecDepth 20000 in
theorem gX4_lineUp_X4_borrowElement : GoodIn wsX4_lineUp (wsV RX4 397 RX4 yX4_borrowElement wsX4_borrowElement) := goodIn_app (goodIn_of _ (by decide +kernel)) ggX4_lineUp_X4_borrowElement
set_option maxRecDepth 20000 in
theorem ggX4_append_X4_end : GoodIn wsX4_append wsX4_end := goodIn_r _ [8, 9, 10, 11, 28, 29, 30, 31, 32, 33, 34, 35, 36, 37, 38, 39, 40, 41, 42, 43, 44, 45, 46] rfl (by decide +kernel)
set_option maxRecDepth 20000 in
theorem gX4_append_X4_end : GoodIn wsX4_append (wsV RX4 148 RX4 yX4_end wsX4_end) := goodIn_app (goodIn_of _ (by decide +kernel)) ggX4_append_X4_end
set_option maxRecDepth 20000 in
theorem ggX4_append_X4_pop : GoodIn wsX4_append wsX4_pop := goodIn_r _ [15, 16, 17, 18, 19, 28, 29, 30, 31, 32, 33, 34, 35, 36, 37, 38, 39, 40, 41, 42, 43, 44, 45, 46] rfl (by decide +kernel)
set_option maxRecDepth 20000 in
theorem gX4_append_X4_pop : GoodIn wsX4_append (wsV RX4 252 RX4 yX4_pop wsX4_pop) := goodIn_app (goodIn_of _ (by decide +kernel)) ggX4_append_X4_pop
set_option maxRecDepth 20000 in
theorem ggX4_append_X1_prepend : GoodIn wsX4_append wsX1_prepend := goodIn_r _ [24, 25, 26, 27, 47, 48, 49, 50, 51, 52, 53] rfl (by decide +kernel)
set_option maxRecDepth 20000 in
theorem gX4_append_X1_prepend : GoodIn wsX4_append (wsV RX4 287 RX1 yX1_prepend wsX1_prepend) := goodIn_app (goodIn_of _ (by decide +kernel)) ggX4_append_X1_prepend
set_option maxRecDepth 20000 in
theorem ggX4_removeLast_X4_end : GoodIn wsX4_removeLast wsX4_end := goodIn_r _ [7, 8, 9, 10, 32, 33, 34, 35, 36, 37, 38, 39, 40, 41, 42, 43, 44, 45, 46, 47, 48, 49, 50] rfl (by decide +kernel)
set_option maxRecDepth 20000 in
theorem gX4_removeLast_X4_end : GoodIn wsX4_removeLast (wsV RX4 148 RX4 yX4_end wsX4_end) := goodIn_app (goodIn_of _ (by decide +kernel)) ggX4_removeLast_X4_end
set_option maxRecDepth 20000 in
theorem ggX4_removeLast_X4_pop : GoodIn wsX4_removeLast wsX4_pop := goodIn_r _ [14, 15, 16, 17, 18, 32, 33, 34, 35, 36, 37, 38, 39, 40, 41, 42, 43, 44, 45, 46, 47, 48, 49, 50] rfl (by decide +kernel)
set_option maxRecDepth 20000 in
theorem gX4_removeLast_X4_pop : GoodIn wsX4_removeLast (wsV RX4 252 RX4 yX4_pop wsX4_pop) := goodIn_app (goodIn_of _ (by decide +kernel)) ggX4_removeLast_X4_pop
set_option maxRecDepth 20000 in
theorem ggX4_removeLast_X1_detach : GoodIn wsX4_removeLast wsX1_detach := goodIn_r _ [23, 24, 25, 26, 27, 51, 52, 53, 54, 55, 56, 57] rfl (by decide +kernel)
set_option maxRecDepth 20000 in
theorem gX4_removeLast_X1_detach : GoodIn wsX4_removeLast (wsV RX4 290 RX1 yX1_detach wsX1_detach) := goodIn_app (goodIn_of _ (by decide +kernel)) ggX4_removeLast_X1_detach
set_option maxRecDepth 20000 in
theorem ggX4_removeLast_X4_push : GoodIn wsX4_removeLast wsX4_push := goodIn_r _ [31, 15, 16, 17, 18, 32, 33, 34, 35, 36, 37, 38, 39, 40, 41, 42, 43, 44, 45, 46, 47, 48, 49, 50] rfl (by decide +kernel)
set_option maxRecDepth 20000 in
theorem gX4_removeLast_X4_push : GoodIn wsX4_removeLast (wsV RX4 176 RX4 yX4_push wsX4_push) := goodIn_app (goodIn_of _ (by decide +kernel)) ggX4_removeLast_X4_push
set_option maxRecDepth 20000 in
theorem ggX4_exchange_X4_pop : GoodIn wsX4_exchange wsX4_pop := goodIn_r _ [8, 9, 10, 11, 12, 42, 43, 44, 45, 46, 47, 48, 49, 50, 51, 52, 53, 54, 55, 56, 57, 58, 59, 60] rfl (by decide +kernel)
set_option maxRecDepth 20000 in
theorem gX4_exchange_X4_pop : GoodIn wsX4_exchange (wsV RX4 252 RX4 yX4_pop wsX4_pop) := goodIn_app (goodIn_of _ (by decide +kernel)) ggX4_exchange_X4_pop
set_option maxRecDepth 20000 in
theorem ggX4_exchange_X10_below : GoodIn wsX4_exchange wsX10_below := goodIn_r _ [16, 17] rfl (by decide +kernel)
set_option maxRecDepth 20000 in
theorem gX4_exchange_X10_below : GoodIn wsX4_exchange (va_wsS RX4 323 yX10_below wsX10_below) := goodIn_app (goodIn_of _ (by decide +kernel)) ggX4_exchange_X10_below
set_option maxRecDepth 20000 in
theorem ggX4_exchange_X4_end : GoodIn wsX4_exchange wsX4_end := goodIn_r _ [21, 22, 23, 24, 42, 43, 44, 45, 46, 47, 48, 49, 50, 51, 52, 53, 54, 55, 56, 57, 58, 59, 60] rfl (by decide +kernel)
set_option maxRecDepth 20000 in
theorem gX4_exchange_X4_end : GoodIn wsX4_exchange (wsV RX4 148 RX4 yX4_end wsX4_end) := goodIn_app (goodIn_of _ (by decide +kernel)) ggX4_exchange_X4_end
set_option maxRecDepth 20000 in
theorem ggX4_exchange_X1_child : GoodIn wsX4_exchange wsX1_child := goodIn_r _ [29, 30, 31, 32, 61, 62, 63, 64, 65, 66, 67] rfl (by decide +kernel)
set_option maxRecDepth 20000 in
theorem gX4_exchange_X1_child : GoodIn wsX4_exchange (wsV RX4 280 RX1 yX1_child wsX1_child) := goodIn_app (goodIn_of _ (by decide +kernel)) ggX4_exchange_X1_child
set_option maxRecDepth 20000 in
theorem ggX4_exchange_X1_swap : GoodIn wsX4_exchange wsX1_swap := goodIn_r _ [36, 37, 30, 31, 38, 39, 40, 28, 41, 61, 62, 63, 64, 65, 66, 67] rfl (by decide +kernel)
set_option maxRecDepth 20000 in
theorem gX4_exchange_X1_swap : GoodIn wsX4_exchange (wsV RX4 402 RX1 yX1_swap wsX1_swap) := goodIn_app (goodIn_of _ (by decide +kernel)) ggX4_exchange_X1_swap
set_option maxRecDepth 20000 in
theorem ggX4_borrowElement_X4_pop : GoodIn wsX4_borrowElement wsX4_pop := goodIn_r _ [8, 9, 10, 11, 12, 37, 38, 39, 40, 41, 42, 43, 44, 45, 46, 47, 48, 49, 50, 51, 52, 53, 54, 55] rfl (by decide +kernel)
set_option maxRecDepth 20000 in
theorem gX4_borrowElement_X4_pop : GoodIn wsX4_borrowElement (wsV RX4 252 RX4 yX4_pop wsX4_pop) := goodIn_app (goodIn_of _ (by decide +kernel)) ggX4_borrowElement_X4_pop
set_option maxRecDepth 20000 in
theorem ggX4_borrowElement_X10_below : GoodIn wsX4_borrowElement wsX10_below := goodIn_r _ [16, 17] rfl (by decide +kernel)
set_option maxRecDepth 20000 in
theorem gX4_borrowElement_X10_below : GoodIn wsX4_borrowElement (va_wsS RX4 323 yX10_below wsX10_below) := goodIn_app (goodIn_of _ (by decide +kernel)) ggX4_borrowElement_X10_below
set_option maxRecDepth 20000 in
theorem ggX4_borrowElement_X4_end : GoodIn wsX4_borrowElement wsX4_end := goodIn_r _ [21, 22, 23, 24, 37, 38, 39, 40, 41, 42, 43, 44, 45, 46, 47, 48, 49, 50, 51, 52, 53, 54, 55] rfl (by decide +kernel)
set_option maxRecDepth 20000 in
theorem gX4_borrowElement_X4_end : GoodIn wsX4_borrowElement (wsV RX4 148 RX4 yX4_end wsX4_end) := goodIn_app (goodIn_of _ (by decide +kernel)) ggX4_borrowElement_X4_end
set_option maxRecDepth 20000 in
theorem ggX4_borrowElement_X1_child : GoodIn wsX4_borrowElement wsX1_child := goodIn_r _ [29, 30, 31, 32, 56, 57, 58, 59, 60, 61, 62] rfl (by decide +kernel)
set_option maxRecDepth 20000 in
theorem gX4_borrowElement_X1_child : GoodIn wsX4_borrowElement (wsV RX4 280 RX1 yX1_child wsX1_child) := goodIn_app (goodIn_of _ (by decide +kernel)) ggX4_borrowElement_X1_child
set_option maxRecDepth 20000 in
theorem ggX4_borrowElement_X4_push : GoodIn wsX4_borrowElement wsX4_push := goodIn_r _ [36, 9, 10, 11, 12, 37, 38, 39, 40, 41, 42, 43, 44, 45, 46, 47, 48, 49, 50, 51, 52, 53, 54, 55] rfl (by decide +kernel)
set_option maxRecDepth 20000 in
theorem gX4_borrowElement_X4_push : GoodIn wsX4_borrowElement (wsV RX4 176 RX4 yX4_push wsX4_push) := goodIn_app (goodIn_of _ (by decide +kernel)) ggX4_borrowElement_X4_push
set_option maxRecDepth 20000 in
theorem ggX4_hash_X4_pop : GoodIn wsX4_hash wsX4_pop := goodIn_r _ [17, 18, 19, 20, 21, 90, 91, 92, 93, 94, 95, 96, 97, 98, 99, 100, 101, 102, 103, 104, 105, 106, 107, 108] rfl (by decide +kernel)
set_option maxRecDepth 20000 in
theorem gX4_hash_X4_pop : GoodIn wsX4_hash (wsV RX4 252 RX4 yX4_pop wsX4_pop) := goodIn_app (goodIn_of _ (by decide +kernel)) ggX4_hash_X4_pop
set_option maxRecDepth 20000 in
theorem ggX4_hash_X4_pay : GoodIn wsX4_hash wsX4_pay := goodIn_r _ [25, 26, 27, 28, 29, 30, 31, 32, 16, 33, 34, 35, 36, 90, 91, 92, 93, 94, 95, 96, 97, 98, 99, 100, 101, 102, 103, 104, 105, 106, 107, 108, 116, 117, 118, 119, 120, 121, 122, 123, 124, 125, 126, 127, 128, 129, 130, 131, 132, 133, 134] rfl (by decide +kernel)
set_option maxRecDepth 20000 in
theorem gX4_hash_X4_pay : GoodIn wsX4_hash (wsV RX4 191 RX4 yX4_pay wsX4_pay) := goodIn_app (goodIn_of _ (by decide +kernel)) ggX4_hash_X4_pay
set_option maxRecDepth 20000 in
theorem ggX4_hash_X0_start : GoodIn wsX4_hash wsX0_start := goodIn_r _ [41, 42, 43, 44, 45, 46, 47, 48, 49, 135, 136, 137, 138] rfl (by decide +kernel)
set_option maxRecDepth 20000 in
theorem gX4_hash_X0_start : GoodIn wsX4_hash (wsV RX4 411 RX0 yX0_start wsX0_start) := goodIn_app (goodIn_of _ (by decide +kernel)) ggX4_hash_X0_start
set_option maxRecDepth 20000 in
theorem ggX4_hash_X0_put : GoodIn wsX4_hash wsX0_put := goodIn_r _ [53, 48, 54, 49, 55, 56, 57, 40, 58, 43, 59, 135, 136, 137, 138] rfl (by decide +kernel)
set_option maxRecDepth 20000 in
theorem gX4_hash_X0_put : GoodIn wsX4_hash (wsV RX4 414 RX0 yX0_put wsX0_put) := goodIn_app (goodIn_of _ (by decide +kernel)) ggX4_hash_X0_put
set_option maxRecDepth 20000 in
theorem ggX4_hash_X0_finish : GoodIn wsX4_hash wsX0_finish := goodIn_r _ [63, 49, 64, 48, 65, 51, 52, 40, 53, 54, 55, 56, 57, 58, 43, 59, 135, 136, 137, 138] rfl (by decide +kernel)
set_option maxRecDepth 20000 in
theorem gX4_hash_X0_finish : GoodIn wsX4_hash (wsV RX4 417 RX0 yX0_finish wsX0_finish) := goodIn_app (goodIn_of _ (by decide +kernel)) ggX4_hash_X0_finish
set_option maxRecDepth 20000 in
theorem ggX4_hash_X1_make : GoodIn wsX4_hash wsX1_make := goodIn_r _ [70, 71, 72, 73, 74, 75, 76, 109, 110, 111, 112, 113, 114, 115] rfl (by decide +kernel)
set_option maxRecDepth 20000 in
theorem gX4_hash_X1_make : GoodIn wsX4_hash (wsV RX4 135 RX1 yX1_make wsX1_make) := goodIn_app (goodIn_of _ (by decide +kernel)) ggX4_hash_X1_make
set_option maxRecDepth 20000 in
theorem ggX4_hash_X0_part : GoodIn wsX4_hash wsX0_part := goodIn_r _ [80, 43, 81, 135, 136, 137, 138] rfl (by decide +kernel)
set_option maxRecDepth 20000 in
theorem gX4_hash_X0_part : GoodIn wsX4_hash (wsV RX4 420 RX0 yX0_part wsX0_part) := goodIn_app (goodIn_of _ (by decide +kernel)) ggX4_hash_X0_part
set_option maxRecDepth 20000 in
theorem ggX4_hash_X1_prepend : GoodIn wsX4_hash wsX1_prepend := goodIn_r _ [85, 76, 75, 74, 109, 110, 111, 112, 113, 114, 115] rfl (by decide +kernel)
set_option maxRecDepth 20000 in
theorem gX4_hash_X1_prepend : GoodIn wsX4_hash (wsV RX4 287 RX1 yX1_prepend wsX1_prepend) := goodIn_app (goodIn_of _ (by decide +kernel)) ggX4_hash_X1_prepend
set_option maxRecDepth 20000 in
theorem ggX4_hash_X4_push : GoodIn wsX4_hash wsX4_push := goodIn_r _ [89, 18, 19, 20, 21, 90, 91, 92, 93, 94, 95, 96, 97, 98, 99, 100, 101, 102, 103, 104, 105, 106, 107, 108] rfl (by decide +kernel)
set_option maxRecDepth 20000 in
theorem gX4_hash_X4_push : GoodIn wsX4_hash (wsV RX4 176 RX4 yX4_push wsX4_push) := goodIn_app (goodIn_of _ (by decide +kernel)) ggX4_hash_X4_push
set_option maxRecDepth 20000 in
theorem ggX5_numberAt_X5_at : GoodIn wsX5_numberAt wsX5_at := goodIn_r _ [5, 6, 7, 8, 9, 10, 11, 12, 13, 14, 15, 16, 17, 18, 19, 20, 21, 22] rfl (by decide +kernel)
set_option maxRecDepth 20000 in
theorem gX5_numberAt_X5_at : GoodIn wsX5_numberAt (wsV RX5 48 RX5 yX5_at wsX5_at) := goodIn_app (goodIn_of _ (by decide +kernel)) ggX5_numberAt_X5_at
set_option maxRecDepth 20000 in
theorem ggX5_flags_X5_functionColumn : GoodIn wsX5_flags wsX5_functionColumn := goodIn_r _ [5, 6, 7, 8, 9, 10, 11, 12, 13, 14, 15, 16, 17, 18, 19, 20, 21, 22, 23] rfl (by decide +kernel)
set_option maxRecDepth 20000 in
theorem gX5_flags_X5_functionColumn : GoodIn wsX5_flags (wsV RX5 58 RX5 yX5_functionColumn wsX5_functionColumn) := goodIn_app (goodIn_of _ (by decide +kernel)) ggX5_flags_X5_functionColumn
set_option maxRecDepth 20000 in
theorem ggX5_takes_X5_functionColumn : GoodIn wsX5_takes wsX5_functionColumn := goodIn_r _ [5, 6, 7, 8, 9, 10, 11, 12, 13, 14, 15, 16, 17, 18, 19, 20, 21, 22, 23] rfl (by decide +kernel)
set_option maxRecDepth 20000 in
theorem gX5_takes_X5_functionColumn : GoodIn wsX5_takes (wsV RX5 58 RX5 yX5_functionColumn wsX5_functionColumn) := goodIn_app (goodIn_of _ (by decide +kernel)) ggX5_takes_X5_functionColumn
set_option maxRecDepth 20000 in
theorem ggX5_gives_X5_functionColumn : GoodIn wsX5_gives wsX5_functionColumn := goodIn_r _ [5, 6, 7, 8, 9, 10, 11, 12, 13, 14, 15, 16, 17, 18, 19, 20, 21, 22, 23] rfl (by decide +kernel)
set_option maxRecDepth 20000 in
theorem gX5_gives_X5_functionColumn : GoodIn wsX5_gives (wsV RX5 58 RX5 yX5_functionColumn wsX5_functionColumn) := goodIn_app (goodIn_of _ (by decide +kernel)) ggX5_gives_X5_functionColumn
set_option maxRecDepth 20000 in
theorem ggX5_localCount_X5_takes : GoodIn wsX5_localCount wsX5_takes := goodIn_r _ [5, 6, 7, 8, 4, 9, 10, 11, 12, 13, 14, 15, 16, 17, 18, 19, 20, 21, 22, 23, 24, 25, 26, 27] rfl (by decide +kernel)
set_option maxRecDepth 20000 in
theorem gX5_localCount_X5_takes : GoodIn wsX5_localCount (wsV RX5 62 RX5 yX5_takes wsX5_takes) := goodIn_app (goodIn_of _ (by decide +kernel)) ggX5_localCount_X5_takes
set_option maxRecDepth 20000 in
theorem ggX5_localCount_X5_functionColumn : GoodIn wsX5_localCount wsX5_functionColumn := goodIn_r _ [9, 10, 11, 12, 13, 14, 15, 16, 17, 18, 19, 20, 21, 22, 23, 24, 25, 26, 27] rfl (by decide +kernel)
set_option maxRecDepth 20000 in
theorem gX5_localCount_X5_functionColumn : GoodIn wsX5_localCount (wsV RX5 58 RX5 yX5_functionColumn wsX5_functionColumn) := goodIn_app (goodIn_of _ (by decide +kernel)) ggX5_localCount_X5_functionColumn
set_option maxRecDepth 20000 in
theorem ggX5_instructions_X5_functionColumn : GoodIn wsX5_instructions wsX5_functionColumn := goodIn_r _ [5, 6, 7, 8, 9, 10, 11, 12, 13, 14, 15, 16, 17, 18, 19, 20, 21, 22, 23] rfl (by decide +kernel)
set_option maxRecDepth 20000 in
theorem gX5_instructions_X5_functionColumn : GoodIn wsX5_instructions (wsV RX5 58 RX5 yX5_functionColumn wsX5_functionColumn) := goodIn_app (goodIn_of _ (by decide +kernel)) ggX5_instructions_X5_functionColumn
set_option maxRecDepth 20000 in
theorem ggX5_instructionPlace_X5_functionColumn : GoodIn wsX5_instructionPlace wsX5_functionColumn := goodIn_r _ [7, 8, 9, 10, 11, 12, 13, 14, 15, 16, 17, 18, 19, 20, 21, 22, 23, 24, 25] rfl (by decide +kernel)
set_option maxRecDepth 20000 in
theorem gX5_instructionPlace_X5_functionColumn : GoodIn wsX5_instructionPlace (wsV RX5 58 RX5 yX5_functionColumn wsX5_functionColumn) := goodIn_app (goodIn_of _ (by decide +kernel)) ggX5_instructionPlace_X5_functionColumn
set_option maxRecDepth 20000 in
theorem ggX5_takenType_X5_functionColumn : GoodIn wsX5_takenType wsX5_functionColumn := goodIn_r _ [5, 6, 7, 8, 15, 16, 17, 18, 19, 20, 21, 22, 23, 24, 25, 26, 27, 28, 29] rfl (by decide +kernel)
set_option maxRecDepth 20000 in
theorem gX5_takenType_X5_functionColumn : GoodIn wsX5_takenType (wsV RX5 58 RX5 yX5_functionColumn wsX5_functionColumn) := goodIn_app (goodIn_of _ (by decide +kernel)) ggX5_takenType_X5_functionColumn
set_option maxRecDepth 20000 in
theorem ggX5_takenType_X5_typeAt : GoodIn wsX5_takenType wsX5_typeAt := goodIn_r _ [12, 13, 14, 15, 16, 17, 18, 19, 20, 21, 22, 23, 24, 25, 26, 27, 28, 29] rfl (by decide +kernel)
set_option maxRecDepth 20000 in
theorem gX5_takenType_X5_typeAt : GoodIn wsX5_takenType (wsV RX5 65 RX5 yX5_typeAt wsX5_typeAt) := goodIn_app (goodIn_of _ (by decide +kernel)) ggX5_takenType_X5_typeAt
set_option maxRecDepth 20000 in
theorem ggX5_givenType_X5_functionColumn : GoodIn wsX5_givenType wsX5_functionColumn := goodIn_r _ [5, 6, 7, 8, 19, 20, 21, 22, 23, 24, 25, 26, 27, 28, 29, 30, 31, 32, 33] rfl (by decide +kernel)
set_option maxRecDepth 20000 in
theorem gX5_givenType_X5_functionColumn : GoodIn wsX5_givenType (wsV RX5 58 RX5 yX5_functionColumn wsX5_functionColumn) := goodIn_app (goodIn_of _ (by decide +kernel)) ggX5_givenType_X5_functionColumn
set_option maxRecDepth 20000 in
theorem ggX5_givenType_X5_takes : GoodIn wsX5_givenType wsX5_takes := goodIn_r _ [12, 1, 2, 3, 4, 5, 6, 7, 8, 19, 20, 21, 22, 23, 24, 25, 26, 27, 28, 29, 30, 31, 32, 33] rfl (by decide +kernel)
set_option maxRecDepth 20000 in
theorem gX5_givenType_X5_takes : GoodIn wsX5_givenType (wsV RX5 62 RX5 yX5_takes wsX5_takes) := goodIn_app (goodIn_of _ (by decide +kernel)) ggX5_givenType_X5_takes
set_option maxRecDepth 20000 in
theorem ggX5_givenType_X5_typeAt : GoodIn wsX5_givenType wsX5_typeAt := goodIn_r _ [16, 17, 18, 19, 20, 21, 22, 23, 24, 25, 26, 27, 28, 29, 30, 31, 32, 33] rfl (by decide +kernel)
set_option maxRecDepth 20000 in
theorem gX5_givenType_X5_typeAt : GoodIn wsX5_givenType (wsV RX5 65 RX5 yX5_typeAt wsX5_typeAt) := goodIn_app (goodIn_of _ (by decide +kernel)) ggX5_givenType_X5_typeAt
set_option maxRecDepth 20000 in
theorem ggX5_localType_X5_takes : GoodIn wsX5_localType wsX5_takes := goodIn_r _ [5, 6, 7, 8, 4, 9, 10, 11, 12, 31, 32, 33, 34, 35, 36, 37, 38, 39, 40, 41, 42, 43, 44, 45] rfl (by decide +kernel)
set_option maxRecDepth 20000 in
theorem gX5_localType_X5_takes : GoodIn wsX5_localType (wsV RX5 62 RX5 yX5_takes wsX5_takes) := goodIn_app (goodIn_of _ (by decide +kernel)) ggX5_localType_X5_takes
set_option maxRecDepth 20000 in
theorem ggX5_localType_X5_takenType : GoodIn wsX5_localType wsX5_takenType := goodIn_r _ [16, 6, 7, 8, 4, 9, 10, 11, 12, 17, 18, 19, 20, 21, 22, 31, 32, 33, 34, 35, 36, 37, 38, 39, 40, 41, 42, 43, 44, 45] rfl (by decide +kernel)
set_option maxRecDepth 20000 in
theorem gX5_localType_X5_takenType : GoodIn wsX5_localType (wsV RX5 69 RX5 yX5_takenType wsX5_takenType) := goodIn_app (goodIn_of _ (by decide +kernel)) ggX5_localType_X5_takenType
set_option maxRecDepth 20000 in
theorem ggX5_localType_X5_gives : GoodIn wsX5_localType wsX5_gives := goodIn_r _ [26, 6, 7, 8, 4, 9, 10, 11, 12, 31, 32, 33, 34, 35, 36, 37, 38, 39, 40, 41, 42, 43, 44, 45] rfl (by decide +kernel)
set_option maxRecDepth 20000 in
theorem gX5_localType_X5_gives : GoodIn wsX5_localType (wsV RX5 73 RX5 yX5_gives wsX5_gives) := goodIn_app (goodIn_of _ (by decide +kernel)) ggX5_localType_X5_gives
set_option maxRecDepth 20000 in
theorem ggX5_localType_X5_givenType : GoodIn wsX5_localType wsX5_givenType := goodIn_r _ [30, 6, 7, 8, 4, 9, 10, 11, 12, 1, 2, 3, 5, 17, 18, 19, 20, 21, 22, 31, 32, 33, 34, 35, 36, 37, 38, 39, 40, 41, 42, 43, 44, 45] rfl (by decide +kernel)
set_option maxRecDepth 20000 in
theorem gX5_localType_X5_givenType : GoodIn wsX5_localType (wsV RX5 76 RX5 yX5_givenType wsX5_givenType) := goodIn_app (goodIn_of _ (by decide +kernel)) ggX5_localType_X5_givenType
set_option maxRecDepth 20000 in
theorem ggX5_elementType_X5_typeAt : GoodIn wsX5_elementType wsX5_typeAt := goodIn_r _ [6, 7, 8, 9, 10, 11, 12, 13, 14, 15, 16, 17, 18, 19, 20, 21, 22, 23] rfl (by decide +kernel)
set_option maxRecDepth 20000 in
theorem gX5_elementType_X5_typeAt : GoodIn wsX5_elementType (wsV RX5 65 RX5 yX5_typeAt wsX5_typeAt) := goodIn_app (goodIn_of _ (by decide +kernel)) ggX5_elementType_X5_typeAt
set_option maxRecDepth 20000 in
theorem ggX5_isReference_X5_head : GoodIn wsX5_isReference wsX5_head := goodIn_r _ [4] rfl (by decide +kernel)
set_option maxRecDepth 20000 in
theorem gX5_isReference_X5_head : GoodIn wsX5_isReference (va_wsS RX5 85 yX5_head wsX5_head) := goodIn_app (goodIn_of _ (by decide +kernel)) ggX5_isReference_X5_head
set_option maxRecDepth 20000 in
theorem ggX5_pointee_X5_headShift : GoodIn wsX5_pointee wsX5_headShift := goodIn_r _ [4] rfl (by decide +kernel)
set_option maxRecDepth 20000 in
theorem gX5_pointee_X5_headShift : GoodIn wsX5_pointee (va_wsS RX5 89 yX5_headShift wsX5_headShift) := goodIn_app (goodIn_of _ (by decide +kernel)) ggX5_pointee_X5_headShift
set_option maxRecDepth 20000 in
theorem ggX5_prefixed_X5_headShift : GoodIn wsX5_prefixed wsX5_headShift := goodIn_r _ [4] rfl (by decide +kernel)
set_option maxRecDepth 20000 in
theorem gX5_prefixed_X5_headShift : GoodIn wsX5_prefixed (va_wsS RX5 89 yX5_headShift wsX5_headShift) := goodIn_app (goodIn_of _ (by decide +kernel)) ggX5_prefixed_X5_headShift
set_option maxRecDepth 20000 in
theorem ggX5_abilities_X5_head : GoodIn wsX5_abilities wsX5_head := goodIn_r _ [4] rfl (by decide +kernel)
set_option maxRecDepth 20000 in
theorem gX5_abilities_X5_head : GoodIn wsX5_abilities (va_wsS RX5 85 yX5_head wsX5_head) := goodIn_app (goodIn_of _ (by decide +kernel)) ggX5_abilities_X5_head
set_option maxRecDepth 20000 in
theorem ggX5_abilities_X5_endsInStructure : GoodIn wsX5_abilities wsX5_endsInStructure := goodIn_r _ [7, 8, 9] rfl (by decide +kernel)
set_option maxRecDepth 20000 in
theorem gX5_abilities_X5_endsInStructure : GoodIn wsX5_abilities (va_wsS RX5 96 yX5_endsInStructure wsX5_endsInStructure) := goodIn_app (goodIn_of _ (by decide +kernel)) ggX5_abilities_X5_endsInStructure
set_option maxRecDepth 20000 in
theorem ggX5_abilities_X5_structureColumn : GoodIn wsX5_abilities wsX5_structureColumn := goodIn_r _ [13, 14, 15, 16, 17, 18, 19, 20, 21, 22, 23, 24, 25, 26, 27, 28, 29, 30] rfl (by decide +kernel)
set_option maxRecDepth 20000 in
theorem gX5_abilities_X5_structureColumn : GoodIn wsX5_abilities (wsV RX5 79 RX5 yX5_structureColumn wsX5_structureColumn) := goodIn_app (goodIn_of _ (by decide +kernel)) ggX5_abilities_X5_structureColumn
set_option maxRecDepth 20000 in
theorem ggX5_givesPlain_X5_gives : GoodIn wsX5_givesPlain wsX5_gives := goodIn_r _ [6, 7, 8, 9, 5, 10, 11, 12, 13, 28, 29, 30, 31, 32, 33, 34, 35, 36, 37, 38, 39, 40, 41, 42] rfl (by decide +kernel)
set_option maxRecDepth 20000 in
theorem gX5_givesPlain_X5_gives : GoodIn wsX5_givesPlain (wsV RX5 73 RX5 yX5_gives wsX5_gives) := goodIn_app (goodIn_of _ (by decide +kernel)) ggX5_givesPlain_X5_gives
set_option maxRecDepth 20000 in
theorem ggX5_givesPlain_X5_givenType : GoodIn wsX5_givesPlain wsX5_givenType := goodIn_r _ [17, 7, 8, 9, 5, 10, 11, 12, 13, 18, 19, 20, 21, 22, 23, 24, 25, 26, 27, 28, 29, 30, 31, 32, 33, 34, 35, 36, 37, 38, 39, 40, 41, 42] rfl (by decide +kernel)
set_option maxRecDepth 20000 in
theorem gX5_givesPlain_X5_givenType : GoodIn wsX5_givesPlain (wsV RX5 76 RX5 yX5_givenType wsX5_givenType) := goodIn_app (goodIn_of _ (by decide +kernel)) ggX5_givesPlain_X5_givenType
set_option maxRecDepth 20000 in
theorem ggX5_strangeStructure_X5_structureColumn : GoodIn wsX5_strangeStructure wsX5_structureColumn := goodIn_r _ [7, 2, 8, 17, 18, 19, 20, 21, 22, 23, 24, 25, 26, 27, 28, 29, 30, 31] rfl (by decide +kernel)
set_option maxRecDepth 20000 in
theorem gX5_strangeStructure_X5_structureColumn : GoodIn wsX5_strangeStructure (wsV RX5 79 RX5 yX5_structureColumn wsX5_structureColumn) := goodIn_app (goodIn_of _ (by decide +kernel)) ggX5_strangeStructure_X5_structureColumn
set_option maxRecDepth 20000 in
theorem ggX5_strangeStructure_X7_findProgram : GoodIn wsX5_strangeStructure wsX7_findProgram := goodIn_r _ [13, 14, 15, 16, 32, 33, 34, 35, 36, 37, 38, 39, 40, 41, 42, 43, 44, 45, 46, 47, 17, 18, 19, 20, 21, 22, 23, 24, 25, 26, 27, 28, 29, 30, 31] rfl (by decide +kernel)
set_option maxRecDepth 20000 in
theorem gX5_strangeStructure_X7_findProgram : GoodIn wsX5_strangeStructure (wsV RX5 105 RX7 yX7_findProgram wsX7_findProgram) := goodIn_app (goodIn_of _ (by decide +kernel)) ggX5_strangeStructure_X7_findProgram
set_option maxRecDepth 20000 in
theorem ggX5_strangeFunction_X5_functionColumn : GoodIn wsX5_strangeFunction wsX5_functionColumn := goodIn_r _ [7, 2, 1, 8, 58, 59, 60, 61, 62, 63, 64, 65, 66, 67, 68, 69, 70, 71, 72] rfl (by decide +kernel)
set_option maxRecDepth 20000 in
theorem gX5_strangeFunction_X5_functionColumn : GoodIn wsX5_strangeFunction (wsV RX5 58 RX5 yX5_functionColumn wsX5_functionColumn) := goodIn_app (goodIn_of _ (by decide +kernel)) ggX5_strangeFunction_X5_functionColumn
set_option maxRecDepth 20000 in
theorem ggX5_strangeFunction_X7_findProgram : GoodIn wsX5_strangeFunction wsX7_findProgram := goodIn_r _ [13, 14, 15, 16, 73, 74, 75, 76, 77, 78, 79, 80, 81, 82, 83, 84, 85, 86, 87, 88, 58, 59, 60, 61, 62, 63, 64, 65, 66, 67, 68, 69, 70, 71, 72] rfl (by decide +kernel)
set_option maxRecDepth 20000 in
theorem gX5_strangeFunction_X7_findProgram : GoodIn wsX5_strangeFunction (wsV RX5 105 RX7 yX7_findProgram wsX7_findProgram) := goodIn_app (goodIn_of _ (by decide +kernel)) ggX5_strangeFunction_X7_findProgram
set_option maxRecDepth 20000 in
theorem ggX5_strangeFunction_X5_flags : GoodIn wsX5_strangeFunction wsX5_flags := goodIn_r _ [20, 3, 4, 5, 6, 7, 2, 1, 8, 58, 59, 60, 61, 62, 63, 64, 65, 66, 67, 68, 69, 70, 71, 72] rfl (by decide +kernel)
set_option maxRecDepth 20000 in
theorem gX5_strangeFunction_X5_flags : GoodIn wsX5_strangeFunction (wsV RX5 111 RX5 yX5_flags wsX5_flags) := goodIn_app (goodIn_of _ (by decide +kernel)) ggX5_strangeFunction_X5_flags
set_option maxRecDepth 20000 in
theorem ggX5_strangeFunction_X5_sameLists : GoodIn wsX5_strangeFunction wsX5_sameLists := goodIn_r _ [24, 25, 26, 27, 6, 28, 3, 4, 5, 7, 2, 1, 8, 29, 30, 31, 32, 33, 34, 35, 36, 37, 38, 39, 40, 41, 42, 43, 44, 45, 46, 47, 48, 49, 50, 51, 52, 53, 54, 55, 56, 57, 58, 59, 60, 61, 62, 63, 64, 65, 66, 67, 68, 69, 70, 71, 72] rfl (by decide +kernel)
set_option maxRecDepth 20000 in
theorem gX5_strangeFunction_X5_sameLists : GoodIn wsX5_strangeFunction (wsV RX5 114 RX5 yX5_sameLists wsX5_sameLists) := goodIn_app (goodIn_of _ (by decide +kernel)) ggX5_strangeFunction_X5_sameLists
set_option maxRecDepth 20000 in
theorem ggX5_sameLists_X5_takes : GoodIn wsX5_sameLists wsX5_takes := goodIn_r _ [5, 6, 7, 8, 4, 9, 10, 11, 12, 42, 43, 44, 45, 46, 47, 48, 49, 50, 51, 52, 53, 54, 55, 56] rfl (by decide +kernel)
set_option maxRecDepth 20000 in
theorem gX5_sameLists_X5_takes : GoodIn wsX5_sameLists (wsV RX5 62 RX5 yX5_takes wsX5_takes) := goodIn_app (goodIn_of _ (by decide +kernel)) ggX5_sameLists_X5_takes
set_option maxRecDepth 20000 in
theorem ggX5_sameLists_X5_gives : GoodIn wsX5_sameLists wsX5_gives := goodIn_r _ [16, 6, 7, 8, 4, 9, 10, 11, 12, 42, 43, 44, 45, 46, 47, 48, 49, 50, 51, 52, 53, 54, 55, 56] rfl (by decide +kernel)
set_option maxRecDepth 20000 in
theorem gX5_sameLists_X5_gives : GoodIn wsX5_sameLists (wsV RX5 73 RX5 yX5_gives wsX5_gives) := goodIn_app (goodIn_of _ (by decide +kernel)) ggX5_sameLists_X5_gives
set_option maxRecDepth 20000 in
theorem ggX5_sameLists_X5_takenType : GoodIn wsX5_sameLists wsX5_takenType := goodIn_r _ [20, 6, 7, 8, 4, 9, 10, 11, 12, 21, 22, 23, 24, 25, 26, 42, 43, 44, 45, 46, 47, 48, 49, 50, 51, 52, 53, 54, 55, 56] rfl (by decide +kernel)
set_option maxRecDepth 20000 in
theorem gX5_sameLists_X5_takenType : GoodIn wsX5_sameLists (wsV RX5 69 RX5 yX5_takenType wsX5_takenType) := goodIn_app (goodIn_of _ (by decide +kernel)) ggX5_sameLists_X5_takenType
set_option maxRecDepth 20000 in
theorem ggX5_sameLists_X5_sameType : GoodIn wsX5_sameLists wsX5_sameType := goodIn_r _ [30, 31, 32, 4, 33, 34, 35, 36, 37, 38, 39, 40, 41, 42, 43, 44, 45, 46, 47, 48, 49, 50, 51, 52, 53, 54, 55, 56] rfl (by decide +kernel)
set_option maxRecDepth 20000 in
theorem gX5_sameLists_X5_sameType : GoodIn wsX5_sameLists (wsV RX5 118 RX5 yX5_sameType wsX5_sameType) := goodIn_app (goodIn_of _ (by decide +kernel)) ggX5_sameLists_X5_sameType
set_option maxRecDepth 20000 in
theorem ggX5_sameType_X5_endsInStructure : GoodIn wsX5_sameType wsX5_endsInStructure := goodIn_r _ [4, 5, 6] rfl (by decide +kernel)
set_option maxRecDepth 20000 in
theorem gX5_sameType_X5_endsInStructure : GoodIn wsX5_sameType (va_wsS RX5 96 yX5_endsInStructure wsX5_endsInStructure) := goodIn_app (goodIn_of _ (by decide +kernel)) ggX5_sameType_X5_endsInStructure
set_option maxRecDepth 20000 in
theorem ggX5_sameType_X5_structureColumn : GoodIn wsX5_sameType wsX5_structureColumn := goodIn_r _ [10, 11, 12, 13, 14, 15, 16, 17, 18, 19, 20, 21, 22, 23, 24, 25, 26, 27] rfl (by decide +kernel)
set_option maxRecDepth 20000 in
theorem gX5_sameType_X5_structureColumn : GoodIn wsX5_sameType (wsV RX5 79 RX5 yX5_structureColumn wsX5_structureColumn) := goodIn_app (goodIn_of _ (by decide +kernel)) ggX5_sameType_X5_structureColumn
set_option maxRecDepth 20000 in
theorem ggX5_weakStructure_X5_structureColumn : GoodIn wsX5_weakStructure wsX5_structureColumn := goodIn_r _ [6, 7, 8, 35, 36, 37, 38, 39, 40, 41, 42, 43, 44, 45, 46, 47, 48, 49] rfl (by decide +kernel)
set_option maxRecDepth 20000 in
theorem gX5_weakStructure_X5_structureColumn : GoodIn wsX5_weakStructure (wsV RX5 79 RX5 yX5_structureColumn wsX5_structureColumn) := goodIn_app (goodIn_of _ (by decide +kernel)) ggX5_weakStructure_X5_structureColumn
set_option maxRecDepth 20000 in
theorem ggX5_weakStructure_X5_fieldCount : GoodIn wsX5_weakStructure wsX5_fieldCount := goodIn_r _ [12, 2, 3, 4, 5, 6, 7, 8, 35, 36, 37, 38, 39, 40, 41, 42, 43, 44, 45, 46, 47, 48, 49] rfl (by decide +kernel)
set_option maxRecDepth 20000 in
theorem gX5_weakStructure_X5_fieldCount : GoodIn wsX5_weakStructure (wsV RX5 122 RX5 yX5_fieldCount wsX5_fieldCount) := goodIn_app (goodIn_of _ (by decide +kernel)) ggX5_weakStructure_X5_fieldCount
set_option maxRecDepth 20000 in
theorem ggX5_weakStructure_X5_fieldType : GoodIn wsX5_weakStructure wsX5_fieldType := goodIn_r _ [16, 2, 3, 4, 5, 6, 7, 8, 17, 18, 19, 20, 21, 22, 35, 36, 37, 38, 39, 40, 41, 42, 43, 44, 45, 46, 47, 48, 49] rfl (by decide +kernel)
set_option maxRecDepth 20000 in
theorem gX5_weakStructure_X5_fieldType : GoodIn wsX5_weakStructure (wsV RX5 125 RX5 yX5_fieldType wsX5_fieldType) := goodIn_app (goodIn_of _ (by decide +kernel)) ggX5_weakStructure_X5_fieldType
set_option maxRecDepth 20000 in
theorem ggX5_weakStructure_X5_abilities : GoodIn wsX5_weakStructure wsX5_abilities := goodIn_r _ [26, 27, 28, 5, 29, 30, 31, 32, 33, 34, 2, 3, 4, 6, 7, 8, 35, 36, 37, 38, 39, 40, 41, 42, 43, 44, 45, 46, 47, 48, 49] rfl (by decide +kernel)
set_option maxRecDepth 20000 in
theorem gX5_weakStructure_X5_abilities : GoodIn wsX5_weakStructure (wsV RX5 128 RX5 yX5_abilities wsX5_abilities) := goodIn_app (goodIn_of _ (by decide +kernel)) ggX5_weakStructure_X5_abilities
set_option maxRecDepth 20000 in
theorem ggX5_measure_X7_findProgram : GoodIn wsX5_measure wsX7_findProgram := goodIn_r _ [17, 18, 19, 20, 67, 68, 69, 70, 71, 72, 73, 74, 75, 76, 77, 78, 79, 80, 81, 82, 52, 53, 54, 55, 56, 57, 58, 59, 60, 61, 62, 63, 64, 65, 66] rfl (by decide +kernel)
set_option maxRecDepth 20000 in
theorem gX5_measure_X7_findProgram : GoodIn wsX5_measure (wsV RX5 105 RX7 yX7_findProgram wsX7_findProgram) := goodIn_app (goodIn_of _ (by decide +kernel)) ggX5_measure_X7_findProgram
set_option maxRecDepth 20000 in
theorem ggX5_deepStructure_X5_structureColumn : GoodIn wsX5_deepStructure wsX5_structureColumn := goodIn_r _ [6, 7, 8, 9, 10, 11, 12, 13, 14, 15, 16, 17, 18, 19, 20, 21, 22, 23] rfl (by decide +kernel)
set_option maxRecDepth 20000 in
theorem gX5_deepStructure_X5_structureColumn : GoodIn wsX5_deepStructure (wsV RX5 79 RX5 yX5_structureColumn wsX5_structureColumn) := goodIn_app (goodIn_of _ (by decide +kernel)) ggX5_deepStructure_X5_structureColumn
set_option maxRecDepth 20000 in
theorem ggX7_charge_X7_findAccount : GoodIn wsX7_charge wsX7_findAccount := goodIn_r _ [9, 10, 11, 31, 32, 33, 34, 35, 36, 37, 38, 39, 40, 41, 42, 43, 44, 45, 46] rfl (by decide +kernel)
set_option maxRecDepth 20000 in
theorem gX7_charge_X7_findAccount : GoodIn wsX7_charge (wsV RX7 73 RX7 yX7_findAccount wsX7_findAccount) := goodIn_app (goodIn_of _ (by decide +kernel)) ggX7_charge_X7_findAccount
set_option maxRecDepth 20000 in
theorem ggX7_settle_X7_findAccount : GoodIn wsX7_settle wsX7_findAccount := goodIn_r _ [10, 11, 12, 32, 33, 34, 35, 36, 37, 38, 39, 40, 41, 42, 43, 44, 45, 46, 47] rfl (by decide +kernel)
set_option maxRecDepth 20000 in
theorem gX7_settle_X7_findAccount : GoodIn wsX7_settle (wsV RX7 73 RX7 yX7_findAccount wsX7_findAccount) := goodIn_app (goodIn_of _ (by decide +kernel)) ggX7_settle_X7_findAccount
set_option maxRecDepth 20000 in
theorem ggX7_slotFor_X7_findResource : GoodIn wsX7_slotFor wsX7_findResource := goodIn_r _ [9, 10, 1, 2, 3, 15, 16, 17, 18, 19, 20, 21, 22, 23, 24, 25, 26, 27, 28, 29, 30] rfl (by decide +kernel)
set_option maxRecDepth 20000 in
theorem gX7_slotFor_X7_findResource : GoodIn wsX7_slotFor (wsV RX7 89 RX7 yX7_findResource wsX7_findResource) := goodIn_app (goodIn_of _ (by decide +kernel)) ggX7_slotFor_X7_findResource
set_option maxRecDepth 20000 in
theorem ggX7_slotFor_X7_freeSlot : GoodIn wsX7_slotFor wsX7_freeSlot := goodIn_r _ [14, 10, 15, 16, 17, 18, 19, 20, 21, 22, 23, 24, 25, 26, 27, 28, 29, 30] rfl (by decide +kernel)
set_option maxRecDepth 20000 in
theorem gX7_slotFor_X7_freeSlot : GoodIn wsX7_slotFor (wsV RX7 93 RX7 yX7_freeSlot wsX7_freeSlot) := goodIn_app (goodIn_of _ (by decide +kernel)) ggX7_slotFor_X7_freeSlot
set_option maxRecDepth 20000 in
theorem ggX7_removeResource_X7_findResource : GoodIn wsX7_removeResource wsX7_findResource := goodIn_r _ [7, 1, 8, 9, 10, 11, 12, 13, 14, 15, 16, 17, 18, 19, 20, 21, 22, 23, 24, 25, 26] rfl (by decide +kernel)
set_option maxRecDepth 20000 in
theorem gX7_removeResource_X7_findResource : GoodIn wsX7_removeResource (wsV RX7 89 RX7 yX7_findResource wsX7_findResource) := goodIn_app (goodIn_of _ (by decide +kernel)) ggX7_removeResource_X7_findResource
set_option maxRecDepth 20000 in
theorem ggX7_writeBytes_X7_widthOf : GoodIn wsX7_writeBytes wsX7_widthOf := goodIn_r _ [8] rfl (by decide +kernel)
set_option maxRecDepth 20000 in
theorem gX7_writeBytes_X7_widthOf : GoodIn wsX7_writeBytes (va_wsS RX7 97 yX7_widthOf wsX7_widthOf) := goodIn_app (goodIn_of _ (by decide +kernel)) ggX7_writeBytes_X7_widthOf
set_option maxRecDepth 20000 in
theorem ggX8_fits_X5_takes : GoodIn wsX8_fits wsX5_takes := goodIn_r _ [8, 9, 10, 11, 7, 12, 13, 14, 15, 45, 46, 47, 48, 49, 50, 51, 52, 53, 54, 55, 56, 57, 58, 59] rfl (by decide +kernel)
set_option maxRecDepth 20000 in
theorem gX8_fits_X5_takes : GoodIn wsX8_fits (wsV RX8 62 RX5 yX5_takes wsX5_takes) := goodIn_app (goodIn_of _ (by decide +kernel)) ggX8_fits_X5_takes
set_option maxRecDepth 20000 in
theorem ggX8_fits_X5_takenType : GoodIn wsX8_fits wsX5_takenType := goodIn_r _ [19, 9, 10, 11, 7, 12, 13, 14, 15, 20, 21, 22, 23, 24, 25, 45, 46, 47, 48, 49, 50, 51, 52, 53, 54, 55, 56, 57, 58, 59] rfl (by decide +kernel)
set_option maxRecDepth 20000 in
theorem gX8_fits_X5_takenType : GoodIn wsX8_fits (wsV RX8 68 RX5 yX5_takenType wsX5_takenType) := goodIn_app (goodIn_of _ (by decide +kernel)) ggX8_fits_X5_takenType
set_option maxRecDepth 20000 in
theorem ggX9_rebuild_X9_gatherAccounts : GoodIn wsX9_rebuild wsX9_gatherAccounts := goodIn_r _ [10, 11, 12, 13, 14, 15, 16, 17, 18, 19, 20, 21, 22, 23, 24, 25, 26, 27, 28, 29, 30, 31, 32, 33, 34, 35, 36, 37, 38, 39, 40, 41, 42, 43, 44, 45, 9, 46, 47, 48, 49, 50, 51, 52, 53, 54, 55, 56, 57, 58, 59, 60, 61, 62, 63, 64, 65, 66, 2, 67, 68, 69, 70, 71, 72, 73, 74, 75, 76, 77, 78, 79, 80, 81, 82, 83, 163, 164, 165, 166, 167, 168, 169, 170, 171, 172, 173, 174, 175, 176, 177, 178, 150, 151, 152, 153, 154, 155, 156, 157, 158, 159, 160, 161, 162, 179, 180, 181, 182] rfl (by decide +kernel)
set_option maxRecDepth 20000 in
theorem gX9_rebuild_X9_gatherAccounts : GoodIn wsX9_rebuild (wsV RX9 56 RX9 yX9_gatherAccounts wsX9_gatherAccounts) := goodIn_app (goodIn_of _ (by decide +kernel)) ggX9_rebuild_X9_gatherAccounts
set_option maxRecDepth 20000 in
theorem ggX9_rebuild_X9_gatherModules : GoodIn wsX9_rebuild wsX9_gatherModules := goodIn_r _ [87, 88, 89, 12, 90, 91, 16, 17, 18, 19, 20, 21, 22, 23, 24, 25, 26, 27, 28, 92, 93, 94, 95, 96, 97, 98, 62, 34, 35, 36, 37, 38, 39, 40, 41, 42, 43, 44, 45, 9, 46, 47, 48, 49, 50, 51, 52, 33, 53, 54, 55, 56, 57, 58, 59, 60, 61, 63, 64, 65, 66, 2, 67, 68, 69, 70, 71, 72, 73, 74, 30, 31, 32, 75, 76, 77, 78, 79, 80, 81, 82, 83, 163, 164, 165, 166, 167, 168, 169, 170, 171, 172, 173, 174, 175, 176, 177, 178, 150, 151, 152, 153, 154, 155, 156, 157, 158, 159, 160, 161, 162, 183, 184, 185, 186, 187, 188, 189, 190, 191, 192, 193, 194, 195, 196, 197, 179, 180, 181, 182] rfl (by decide +kernel)
set_option maxRecDepth 20000 in
theorem gX9_rebuild_X9_gatherModules : GoodIn wsX9_rebuild (wsV RX9 60 RX9 yX9_gatherModules wsX9_gatherModules) := goodIn_app (goodIn_of _ (by decide +kernel)) ggX9_rebuild_X9_gatherModules
set_option maxRecDepth 20000 in
theorem ggX9_rebuild_X9_gatherResources : GoodIn wsX9_rebuild wsX9_gatherResources := goodIn_r _ [102, 103, 104, 12, 105, 106, 107, 108, 109, 110, 111, 112, 113, 114, 115, 116, 117, 118, 119, 16, 17, 18, 19, 20, 21, 22, 23, 24, 25, 26, 27, 28, 62, 34, 35, 36, 37, 38, 39, 40, 41, 42, 43, 44, 45, 9, 46, 47, 48, 49, 50, 51, 52, 33, 53, 54, 55, 56, 57, 58, 59, 60, 61, 29, 30, 31, 32, 63, 64, 65, 66, 2, 67, 68, 69, 70, 71, 72, 73, 74, 75, 76, 77, 78, 79, 80, 81, 82, 83, 163, 164, 165, 166, 167, 168, 169, 170, 171, 172, 173, 174, 175, 176, 177, 178, 150, 151, 152, 153, 154, 155, 156, 157, 158, 159, 160, 161, 162, 179, 180, 181, 182] rfl (by decide +kernel)
set_option maxRecDepth 20000 in
theorem gX9_rebuild_X9_gatherResources : GoodIn wsX9_rebuild (wsV RX9 63 RX9 yX9_gatherResources wsX9_gatherResources) := goodIn_app (goodIn_of _ (by decide +kernel)) ggX9_rebuild_X9_gatherResources
set_option maxRecDepth 20000 in
theorem ggX9_rebuild_X9_leaveOutDoubles : GoodIn wsX9_rebuild wsX9_leaveOutDoubles := goodIn_r _ [123, 2, 69, 124, 125, 126, 9, 127, 67, 150, 151, 152, 153, 154, 155, 156, 157, 158, 159, 160, 161, 162] rfl (by decide +kernel)
set_option maxRecDepth 20000 in
theorem gX9_rebuild_X9_leaveOutDoubles : GoodIn wsX9_rebuild (wsV RX9 66 RX9 yX9_leaveOutDoubles wsX9_leaveOutDoubles) := goodIn_app (goodIn_of _ (by decide +kernel)) ggX9_rebuild_X9_leaveOutDoubles
set_option maxRecDepth 20000 in
theorem ggX9_rebuild_X9_climb : GoodIn wsX9_rebuild wsX9_climb := goodIn_r _ [131, 69, 132, 133, 134, 135, 68, 136, 137, 24, 25, 26, 67, 3, 138, 12, 5, 139, 140, 141, 9, 142, 2, 143, 144, 145, 124, 125, 126, 127, 16, 17, 18, 19, 20, 21, 22, 23, 27, 28, 62, 34, 35, 36, 37, 38, 39, 40, 41, 42, 70, 71, 72, 73, 74, 30, 31, 32, 33, 146, 147, 148, 149, 29, 48, 49, 50, 51, 52, 53, 54, 55, 56, 57, 58, 59, 60, 61, 150, 151, 152, 153, 154, 155, 156, 157, 158, 159, 160, 161, 162, 179, 180, 181, 182] rfl (by decide +kernel)
set_option maxRecDepth 20000 in
theorem gX9_rebuild_X9_climb : GoodIn wsX9_rebuild (wsV RX9 72 RX9 yX9_climb wsX9_climb) := goodIn_app (goodIn_of _ (by decide +kernel)) ggX9_rebuild_X9_climb
set_option maxRecDepth 20000 in
theorem ggX9_gatherAccounts_X0_start : GoodIn wsX9_gatherAccounts wsX0_start := goodIn_r _ [10, 11, 12, 13, 14, 15, 16, 17, 18, 105, 106, 107, 108] rfl (by decide +kernel)
set_option maxRecDepth 20000 in
theorem gX9_gatherAccounts_X0_start : GoodIn wsX9_gatherAccounts (wsV RX9 81 RX0 yX0_start wsX0_start) := goodIn_app (goodIn_of _ (by decide +kernel)) ggX9_gatherAccounts_X0_start
set_option maxRecDepth 20000 in
theorem ggX9_gatherAccounts_X0_putLong : GoodIn wsX9_gatherAccounts wsX0_putLong := goodIn_r _ [22, 23, 24, 25, 9, 26, 17, 27, 18, 28, 29, 30, 31, 12, 32, 105, 106, 107, 108] rfl (by decide +kernel)
set_option maxRecDepth 20000 in
theorem gX9_gatherAccounts_X0_putLong : GoodIn wsX9_gatherAccounts (wsV RX9 87 RX0 yX0_putLong wsX0_putLong) := goodIn_app (goodIn_of _ (by decide +kernel)) ggX9_gatherAccounts_X0_putLong
set_option maxRecDepth 20000 in
theorem ggX9_gatherAccounts_X9_keepValue : GoodIn wsX9_gatherAccounts wsX9_keepValue := goodIn_r _ [37, 2, 38, 39, 40, 41, 9, 42, 18, 43, 17, 23, 24, 25, 26, 27, 28, 29, 30, 31, 12, 32, 44, 45, 46, 47, 48, 49, 50, 51, 52, 92, 93, 94, 95, 96, 97, 98, 99, 100, 101, 102, 103, 104, 105, 106, 107, 108] rfl (by decide +kernel)
set_option maxRecDepth 20000 in
theorem gX9_gatherAccounts_X9_keepValue : GoodIn wsX9_gatherAccounts (wsV RX9 94 RX9 yX9_keepValue wsX9_keepValue) := goodIn_app (goodIn_of _ (by decide +kernel)) ggX9_gatherAccounts_X9_keepValue
set_option maxRecDepth 20000 in
theorem ggX9_gatherAccounts_X0_put : GoodIn wsX9_gatherAccounts wsX0_put := goodIn_r _ [26, 17, 27, 18, 28, 29, 30, 9, 31, 12, 32, 105, 106, 107, 108] rfl (by decide +kernel)
set_option maxRecDepth 20000 in
theorem gX9_gatherAccounts_X0_put : GoodIn wsX9_gatherAccounts (wsV RX9 99 RX0 yX0_put wsX0_put) := goodIn_app (goodIn_of _ (by decide +kernel)) ggX9_gatherAccounts_X0_put
set_option maxRecDepth 20000 in
theorem ggX9_gatherAccounts_X9_addPlace : GoodIn wsX9_gatherAccounts wsX9_addPlace := goodIn_r _ [57, 2, 58, 59, 38, 60, 61, 39, 40, 41, 9, 42, 18, 43, 17, 23, 24, 25, 26, 27, 28, 29, 30, 31, 12, 32, 44, 45, 46, 47, 48, 49, 50, 51, 52, 6, 7, 8, 10, 11, 13, 14, 15, 16, 53, 62, 63, 64, 65, 66, 20, 21, 22, 67, 68, 69, 36, 70, 71, 72, 73, 74, 75, 92, 93, 94, 95, 96, 97, 98, 99, 100, 101, 102, 103, 104, 105, 106, 107, 108] rfl (by decide +kernel)
set_option maxRecDepth 20000 in
theorem gX9_gatherAccounts_X9_addPlace : GoodIn wsX9_gatherAccounts (wsV RX9 105 RX9 yX9_addPlace wsX9_addPlace) := goodIn_app (goodIn_of _ (by decide +kernel)) ggX9_gatherAccounts_X9_addPlace
set_option maxRecDepth 20000 in
theorem ggX9_gatherModules_X0_start : GoodIn wsX9_gatherModules wsX0_start := goodIn_r _ [10, 11, 12, 13, 14, 15, 16, 17, 18, 126, 127, 128, 129] rfl (by decide +kernel)
set_option maxRecDepth 20000 in
theorem gX9_gatherModules_X0_start : GoodIn wsX9_gatherModules (wsV RX9 81 RX0 yX0_start wsX0_start) := goodIn_app (goodIn_of _ (by decide +kernel)) ggX9_gatherModules_X0_start
set_option maxRecDepth 20000 in
theorem ggX9_gatherModules_X5_at : GoodIn wsX9_gatherModules wsX5_at := goodIn_r _ [23, 24, 25, 111, 112, 113, 114, 115, 116, 117, 118, 119, 120, 121, 122, 123, 124, 125] rfl (by decide +kernel)
set_option maxRecDepth 20000 in
theorem gX9_gatherModules_X5_at : GoodIn wsX9_gatherModules (wsV RX9 121 RX5 yX5_at wsX5_at) := goodIn_app (goodIn_of _ (by decide +kernel)) ggX9_gatherModules_X5_at
set_option maxRecDepth 20000 in
theorem ggX9_gatherModules_X0_put : GoodIn wsX9_gatherModules wsX0_put := goodIn_r _ [29, 17, 30, 18, 31, 32, 33, 9, 34, 12, 35, 126, 127, 128, 129] rfl (by decide +kernel)
set_option maxRecDepth 20000 in
theorem gX9_gatherModules_X0_put : GoodIn wsX9_gatherModules (wsV RX9 99 RX0 yX0_put wsX0_put) := goodIn_app (goodIn_of _ (by decide +kernel)) ggX9_gatherModules_X0_put
set_option maxRecDepth 20000 in
theorem ggX9_gatherModules_X9_keepValue : GoodIn wsX9_gatherModules wsX9_keepValue := goodIn_r _ [40, 3, 41, 42, 43, 44, 9, 45, 18, 46, 17, 47, 27, 28, 29, 30, 31, 32, 33, 34, 12, 35, 48, 49, 50, 51, 52, 53, 54, 55, 56, 98, 99, 100, 101, 102, 103, 104, 105, 106, 107, 108, 109, 110, 126, 127, 128, 129] rfl (by decide +kernel)
set_option maxRecDepth 20000 in
theorem gX9_gatherModules_X9_keepValue : GoodIn wsX9_gatherModules (wsV RX9 94 RX9 yX9_keepValue wsX9_keepValue) := goodIn_app (goodIn_of _ (by decide +kernel)) ggX9_gatherModules_X9_keepValue
set_option maxRecDepth 20000 in
theorem ggX9_gatherModules_X9_addPlace : GoodIn wsX9_gatherModules wsX9_addPlace := goodIn_r _ [60, 3, 61, 62, 41, 63, 64, 42, 43, 44, 9, 45, 18, 46, 17, 47, 27, 28, 29, 30, 31, 32, 33, 34, 12, 35, 48, 49, 50, 51, 52, 53, 54, 55, 56, 6, 7, 8, 10, 11, 13, 14, 15, 16, 26, 65, 66, 67, 68, 69, 70, 71, 72, 73, 74, 75, 39, 76, 77, 78, 79, 80, 81, 98, 99, 100, 101, 102, 103, 104, 105, 106, 107, 108, 109, 110, 126, 127, 128, 129] rfl (by decide +kernel)
set_option maxRecDepth 20000 in
theorem gX9_gatherModules_X9_addPlace : GoodIn wsX9_gatherModules (wsV RX9 105 RX9 yX9_addPlace wsX9_addPlace) := goodIn_app (goodIn_of _ (by decide +kernel)) ggX9_gatherModules_X9_addPlace
set_option maxRecDepth 20000 in
theorem ggX9_gatherResources_X7_writeBytes : GoodIn wsX9_gatherResources wsX7_writeBytes := goodIn_r _ [11, 12, 13, 14, 15, 16, 17, 10, 18, 89, 90, 91, 92, 93, 94, 95, 96, 97, 98, 99, 100, 101, 102, 103, 104] rfl (by decide +kernel)
set_option maxRecDepth 20000 in
theorem gX9_gatherResources_X7_writeBytes : GoodIn wsX9_gatherResources (wsV RX9 131 RX7 yX7_writeBytes wsX7_writeBytes) := goodIn_app (goodIn_of _ (by decide +kernel)) ggX9_gatherResources_X7_writeBytes
set_option maxRecDepth 20000 in
theorem ggX9_gatherResources_X0_start : GoodIn wsX9_gatherResources wsX0_start := goodIn_r _ [23, 24, 25, 26, 27, 28, 29, 30, 31, 118, 119, 120, 121] rfl (by decide +kernel)
set_option maxRecDepth 20000 in
theorem gX9_gatherResources_X0_start : GoodIn wsX9_gatherResources (wsV RX9 81 RX0 yX0_start wsX0_start) := goodIn_app (goodIn_of _ (by decide +kernel)) ggX9_gatherResources_X0_start
set_option maxRecDepth 20000 in
theorem ggX9_gatherResources_X0_put : GoodIn wsX9_gatherResources wsX0_put := goodIn_r _ [35, 30, 36, 31, 37, 38, 39, 22, 40, 25, 41, 118, 119, 120, 121] rfl (by decide +kernel)
set_option maxRecDepth 20000 in
theorem gX9_gatherResources_X0_put : GoodIn wsX9_gatherResources (wsV RX9 99 RX0 yX0_put wsX0_put) := goodIn_app (goodIn_of _ (by decide +kernel)) ggX9_gatherResources_X0_put
set_option maxRecDepth 20000 in
theorem ggX9_gatherResources_X9_keepValue : GoodIn wsX9_gatherResources wsX9_keepValue := goodIn_r _ [46, 3, 47, 48, 49, 50, 22, 51, 31, 52, 30, 53, 33, 34, 35, 36, 37, 38, 39, 40, 25, 41, 54, 55, 56, 57, 58, 59, 60, 61, 62, 105, 106, 107, 108, 109, 110, 111, 112, 113, 114, 115, 116, 117, 118, 119, 120, 121] rfl (by decide +kernel)
set_option maxRecDepth 20000 in
theorem gX9_gatherResources_X9_keepValue : GoodIn wsX9_gatherResources (wsV RX9 94 RX9 yX9_keepValue wsX9_keepValue) := goodIn_app (goodIn_of _ (by decide +kernel)) ggX9_gatherResources_X9_keepValue
set_option maxRecDepth 20000 in
theorem ggX9_gatherResources_X0_putLong : GoodIn wsX9_gatherResources wsX0_putLong := goodIn_r _ [66, 53, 33, 34, 22, 35, 30, 36, 31, 37, 38, 39, 40, 25, 41, 118, 119, 120, 121] rfl (by decide +kernel)
set_option maxRecDepth 20000 in
theorem gX9_gatherResources_X0_putLong : GoodIn wsX9_gatherResources (wsV RX9 87 RX0 yX0_putLong wsX0_putLong) := goodIn_app (goodIn_of _ (by decide +kernel)) ggX9_gatherResources_X0_putLong
set_option maxRecDepth 20000 in
theorem ggX9_gatherResources_X9_addPlace : GoodIn wsX9_gatherResources wsX9_addPlace := goodIn_r _ [70, 3, 71, 72, 47, 73, 74, 48, 49, 50, 22, 51, 31, 52, 30, 53, 33, 34, 35, 36, 37, 38, 39, 40, 25, 41, 54, 55, 56, 57, 58, 59, 60, 61, 62, 19, 20, 21, 23, 24, 26, 27, 28, 29, 32, 75, 76, 77, 78, 79, 64, 65, 66, 80, 81, 82, 45, 83, 84, 85, 86, 87, 88, 105, 106, 107, 108, 109, 110, 111, 112, 113, 114, 115, 116, 117, 118, 119, 120, 121] rfl (by decide +kernel)
set_option maxRecDepth 20000 in
theorem gX9_gatherResources_X9_addPlace : GoodIn wsX9_gatherResources (wsV RX9 105 RX9 yX9_addPlace wsX9_addPlace) := goodIn_app (goodIn_of _ (by decide +kernel)) ggX9_gatherResources_X9_addPlace
set_option maxRecDepth 20000 in
theorem ggX9_keepValue_X0_finish : GoodIn wsX9_keepValue wsX0_finish := goodIn_r _ [7, 8, 9, 10, 11, 12, 13, 6, 14, 15, 16, 17, 18, 19, 20, 21, 44, 45, 46, 47] rfl (by decide +kernel)
set_option maxRecDepth 20000 in
theorem gX9_keepValue_X0_finish : GoodIn wsX9_keepValue (wsV RX9 144 RX0 yX0_finish wsX0_finish) := goodIn_app (goodIn_of _ (by decide +kernel)) ggX9_keepValue_X0_finish
set_option maxRecDepth 20000 in
theorem ggX9_keepValue_X0_copyTo : GoodIn wsX9_keepValue wsX0_copyTo := goodIn_r _ [25, 26, 27, 28, 6, 29, 20, 30, 44, 45, 46, 47] rfl (by decide +kernel)
set_option maxRecDepth 20000 in
theorem gX9_keepValue_X0_copyTo : GoodIn wsX9_keepValue (wsV RX9 147 RX0 yX0_copyTo wsX0_copyTo) := goodIn_app (goodIn_of _ (by decide +kernel)) ggX9_keepValue_X0_copyTo
set_option maxRecDepth 20000 in
theorem ggX9_addPlace_X0_finish : GoodIn wsX9_addPlace wsX0_finish := goodIn_r _ [11, 12, 13, 14, 15, 16, 17, 10, 18, 19, 20, 21, 22, 23, 24, 25, 76, 77, 78, 79] rfl (by decide +kernel)
set_option maxRecDepth 20000 in
theorem gX9_addPlace_X0_finish : GoodIn wsX9_addPlace (wsV RX9 144 RX0 yX0_finish wsX0_finish) := goodIn_app (goodIn_of _ (by decide +kernel)) ggX9_addPlace_X0_finish
set_option maxRecDepth 20000 in
theorem ggX9_addPlace_X0_copyTo : GoodIn wsX9_addPlace wsX0_copyTo := goodIn_r _ [29, 30, 31, 32, 10, 33, 24, 34, 76, 77, 78, 79] rfl (by decide +kernel)
set_option maxRecDepth 20000 in
theorem gX9_addPlace_X0_copyTo : GoodIn wsX9_addPlace (wsV RX9 147 RX0 yX0_copyTo wsX0_copyTo) := goodIn_app (goodIn_of _ (by decide +kernel)) ggX9_addPlace_X0_copyTo
set_option maxRecDepth 20000 in
theorem ggX9_addPlace_X0_start : GoodIn wsX9_addPlace wsX0_start := goodIn_r _ [38, 39, 24, 40, 41, 42, 43, 14, 12, 76, 77, 78, 79] rfl (by decide +kernel)
set_option maxRecDepth 20000 in
theorem gX9_addPlace_X0_start : GoodIn wsX9_addPlace (wsV RX9 81 RX0 yX0_start wsX0_start) := goodIn_app (goodIn_of _ (by decide +kernel)) ggX9_addPlace_X0_start
set_option maxRecDepth 20000 in
theorem ggX9_addPlace_X0_put : GoodIn wsX9_addPlace wsX0_put := goodIn_r _ [18, 14, 19, 12, 20, 21, 22, 10, 23, 24, 25, 76, 77, 78, 79] rfl (by decide +kernel)
set_option maxRecDepth 20000 in
theorem gX9_addPlace_X0_put : GoodIn wsX9_addPlace (wsV RX9 99 RX0 yX0_put wsX0_put) := goodIn_app (goodIn_of _ (by decide +kernel)) ggX9_addPlace_X0_put
set_option maxRecDepth 20000 in
theorem ggX9_addPlace_X0_putLongs : GoodIn wsX9_addPlace wsX0_putLongs := goodIn_r _ [48, 49, 50, 51, 10, 52, 15, 16, 17, 18, 14, 19, 12, 20, 21, 22, 23, 24, 25, 76, 77, 78, 79] rfl (by decide +kernel)
set_option maxRecDepth 20000 in
theorem gX9_addPlace_X0_putLongs : GoodIn wsX9_addPlace (wsV RX9 151 RX0 yX0_putLongs wsX0_putLongs) := goodIn_app (goodIn_of _ (by decide +kernel)) ggX9_addPlace_X0_putLongs
set_option maxRecDepth 20000 in
theorem ggX9_addPlace_X9_isBelow : GoodIn wsX9_addPlace wsX9_isBelow := goodIn_r _ [57, 3, 58, 59, 60, 61, 62, 63, 64, 65, 66, 67, 68, 69, 70, 71, 72, 73, 74, 75] rfl (by decide +kernel)
set_option maxRecDepth 20000 in
theorem gX9_addPlace_X9_isBelow : GoodIn wsX9_addPlace (wsV RX9 154 RX9 yX9_isBelow wsX9_isBelow) := goodIn_app (goodIn_of _ (by decide +kernel)) ggX9_addPlace_X9_isBelow
set_option maxRecDepth 20000 in
theorem ggX9_isBelow_X10_below : GoodIn wsX9_isBelow wsX10_below := goodIn_r _ [5, 6] rfl (by decide +kernel)
set_option maxRecDepth 20000 in
theorem gX9_isBelow_X10_below : GoodIn wsX9_isBelow (va_wsS RX9 158 yX10_below wsX10_below) := goodIn_app (goodIn_of _ (by decide +kernel)) ggX9_isBelow_X10_below
set_option maxRecDepth 20000 in
theorem ggX9_leaveOutDoubles_X9_firstDifference : GoodIn wsX9_leaveOutDoubles wsX9_firstDifference := goodIn_r _ [7, 8, 9, 10, 11, 12, 13, 14, 15, 16, 17, 18, 19, 20, 21] rfl (by decide +kernel)
set_option maxRecDepth 20000 in
theorem gX9_leaveOutDoubles_X9_firstDifference : GoodIn wsX9_leaveOutDoubles (wsV RX9 164 RX9 yX9_firstDifference wsX9_firstDifference) := goodIn_app (goodIn_of _ (by decide +kernel)) ggX9_leaveOutDoubles_X9_firstDifference
set_option maxRecDepth 20000 in
theorem ggX9_parting_X9_firstDifference : GoodIn wsX9_parting wsX9_firstDifference := goodIn_r _ [11, 12, 13, 14, 15, 16, 17, 18, 19, 20, 21, 22, 23, 24, 25] rfl (by decide +kernel)
set_option maxRecDepth 20000 in
theorem gX9_parting_X9_firstDifference : GoodIn wsX9_parting (wsV RX9 164 RX9 yX9_firstDifference wsX9_firstDifference) := goodIn_app (goodIn_of _ (by decide +kernel)) ggX9_parting_X9_firstDifference
set_option maxRecDepth 20000 in
theorem ggX9_climb_X9_parting : GoodIn wsX9_climb wsX9_parting := goodIn_r _ [21, 22, 1, 23, 24, 4, 25, 26, 27, 28, 20, 29, 12, 78, 79, 80, 81, 82, 83, 84, 85, 86, 87, 88, 89, 90] rfl (by decide +kernel)
set_option maxRecDepth 20000 in
theorem gX9_climb_X9_parting : GoodIn wsX9_climb (wsV RX9 173 RX9 yX9_parting wsX9_parting) := goodIn_app (goodIn_of _ (by decide +kernel)) ggX9_climb_X9_parting
set_option maxRecDepth 20000 in
theorem ggX9_climb_X0_start : GoodIn wsX9_climb wsX0_start := goodIn_r _ [34, 35, 36, 37, 9, 10, 11, 38, 39, 91, 92, 93, 94] rfl (by decide +kernel)
set_option maxRecDepth 20000 in
theorem gX9_climb_X0_start : GoodIn wsX9_climb (wsV RX9 81 RX0 yX0_start wsX0_start) := goodIn_app (goodIn_of _ (by decide +kernel)) ggX9_climb_X0_start
set_option maxRecDepth 20000 in
theorem ggX9_climb_X0_put : GoodIn wsX9_climb wsX0_put := goodIn_r _ [43, 38, 44, 39, 45, 46, 47, 33, 48, 36, 49, 91, 92, 93, 94] rfl (by decide +kernel)
set_option maxRecDepth 20000 in
theorem gX9_climb_X0_put : GoodIn wsX9_climb (wsV RX9 99 RX0 yX0_put wsX0_put) := goodIn_app (goodIn_of _ (by decide +kernel)) ggX9_climb_X0_put
set_option maxRecDepth 20000 in
theorem ggX9_climb_X0_putLongs : GoodIn wsX9_climb wsX0_putLongs := goodIn_r _ [53, 54, 55, 56, 33, 57, 58, 41, 42, 43, 38, 44, 39, 45, 46, 47, 48, 36, 49, 91, 92, 93, 94] rfl (by decide +kernel)
set_option maxRecDepth 20000 in
theorem gX9_climb_X0_putLongs : GoodIn wsX9_climb (wsV RX9 151 RX0 yX0_putLongs wsX0_putLongs) := goodIn_app (goodIn_of _ (by decide +kernel)) ggX9_climb_X0_putLongs
set_option maxRecDepth 20000 in
theorem ggX9_climb_X9_putNothing : GoodIn wsX9_climb wsX9_putNothing := goodIn_r _ [62, 15, 63, 55, 56, 33, 57, 58, 41, 42, 43, 38, 44, 39, 45, 46, 47, 48, 36, 49, 78, 79, 80, 81, 82, 83, 84, 85, 86, 87, 88, 89, 90, 91, 92, 93, 94] rfl (by decide +kernel)
set_option maxRecDepth 20000 in
theorem gX9_climb_X9_putNothing : GoodIn wsX9_climb (wsV RX9 185 RX9 yX9_putNothing wsX9_putNothing) := goodIn_app (goodIn_of _ (by decide +kernel)) ggX9_climb_X9_putNothing
set_option maxRecDepth 20000 in
theorem ggX9_climb_X0_finish : GoodIn wsX9_climb wsX0_finish := goodIn_r _ [67, 39, 68, 38, 58, 41, 42, 33, 43, 44, 45, 46, 47, 48, 36, 49, 91, 92, 93, 94] rfl (by decide +kernel)
set_option maxRecDepth 20000 in
theorem gX9_climb_X0_finish : GoodIn wsX9_climb (wsV RX9 144 RX0 yX0_finish wsX0_finish) := goodIn_app (goodIn_of _ (by decide +kernel)) ggX9_climb_X0_finish
set_option maxRecDepth 20000 in
theorem ggX9_climb_X0_copyTo : GoodIn wsX9_climb wsX0_copyTo := goodIn_r _ [72, 73, 74, 75, 33, 76, 36, 77, 91, 92, 93, 94] rfl (by decide +kernel)
set_option maxRecDepth 20000 in
theorem gX9_climb_X0_copyTo : GoodIn wsX9_climb (wsV RX9 147 RX0 yX0_copyTo wsX0_copyTo) := goodIn_app (goodIn_of _ (by decide +kernel)) ggX9_climb_X0_copyTo
set_option maxRecDepth 20000 in
theorem ggX9_putNothing_X0_putLong : GoodIn wsX9_putNothing wsX0_putLong := goodIn_r _ [6, 7, 8, 9, 5, 10, 11, 12, 13, 14, 15, 16, 17, 18, 19, 33, 34, 35, 36] rfl (by decide +kernel)
set_option maxRecDepth 20000 in
theorem gX9_putNothing_X0_putLong : GoodIn wsX9_putNothing (wsV RX9 87 RX0 yX0_putLong wsX0_putLong) := goodIn_app (goodIn_of _ (by decide +kernel)) ggX9_putNothing_X0_putLong
set_option maxRecDepth 20000 in
theorem ggX10_compare_X10_below : GoodIn wsX10_compare wsX10_below := goodIn_r _ [4, 5] rfl (by decide +kernel)
set_option maxRecDepth 20000 in
theorem gX10_compare_X10_below : GoodIn wsX10_compare (va_wsS RX10 11 yX10_below wsX10_below) := goodIn_app (goodIn_of _ (by decide +kernel)) ggX10_compare_X10_below
set_option maxRecDepth 20000 in
theorem ggX10_add_X10_below : GoodIn wsX10_add wsX10_below := goodIn_r _ [7, 8] rfl (by decide +kernel)
set_option maxRecDepth 20000 in
theorem gX10_add_X10_below : GoodIn wsX10_add (va_wsS RX10 11 yX10_below wsX10_below) := goodIn_app (goodIn_of _ (by decide +kernel)) ggX10_add_X10_below
set_option maxRecDepth 20000 in
theorem ggX10_subtract_X10_compare : GoodIn wsX10_subtract wsX10_compare := goodIn_r _ [7, 8, 9, 6, 10, 11] rfl (by decide +kernel)
set_option maxRecDepth 20000 in
theorem gX10_subtract_X10_compare : GoodIn wsX10_subtract (va_wsS RX10 28 yX10_compare wsX10_compare) := goodIn_app (goodIn_of _ (by decide +kernel)) ggX10_subtract_X10_compare
set_option maxRecDepth 20000 in
theorem ggX10_subtract_X10_below : GoodIn wsX10_subtract wsX10_below := goodIn_r _ [10, 11] rfl (by decide +kernel)
set_option maxRecDepth 20000 in
theorem gX10_subtract_X10_below : GoodIn wsX10_subtract (va_wsS RX10 11 yX10_below wsX10_below) := goodIn_app (goodIn_of _ (by decide +kernel)) ggX10_subtract_X10_below
set_option maxRecDepth 20000 in
theorem ggX10_multiply_X10_upperProduct : GoodIn wsX10_multiply wsX10_upperProduct := goodIn_r _ [7, 8] rfl (by decide +kernel)
set_option maxRecDepth 20000 in
theorem gX10_multiply_X10_upperProduct : GoodIn wsX10_multiply (va_wsS RX10 32 yX10_upperProduct wsX10_upperProduct) := goodIn_app (goodIn_of _ (by decide +kernel)) ggX10_multiply_X10_upperProduct
set_option maxRecDepth 20000 in
theorem ggX10_multiply_X10_below : GoodIn wsX10_multiply wsX10_below := goodIn_r _ [11, 12] rfl (by decide +kernel)
set_option maxRecDepth 20000 in
theorem gX10_multiply_X10_below : GoodIn wsX10_multiply (va_wsS RX10 11 yX10_below wsX10_below) := goodIn_app (goodIn_of _ (by decide +kernel)) ggX10_multiply_X10_below
set_option maxRecDepth 20000 in
theorem ggX10_divide_X10_compare : GoodIn wsX10_divide wsX10_compare := goodIn_r _ [9, 10, 11, 8, 12, 13] rfl (by decide +kernel)
set_option maxRecDepth 20000 in
theorem gX10_divide_X10_compare : GoodIn wsX10_divide (va_wsS RX10 28 yX10_compare wsX10_compare) := goodIn_app (goodIn_of _ (by decide +kernel)) ggX10_divide_X10_compare
set_option maxRecDepth 20000 in
theorem ggX10_divide_X10_below : GoodIn wsX10_divide wsX10_below := goodIn_r _ [12, 13] rfl (by decide +kernel)
set_option maxRecDepth 20000 in
theorem gX10_divide_X10_below : GoodIn wsX10_divide (va_wsS RX10 11 yX10_below wsX10_below) := goodIn_app (goodIn_of _ (by decide +kernel)) ggX10_divide_X10_below
set_option maxRecDepth 20000 in
theorem ggX11_argument_X8_addArgument : GoodIn wsX11_argument wsX8_addArgument := goodIn_r _ [14, 15, 16, 17, 18, 32, 33, 34, 35, 36, 37, 38, 39, 40, 41, 42, 43, 44, 45, 46, 47, 48, 49, 50] rfl (by decide +kernel)
set_option maxRecDepth 20000 in
theorem gX11_argument_X8_addArgument : GoodIn wsX11_argument (wsV RX11 144 RX8 yX8_addArgument wsX8_addArgument) := goodIn_app (goodIn_of _ (by decide +kernel)) ggX11_argument_X8_addArgument
set_option maxRecDepth 20000 in
theorem ggX11_execute_X11_refusalOf : GoodIn wsX11_execute wsX11_refusalOf := goodIn_r _ [14, 4, 15, 16, 17, 18, 19, 5, 20, 21, 22, 23, 24, 25, 26, 27, 28, 29, 30, 31, 32, 33, 34, 35, 36, 37, 38, 39, 40, 41, 42, 43, 44, 45, 46, 47, 48, 49, 50, 51, 52, 53, 54, 55, 56, 57, 58, 59, 60, 61, 62, 63, 64, 65, 66, 67, 68, 69, 70, 71, 72, 73, 74, 75, 76, 77, 78, 79, 80, 81, 82, 83, 84, 998, 999, 1000, 1001, 1002, 1003, 1004, 1005, 1006, 1007, 1008, 1009, 1010, 1011, 1012, 1013, 1014, 1015, 1016, 1017, 1018, 1019, 1020, 1021, 1022, 1023, 1024, 1025, 1026, 1027, 1028, 1029, 1043, 1044, 1045, 1046, 1047, 1048, 1049, 1050, 1051, 1052, 1053, 1054, 1055, 1056, 1057, 1058, 1059, 1060, 1061, 1062, 1063, 1064, 1065, 1066, 1067, 1068, 1069, 1070, 1071, 1072, 1073] rfl (by decide +kernel)
set_option maxRecDepth 20000 in
theorem gX11_execute_X11_refusalOf : GoodIn wsX11_execute (wsV RX11 153 RX11 yX11_refusalOf wsX11_refusalOf) := goodIn_app (goodIn_of _ (by decide +kernel)) ggX11_execute_X11_refusalOf
set_option maxRecDepth 20000 in
theorem ggX11_execute_X8_end : GoodIn wsX11_execute wsX8_end := goodIn_r _ [88, 89, 90, 91, 1011, 1012, 1013, 1014, 1015, 1016, 1017, 1018, 1019, 1020, 1021, 1022, 1023, 1024, 1025, 1026, 1027, 1028, 1029] rfl (by decide +kernel)
set_option maxRecDepth 20000 in
theorem gX11_execute_X8_end : GoodIn wsX11_execute (wsV RX11 157 RX8 yX8_end wsX8_end) := goodIn_app (goodIn_of _ (by decide +kernel)) ggX11_execute_X8_end
set_option maxRecDepth 20000 in
theorem ggX11_execute_X7_charge : GoodIn wsX11_execute wsX7_charge := goodIn_r _ [95, 96, 97, 98, 99, 100, 24, 25, 26, 27, 28, 29, 1011, 1012, 1013, 1014, 1015, 1016, 1017, 1018, 1019, 1020, 1021, 1022, 1023, 1024, 1025, 1026, 1027, 1028, 1029, 1043, 1044, 1045, 1046, 1047, 1048, 1049, 1050, 1051, 1052, 1053, 1054, 1055, 1056, 1057, 1058] rfl (by decide +kernel)
set_option maxRecDepth 20000 in
theorem gX11_execute_X7_charge : GoodIn wsX11_execute (wsV RX11 161 RX7 yX7_charge wsX7_charge) := goodIn_app (goodIn_of _ (by decide +kernel)) ggX11_execute_X7_charge
set_option maxRecDepth 20000 in
theorem ggX11_execute_X4_run : GoodIn wsX11_execute wsX4_run := goodIn_r _ [105, 106, 107, 108, 109, 110, 111, 112, 113, 114, 115, 116, 117, 118, 119, 120, 121, 122, 123, 124, 125, 126, 127, 128, 129, 130, 131, 132, 133, 134, 135, 136, 137, 138, 139, 140, 141, 142, 143, 144, 145, 146, 147, 148, 149, 150, 151, 152, 153, 154, 155, 156, 157, 24, 25, 26, 27, 28, 29, 158, 159, 160, 161, 162, 163, 164, 165, 166, 167, 168, 169, 170, 171, 172, 173, 174, 175, 176, 177, 178, 179, 180, 181, 182, 183, 184, 185, 186, 187, 188, 189, 190, 191, 192, 193, 194, 31, 32, 33, 34, 35, 36, 195, 196, 197, 104, 198, 199, 200, 201, 202, 203, 204, 205, 206, 207, 208, 209, 210, 211, 212, 213, 214, 215, 40, 216, 42, 43, 44, 45, 46, 47, 48, 217, 218, 219, 220, 221, 222, 223, 224, 225, 226, 227, 228, 229, 230, 231, 232, 233, 234, 235, 236, 237, 238, 239, 240, 241, 242, 243, 244, 245, 246, 247, 248, 249, 250, 251, 252, 253, 254, 255, 256, 77, 78, 79, 257, 258, 259, 260, 261, 262, 263, 264, 265, 266, 267, 268, 269, 270, 271, 272, 273, 274, 275, 276, 277, 278, 279, 280, 281, 282, 283, 284, 285, 286, 287, 288, 289, 290, 291, 292, 293, 294, 295, 296, 297, 298, 299, 300, 301, 302, 303, 304, 305, 306, 307, 308, 309, 310, 311, 312, 313, 314, 315, 316, 317, 318, 319, 320, 321, 322, 323, 324, 325, 326, 327, 328, 329, 330, 331, 332, 333, 334, 335, 336, 337, 338, 339, 340, 341, 342, 343, 344, 345, 346, 347, 348, 349, 350, 351, 352, 353, 354, 355, 356, 357, 358, 359, 360, 361, 362, 363, 364, 365, 366, 367, 58, 59, 60, 368, 369, 370, 371, 372, 373, 374, 375, 376, 377, 378, 379, 380, 381, 382, 383, 384, 385, 386, 387, 388, 389, 390, 391, 392, 393, 394, 395, 396, 397, 398, 399, 400, 401, 402, 403, 404, 405, 406, 407, 408, 409, 410, 411, 412, 413, 414, 415, 416, 417, 418, 419, 420, 421, 422, 423, 424, 425, 426, 427, 428, 429, 430, 431, 432, 433, 434, 435, 436, 437, 438, 439, 440, 441, 442, 443, 444, 445, 446, 447, 448, 449, 450, 451, 452, 453, 454, 455, 456, 457, 458, 459, 460, 461, 462, 463, 464, 465, 466, 467, 468, 469, 470, 471, 472, 473, 474, 475, 476, 477, 478, 479, 480, 481, 482, 483, 484, 485, 486, 487, 488, 489, 490, 491, 492, 493, 494, 495, 496, 497, 498, 499, 500, 501, 502, 503, 504, 505, 506, 507, 508, 509, 510, 511, 512, 513, 514, 515, 516, 517, 518, 519, 520, 521, 522, 523, 524, 525, 526, 527, 528, 529, 530, 531, 532, 533, 534, 535, 536, 537, 538, 539, 52, 540, 541, 542, 543, 544, 545, 546, 547, 548, 549, 550, 551, 552, 553, 554, 555, 556, 557, 558, 97, 99, 559, 560, 561, 562, 563, 564, 565, 566, 567, 568, 569, 570, 571, 572, 573, 574, 575, 576, 577, 578, 579, 580, 581, 86, 87, 88, 89, 90, 91, 1074, 1075, 1076, 1077, 1078, 1079, 1080, 1081, 1082, 1083, 1084, 1085, 1086, 1087, 1088, 1089, 1090, 1091, 1092, 1011, 1012, 1013, 1014, 1015, 1016, 1017, 1018, 1019, 1020, 1021, 1022, 1023, 1024, 1025, 1026, 1027, 1028, 1029, 1093, 1094, 1095, 1096, 1097, 1098, 1099, 1100, 1101, 1102, 1103, 1104, 1105, 1106, 1107, 1108, 1109, 1110, 1043, 1044, 1045, 1046, 1047, 1048, 1049, 1050, 1051, 1052, 1053, 1054, 1055, 1056, 1057, 1058, 1059, 1060, 1061, 1062, 1063, 1064, 1065, 1066, 1067, 1068, 1069, 1070, 1071, 1072, 1073, 1111, 1112, 1113, 1114, 1115, 1116, 1117, 1118, 1119] rfl (by decide +kernel)
set_option maxRecDepth 20000 in
theorem gX11_execute_X4_run : GoodIn wsX11_execute (wsV RX11 165 RX4 yX4_run wsX4_run) := goodIn_app (goodIn_of _ (by decide +kernel)) ggX11_execute_X4_run
set_option maxRecDepth 20000 in
theorem ggX11_execute_X11_takeModule : GoodIn wsX11_execute wsX11_takeModule := goodIn_r _ [585, 586, 19, 587, 4, 588, 589, 590, 591, 592, 593, 594, 595, 85, 86, 87, 52, 88, 89, 90, 91, 596, 597, 598, 40, 599, 232, 231, 600, 601, 602, 603, 604, 69, 225, 47, 605, 606, 607, 608, 609, 610, 611, 612, 613, 614, 615, 616, 617, 618, 619, 620, 621, 622, 623, 624, 625, 626, 627, 628, 629, 630, 631, 632, 633, 634, 635, 636, 637, 638, 639, 640, 641, 642, 643, 644, 645, 646, 647, 648, 649, 650, 651, 652, 653, 319, 654, 655, 656, 657, 658, 659, 660, 661, 662, 663, 664, 665, 70, 666, 667, 668, 669, 670, 671, 672, 673, 674, 675, 676, 677, 678, 48, 679, 680, 681, 682, 683, 684, 685, 686, 687, 688, 689, 690, 691, 692, 693, 694, 695, 696, 697, 698, 226, 699, 700, 701, 702, 703, 704, 705, 706, 707, 708, 709, 710, 711, 311, 312, 313, 314, 315, 316, 317, 318, 712, 713, 714, 715, 716, 717, 718, 719, 720, 65, 66, 67, 68, 721, 722, 723, 724, 725, 726, 727, 728, 729, 13, 730, 731, 30, 31, 32, 26, 33, 34, 35, 36, 732, 733, 734, 735, 736, 737, 738, 739, 740, 741, 46, 42, 43, 44, 45, 742, 38, 39, 41, 743, 744, 745, 746, 84, 58, 59, 60, 76, 77, 78, 79, 747, 62, 63, 64, 748, 749, 750, 751, 752, 753, 754, 755, 756, 757, 758, 759, 760, 761, 762, 763, 764, 765, 766, 767, 768, 769, 770, 771, 210, 772, 773, 774, 775, 776, 777, 778, 779, 780, 781, 782, 783, 784, 785, 786, 787, 788, 789, 790, 791, 792, 793, 794, 795, 796, 797, 798, 799, 800, 801, 209, 211, 802, 803, 804, 805, 806, 807, 808, 809, 810, 811, 214, 215, 216, 812, 222, 223, 224, 813, 240, 241, 242, 243, 228, 229, 230, 814, 815, 816, 817, 818, 819, 820, 821, 822, 823, 80, 81, 82, 83, 824, 825, 826, 827, 828, 829, 830, 831, 832, 833, 834, 835, 364, 365, 366, 836, 837, 838, 839, 840, 841, 842, 843, 844, 845, 846, 847, 848, 849, 850, 851, 852, 853, 854, 855, 856, 857, 858, 859, 860, 861, 862, 863, 864, 865, 866, 867, 868, 869, 870, 871, 872, 873, 874, 875, 876, 877, 878, 879, 880, 881, 882, 883, 884, 885, 886, 887, 888, 889, 890, 891, 892, 893, 894, 895, 896, 897, 898, 899, 900, 901, 902, 903, 904, 905, 906, 907, 908, 909, 910, 911, 912, 913, 914, 915, 916, 917, 918, 919, 920, 921, 922, 923, 924, 925, 926, 927, 928, 929, 930, 931, 932, 933, 934, 935, 936, 937, 938, 939, 940, 941, 942, 943, 944, 945, 946, 947, 948, 949, 950, 951, 952, 953, 954, 955, 956, 957, 958, 959, 960, 961, 962, 963, 964, 965, 966, 967, 968, 969, 970, 971, 972, 973, 974, 975, 976, 977, 978, 979, 980, 981, 982, 983, 984, 985, 986, 987, 988, 989, 990, 991, 532, 533, 534, 28, 535, 1011, 1012, 1013, 1014, 1015, 1016, 1017, 1018, 1019, 1020, 1021, 1022, 1023, 1024, 1025, 1026, 1027, 1028, 1029, 998, 999, 1000, 1001, 1002, 1003, 1004, 1005, 1006, 1007, 1008, 1009, 1010, 1043, 1044, 1045, 1046, 1047, 1048, 1049, 1050, 1051, 1052, 1053, 1054, 1055, 1056, 1057, 1058, 1120, 1121, 1122, 1123, 1124, 1125, 1126, 1127, 1128, 1129, 1130, 1131, 1132, 1133, 1134, 1135, 1136, 1137, 1138, 1139, 1140, 1141, 1142, 1143, 1144, 1145, 1146, 1147, 1148, 1149, 1150, 1059, 1060, 1061, 1062, 1063, 1064, 1065, 1066, 1067, 1068, 1069, 1070, 1071, 1072, 1073] rfl (by decide +kernel)
set_option maxRecDepth 20000 in
theorem gX11_execute_X11_takeModule : GoodIn wsX11_execute (wsV RX11 168 RX11 yX11_takeModule wsX11_takeModule) := goodIn_app (goodIn_of _ (by decide +kernel)) ggX11_execute_X11_takeModule
set_option maxRecDepth 20000 in
theorem ggX11_execute_X7_settle : GoodIn wsX11_execute wsX7_settle := goodIn_r _ [995, 96, 97, 98, 996, 997, 100, 24, 25, 26, 27, 28, 29, 1011, 1012, 1013, 1014, 1015, 1016, 1017, 1018, 1019, 1020, 1021, 1022, 1023, 1024, 1025, 1026, 1027, 1028, 1029, 1043, 1044, 1045, 1046, 1047, 1048, 1049, 1050, 1051, 1052, 1053, 1054, 1055, 1056, 1057, 1058] rfl (by decide +kernel)
set_option maxRecDepth 20000 in
theorem gX11_execute_X7_settle : GoodIn wsX11_execute (wsV RX11 171 RX7 yX7_settle wsX7_settle) := goodIn_app (goodIn_of _ (by decide +kernel)) ggX11_execute_X7_settle
set_option maxRecDepth 20000 in
theorem ggX11_refusalOf_X7_findAccount : GoodIn wsX11_refusalOf wsX7_findAccount := goodIn_r _ [15, 16, 17, 105, 106, 107, 108, 109, 110, 111, 112, 113, 114, 115, 116, 117, 118, 119, 120] rfl (by decide +kernel)
set_option maxRecDepth 20000 in
theorem gX11_refusalOf_X7_findAccount : GoodIn wsX11_refusalOf (wsV RX11 93 RX7 yX7_findAccount wsX7_findAccount) := goodIn_app (goodIn_of _ (by decide +kernel)) ggX11_refusalOf_X7_findAccount
set_option maxRecDepth 20000 in
theorem ggX11_refusalOf_X7_findProgram : GoodIn wsX11_refusalOf wsX7_findProgram := goodIn_r _ [21, 22, 23, 24, 105, 106, 107, 108, 109, 110, 111, 112, 113, 114, 115, 116, 117, 118, 119, 120, 121, 122, 123, 124, 125, 126, 127, 128, 129, 130, 131, 132, 133, 134, 135] rfl (by decide +kernel)
set_option maxRecDepth 20000 in
theorem gX11_refusalOf_X7_findProgram : GoodIn wsX11_refusalOf (wsV RX11 188 RX7 yX7_findProgram wsX7_findProgram) := goodIn_app (goodIn_of _ (by decide +kernel)) ggX11_refusalOf_X7_findProgram
set_option maxRecDepth 20000 in
theorem ggX11_refusalOf_X5_flags : GoodIn wsX11_refusalOf wsX5_flags := goodIn_r _ [29, 30, 31, 32, 28, 33, 34, 35, 36, 121, 122, 123, 124, 125, 126, 127, 128, 129, 130, 131, 132, 133, 134, 135] rfl (by decide +kernel)
set_option maxRecDepth 20000 in
theorem gX11_refusalOf_X5_flags : GoodIn wsX11_refusalOf (wsV RX11 195 RX5 yX5_flags wsX5_flags) := goodIn_app (goodIn_of _ (by decide +kernel)) ggX11_refusalOf_X5_flags
set_option maxRecDepth 20000 in
theorem ggX11_refusalOf_X8_fits : GoodIn wsX11_refusalOf wsX8_fits := goodIn_r _ [41, 42, 43, 44, 45, 46, 47, 28, 48, 30, 31, 32, 33, 34, 35, 36, 49, 50, 51, 52, 53, 54, 55, 56, 57, 58, 86, 87, 88, 89, 90, 91, 92, 93, 94, 95, 96, 97, 98, 99, 100, 101, 102, 103, 104, 121, 122, 123, 124, 125, 126, 127, 128, 129, 130, 131, 132, 133, 134, 135] rfl (by decide +kernel)
set_option maxRecDepth 20000 in
theorem gX11_refusalOf_X8_fits : GoodIn wsX11_refusalOf (wsV RX11 199 RX8 yX8_fits wsX8_fits) := goodIn_app (goodIn_of _ (by decide +kernel)) ggX11_refusalOf_X8_fits
set_option maxRecDepth 20000 in
theorem ggX11_refusalOf_X5_givesPlain : GoodIn wsX11_refusalOf wsX5_givesPlain := goodIn_r _ [62, 63, 64, 65, 66, 28, 67, 30, 31, 32, 33, 34, 35, 36, 68, 69, 70, 71, 72, 46, 47, 48, 53, 54, 55, 56, 57, 58, 121, 122, 123, 124, 125, 126, 127, 128, 129, 130, 131, 132, 133, 134, 135] rfl (by decide +kernel)
set_option maxRecDepth 20000 in
theorem gX11_refusalOf_X5_givesPlain : GoodIn wsX11_refusalOf (wsV RX11 203 RX5 yX5_givesPlain wsX5_givesPlain) := goodIn_app (goodIn_of _ (by decide +kernel)) ggX11_refusalOf_X5_givesPlain
set_option maxRecDepth 20000 in
theorem ggX11_takeModule_X8_end : GoodIn wsX11_takeModule wsX8_end := goodIn_r _ [17, 18, 19, 20, 495, 496, 497, 498, 499, 500, 501, 502, 503, 504, 505, 506, 507, 508, 509, 510, 511, 512, 513] rfl (by decide +kernel)
set_option maxRecDepth 20000 in
theorem gX11_takeModule_X8_end : GoodIn wsX11_takeModule (wsV RX11 157 RX8 yX8_end wsX8_end) := goodIn_app (goodIn_of _ (by decide +kernel)) ggX11_takeModule_X8_end
set_option maxRecDepth 20000 in
theorem ggX11_takeModule_X5_lay : GoodIn wsX11_takeModule wsX5_lay := goodIn_r _ [25, 26, 27, 28, 29, 30, 24, 31, 32, 33, 34, 35, 574, 575, 576, 577, 578, 579, 580, 581, 582, 583, 584, 585, 586, 587, 588] rfl (by decide +kernel)
set_option maxRecDepth 20000 in
theorem gX11_takeModule_X5_lay : GoodIn wsX11_takeModule (wsV RX11 69 RX5 yX5_lay wsX5_lay) := goodIn_app (goodIn_of _ (by decide +kernel)) ggX11_takeModule_X5_lay
set_option maxRecDepth 20000 in
theorem ggX11_takeModule_X6_read : GoodIn wsX11_takeModule wsX6_read := goodIn_r _ [40, 41, 42, 43, 44, 45, 46, 47, 48, 49, 50, 51, 29, 30, 24, 31, 32, 33, 34, 35, 52, 53, 54, 39, 55, 56, 57, 58, 59, 60, 61, 62, 63, 64, 65, 66, 67, 68, 69, 70, 71, 72, 73, 74, 75, 76, 77, 78, 79, 80, 81, 82, 83, 84, 85, 86, 87, 88, 89, 90, 91, 92, 93, 94, 95, 96, 97, 98, 99, 100, 101, 102, 103, 104, 105, 106, 107, 108, 109, 110, 111, 112, 113, 114, 115, 116, 117, 118, 119, 120, 121, 122, 123, 124, 125, 126, 127, 128, 129, 130, 131, 132, 133, 134, 135, 136, 137, 138, 139, 140, 141, 142, 143, 144, 145, 146, 147, 148, 149, 150, 151, 152, 153, 154, 155, 156, 157, 158, 159, 160, 161, 162, 163, 164, 165, 166, 167, 168, 169, 170, 171, 172, 173, 543, 544, 545, 546, 547, 548, 549, 550, 551, 574, 575, 576, 577, 578, 579, 580, 581, 582, 583, 584, 585, 586, 587, 588] rfl (by decide +kernel)
set_option maxRecDepth 20000 in
theorem gX11_takeModule_X6_read : GoodIn wsX11_takeModule (wsV RX11 73 RX6 yX6_read wsX6_read) := goodIn_app (goodIn_of _ (by decide +kernel)) ggX11_takeModule_X6_read
set_option maxRecDepth 20000 in
theorem ggX11_takeModule_X11_misfitOf : GoodIn wsX11_takeModule wsX11_misfitOf := goodIn_r _ [178, 10, 179, 4, 180, 181, 182, 183, 184, 185, 186, 187, 188, 189, 190, 24, 191, 192, 154, 150, 151, 152, 153, 85, 193, 194, 195, 196, 197, 35, 198, 199, 200, 201, 202, 112, 203, 204, 205, 206, 207, 208, 209, 210, 211, 212, 213, 214, 215, 216, 217, 218, 219, 220, 221, 222, 164, 165, 166, 167, 33, 98, 223, 224, 225, 226, 227, 169, 170, 171, 172, 228, 229, 230, 231, 232, 147, 148, 149, 233, 161, 162, 163, 234, 235, 236, 237, 238, 239, 240, 241, 242, 243, 244, 245, 246, 247, 248, 249, 82, 83, 84, 250, 251, 252, 253, 254, 255, 256, 257, 258, 259, 260, 261, 495, 496, 497, 498, 499, 500, 501, 502, 503, 504, 505, 506, 507, 508, 509, 510, 511, 512, 513, 574, 575, 576, 577, 578, 579, 580, 581, 582, 583, 584, 585, 586, 587, 588, 514, 515, 516, 517, 518, 519, 520, 521, 522, 523, 524, 525, 526, 527, 528, 529, 530, 531, 532, 533, 534, 535, 536, 537, 538, 539, 540, 541, 542] rfl (by decide +kernel)
set_option maxRecDepth 20000 in
theorem gX11_takeModule_X11_misfitOf : GoodIn wsX11_takeModule (wsV RX11 218 RX11 yX11_misfitOf wsX11_misfitOf) := goodIn_app (goodIn_of _ (by decide +kernel)) ggX11_takeModule_X11_misfitOf
set_option maxRecDepth 20000 in
theorem ggX11_takeModule_X3_look : GoodIn wsX11_takeModule wsX3_look := goodIn_r _ [266, 267, 268, 269, 270, 271, 272, 273, 274, 265, 275, 276, 277, 278, 247, 279, 280, 281, 282, 283, 284, 285, 286, 287, 288, 289, 290, 291, 24, 292, 199, 200, 201, 202, 198, 35, 112, 293, 294, 295, 296, 34, 133, 297, 298, 299, 300, 301, 302, 303, 304, 27, 26, 305, 306, 212, 213, 214, 307, 308, 309, 310, 211, 311, 312, 313, 314, 219, 220, 221, 222, 164, 165, 166, 167, 33, 98, 215, 216, 217, 218, 315, 316, 317, 318, 319, 320, 321, 238, 239, 240, 322, 235, 236, 237, 227, 169, 170, 171, 172, 150, 151, 152, 153, 154, 85, 323, 324, 325, 326, 327, 328, 329, 330, 331, 332, 333, 334, 335, 336, 337, 338, 339, 340, 341, 342, 343, 344, 345, 346, 347, 348, 349, 350, 351, 352, 353, 354, 355, 356, 357, 358, 359, 360, 361, 362, 363, 364, 365, 366, 367, 368, 369, 370, 371, 372, 373, 374, 375, 376, 377, 378, 379, 380, 381, 382, 383, 384, 385, 386, 387, 388, 389, 390, 391, 392, 393, 394, 395, 396, 397, 398, 399, 400, 401, 402, 403, 404, 405, 406, 407, 408, 409, 410, 411, 412, 413, 414, 415, 416, 417, 255, 256, 257, 418, 419, 420, 421, 422, 423, 424, 425, 426, 427, 428, 429, 430, 431, 432, 161, 162, 163, 433, 434, 435, 436, 437, 438, 439, 440, 441, 442, 443, 444, 445, 147, 148, 149, 446, 447, 448, 449, 450, 451, 452, 204, 205, 206, 453, 454, 455, 456, 457, 458, 459, 460, 461, 462, 463, 464, 465, 466, 467, 468, 469, 470, 471, 472, 473, 474, 475, 476, 477, 478, 479, 480, 481, 482, 483, 484, 485, 486, 487, 488, 552, 553, 554, 555, 556, 557, 558, 559, 560, 561, 562, 563, 564, 565, 566, 567, 568, 569, 570, 571, 572, 573, 574, 575, 576, 577, 578, 579, 580, 581, 582, 583, 584, 585, 586, 587, 588] rfl (by decide +kernel)
set_option maxRecDepth 20000 in
theorem gX11_takeModule_X3_look : GoodIn wsX11_takeModule (wsV RX11 222 RX3 yX3_look wsX3_look) := goodIn_app (goodIn_of _ (by decide +kernel)) ggX11_takeModule_X3_look
set_option maxRecDepth 20000 in
theorem ggX11_takeModule_X7_placeCount : GoodIn wsX11_takeModule wsX7_placeCount := goodIn_r _ [492, 493, 185, 494, 527, 528, 529, 530, 531, 532, 533, 534, 535, 536, 537, 538, 539, 540, 541, 542] rfl (by decide +kernel)
set_option maxRecDepth 20000 in
theorem gX11_takeModule_X7_placeCount : GoodIn wsX11_takeModule (wsV RX11 97 RX7 yX7_placeCount wsX7_placeCount) := goodIn_app (goodIn_of _ (by decide +kernel)) ggX11_takeModule_X7_placeCount
set_option maxRecDepth 20000 in
theorem ggX11_misfitOf_X7_findProgram : GoodIn wsX11_misfitOf wsX7_findProgram := goodIn_r _ [8, 9, 10, 11, 161, 162, 163, 164, 165, 166, 167, 168, 169, 170, 171, 172, 173, 174, 175, 176, 133, 134, 135, 136, 137, 138, 139, 140, 141, 142, 143, 144, 145, 146, 147] rfl (by decide +kernel)
set_option maxRecDepth 20000 in
theorem gX11_misfitOf_X7_findProgram : GoodIn wsX11_misfitOf (wsV RX11 188 RX7 yX7_findProgram wsX7_findProgram) := goodIn_app (goodIn_of _ (by decide +kernel)) ggX11_misfitOf_X7_findProgram
set_option maxRecDepth 20000 in
theorem ggX11_misfitOf_X5_strangeStructure : GoodIn wsX11_misfitOf wsX5_strangeStructure := goodIn_r _ [16, 17, 18, 19, 20, 21, 15, 22, 23, 24, 5, 6, 7, 8, 9, 10, 11, 133, 134, 135, 136, 137, 138, 139, 140, 141, 142, 143, 144, 145, 146, 147, 161, 162, 163, 164, 165, 166, 167, 168, 169, 170, 171, 172, 173, 174, 175, 176] rfl (by decide +kernel)
set_option maxRecDepth 20000 in
theorem gX11_misfitOf_X5_strangeStructure : GoodIn wsX11_misfitOf (wsV RX11 229 RX5 yX5_strangeStructure wsX5_strangeStructure) := goodIn_app (goodIn_of _ (by decide +kernel)) ggX11_misfitOf_X5_strangeStructure
set_option maxRecDepth 20000 in
theorem ggX11_misfitOf_X5_strangeFunction : GoodIn wsX11_misfitOf wsX5_strangeFunction := goodIn_r _ [28, 29, 30, 31, 32, 33, 15, 34, 35, 24, 5, 6, 7, 8, 9, 10, 11, 36, 37, 38, 39, 40, 41, 42, 43, 44, 45, 46, 47, 48, 49, 50, 51, 52, 53, 54, 55, 56, 57, 58, 59, 60, 61, 62, 63, 64, 65, 66, 67, 68, 69, 70, 19, 20, 21, 22, 18, 23, 133, 134, 135, 136, 137, 138, 139, 140, 141, 142, 143, 144, 145, 146, 147, 161, 162, 163, 164, 165, 166, 167, 168, 169, 170, 171, 172, 173, 174, 175, 176] rfl (by decide +kernel)
set_option maxRecDepth 20000 in
theorem gX11_misfitOf_X5_strangeFunction : GoodIn wsX11_misfitOf (wsV RX11 233 RX5 yX5_strangeFunction wsX5_strangeFunction) := goodIn_app (goodIn_of _ (by decide +kernel)) ggX11_misfitOf_X5_strangeFunction
set_option maxRecDepth 20000 in
theorem ggX11_misfitOf_X5_weakStructure : GoodIn wsX11_misfitOf wsX5_weakStructure := goodIn_r _ [74, 17, 19, 20, 21, 15, 22, 18, 23, 75, 76, 77, 78, 79, 80, 81, 82, 56, 57, 58, 59, 60, 61, 83, 84, 85, 86, 87, 88, 89, 66, 67, 68, 69, 70, 133, 134, 135, 136, 137, 138, 139, 140, 141, 142, 143, 144, 145, 146, 147] rfl (by decide +kernel)
set_option maxRecDepth 20000 in
theorem gX11_misfitOf_X5_weakStructure : GoodIn wsX11_misfitOf (wsV RX11 236 RX5 yX5_weakStructure wsX5_weakStructure) := goodIn_app (goodIn_of _ (by decide +kernel)) ggX11_misfitOf_X5_weakStructure
set_option maxRecDepth 20000 in
theorem ggX11_misfitOf_X5_measure : GoodIn wsX11_misfitOf wsX5_measure := goodIn_r _ [93, 18, 17, 94, 95, 96, 97, 19, 20, 21, 15, 22, 23, 24, 5, 6, 7, 8, 9, 10, 11, 98, 99, 100, 101, 75, 76, 77, 78, 79, 80, 81, 82, 56, 57, 58, 59, 60, 61, 102, 103, 104, 105, 69, 106, 66, 67, 68, 70, 107, 108, 109, 133, 134, 135, 136, 137, 138, 139, 140, 141, 142, 143, 144, 145, 146, 147, 161, 162, 163, 164, 165, 166, 167, 168, 169, 170, 171, 172, 173, 174, 175, 176] rfl (by decide +kernel)
set_option maxRecDepth 20000 in
theorem gX11_misfitOf_X5_measure : GoodIn wsX11_misfitOf (wsV RX11 77 RX5 yX5_measure wsX5_measure) := goodIn_app (goodIn_of _ (by decide +kernel)) ggX11_misfitOf_X5_measure
set_option maxRecDepth 20000 in
theorem ggX11_misfitOf_X5_deepStructure : GoodIn wsX11_misfitOf wsX5_deepStructure := goodIn_r _ [113, 17, 19, 20, 21, 15, 22, 18, 23, 133, 134, 135, 136, 137, 138, 139, 140, 141, 142, 143, 144, 145, 146, 147] rfl (by decide +kernel)
set_option maxRecDepth 20000 in
theorem gX11_misfitOf_X5_deepStructure : GoodIn wsX11_misfitOf (wsV RX11 239 RX5 yX5_deepStructure wsX5_deepStructure) := goodIn_app (goodIn_of _ (by decide +kernel)) ggX11_misfitOf_X5_deepStructure
set_option maxRecDepth 20000 in
theorem ggX11_resource_X7_writeBytes : GoodIn wsX11_resource wsX7_writeBytes := goodIn_r _ [16, 9, 17, 18, 19, 20, 21, 7, 22, 36, 37, 38, 39, 40, 41, 42, 43, 44, 45, 46, 47, 48, 49, 50, 51] rfl (by decide +kernel)
set_option maxRecDepth 20000 in
theorem gX11_resource_X7_writeBytes : GoodIn wsX11_resource (wsV RX11 281 RX7 yX7_writeBytes wsX7_writeBytes) := goodIn_app (goodIn_of _ (by decide +kernel)) ggX11_resource_X7_writeBytes
set_option maxRecDepth 20000 in
theorem ggX11_root_X9_rebuild : GoodIn wsX11_root wsX9_rebuild := goodIn_r _ [9, 10, 11, 12, 13, 14, 15, 16, 17, 8, 18, 19, 20, 21, 22, 23, 24, 25, 26, 27, 28, 29, 30, 31, 32, 33, 34, 35, 36, 37, 38, 39, 40, 41, 42, 43, 44, 45, 46, 47, 48, 49, 50, 51, 52, 53, 54, 55, 56, 57, 58, 59, 60, 61, 62, 63, 64, 65, 66, 67, 68, 69, 70, 71, 72, 73, 74, 75, 76, 77, 78, 79, 80, 81, 82, 83, 84, 85, 86, 87, 88, 89, 90, 91, 92, 93, 94, 95, 96, 97, 98, 99, 100, 101, 102, 103, 104, 105, 106, 107, 108, 109, 110, 111, 112, 113, 114, 115, 116, 117, 118, 119, 120, 121, 122, 123, 124, 125, 126, 127, 128, 129, 130, 131, 132, 133, 134, 135, 136, 137, 138, 139, 140, 141, 142, 143, 144, 145, 146, 147, 148, 149, 150, 151, 152, 153, 154, 155, 156, 157, 171, 172, 173, 174, 175, 176, 177, 178, 179, 180, 181, 182, 183, 184, 185, 186, 187, 188, 189, 190, 191, 192, 193, 194, 195, 196, 197, 198, 199, 200, 201, 202, 203, 204, 205, 206, 207, 208, 209, 210, 211, 212, 213, 214, 215, 216, 217, 218] rfl (by decide +kernel)
set_option maxRecDepth 20000 in
theorem gX11_root_X9_rebuild : GoodIn wsX11_root (wsV RX11 285 RX9 yX9_rebuild wsX9_rebuild) := goodIn_app (goodIn_of _ (by decide +kernel)) ggX11_root_X9_rebuild
set_option maxRecDepth 20000 in
theorem ggX12_addNumber_X12_add : GoodIn wsX12_addNumber wsX12_add := goodIn_r _ [5, 6, 7, 8, 9, 10, 11] rfl (by decide +kernel)
set_option maxRecDepth 20000 in
theorem gX12_addNumber_X12_add : GoodIn wsX12_addNumber (wsV RX12 24 RX12 yX12_add wsX12_add) := goodIn_app (goodIn_of _ (by decide +kernel)) ggX12_addNumber_X12_add
set_option maxRecDepth 20000 in
theorem ggX12_end_X12_add : GoodIn wsX12_end wsX12_add := goodIn_r _ [16, 17, 10, 33, 34, 35, 36] rfl (by decide +kernel)
set_option maxRecDepth 20000 in
theorem gX12_end_X12_add : GoodIn wsX12_end (wsV RX12 24 RX12 yX12_add wsX12_add) := goodIn_app (goodIn_of _ (by decide +kernel)) ggX12_end_X12_add
set_option maxRecDepth 20000 in
theorem ggX12_end_X12_addNumber : GoodIn wsX12_end wsX12_addNumber := goodIn_r _ [21, 12, 13, 14, 15, 16, 17, 10, 33, 34, 35, 36] rfl (by decide +kernel)
set_option maxRecDepth 20000 in
theorem gX12_end_X12_addNumber : GoodIn wsX12_end (wsV RX12 48 RX12 yX12_addNumber wsX12_addNumber) := goodIn_app (goodIn_of _ (by decide +kernel)) ggX12_end_X12_addNumber
set_option maxRecDepth 20000 in
theorem ggX12_end_X12_block : GoodIn wsX12_end wsX12_block := goodIn_r _ [25, 26, 17, 27, 28, 1, 29, 30, 31, 15, 32, 33, 34, 35, 36] rfl (by decide +kernel)
set_option maxRecDepth 20000 in
theorem gX12_end_X12_block : GoodIn wsX12_end (wsV RX12 52 RX12 yX12_block wsX12_block) := goodIn_app (goodIn_of _ (by decide +kernel)) ggX12_end_X12_block
set_option maxRecDepth 20000 in
theorem ggX12_block_X12_turned : GoodIn wsX12_block wsX12_turned := goodIn_r _ [10, 4] rfl (by decide +kernel)
set_option maxRecDepth 20000 in
theorem gX12_block_X12_turned : GoodIn wsX12_block (va_wsS RX12 57 yX12_turned wsX12_turned) := goodIn_app (goodIn_of _ (by decide +kernel)) ggX12_block_X12_turned
set_option maxRecDepth 20000 in
theorem ggX13_need_X13_fail : GoodIn wsX13_need wsX13_fail := goodIn_r _ [5, 6, 7, 8, 9, 10, 11, 12, 13, 14, 15, 16, 17, 18, 19, 20, 21, 22, 23, 24, 25, 26, 27, 28] rfl (by decide +kernel)
set_option maxRecDepth 20000 in
theorem gX13_need_X13_fail : GoodIn wsX13_need (wsV RX13 52 RX13 yX13_fail wsX13_fail) := goodIn_app (goodIn_of _ (by decide +kernel)) ggX13_need_X13_fail
set_option maxRecDepth 20000 in
theorem ggX13_isReference_X13_bytesOf : GoodIn wsX13_isReference wsX13_bytesOf := goodIn_r _ [4] rfl (by decide +kernel)
set_option maxRecDepth 20000 in
theorem gX13_isReference_X13_bytesOf : GoodIn wsX13_isReference (va_wsS RX13 58 yX13_bytesOf wsX13_bytesOf) := goodIn_app (goodIn_of _ (by decide +kernel)) ggX13_isReference_X13_bytesOf
set_option maxRecDepth 20000 in
theorem ggX13_isReference_X13_byteOf : GoodIn wsX13_isReference wsX13_byteOf := goodIn_r _ [7, 8] rfl (by decide +kernel)
set_option maxRecDepth 20000 in
theorem gX13_isReference_X13_byteOf : GoodIn wsX13_isReference (va_wsS RX13 62 yX13_byteOf wsX13_byteOf) := goodIn_app (goodIn_of _ (by decide +kernel)) ggX13_isReference_X13_byteOf
set_option maxRecDepth 20000 in
theorem ggX13_writes_X13_bytesOf : GoodIn wsX13_writes wsX13_bytesOf := goodIn_r _ [4] rfl (by decide +kernel)
set_option maxRecDepth 20000 in
theorem gX13_writes_X13_bytesOf : GoodIn wsX13_writes (va_wsS RX13 58 yX13_bytesOf wsX13_bytesOf) := goodIn_app (goodIn_of _ (by decide +kernel)) ggX13_writes_X13_bytesOf
set_option maxRecDepth 20000 in
theorem ggX13_writes_X13_byteOf : GoodIn wsX13_writes wsX13_byteOf := goodIn_r _ [7, 8] rfl (by decide +kernel)
set_option maxRecDepth 20000 in
theorem gX13_writes_X13_byteOf : GoodIn wsX13_writes (va_wsS RX13 62 yX13_byteOf wsX13_byteOf) := goodIn_app (goodIn_of _ (by decide +kernel)) ggX13_writes_X13_byteOf
set_option maxRecDepth 20000 in
theorem ggX13_pointed_X13_bytesOf : GoodIn wsX13_pointed wsX13_bytesOf := goodIn_r _ [4] rfl (by decide +kernel)
set_option maxRecDepth 20000 in
theorem gX13_pointed_X13_bytesOf : GoodIn wsX13_pointed (va_wsS RX13 58 yX13_bytesOf wsX13_bytesOf) := goodIn_app (goodIn_of _ (by decide +kernel)) ggX13_pointed_X13_bytesOf
set_option maxRecDepth 20000 in
theorem ggX13_before_X13_bytesOf : GoodIn wsX13_before wsX13_bytesOf := goodIn_r _ [4] rfl (by decide +kernel)
set_option maxRecDepth 20000 in
theorem gX13_before_X13_bytesOf : GoodIn wsX13_before (va_wsS RX13 58 yX13_bytesOf wsX13_bytesOf) := goodIn_app (goodIn_of _ (by decide +kernel)) ggX13_before_X13_bytesOf
set_option maxRecDepth 20000 in
theorem ggX13_abilitiesFor_X13_isReference : GoodIn wsX13_abilitiesFor wsX13_isReference := goodIn_r _ [5, 6, 7, 4, 8, 9, 10, 11, 12] rfl (by decide +kernel)
set_option maxRecDepth 20000 in
theorem gX13_abilitiesFor_X13_isReference : GoodIn wsX13_abilitiesFor (va_wsS RX13 68 yX13_isReference wsX13_isReference) := goodIn_app (goodIn_of _ (by decide +kernel)) ggX13_abilitiesFor_X13_isReference
set_option maxRecDepth 20000 in
theorem ggX13_abilitiesFor_X13_bytesOf : GoodIn wsX13_abilitiesFor wsX13_bytesOf := goodIn_r _ [8] rfl (by decide +kernel)
set_option maxRecDepth 20000 in
theorem gX13_abilitiesFor_X13_bytesOf : GoodIn wsX13_abilitiesFor (va_wsS RX13 58 yX13_bytesOf wsX13_bytesOf) := goodIn_app (goodIn_of _ (by decide +kernel)) ggX13_abilitiesFor_X13_bytesOf
set_option maxRecDepth 20000 in
theorem ggX13_abilitiesFor_X13_byteOf : GoodIn wsX13_abilitiesFor wsX13_byteOf := goodIn_r _ [11, 12] rfl (by decide +kernel)
set_option maxRecDepth 20000 in
theorem gX13_abilitiesFor_X13_byteOf : GoodIn wsX13_abilitiesFor (va_wsS RX13 62 yX13_byteOf wsX13_byteOf) := goodIn_app (goodIn_of _ (by decide +kernel)) ggX13_abilitiesFor_X13_byteOf
set_option maxRecDepth 20000 in
theorem ggX13_abilitiesFor_X16_abilitiesOf : GoodIn wsX13_abilitiesFor wsX16_abilitiesOf := goodIn_r _ [17, 18, 19, 20, 21, 22, 16, 23, 24, 25, 48, 49, 50, 51, 52, 53, 54, 55, 56, 57, 58, 59, 60, 61, 62, 63, 64, 65] rfl (by decide +kernel)
set_option maxRecDepth 20000 in
theorem gX13_abilitiesFor_X16_abilitiesOf : GoodIn wsX13_abilitiesFor (wsV RX13 76 RX16 yX16_abilitiesOf wsX16_abilitiesOf) := goodIn_app (goodIn_of _ (by decide +kernel)) ggX13_abilitiesFor_X16_abilitiesOf
set_option maxRecDepth 20000 in
theorem ggX13_has_X13_abilitiesFor : GoodIn wsX13_has wsX13_abilitiesFor := goodIn_r _ [5, 6, 7, 8, 4, 9, 10, 11, 12, 13, 14, 15, 16, 17, 18, 19, 20, 21, 22, 23, 24, 25, 26, 27, 28, 29, 30, 31, 32, 33, 34, 35, 36, 37, 38, 39, 40, 41, 42, 43, 44, 45, 46, 47, 48, 49, 50, 51, 52, 53, 54, 55, 56, 57, 58, 59, 60, 61, 62, 63, 64, 65, 66, 67, 68, 69] rfl (by decide +kernel)
set_option maxRecDepth 20000 in
theorem gX13_has_X13_abilitiesFor : GoodIn wsX13_has (wsV RX13 82 RX13 yX13_abilitiesFor wsX13_abilitiesFor) := goodIn_app (goodIn_of _ (by decide +kernel)) ggX13_has_X13_abilitiesFor
set_option maxRecDepth 20000 in
theorem ggX13_bears_X16_abilitiesOf : GoodIn wsX13_bears wsX16_abilitiesOf := goodIn_r _ [6, 7, 8, 9, 10, 11, 5, 12, 13, 14, 68, 69, 70, 71, 72, 73, 74, 75, 76, 77, 78, 79, 80, 81, 82, 83, 84, 85] rfl (by decide +kernel)
set_option maxRecDepth 20000 in
theorem gX13_bears_X16_abilitiesOf : GoodIn wsX13_bears (wsV RX13 76 RX16 yX16_abilitiesOf wsX16_abilitiesOf) := goodIn_app (goodIn_of _ (by decide +kernel)) ggX13_bears_X16_abilitiesOf
set_option maxRecDepth 20000 in
theorem ggX13_bears_X16_fieldsOf : GoodIn wsX13_bears wsX16_fieldsOf := goodIn_r _ [17, 7, 9, 10, 11, 5, 12, 13, 14, 68, 69, 70, 71, 72, 73, 74, 75, 76, 77, 78, 79, 80, 81, 82, 83, 84, 85] rfl (by decide +kernel)
set_option maxRecDepth 20000 in
theorem ggX13_bears_X16_field : GoodIn wsX13_bears wsX16_field := goodIn_r _ [21, 7, 22, 23, 24, 5, 25, 9, 10, 11, 12, 13, 14, 26, 27, 28, 29, 30, 68, 69, 70, 71, 72, 73, 74, 75, 76, 77, 78, 79, 80, 81, 82, 83, 84, 85] rfl (by decide +kernel)
set_option maxRecDepth 20000 in
theorem gX13_bears_X16_field : GoodIn wsX13_bears (wsV RX13 88 RX16 yX16_field wsX16_field) := goodIn_app (goodIn_of _ (by decide +kernel)) ggX13_bears_X16_field
set_option maxRecDepth 20000 in
theorem ggX13_bears_X13_abilitiesFor : GoodIn wsX13_bears wsX13_abilitiesFor := goodIn_r _ [35, 1, 36, 37, 34, 38, 39, 40, 41, 42, 43, 44, 45, 2, 3, 4, 5, 6, 7, 8, 9, 10, 11, 12, 13, 14, 46, 47, 48, 49, 50, 51, 52, 53, 54, 55, 56, 57, 58, 59, 60, 61, 62, 63, 64, 65, 66, 67, 68, 69, 70, 71, 72, 73, 74, 75, 76, 77, 78, 79, 80, 81, 82, 83, 84, 85] rfl (by decide +kernel)
set_option maxRecDepth 20000 in
theorem gX13_bears_X13_abilitiesFor : GoodIn wsX13_bears (wsV RX13 82 RX13 yX13_abilitiesFor wsX13_abilitiesFor) := goodIn_app (goodIn_of _ (by decide +kernel)) ggX13_bears_X13_abilitiesFor
set_option maxRecDepth 20000 in
theorem ggX13_push_X13_isReference : GoodIn wsX13_push wsX13_isReference := goodIn_r _ [9, 10, 11, 8, 12, 13, 14, 15, 16] rfl (by decide +kernel)
set_option maxRecDepth 20000 in
theorem gX13_push_X13_isReference : GoodIn wsX13_push (va_wsS RX13 68 yX13_isReference wsX13_isReference) := goodIn_app (goodIn_of _ (by decide +kernel)) ggX13_push_X13_isReference
set_option maxRecDepth 20000 in
theorem ggX13_push_X13_fail : GoodIn wsX13_push wsX13_fail := goodIn_r _ [20, 1, 21, 22, 23, 24, 25, 26, 27, 28, 29, 30, 31, 32, 33, 34, 35, 36, 37, 38, 39, 40, 41, 42] rfl (by decide +kernel)
set_option maxRecDepth 20000 in
theorem gX13_push_X13_fail : GoodIn wsX13_push (wsV RX13 52 RX13 yX13_fail wsX13_fail) := goodIn_app (goodIn_of _ (by decide +kernel)) ggX13_push_X13_fail
set_option maxRecDepth 20000 in
theorem ggX13_give_X13_push : GoodIn wsX13_give wsX13_push := goodIn_r _ [5, 6, 7, 8, 9, 10, 11, 12, 4, 13, 14, 15, 16, 17, 18, 19, 20, 21, 22, 23, 24, 25, 26, 27, 28, 29, 30, 31, 32, 33, 34, 35, 36, 37, 38, 39, 40, 41, 42, 43, 44, 45, 46] rfl (by decide +kernel)
set_option maxRecDepth 20000 in
theorem gX13_give_X13_push : GoodIn wsX13_give (wsV RX13 95 RX13 yX13_push wsX13_push) := goodIn_app (goodIn_of _ (by decide +kernel)) ggX13_give_X13_push
set_option maxRecDepth 20000 in
theorem ggX13_take_X13_fail : GoodIn wsX13_take wsX13_fail := goodIn_r _ [13, 1, 14, 15, 16, 17, 18, 19, 20, 21, 22, 23, 24, 25, 26, 27, 28, 29, 30, 31, 32, 33, 34, 35] rfl (by decide +kernel)
set_option maxRecDepth 20000 in
theorem gX13_take_X13_fail : GoodIn wsX13_take (wsV RX13 52 RX13 yX13_fail wsX13_fail) := goodIn_app (goodIn_of _ (by decide +kernel)) ggX13_take_X13_fail
set_option maxRecDepth 20000 in
theorem ggX13_take__X13_take : GoodIn wsX13_take_ wsX13_take := goodIn_r _ [7, 1, 8, 9, 2, 10, 11, 12, 13, 14, 15, 16, 6, 17, 18, 19, 20, 21, 22, 23, 24, 25, 26, 27, 28, 29, 30, 31, 32, 33, 34, 35, 36, 37, 38, 39] rfl (by decide +kernel)
set_option maxRecDepth 20000 in
theorem gX13_take__X13_take : GoodIn wsX13_take_ (wsV RX13 110 RX13 yX13_take wsX13_take) := goodIn_app (goodIn_of _ (by decide +kernel)) ggX13_take__X13_take
set_option maxRecDepth 20000 in
theorem ggX13_take__X13_fail : GoodIn wsX13_take_ wsX13_fail := goodIn_r _ [17, 1, 18, 19, 20, 21, 22, 23, 24, 25, 26, 27, 28, 29, 30, 31, 32, 33, 34, 35, 36, 37, 38, 39] rfl (by decide +kernel)
set_option maxRecDepth 20000 in
theorem gX13_take__X13_fail : GoodIn wsX13_take_ (wsV RX13 52 RX13 yX13_fail wsX13_fail) := goodIn_app (goodIn_of _ (by decide +kernel)) ggX13_take__X13_fail
set_option maxRecDepth 20000 in
theorem ggX13_takeReference_X13_take : GoodIn wsX13_takeReference wsX13_take := goodIn_r _ [7, 1, 8, 9, 2, 10, 11, 12, 13, 14, 15, 16, 6, 17, 38, 39, 40, 41, 42, 43, 44, 45, 46, 47, 48, 49, 50, 51, 52, 53, 54, 55, 56, 57, 58, 59] rfl (by decide +kernel)
set_option maxRecDepth 20000 in
theorem gX13_takeReference_X13_take : GoodIn wsX13_takeReference (wsV RX13 110 RX13 yX13_take wsX13_take) := goodIn_app (goodIn_of _ (by decide +kernel)) ggX13_takeReference_X13_take
set_option maxRecDepth 20000 in
theorem ggX13_takeReference_X13_isReference : GoodIn wsX13_takeReference wsX13_isReference := goodIn_r _ [20, 21, 22, 6, 23, 24, 25, 26, 27] rfl (by decide +kernel)
set_option maxRecDepth 20000 in
theorem gX13_takeReference_X13_isReference : GoodIn wsX13_takeReference (va_wsS RX13 68 yX13_isReference wsX13_isReference) := goodIn_app (goodIn_of _ (by decide +kernel)) ggX13_takeReference_X13_isReference
set_option maxRecDepth 20000 in
theorem ggX13_takeReference_X13_pointed : GoodIn wsX13_takeReference wsX13_pointed := goodIn_r _ [30, 21, 22, 6, 23] rfl (by decide +kernel)
set_option maxRecDepth 20000 in
theorem gX13_takeReference_X13_pointed : GoodIn wsX13_takeReference (va_wsS RX13 113 yX13_pointed wsX13_pointed) := goodIn_app (goodIn_of _ (by decide +kernel)) ggX13_takeReference_X13_pointed
set_option maxRecDepth 20000 in
theorem ggX13_takeReference_X13_need : GoodIn wsX13_takeReference wsX13_need := goodIn_r _ [34, 14, 15, 16, 6, 17, 1, 38, 39, 40, 41, 42, 43, 44, 45, 46, 47, 48, 49, 50, 51, 52, 53, 54, 55, 56, 57, 58, 59] rfl (by decide +kernel)
set_option maxRecDepth 20000 in
theorem gX13_takeReference_X13_need : GoodIn wsX13_takeReference (wsV RX13 117 RX13 yX13_need wsX13_need) := goodIn_app (goodIn_of _ (by decide +kernel)) ggX13_takeReference_X13_need
set_option maxRecDepth 20000 in
theorem ggX13_takeReference_X13_writes : GoodIn wsX13_takeReference wsX13_writes := goodIn_r _ [37, 21, 22, 6, 23, 24, 25, 26, 27] rfl (by decide +kernel)
set_option maxRecDepth 20000 in
theorem gX13_takeReference_X13_writes : GoodIn wsX13_takeReference (va_wsS RX13 121 yX13_writes wsX13_writes) := goodIn_app (goodIn_of _ (by decide +kernel)) ggX13_takeReference_X13_writes
set_option maxRecDepth 20000 in
theorem ggX13_takeNumbers_X13_take : GoodIn wsX13_takeNumbers wsX13_take := goodIn_r _ [7, 1, 8, 9, 2, 10, 11, 12, 13, 14, 15, 16, 6, 17, 32, 33, 34, 35, 36, 37, 38, 39, 40, 41, 42, 43, 44, 45, 46, 47, 48, 49, 50, 51, 52, 53] rfl (by decide +kernel)
set_option maxRecDepth 20000 in
theorem gX13_takeNumbers_X13_take : GoodIn wsX13_takeNumbers (wsV RX13 110 RX13 yX13_take wsX13_take) := goodIn_app (goodIn_of _ (by decide +kernel)) ggX13_takeNumbers_X13_take
set_option maxRecDepth 20000 in
theorem ggX13_takeNumbers_X13_isNumber : GoodIn wsX13_takeNumbers wsX13_isNumber := goodIn_r _ [20, 21, 22, 23] rfl (by decide +kernel)
set_option maxRecDepth 20000 in
theorem gX13_takeNumbers_X13_isNumber : GoodIn wsX13_takeNumbers (va_wsS RX13 130 yX13_isNumber wsX13_isNumber) := goodIn_app (goodIn_of _ (by decide +kernel)) ggX13_takeNumbers_X13_isNumber
set_option maxRecDepth 20000 in
theorem ggX13_takeNumbers_X13_need : GoodIn wsX13_takeNumbers wsX13_need := goodIn_r _ [27, 14, 15, 16, 6, 17, 1, 32, 33, 34, 35, 36, 37, 38, 39, 40, 41, 42, 43, 44, 45, 46, 47, 48, 49, 50, 51, 52, 53] rfl (by decide +kernel)
set_option maxRecDepth 20000 in
theorem gX13_takeNumbers_X13_need : GoodIn wsX13_takeNumbers (wsV RX13 117 RX13 yX13_need wsX13_need) := goodIn_app (goodIn_of _ (by decide +kernel)) ggX13_takeNumbers_X13_need
set_option maxRecDepth 20000 in
theorem ggX13_takeNumbers_X13_take_ : GoodIn wsX13_takeNumbers wsX13_take_ := goodIn_r _ [31, 1, 2, 3, 4, 5, 6, 7, 8, 9, 10, 11, 12, 13, 14, 15, 16, 17, 32, 33, 34, 35, 36, 37, 38, 39, 40, 41, 42, 43, 44, 45, 46, 47, 48, 49, 50, 51, 52, 53] rfl (by decide +kernel)
set_option maxRecDepth 20000 in
theorem gX13_takeNumbers_X13_take_ : GoodIn wsX13_takeNumbers (wsV RX13 133 RX13 yX13_take_ wsX13_take_) := goodIn_app (goodIn_of _ (by decide +kernel)) ggX13_takeNumbers_X13_take_
set_option maxRecDepth 20000 in
theorem ggX13_isPointed_X13_writes : GoodIn wsX13_isPointed wsX13_writes := goodIn_r _ [11, 12, 13, 10, 14, 15, 16, 17, 18] rfl (by decide +kernel)
set_option maxRecDepth 20000 in
theorem gX13_isPointed_X13_writes : GoodIn wsX13_isPointed (va_wsS RX13 121 yX13_writes wsX13_writes) := goodIn_app (goodIn_of _ (by decide +kernel)) ggX13_isPointed_X13_writes
set_option maxRecDepth 20000 in
theorem ggX13_isSole_X13_writes : GoodIn wsX13_isSole wsX13_writes := goodIn_r _ [13, 14, 15, 12, 16, 17, 18, 19, 20] rfl (by decide +kernel)
set_option maxRecDepth 20000 in
theorem gX13_isSole_X13_writes : GoodIn wsX13_isSole (va_wsS RX13 121 yX13_writes wsX13_writes) := goodIn_app (goodIn_of _ (by decide +kernel)) ggX13_isSole_X13_writes
set_option maxRecDepth 20000 in
theorem ggX13_onLocal_X13_isReference : GoodIn wsX13_onLocal wsX13_isReference := goodIn_r _ [11, 12, 13, 10, 14, 15, 16, 17, 18] rfl (by decide +kernel)
set_option maxRecDepth 20000 in
theorem gX13_onLocal_X13_isReference : GoodIn wsX13_onLocal (va_wsS RX13 68 yX13_isReference wsX13_isReference) := goodIn_app (goodIn_of _ (by decide +kernel)) ggX13_onLocal_X13_isReference
set_option maxRecDepth 20000 in
theorem ggX13_onLocal_X13_take_ : GoodIn wsX13_onLocal wsX13_take_ := goodIn_r _ [22, 3, 23, 24, 25, 26, 10, 27, 28, 29, 30, 5, 31, 7, 32, 33, 34, 35, 77, 78, 79, 80, 81, 82, 83, 84, 85, 86, 87, 88, 89, 90, 91, 92, 93, 94, 95, 96, 97, 98] rfl (by decide +kernel)
set_option maxRecDepth 20000 in
theorem gX13_onLocal_X13_take_ : GoodIn wsX13_onLocal (wsV RX13 133 RX13 yX13_take_ wsX13_take_) := goodIn_app (goodIn_of _ (by decide +kernel)) ggX13_onLocal_X13_take_
set_option maxRecDepth 20000 in
theorem ggX13_onLocal_X13_has : GoodIn wsX13_onLocal wsX13_has := goodIn_r _ [39, 40, 41, 42, 10, 43, 44, 8, 9, 11, 12, 13, 14, 15, 16, 17, 18, 45, 46, 47, 48, 49, 50, 51, 52, 53, 54, 55, 56, 57, 77, 78, 79, 80, 81, 82, 83, 84, 85, 86, 87, 88, 89, 90, 91, 92, 93, 94, 95, 96, 97, 98, 99, 100, 101, 102, 103, 104, 105, 106, 107, 108, 109, 110, 111, 112, 113, 114, 115, 116] rfl (by decide +kernel)
set_option maxRecDepth 20000 in
theorem gX13_onLocal_X13_has : GoodIn wsX13_onLocal (wsV RX13 139 RX13 yX13_has wsX13_has) := goodIn_app (goodIn_of _ (by decide +kernel)) ggX13_onLocal_X13_has
set_option maxRecDepth 20000 in
theorem ggX13_onLocal_X13_need : GoodIn wsX13_onLocal wsX13_need := goodIn_r _ [61, 32, 33, 34, 10, 35, 3, 77, 78, 79, 80, 81, 82, 83, 84, 85, 86, 87, 88, 89, 90, 91, 92, 93, 94, 95, 96, 97, 98] rfl (by decide +kernel)
set_option maxRecDepth 20000 in
theorem gX13_onLocal_X13_need : GoodIn wsX13_onLocal (wsV RX13 117 RX13 yX13_need wsX13_need) := goodIn_app (goodIn_of _ (by decide +kernel)) ggX13_onLocal_X13_need
set_option maxRecDepth 20000 in
theorem ggX13_onLocal_X13_isPointed : GoodIn wsX13_onLocal wsX13_isPointed := goodIn_r _ [65, 28, 30, 29, 66, 2, 4, 1, 67, 68, 10, 69, 12, 13, 14, 15, 16, 17, 18, 77, 78, 79, 80, 81, 82, 83, 84, 85, 86, 87, 88, 89, 90, 91, 92, 93, 94, 95, 96, 97, 98] rfl (by decide +kernel)
set_option maxRecDepth 20000 in
theorem gX13_onLocal_X13_isPointed : GoodIn wsX13_onLocal (wsV RX13 143 RX13 yX13_isPointed wsX13_isPointed) := goodIn_app (goodIn_of _ (by decide +kernel)) ggX13_onLocal_X13_isPointed
set_option maxRecDepth 20000 in
theorem ggX13_onLocal_X13_push : GoodIn wsX13_onLocal wsX13_push := goodIn_r _ [73, 3, 29, 28, 30, 31, 8, 9, 10, 11, 12, 13, 14, 15, 16, 17, 18, 32, 33, 34, 35, 77, 78, 79, 80, 81, 82, 83, 84, 85, 86, 87, 88, 89, 90, 91, 92, 93, 94, 95, 96, 97, 98] rfl (by decide +kernel)
set_option maxRecDepth 20000 in
theorem gX13_onLocal_X13_push : GoodIn wsX13_onLocal (wsV RX13 95 RX13 yX13_push wsX13_push) := goodIn_app (goodIn_of _ (by decide +kernel)) ggX13_onLocal_X13_push
set_option maxRecDepth 20000 in
theorem ggX13_onLocal_X13_before : GoodIn wsX13_onLocal wsX13_before := goodIn_r _ [76, 12, 13, 10, 14] rfl (by decide +kernel)
set_option maxRecDepth 20000 in
theorem gX13_onLocal_X13_before : GoodIn wsX13_onLocal (va_wsS RX13 147 yX13_before wsX13_before) := goodIn_app (goodIn_of _ (by decide +kernel)) ggX13_onLocal_X13_before
set_option maxRecDepth 20000 in
theorem ggX13_onReference_X13_structureType : GoodIn wsX13_onReference wsX13_structureType := goodIn_r _ [9, 10] rfl (by decide +kernel)
set_option maxRecDepth 20000 in
theorem gX13_onReference_X13_structureType : GoodIn wsX13_onReference (va_wsS RX13 151 yX13_structureType wsX13_structureType) := goodIn_app (goodIn_of _ (by decide +kernel)) ggX13_onReference_X13_structureType
set_option maxRecDepth 20000 in
theorem ggX13_onReference_X13_takeReference : GoodIn wsX13_onReference wsX13_takeReference := goodIn_r _ [14, 1, 4, 15, 16, 17, 8, 18, 19, 20, 21, 3, 22, 5, 23, 24, 25, 26, 27, 28, 29, 30, 31, 32, 33, 34, 35, 36, 37, 38, 39, 40, 41, 42, 43, 44, 45, 46, 105, 106, 107, 108, 109, 110, 111, 112, 113, 114, 115, 116, 117, 118, 119, 120, 121, 122, 123, 124, 125, 126] rfl (by decide +kernel)
set_option maxRecDepth 20000 in
theorem gX13_onReference_X13_takeReference : GoodIn wsX13_onReference (wsV RX13 155 RX13 yX13_takeReference wsX13_takeReference) := goodIn_app (goodIn_of _ (by decide +kernel)) ggX13_onReference_X13_takeReference
set_option maxRecDepth 20000 in
theorem ggX13_onReference_X16_field : GoodIn wsX13_onReference wsX16_field := goodIn_r _ [51, 52, 53, 54, 55, 50, 56, 57, 58, 59, 60, 61, 62, 63, 64, 65, 66, 67, 127, 128, 129, 130, 131, 132, 133, 134, 135, 136, 137, 138, 139, 140, 141, 142, 143, 144] rfl (by decide +kernel)
set_option maxRecDepth 20000 in
theorem gX13_onReference_X16_field : GoodIn wsX13_onReference (wsV RX13 88 RX16 yX16_field wsX16_field) := goodIn_app (goodIn_of _ (by decide +kernel)) ggX13_onReference_X16_field
set_option maxRecDepth 20000 in
theorem ggX13_onReference_X13_before : GoodIn wsX13_onReference wsX13_before := goodIn_r _ [70, 30, 31, 8, 32] rfl (by decide +kernel)
set_option maxRecDepth 20000 in
theorem gX13_onReference_X13_before : GoodIn wsX13_onReference (va_wsS RX13 147 yX13_before wsX13_before) := goodIn_app (goodIn_of _ (by decide +kernel)) ggX13_onReference_X13_before
set_option maxRecDepth 20000 in
theorem ggX13_onReference_X13_push : GoodIn wsX13_onReference wsX13_push := goodIn_r _ [74, 1, 20, 19, 21, 22, 27, 28, 8, 29, 30, 31, 32, 33, 34, 35, 36, 23, 24, 25, 26, 105, 106, 107, 108, 109, 110, 111, 112, 113, 114, 115, 116, 117, 118, 119, 120, 121, 122, 123, 124, 125, 126] rfl (by decide +kernel)
set_option maxRecDepth 20000 in
theorem gX13_onReference_X13_push : GoodIn wsX13_onReference (wsV RX13 95 RX13 yX13_push wsX13_push) := goodIn_app (goodIn_of _ (by decide +kernel)) ggX13_onReference_X13_push
set_option maxRecDepth 20000 in
theorem ggX13_onReference_X13_pointed : GoodIn wsX13_onReference wsX13_pointed := goodIn_r _ [39, 30, 31, 8, 32] rfl (by decide +kernel)
set_option maxRecDepth 20000 in
theorem gX13_onReference_X13_pointed : GoodIn wsX13_onReference (va_wsS RX13 113 yX13_pointed wsX13_pointed) := goodIn_app (goodIn_of _ (by decide +kernel)) ggX13_onReference_X13_pointed
set_option maxRecDepth 20000 in
theorem ggX13_onReference_X13_has : GoodIn wsX13_onReference wsX13_has := goodIn_r _ [78, 79, 80, 81, 8, 82, 2, 27, 28, 29, 30, 31, 32, 33, 34, 35, 36, 83, 84, 85, 50, 86, 52, 87, 57, 58, 59, 60, 61, 62, 105, 106, 107, 108, 109, 110, 111, 112, 113, 114, 115, 116, 117, 118, 119, 120, 121, 122, 123, 124, 125, 126, 127, 128, 129, 130, 131, 132, 133, 134, 135, 136, 137, 138, 139, 140, 141, 142, 143, 144] rfl (by decide +kernel)
set_option maxRecDepth 20000 in
theorem gX13_onReference_X13_has : GoodIn wsX13_onReference (wsV RX13 139 RX13 yX13_has wsX13_has) := goodIn_app (goodIn_of _ (by decide +kernel)) ggX13_onReference_X13_has
set_option maxRecDepth 20000 in
theorem ggX13_onReference_X13_need : GoodIn wsX13_onReference wsX13_need := goodIn_r _ [43, 23, 24, 25, 8, 26, 1, 105, 106, 107, 108, 109, 110, 111, 112, 113, 114, 115, 116, 117, 118, 119, 120, 121, 122, 123, 124, 125, 126] rfl (by decide +kernel)
set_option maxRecDepth 20000 in
theorem gX13_onReference_X13_need : GoodIn wsX13_onReference (wsV RX13 117 RX13 yX13_need wsX13_need) := goodIn_app (goodIn_of _ (by decide +kernel)) ggX13_onReference_X13_need
set_option maxRecDepth 20000 in
theorem ggX13_onReference_X13_give : GoodIn wsX13_onReference wsX13_give := goodIn_r _ [91, 71, 72, 73, 8, 74, 1, 20, 19, 21, 22, 27, 28, 29, 30, 31, 32, 33, 34, 35, 36, 23, 24, 25, 26, 105, 106, 107, 108, 109, 110, 111, 112, 113, 114, 115, 116, 117, 118, 119, 120, 121, 122, 123, 124, 125, 126] rfl (by decide +kernel)
set_option maxRecDepth 20000 in
theorem gX13_onReference_X13_give : GoodIn wsX13_onReference (wsV RX13 159 RX13 yX13_give wsX13_give) := goodIn_app (goodIn_of _ (by decide +kernel)) ggX13_onReference_X13_give
set_option maxRecDepth 20000 in
theorem ggX13_onReference_X13_take_ : GoodIn wsX13_onReference wsX13_take_ := goodIn_r _ [95, 1, 4, 15, 16, 17, 8, 18, 19, 20, 21, 3, 22, 5, 23, 24, 25, 26, 105, 106, 107, 108, 109, 110, 111, 112, 113, 114, 115, 116, 117, 118, 119, 120, 121, 122, 123, 124, 125, 126] rfl (by decide +kernel)
set_option maxRecDepth 20000 in
theorem gX13_onReference_X13_take_ : GoodIn wsX13_onReference (wsV RX13 133 RX13 yX13_take_ wsX13_take_) := goodIn_app (goodIn_of _ (by decide +kernel)) ggX13_onReference_X13_take_
set_option maxRecDepth 20000 in
theorem ggX13_onReference_X13_isSole : GoodIn wsX13_onReference wsX13_isSole := goodIn_r _ [99, 19, 21, 20, 22, 100, 101, 102, 103, 104, 44, 45, 8, 46, 30, 31, 32, 33, 34, 35, 36, 105, 106, 107, 108, 109, 110, 111, 112, 113, 114, 115, 116, 117, 118, 119, 120, 121, 122, 123, 124, 125, 126] rfl (by decide +kernel)
set_option maxRecDepth 20000 in
theorem gX13_onReference_X13_isSole : GoodIn wsX13_onReference (wsV RX13 162 RX13 yX13_isSole wsX13_isSole) := goodIn_app (goodIn_of _ (by decide +kernel)) ggX13_onReference_X13_isSole
set_option maxRecDepth 20000 in
theorem ggX13_call_X16_many : GoodIn wsX13_call wsX16_many := goodIn_r _ [11, 12, 13, 14, 15, 10, 16, 17, 18, 19, 20, 21, 22, 23, 24, 25, 26, 27, 28, 29, 30, 31, 32, 33, 34, 35, 36, 123, 124, 125, 126, 127, 128, 129, 130, 131, 132, 133, 134, 135, 136, 137, 138, 139, 140] rfl (by decide +kernel)
set_option maxRecDepth 20000 in
theorem gX13_call_X16_many : GoodIn wsX13_call (wsV RX13 165 RX16 yX16_many wsX16_many) := goodIn_app (goodIn_of _ (by decide +kernel)) ggX13_call_X16_many
set_option maxRecDepth 20000 in
theorem ggX13_call_X16_listed : GoodIn wsX13_call wsX16_listed := goodIn_r _ [40, 13, 14, 15, 10, 16, 12, 17, 18, 19, 20, 21, 22, 23, 24, 25, 26, 27, 28, 29, 30, 31, 32, 33, 34, 35, 36, 41, 42, 43, 44, 45, 123, 124, 125, 126, 127, 128, 129, 130, 131, 132, 133, 134, 135, 136, 137, 138, 139, 140] rfl (by decide +kernel)
set_option maxRecDepth 20000 in
theorem gX13_call_X16_listed : GoodIn wsX13_call (wsV RX13 169 RX16 yX16_listed wsX16_listed) := goodIn_app (goodIn_of _ (by decide +kernel)) ggX13_call_X16_listed
set_option maxRecDepth 20000 in
theorem ggX13_call_X13_take_ : GoodIn wsX13_call wsX13_take_ := goodIn_r _ [50, 3, 51, 52, 53, 54, 49, 55, 2, 6, 5, 56, 57, 58, 59, 60, 61, 62, 101, 102, 103, 104, 105, 106, 107, 108, 109, 110, 111, 112, 113, 114, 115, 116, 117, 118, 119, 120, 121, 122] rfl (by decide +kernel)
set_option maxRecDepth 20000 in
theorem gX13_call_X13_take_ : GoodIn wsX13_call (wsV RX13 133 RX13 yX13_take_ wsX13_take_) := goodIn_app (goodIn_of _ (by decide +kernel)) ggX13_call_X13_take_
set_option maxRecDepth 20000 in
theorem ggX13_call_X16_flags : GoodIn wsX13_call wsX16_flags := goodIn_r _ [66, 12, 22, 17, 27, 28, 29, 10, 30, 31, 32, 123, 124, 125, 126, 127, 128, 129, 130, 131, 132, 133, 134, 135, 136, 137, 138, 139, 140] rfl (by decide +kernel)
set_option maxRecDepth 20000 in
theorem gX13_call_X16_flags : GoodIn wsX13_call (wsV RX13 173 RX16 yX16_flags wsX16_flags) := goodIn_app (goodIn_of _ (by decide +kernel)) ggX13_call_X16_flags
set_option maxRecDepth 20000 in
theorem ggX13_call_X13_need : GoodIn wsX13_call wsX13_need := goodIn_r _ [70, 59, 60, 61, 49, 62, 3, 101, 102, 103, 104, 105, 106, 107, 108, 109, 110, 111, 112, 113, 114, 115, 116, 117, 118, 119, 120, 121, 122] rfl (by decide +kernel)
set_option maxRecDepth 20000 in
theorem gX13_call_X13_need : GoodIn wsX13_call (wsV RX13 117 RX13 yX13_need wsX13_need) := goodIn_app (goodIn_of _ (by decide +kernel)) ggX13_call_X13_need
set_option maxRecDepth 20000 in
theorem ggX13_call_X13_writes : GoodIn wsX13_call wsX13_writes := goodIn_r _ [73, 74, 75, 49, 76, 77, 78, 79, 80] rfl (by decide +kernel)
set_option maxRecDepth 20000 in
theorem gX13_call_X13_writes : GoodIn wsX13_call (va_wsS RX13 121 yX13_writes wsX13_writes) := goodIn_app (goodIn_of _ (by decide +kernel)) ggX13_call_X13_writes
set_option maxRecDepth 20000 in
theorem ggX13_call_X13_isSole : GoodIn wsX13_call wsX13_isSole := goodIn_r _ [84, 2, 5, 6, 57, 85, 86, 87, 88, 89, 71, 72, 49, 73, 74, 75, 76, 77, 78, 79, 80, 101, 102, 103, 104, 105, 106, 107, 108, 109, 110, 111, 112, 113, 114, 115, 116, 117, 118, 119, 120, 121, 122] rfl (by decide +kernel)
set_option maxRecDepth 20000 in
theorem gX13_call_X13_isSole : GoodIn wsX13_call (wsV RX13 162 RX13 yX13_isSole wsX13_isSole) := goodIn_app (goodIn_of _ (by decide +kernel)) ggX13_call_X13_isSole
set_option maxRecDepth 20000 in
theorem ggX13_call_X13_isPointed : GoodIn wsX13_call wsX13_isPointed := goodIn_r _ [93, 2, 5, 6, 85, 86, 87, 88, 71, 72, 49, 73, 74, 75, 76, 77, 78, 79, 80, 101, 102, 103, 104, 105, 106, 107, 108, 109, 110, 111, 112, 113, 114, 115, 116, 117, 118, 119, 120, 121, 122] rfl (by decide +kernel)
set_option maxRecDepth 20000 in
theorem gX13_call_X13_isPointed : GoodIn wsX13_call (wsV RX13 143 RX13 yX13_isPointed wsX13_isPointed) := goodIn_app (goodIn_of _ (by decide +kernel)) ggX13_call_X13_isPointed
set_option maxRecDepth 20000 in
theorem ggX13_call_X13_push : GoodIn wsX13_call wsX13_push := goodIn_r _ [97, 3, 6, 2, 5, 57, 98, 99, 49, 100, 74, 75, 76, 77, 78, 79, 80, 59, 60, 61, 62, 101, 102, 103, 104, 105, 106, 107, 108, 109, 110, 111, 112, 113, 114, 115, 116, 117, 118, 119, 120, 121, 122] rfl (by decide +kernel)
set_option maxRecDepth 20000 in
theorem gX13_call_X13_push : GoodIn wsX13_call (wsV RX13 95 RX13 yX13_push wsX13_push) := goodIn_app (goodIn_of _ (by decide +kernel)) ggX13_call_X13_push
set_option maxRecDepth 20000 in
theorem ggX13_onNumbers_X13_takeNumbers : GoodIn wsX13_onNumbers wsX13_takeNumbers := goodIn_r _ [9, 3, 1, 10, 11, 12, 8, 13, 14, 15, 16, 17, 18, 19, 20, 21, 22, 23, 24, 25, 26, 2, 27, 28, 29, 30, 31, 32, 33, 34, 35, 36, 77, 78, 79, 80, 81, 82, 83, 84, 85, 86, 87, 88, 89, 90, 91, 92, 93, 94, 95, 96, 97, 98] rfl (by decide +kernel)
set_option maxRecDepth 20000 in
theorem gX13_onNumbers_X13_takeNumbers : GoodIn wsX13_onNumbers (wsV RX13 179 RX13 yX13_takeNumbers wsX13_takeNumbers) := goodIn_app (goodIn_of _ (by decide +kernel)) ggX13_onNumbers_X13_takeNumbers
set_option maxRecDepth 20000 in
theorem ggX13_onNumbers_X13_give : GoodIn wsX13_onNumbers wsX13_give := goodIn_r _ [40, 41, 42, 43, 8, 44, 3, 15, 14, 16, 18, 45, 46, 47, 48, 49, 50, 51, 52, 53, 54, 20, 21, 22, 23, 77, 78, 79, 80, 81, 82, 83, 84, 85, 86, 87, 88, 89, 90, 91, 92, 93, 94, 95, 96, 97, 98] rfl (by decide +kernel)
set_option maxRecDepth 20000 in
theorem gX13_onNumbers_X13_give : GoodIn wsX13_onNumbers (wsV RX13 159 RX13 yX13_give wsX13_give) := goodIn_app (goodIn_of _ (by decide +kernel)) ggX13_onNumbers_X13_give
set_option maxRecDepth 20000 in
theorem ggX13_onNumbers_X13_take_ : GoodIn wsX13_onNumbers wsX13_take_ := goodIn_r _ [36, 3, 1, 10, 11, 12, 8, 13, 14, 15, 16, 17, 18, 19, 20, 21, 22, 23, 77, 78, 79, 80, 81, 82, 83, 84, 85, 86, 87, 88, 89, 90, 91, 92, 93, 94, 95, 96, 97, 98] rfl (by decide +kernel)
set_option maxRecDepth 20000 in
theorem gX13_onNumbers_X13_take_ : GoodIn wsX13_onNumbers (wsV RX13 133 RX13 yX13_take_ wsX13_take_) := goodIn_app (goodIn_of _ (by decide +kernel)) ggX13_onNumbers_X13_take_
set_option maxRecDepth 20000 in
theorem ggX13_onNumbers_X13_take : GoodIn wsX13_onNumbers wsX13_take := goodIn_r _ [13, 3, 14, 15, 1, 16, 17, 18, 19, 20, 21, 22, 8, 23, 77, 78, 79, 80, 81, 82, 83, 84, 85, 86, 87, 88, 89, 90, 91, 92, 93, 94, 95, 96, 97, 98] rfl (by decide +kernel)
set_option maxRecDepth 20000 in
theorem gX13_onNumbers_X13_take : GoodIn wsX13_onNumbers (wsV RX13 110 RX13 yX13_take wsX13_take) := goodIn_app (goodIn_of _ (by decide +kernel)) ggX13_onNumbers_X13_take
set_option maxRecDepth 20000 in
theorem ggX13_onNumbers_X13_isNumber : GoodIn wsX13_onNumbers wsX13_isNumber := goodIn_r _ [26, 2, 27, 28] rfl (by decide +kernel)
set_option maxRecDepth 20000 in
theorem gX13_onNumbers_X13_isNumber : GoodIn wsX13_onNumbers (va_wsS RX13 130 yX13_isNumber wsX13_isNumber) := goodIn_app (goodIn_of _ (by decide +kernel)) ggX13_onNumbers_X13_isNumber
set_option maxRecDepth 20000 in
theorem ggX13_onNumbers_X13_need : GoodIn wsX13_onNumbers wsX13_need := goodIn_r _ [32, 20, 21, 22, 8, 23, 3, 77, 78, 79, 80, 81, 82, 83, 84, 85, 86, 87, 88, 89, 90, 91, 92, 93, 94, 95, 96, 97, 98] rfl (by decide +kernel)
set_option maxRecDepth 20000 in
theorem gX13_onNumbers_X13_need : GoodIn wsX13_onNumbers (wsV RX13 117 RX13 yX13_need wsX13_need) := goodIn_app (goodIn_of _ (by decide +kernel)) ggX13_onNumbers_X13_need
set_option maxRecDepth 20000 in
theorem ggX13_onNumbers_X13_isReference : GoodIn wsX13_onNumbers wsX13_isReference := goodIn_r _ [47, 48, 49, 8, 50, 51, 52, 53, 54] rfl (by decide +kernel)
set_option maxRecDepth 20000 in
theorem gX13_onNumbers_X13_isReference : GoodIn wsX13_onNumbers (va_wsS RX13 68 yX13_isReference wsX13_isReference) := goodIn_app (goodIn_of _ (by decide +kernel)) ggX13_onNumbers_X13_isReference
set_option maxRecDepth 20000 in
theorem ggX13_onNumbers_X13_has : GoodIn wsX13_onNumbers wsX13_has := goodIn_r _ [58, 59, 60, 61, 8, 62, 63, 45, 46, 47, 48, 49, 50, 51, 52, 53, 54, 64, 65, 66, 67, 68, 69, 70, 71, 72, 73, 74, 75, 76, 77, 78, 79, 80, 81, 82, 83, 84, 85, 86, 87, 88, 89, 90, 91, 92, 93, 94, 95, 96, 97, 98, 99, 100, 101, 102, 103, 104, 105, 106, 107, 108, 109, 110, 111, 112, 113, 114, 115, 116] rfl (by decide +kernel)
set_option maxRecDepth 20000 in
theorem gX13_onNumbers_X13_has : GoodIn wsX13_onNumbers (wsV RX13 139 RX13 yX13_has wsX13_has) := goodIn_app (goodIn_of _ (by decide +kernel)) ggX13_onNumbers_X13_has
set_option maxRecDepth 20000 in
theorem ggX13_onResource_X13_structureType : GoodIn wsX13_onResource wsX13_structureType := goodIn_r _ [8, 9] rfl (by decide +kernel)
set_option maxRecDepth 20000 in
theorem gX13_onResource_X13_structureType : GoodIn wsX13_onResource (va_wsS RX13 151 yX13_structureType wsX13_structureType) := goodIn_app (goodIn_of _ (by decide +kernel)) ggX13_onResource_X13_structureType
set_option maxRecDepth 20000 in
theorem ggX13_onResource_X13_take_ : GoodIn wsX13_onResource wsX13_take_ := goodIn_r _ [13, 4, 14, 15, 16, 17, 7, 18, 19, 20, 21, 22, 23, 24, 25, 26, 27, 28, 85, 86, 87, 88, 89, 90, 91, 92, 93, 94, 95, 96, 97, 98, 99, 100, 101, 102, 103, 104, 105, 106] rfl (by decide +kernel)
set_option maxRecDepth 20000 in
theorem gX13_onResource_X13_take_ : GoodIn wsX13_onResource (wsV RX13 133 RX13 yX13_take_ wsX13_take_) := goodIn_app (goodIn_of _ (by decide +kernel)) ggX13_onResource_X13_take_
set_option maxRecDepth 20000 in
theorem ggX13_onResource_X16_flags : GoodIn wsX13_onResource wsX16_flags := goodIn_r _ [33, 34, 35, 36, 37, 38, 39, 32, 40, 41, 42, 107, 108, 109, 110, 111, 112, 113, 114, 115, 116, 117, 118, 119, 120, 121, 122, 123, 124] rfl (by decide +kernel)
set_option maxRecDepth 20000 in
theorem gX13_onResource_X16_flags : GoodIn wsX13_onResource (wsV RX13 173 RX16 yX16_flags wsX16_flags) := goodIn_app (goodIn_of _ (by decide +kernel)) ggX13_onResource_X16_flags
set_option maxRecDepth 20000 in
theorem ggX13_onResource_X13_need : GoodIn wsX13_onResource wsX13_need := goodIn_r _ [46, 25, 26, 27, 7, 28, 4, 85, 86, 87, 88, 89, 90, 91, 92, 93, 94, 95, 96, 97, 98, 99, 100, 101, 102, 103, 104, 105, 106] rfl (by decide +kernel)
set_option maxRecDepth 20000 in
theorem gX13_onResource_X13_need : GoodIn wsX13_onResource (wsV RX13 117 RX13 yX13_need wsX13_need) := goodIn_app (goodIn_of _ (by decide +kernel)) ggX13_onResource_X13_need
set_option maxRecDepth 20000 in
theorem ggX13_onResource_X16_abilitiesOf : GoodIn wsX13_onResource wsX16_abilitiesOf := goodIn_r _ [50, 51, 52, 37, 38, 39, 32, 40, 41, 42, 107, 108, 109, 110, 111, 112, 113, 114, 115, 116, 117, 118, 119, 120, 121, 122, 123, 124] rfl (by decide +kernel)
set_option maxRecDepth 20000 in
theorem gX13_onResource_X16_abilitiesOf : GoodIn wsX13_onResource (wsV RX13 76 RX16 yX16_abilitiesOf wsX16_abilitiesOf) := goodIn_app (goodIn_of _ (by decide +kernel)) ggX13_onResource_X16_abilitiesOf
set_option maxRecDepth 20000 in
theorem ggX13_onResource_X13_isPointed : GoodIn wsX13_onResource wsX13_isPointed := goodIn_r _ [56, 19, 21, 20, 57, 58, 59, 60, 61, 62, 7, 63, 64, 65, 66, 67, 68, 69, 70, 85, 86, 87, 88, 89, 90, 91, 92, 93, 94, 95, 96, 97, 98, 99, 100, 101, 102, 103, 104, 105, 106] rfl (by decide +kernel)
set_option maxRecDepth 20000 in
theorem gX13_onResource_X13_isPointed : GoodIn wsX13_onResource (wsV RX13 143 RX13 yX13_isPointed wsX13_isPointed) := goodIn_app (goodIn_of _ (by decide +kernel)) ggX13_onResource_X13_isPointed
set_option maxRecDepth 20000 in
theorem ggX13_onResource_X13_give : GoodIn wsX13_onResource wsX13_give := goodIn_r _ [74, 75, 76, 77, 7, 78, 4, 20, 19, 21, 23, 79, 80, 81, 64, 65, 66, 67, 68, 69, 70, 25, 26, 27, 28, 85, 86, 87, 88, 89, 90, 91, 92, 93, 94, 95, 96, 97, 98, 99, 100, 101, 102, 103, 104, 105, 106] rfl (by decide +kernel)
set_option maxRecDepth 20000 in
theorem gX13_onResource_X13_give : GoodIn wsX13_onResource (wsV RX13 159 RX13 yX13_give wsX13_give) := goodIn_app (goodIn_of _ (by decide +kernel)) ggX13_onResource_X13_give
set_option maxRecDepth 20000 in
theorem ggX13_onResource_X13_before : GoodIn wsX13_onResource wsX13_before := goodIn_r _ [84, 64, 65, 7, 66] rfl (by decide +kernel)
set_option maxRecDepth 20000 in
theorem gX13_onResource_X13_before : GoodIn wsX13_onResource (va_wsS RX13 147 yX13_before wsX13_before) := goodIn_app (goodIn_of _ (by decide +kernel)) ggX13_onResource_X13_before
set_option maxRecDepth 20000 in
theorem ggX13_onResource_X13_push : GoodIn wsX13_onResource wsX13_push := goodIn_r _ [78, 4, 20, 19, 21, 23, 79, 80, 7, 81, 64, 65, 66, 67, 68, 69, 70, 25, 26, 27, 28, 85, 86, 87, 88, 89, 90, 91, 92, 93, 94, 95, 96, 97, 98, 99, 100, 101, 102, 103, 104, 105, 106] rfl (by decide +kernel)
set_option maxRecDepth 20000 in
theorem gX13_onResource_X13_push : GoodIn wsX13_onResource (wsV RX13 95 RX13 yX13_push wsX13_push) := goodIn_app (goodIn_of _ (by decide +kernel)) ggX13_onResource_X13_push
set_option maxRecDepth 20000 in
theorem ggX13_onVector_X13_take_ : GoodIn wsX13_onVector wsX13_take_ := goodIn_r _ [10, 5, 11, 12, 13, 14, 9, 15, 16, 17, 18, 4, 19, 20, 21, 22, 23, 24, 90, 91, 92, 93, 94, 95, 96, 97, 98, 99, 100, 101, 102, 103, 104, 105, 106, 107, 108, 109, 110, 111] rfl (by decide +kernel)
set_option maxRecDepth 20000 in
theorem gX13_onVector_X13_take_ : GoodIn wsX13_onVector (wsV RX13 133 RX13 yX13_take_ wsX13_take_) := goodIn_app (goodIn_of _ (by decide +kernel)) ggX13_onVector_X13_take_
set_option maxRecDepth 20000 in
theorem ggX13_onVector_X13_give : GoodIn wsX13_onVector wsX13_give := goodIn_r _ [28, 29, 30, 31, 9, 32, 5, 17, 16, 18, 19, 33, 34, 35, 36, 37, 38, 39, 40, 41, 42, 21, 22, 23, 24, 90, 91, 92, 93, 94, 95, 96, 97, 98, 99, 100, 101, 102, 103, 104, 105, 106, 107, 108, 109, 110, 111] rfl (by decide +kernel)
set_option maxRecDepth 20000 in
theorem gX13_onVector_X13_give : GoodIn wsX13_onVector (wsV RX13 159 RX13 yX13_give wsX13_give) := goodIn_app (goodIn_of _ (by decide +kernel)) ggX13_onVector_X13_give
set_option maxRecDepth 20000 in
theorem ggX13_onVector_X16_element : GoodIn wsX13_onVector wsX16_element := goodIn_r _ [47, 48, 49, 50, 51, 46, 52, 53, 54, 55, 56, 57, 58, 59, 60, 61, 62, 63, 112, 113, 114, 115, 116, 117, 118, 119, 120, 121, 122, 123, 124, 125, 126, 127, 128, 129] rfl (by decide +kernel)
set_option maxRecDepth 20000 in
theorem gX13_onVector_X16_element : GoodIn wsX13_onVector (wsV RX13 189 RX16 yX16_element wsX16_element) := goodIn_app (goodIn_of _ (by decide +kernel)) ggX13_onVector_X16_element
set_option maxRecDepth 20000 in
theorem ggX13_onVector_X13_before : GoodIn wsX13_onVector wsX13_before := goodIn_r _ [66, 36, 37, 9, 38] rfl (by decide +kernel)
set_option maxRecDepth 20000 in
theorem gX13_onVector_X13_before : GoodIn wsX13_onVector (va_wsS RX13 147 yX13_before wsX13_before) := goodIn_app (goodIn_of _ (by decide +kernel)) ggX13_onVector_X13_before
set_option maxRecDepth 20000 in
theorem ggX13_onVector_X13_takeReference : GoodIn wsX13_onVector wsX13_takeReference := goodIn_r _ [70, 5, 11, 12, 13, 14, 9, 15, 16, 17, 18, 4, 19, 20, 21, 22, 23, 24, 33, 34, 35, 36, 37, 38, 39, 40, 41, 42, 71, 72, 73, 74, 75, 76, 77, 78, 79, 80, 90, 91, 92, 93, 94, 95, 96, 97, 98, 99, 100, 101, 102, 103, 104, 105, 106, 107, 108, 109, 110, 111] rfl (by decide +kernel)
set_option maxRecDepth 20000 in
theorem gX13_onVector_X13_takeReference : GoodIn wsX13_onVector (wsV RX13 155 RX13 yX13_takeReference wsX13_takeReference) := goodIn_app (goodIn_of _ (by decide +kernel)) ggX13_onVector_X13_takeReference
set_option maxRecDepth 20000 in
theorem ggX13_onVector_X13_isSole : GoodIn wsX13_onVector wsX13_isSole := goodIn_r _ [84, 16, 18, 17, 19, 85, 86, 87, 88, 89, 78, 79, 9, 80, 36, 37, 38, 39, 40, 41, 42, 90, 91, 92, 93, 94, 95, 96, 97, 98, 99, 100, 101, 102, 103, 104, 105, 106, 107, 108, 109, 110, 111] rfl (by decide +kernel)
set_option maxRecDepth 20000 in
theorem gX13_onVector_X13_isSole : GoodIn wsX13_onVector (wsV RX13 162 RX13 yX13_isSole wsX13_isSole) := goodIn_app (goodIn_of _ (by decide +kernel)) ggX13_onVector_X13_isSole
set_option maxRecDepth 20000 in
theorem ggX13_onVector_X13_need : GoodIn wsX13_onVector wsX13_need := goodIn_r _ [77, 21, 22, 23, 9, 24, 5, 90, 91, 92, 93, 94, 95, 96, 97, 98, 99, 100, 101, 102, 103, 104, 105, 106, 107, 108, 109, 110, 111] rfl (by decide +kernel)
set_option maxRecDepth 20000 in
theorem gX13_onVector_X13_need : GoodIn wsX13_onVector (wsV RX13 117 RX13 yX13_need wsX13_need) := goodIn_app (goodIn_of _ (by decide +kernel)) ggX13_onVector_X13_need
set_option maxRecDepth 20000 in
theorem ggX13_onVector_X13_push : GoodIn wsX13_onVector wsX13_push := goodIn_r _ [32, 5, 17, 16, 18, 19, 33, 34, 9, 35, 36, 37, 38, 39, 40, 41, 42, 21, 22, 23, 24, 90, 91, 92, 93, 94, 95, 96, 97, 98, 99, 100, 101, 102, 103, 104, 105, 106, 107, 108, 109, 110, 111] rfl (by decide +kernel)
set_option maxRecDepth 20000 in
theorem gX13_onVector_X13_push : GoodIn wsX13_onVector (wsV RX13 95 RX13 yX13_push wsX13_push) := goodIn_app (goodIn_of _ (by decide +kernel)) ggX13_onVector_X13_push
set_option maxRecDepth 20000 in
theorem ggX13_giveBack_X16_many : GoodIn wsX13_giveBack wsX16_many := goodIn_r _ [15, 16, 17, 18, 19, 14, 20, 21, 22, 23, 24, 25, 26, 27, 28, 29, 30, 31, 32, 33, 34, 35, 36, 37, 38, 39, 40, 105, 106, 107, 108, 109, 110, 111, 112, 113, 114, 115, 116, 117, 118, 119, 120, 121, 122] rfl (by decide +kernel)
set_option maxRecDepth 20000 in
theorem gX13_giveBack_X16_many : GoodIn wsX13_giveBack (wsV RX13 165 RX16 yX16_many wsX16_many) := goodIn_app (goodIn_of _ (by decide +kernel)) ggX13_giveBack_X16_many
set_option maxRecDepth 20000 in
theorem ggX13_giveBack_X16_listed : GoodIn wsX13_giveBack wsX16_listed := goodIn_r _ [44, 17, 18, 19, 14, 20, 16, 21, 22, 23, 24, 25, 26, 27, 28, 29, 30, 31, 32, 33, 34, 35, 36, 37, 38, 39, 40, 45, 46, 47, 48, 49, 105, 106, 107, 108, 109, 110, 111, 112, 113, 114, 115, 116, 117, 118, 119, 120, 121, 122] rfl (by decide +kernel)
set_option maxRecDepth 20000 in
theorem gX13_giveBack_X16_listed : GoodIn wsX13_giveBack (wsV RX13 169 RX16 yX16_listed wsX16_listed) := goodIn_app (goodIn_of _ (by decide +kernel)) ggX13_giveBack_X16_listed
set_option maxRecDepth 20000 in
theorem ggX13_giveBack_X13_need : GoodIn wsX13_giveBack wsX13_need := goodIn_r _ [54, 55, 56, 57, 53, 58, 5, 83, 84, 85, 86, 87, 88, 89, 90, 91, 92, 93, 94, 95, 96, 97, 98, 99, 100, 101, 102, 103, 104] rfl (by decide +kernel)
set_option maxRecDepth 20000 in
theorem gX13_giveBack_X13_need : GoodIn wsX13_giveBack (wsV RX13 117 RX13 yX13_need wsX13_need) := goodIn_app (goodIn_of _ (by decide +kernel)) ggX13_giveBack_X13_need
set_option maxRecDepth 20000 in
theorem ggX13_giveBack_X13_has : GoodIn wsX13_giveBack wsX13_has := goodIn_r _ [62, 63, 64, 65, 53, 66, 2, 67, 68, 69, 70, 71, 72, 73, 74, 75, 76, 77, 78, 79, 14, 80, 81, 82, 31, 32, 33, 34, 35, 36, 83, 84, 85, 86, 87, 88, 89, 90, 91, 92, 93, 94, 95, 96, 97, 98, 99, 100, 101, 102, 103, 104, 105, 106, 107, 108, 109, 110, 111, 112, 113, 114, 115, 116, 117, 118, 119, 120, 121, 122] rfl (by decide +kernel)
set_option maxRecDepth 20000 in
theorem gX13_giveBack_X13_has : GoodIn wsX13_giveBack (wsV RX13 139 RX13 yX13_has wsX13_has) := goodIn_app (goodIn_of _ (by decide +kernel)) ggX13_giveBack_X13_has
set_option maxRecDepth 20000 in
theorem ggX13_operate_X13_take : GoodIn wsX13_operate wsX13_take := goodIn_r _ [10, 1, 3, 11, 2, 12, 13, 14, 15, 16, 17, 18, 9, 19, 191, 192, 193, 194, 195, 196, 197, 198, 199, 200, 201, 202, 203, 204, 205, 206, 207, 208, 209, 210, 211, 212] rfl (by decide +kernel)
set_option maxRecDepth 20000 in
theorem gX13_operate_X13_take : GoodIn wsX13_operate (wsV RX13 110 RX13 yX13_take wsX13_take) := goodIn_app (goodIn_of _ (by decide +kernel)) ggX13_operate_X13_take
set_option maxRecDepth 20000 in
theorem ggX13_operate_X13_has : GoodIn wsX13_operate wsX13_has := goodIn_r _ [23, 24, 25, 26, 9, 27, 28, 29, 30, 31, 32, 33, 34, 35, 36, 37, 38, 39, 40, 41, 42, 43, 44, 45, 46, 47, 48, 49, 50, 51, 191, 192, 193, 194, 195, 196, 197, 198, 199, 200, 201, 202, 203, 204, 205, 206, 207, 208, 209, 210, 211, 212, 213, 214, 215, 216, 217, 218, 219, 220, 221, 222, 223, 224, 225, 226, 227, 228, 229, 230] rfl (by decide +kernel)
set_option maxRecDepth 20000 in
theorem gX13_operate_X13_has : GoodIn wsX13_operate (wsV RX13 139 RX13 yX13_has wsX13_has) := goodIn_app (goodIn_of _ (by decide +kernel)) ggX13_operate_X13_has
set_option maxRecDepth 20000 in
theorem ggX13_operate_X13_need : GoodIn wsX13_operate wsX13_need := goodIn_r _ [55, 16, 17, 18, 9, 19, 1, 191, 192, 193, 194, 195, 196, 197, 198, 199, 200, 201, 202, 203, 204, 205, 206, 207, 208, 209, 210, 211, 212] rfl (by decide +kernel)
set_option maxRecDepth 20000 in
theorem gX13_operate_X13_need : GoodIn wsX13_operate (wsV RX13 117 RX13 yX13_need wsX13_need) := goodIn_app (goodIn_of _ (by decide +kernel)) ggX13_operate_X13_need
set_option maxRecDepth 20000 in
theorem ggX13_operate_X13_giveBack : GoodIn wsX13_operate wsX13_giveBack := goodIn_r _ [59, 3, 28, 60, 11, 1, 12, 61, 62, 63, 64, 65, 66, 67, 42, 68, 69, 70, 71, 72, 73, 74, 75, 76, 77, 78, 79, 80, 81, 82, 83, 46, 47, 48, 49, 50, 51, 84, 85, 86, 87, 88, 89, 90, 91, 92, 93, 94, 95, 96, 52, 53, 54, 9, 55, 16, 17, 18, 19, 20, 21, 22, 23, 24, 25, 26, 27, 29, 30, 31, 32, 33, 34, 35, 36, 37, 38, 39, 40, 41, 43, 44, 45, 191, 192, 193, 194, 195, 196, 197, 198, 199, 200, 201, 202, 203, 204, 205, 206, 207, 208, 209, 210, 211, 212, 213, 214, 215, 216, 217, 218, 219, 220, 221, 222, 223, 224, 225, 226, 227, 228, 229, 230] rfl (by decide +kernel)
set_option maxRecDepth 20000 in
theorem gX13_operate_X13_giveBack : GoodIn wsX13_operate (wsV RX13 194 RX13 yX13_giveBack wsX13_giveBack) := goodIn_app (goodIn_of _ (by decide +kernel)) ggX13_operate_X13_giveBack
set_option maxRecDepth 20000 in
theorem ggX13_operate_X13_take_ : GoodIn wsX13_operate wsX13_take_ := goodIn_r _ [100, 1, 2, 6, 7, 8, 9, 10, 3, 11, 12, 13, 14, 15, 16, 17, 18, 19, 191, 192, 193, 194, 195, 196, 197, 198, 199, 200, 201, 202, 203, 204, 205, 206, 207, 208, 209, 210, 211, 212] rfl (by decide +kernel)
set_option maxRecDepth 20000 in
theorem gX13_operate_X13_take_ : GoodIn wsX13_operate (wsV RX13 133 RX13 yX13_take_ wsX13_take_) := goodIn_app (goodIn_of _ (by decide +kernel)) ggX13_operate_X13_take_
set_option maxRecDepth 20000 in
theorem ggX13_operate_X13_give : GoodIn wsX13_operate wsX13_give := goodIn_r _ [104, 105, 106, 107, 9, 108, 1, 11, 3, 12, 14, 29, 30, 31, 32, 33, 34, 35, 36, 37, 38, 16, 17, 18, 19, 191, 192, 193, 194, 195, 196, 197, 198, 199, 200, 201, 202, 203, 204, 205, 206, 207, 208, 209, 210, 211, 212] rfl (by decide +kernel)
set_option maxRecDepth 20000 in
theorem gX13_operate_X13_give : GoodIn wsX13_operate (wsV RX13 159 RX13 yX13_give wsX13_give) := goodIn_app (goodIn_of _ (by decide +kernel)) ggX13_operate_X13_give
set_option maxRecDepth 20000 in
theorem ggX13_operate_X13_onLocal : GoodIn wsX13_operate wsX13_onLocal := goodIn_r _ [112, 64, 63, 1, 113, 13, 114, 15, 29, 30, 9, 31, 32, 33, 34, 35, 36, 37, 38, 97, 98, 99, 100, 2, 6, 7, 8, 10, 3, 11, 12, 14, 16, 17, 18, 19, 20, 21, 22, 23, 24, 25, 26, 27, 28, 39, 40, 41, 42, 43, 44, 45, 46, 47, 48, 49, 50, 51, 52, 53, 54, 55, 115, 116, 117, 118, 62, 119, 120, 121, 105, 106, 107, 108, 122, 123, 124, 191, 192, 193, 194, 195, 196, 197, 198, 199, 200, 201, 202, 203, 204, 205, 206, 207, 208, 209, 210, 211, 212, 213, 214, 215, 216, 217, 218, 219, 220, 221, 222, 223, 224, 225, 226, 227, 228, 229, 230] rfl (by decide +kernel)
set_option maxRecDepth 20000 in
theorem gX13_operate_X13_onLocal : GoodIn wsX13_operate (wsV RX13 197 RX13 yX13_onLocal wsX13_onLocal) := goodIn_app (goodIn_of _ (by decide +kernel)) ggX13_operate_X13_onLocal
set_option maxRecDepth 20000 in
theorem ggX13_operate_X13_onReference : GoodIn wsX13_operate wsX13_onReference := goodIn_r _ [128, 1, 28, 13, 2, 15, 129, 130, 9, 131, 132, 133, 134, 135, 136, 6, 7, 8, 10, 3, 11, 12, 14, 16, 17, 18, 19, 29, 30, 31, 32, 33, 34, 35, 36, 37, 38, 137, 138, 139, 52, 53, 54, 55, 119, 120, 121, 140, 141, 142, 42, 143, 44, 84, 85, 86, 87, 46, 47, 48, 49, 50, 51, 92, 93, 94, 95, 96, 122, 123, 124, 105, 106, 107, 108, 20, 21, 22, 23, 24, 25, 26, 27, 39, 40, 41, 43, 45, 101, 102, 103, 104, 97, 98, 99, 100, 144, 145, 146, 147, 62, 63, 113, 64, 114, 191, 192, 193, 194, 195, 196, 197, 198, 199, 200, 201, 202, 203, 204, 205, 206, 207, 208, 209, 210, 211, 212, 213, 214, 215, 216, 217, 218, 219, 220, 221, 222, 223, 224, 225, 226, 227, 228, 229, 230] rfl (by decide +kernel)
set_option maxRecDepth 20000 in
theorem gX13_operate_X13_onReference : GoodIn wsX13_operate (wsV RX13 201 RX13 yX13_onReference wsX13_onReference) := goodIn_app (goodIn_of _ (by decide +kernel)) ggX13_operate_X13_onReference
set_option maxRecDepth 20000 in
theorem ggX13_operate_X13_pack : GoodIn wsX13_operate wsX13_pack := goodIn_r _ [151, 28, 129, 130, 9, 131, 132, 97, 98, 99, 100, 1, 2, 6, 7, 8, 10, 3, 11, 12, 13, 14, 15, 16, 17, 18, 19, 152, 42, 153, 154, 44, 46, 47, 48, 49, 50, 51, 140, 141, 142, 143, 84, 85, 86, 87, 92, 93, 94, 95, 96, 101, 102, 103, 104, 105, 106, 107, 108, 29, 30, 31, 32, 33, 34, 35, 36, 37, 38, 191, 192, 193, 194, 195, 196, 197, 198, 199, 200, 201, 202, 203, 204, 205, 206, 207, 208, 209, 210, 211, 212, 213, 214, 215, 216, 217, 218, 219, 220, 221, 222, 223, 224, 225, 226, 227, 228, 229, 230] rfl (by decide +kernel)
set_option maxRecDepth 20000 in
theorem gX13_operate_X13_pack : GoodIn wsX13_operate (wsV RX13 205 RX13 yX13_pack wsX13_pack) := goodIn_app (goodIn_of _ (by decide +kernel)) ggX13_operate_X13_pack
set_option maxRecDepth 20000 in
theorem ggX13_operate_X13_call : GoodIn wsX13_operate wsX13_call := goodIn_r _ [158, 28, 3, 1, 60, 12, 11, 65, 66, 67, 42, 68, 69, 70, 71, 72, 73, 74, 75, 76, 77, 78, 79, 80, 81, 82, 83, 46, 47, 48, 49, 50, 51, 84, 85, 86, 87, 88, 89, 90, 91, 92, 93, 94, 95, 96, 97, 98, 99, 9, 100, 2, 6, 7, 8, 10, 13, 14, 15, 16, 17, 18, 19, 159, 160, 161, 162, 52, 53, 54, 55, 119, 120, 121, 32, 33, 34, 35, 36, 37, 38, 144, 145, 146, 147, 62, 63, 113, 64, 114, 115, 116, 117, 118, 105, 106, 107, 108, 29, 30, 31, 191, 192, 193, 194, 195, 196, 197, 198, 199, 200, 201, 202, 203, 204, 205, 206, 207, 208, 209, 210, 211, 212, 213, 214, 215, 216, 217, 218, 219, 220, 221, 222, 223, 224, 225, 226, 227, 228, 229, 230] rfl (by decide +kernel)
set_option maxRecDepth 20000 in
theorem gX13_operate_X13_call : GoodIn wsX13_operate (wsV RX13 208 RX13 yX13_call wsX13_call) := goodIn_app (goodIn_of _ (by decide +kernel)) ggX13_operate_X13_call
set_option maxRecDepth 20000 in
theorem ggX13_operate_X13_onNumbers : GoodIn wsX13_operate wsX13_onNumbers := goodIn_r _ [166, 2, 167, 1, 168, 169, 170, 171, 9, 172, 6, 7, 8, 10, 3, 11, 12, 13, 14, 15, 16, 17, 18, 19, 173, 174, 175, 4, 176, 52, 53, 54, 55, 97, 98, 99, 100, 101, 102, 103, 104, 105, 106, 107, 108, 29, 30, 31, 32, 33, 34, 35, 36, 37, 38, 20, 21, 22, 23, 24, 25, 26, 27, 28, 39, 40, 41, 42, 43, 44, 45, 46, 47, 48, 49, 50, 51, 191, 192, 193, 194, 195, 196, 197, 198, 199, 200, 201, 202, 203, 204, 205, 206, 207, 208, 209, 210, 211, 212, 213, 214, 215, 216, 217, 218, 219, 220, 221, 222, 223, 224, 225, 226, 227, 228, 229, 230] rfl (by decide +kernel)
set_option maxRecDepth 20000 in
theorem gX13_operate_X13_onNumbers : GoodIn wsX13_operate (wsV RX13 211 RX13 yX13_onNumbers wsX13_onNumbers) := goodIn_app (goodIn_of _ (by decide +kernel)) ggX13_operate_X13_onNumbers
set_option maxRecDepth 20000 in
theorem ggX13_operate_X13_onResource : GoodIn wsX13_operate wsX13_onResource := goodIn_r _ [180, 5, 28, 60, 1, 129, 130, 9, 131, 132, 97, 98, 99, 100, 2, 6, 7, 8, 10, 3, 11, 12, 13, 14, 15, 16, 17, 18, 19, 159, 160, 161, 42, 162, 69, 79, 74, 46, 47, 48, 49, 50, 51, 52, 53, 54, 55, 39, 40, 41, 43, 44, 45, 115, 116, 117, 118, 62, 63, 113, 64, 119, 120, 121, 32, 33, 34, 35, 36, 37, 38, 101, 102, 103, 104, 105, 106, 107, 108, 29, 30, 31, 122, 123, 124, 191, 192, 193, 194, 195, 196, 197, 198, 199, 200, 201, 202, 203, 204, 205, 206, 207, 208, 209, 210, 211, 212, 213, 214, 215, 216, 217, 218, 219, 220, 221, 222, 223, 224, 225, 226, 227, 228, 229, 230] rfl (by decide +kernel)
set_option maxRecDepth 20000 in
theorem gX13_operate_X13_onResource : GoodIn wsX13_operate (wsV RX13 214 RX13 yX13_onResource wsX13_onResource) := goodIn_app (goodIn_of _ (by decide +kernel)) ggX13_operate_X13_onResource
set_option maxRecDepth 20000 in
theorem ggX13_operate_X13_onVector : GoodIn wsX13_operate wsX13_onVector := goodIn_r _ [184, 185, 28, 4, 13, 1, 97, 98, 99, 9, 100, 2, 6, 7, 8, 10, 3, 11, 12, 14, 15, 16, 17, 18, 19, 101, 102, 103, 104, 105, 106, 107, 108, 29, 30, 31, 32, 33, 34, 35, 36, 37, 38, 186, 187, 188, 42, 189, 190, 92, 93, 94, 95, 96, 84, 85, 86, 87, 46, 47, 48, 49, 50, 51, 122, 123, 124, 133, 134, 135, 136, 137, 138, 139, 52, 53, 54, 55, 119, 120, 121, 144, 145, 146, 147, 62, 63, 113, 64, 114, 191, 192, 193, 194, 195, 196, 197, 198, 199, 200, 201, 202, 203, 204, 205, 206, 207, 208, 209, 210, 211, 212, 213, 214, 215, 216, 217, 218, 219, 220, 221, 222, 223, 224, 225, 226, 227, 228, 229, 230] rfl (by decide +kernel)
set_option maxRecDepth 20000 in
theorem gX13_operate_X13_onVector : GoodIn wsX13_operate (wsV RX13 217 RX13 yX13_onVector wsX13_onVector) := goodIn_app (goodIn_of _ (by decide +kernel)) ggX13_operate_X13_onVector
set_option maxRecDepth 20000 in
theorem ggX13_pack_X13_structureType : GoodIn wsX13_pack wsX13_structureType := goodIn_r _ [5, 6] rfl (by decide +kernel)
set_option maxRecDepth 20000 in
theorem gX13_pack_X13_structureType : GoodIn wsX13_pack (va_wsS RX13 151 yX13_structureType wsX13_structureType) := goodIn_app (goodIn_of _ (by decide +kernel)) ggX13_pack_X13_structureType
set_option maxRecDepth 20000 in
theorem ggX13_pack_X13_take_ : GoodIn wsX13_pack wsX13_take_ := goodIn_r _ [10, 11, 12, 13, 14, 15, 4, 16, 17, 18, 19, 20, 21, 22, 23, 24, 25, 26, 69, 70, 71, 72, 73, 74, 75, 76, 77, 78, 79, 80, 81, 82, 83, 84, 85, 86, 87, 88, 89, 90] rfl (by decide +kernel)
set_option maxRecDepth 20000 in
theorem gX13_pack_X13_take_ : GoodIn wsX13_pack (wsV RX13 133 RX13 yX13_take_ wsX13_take_) := goodIn_app (goodIn_of _ (by decide +kernel)) ggX13_pack_X13_take_
set_option maxRecDepth 20000 in
theorem ggX13_pack_X16_fieldsOf : GoodIn wsX13_pack wsX16_fieldsOf := goodIn_r _ [30, 31, 32, 33, 34, 28, 35, 36, 37, 91, 92, 93, 94, 95, 96, 97, 98, 99, 100, 101, 102, 103, 104, 105, 106, 107, 108] rfl (by decide +kernel)
set_option maxRecDepth 20000 in
theorem ggX13_pack_X16_field : GoodIn wsX13_pack wsX16_field := goodIn_r _ [41, 31, 42, 43, 44, 28, 45, 32, 33, 34, 35, 36, 37, 46, 47, 48, 49, 50, 91, 92, 93, 94, 95, 96, 97, 98, 99, 100, 101, 102, 103, 104, 105, 106, 107, 108] rfl (by decide +kernel)
set_option maxRecDepth 20000 in
theorem gX13_pack_X16_field : GoodIn wsX13_pack (wsV RX13 88 RX16 yX16_field wsX16_field) := goodIn_app (goodIn_of _ (by decide +kernel)) ggX13_pack_X16_field
set_option maxRecDepth 20000 in
theorem ggX13_pack_X13_give : GoodIn wsX13_pack wsX13_give := goodIn_r _ [54, 55, 56, 57, 4, 58, 11, 18, 17, 19, 21, 59, 60, 61, 62, 63, 64, 65, 66, 67, 68, 23, 24, 25, 26, 69, 70, 71, 72, 73, 74, 75, 76, 77, 78, 79, 80, 81, 82, 83, 84, 85, 86, 87, 88, 89, 90] rfl (by decide +kernel)
set_option maxRecDepth 20000 in
theorem gX13_pack_X13_give : GoodIn wsX13_pack (wsV RX13 159 RX13 yX13_give wsX13_give) := goodIn_app (goodIn_of _ (by decide +kernel)) ggX13_pack_X13_give
set_option maxRecDepth 20000 in
theorem ggX13_come_X13_meet : GoodIn wsX13_come wsX13_meet := goodIn_r _ [14, 4, 5, 15, 6, 7, 8, 9, 16, 17, 18, 13, 19, 20, 21, 22, 23, 24, 25, 26, 27, 28, 29, 30, 31, 32, 33, 34, 35, 36, 37, 38, 39, 40, 41, 42, 43, 44, 45, 46, 47, 48, 49, 50, 51, 52, 53, 54, 55, 1, 61, 62, 63, 64, 65, 66, 67, 68, 69, 70, 71, 72, 73, 74, 75, 76, 77, 78, 79, 80, 81, 82, 83, 84, 85, 86, 87, 88, 89, 90, 91, 92, 93, 94, 95, 96, 97, 98, 99, 100] rfl (by decide +kernel)
set_option maxRecDepth 20000 in
theorem gX13_come_X13_meet : GoodIn wsX13_come (wsV RX13 220 RX13 yX13_meet wsX13_meet) := goodIn_app (goodIn_of _ (by decide +kernel)) ggX13_come_X13_meet
set_option maxRecDepth 20000 in
theorem ggX13_come_X13_back : GoodIn wsX13_come wsX13_back := goodIn_r _ [59, 4, 5, 7, 6, 60, 9, 8, 15, 48, 49, 50, 13, 51, 52, 53, 54, 55, 1, 16, 17, 18, 19, 20, 21, 22, 23, 24, 25, 26, 27, 28, 29, 30, 31, 32, 33, 34, 35, 36, 37, 38, 39, 40, 41, 42, 43, 44, 45, 46, 47, 61, 62, 63, 64, 65, 66, 67, 68, 69, 70, 71, 72, 73, 74, 75, 76, 77, 78, 79, 80, 81, 82, 83, 84, 85, 86, 87, 88, 89, 90, 91, 92, 93, 94, 95, 96, 97, 98, 99, 100] rfl (by decide +kernel)
set_option maxRecDepth 20000 in
theorem gX13_come_X13_back : GoodIn wsX13_come (wsV RX13 223 RX13 yX13_back wsX13_back) := goodIn_app (goodIn_of _ (by decide +kernel)) ggX13_come_X13_back
set_option maxRecDepth 20000 in
theorem ggX13_meet_X13_has : GoodIn wsX13_meet wsX13_has := goodIn_r _ [12, 13, 14, 15, 11, 16, 17, 18, 19, 20, 21, 22, 23, 24, 25, 26, 27, 28, 29, 30, 31, 32, 33, 34, 35, 36, 37, 38, 39, 40, 50, 51, 52, 53, 54, 55, 56, 57, 58, 59, 60, 61, 62, 63, 64, 65, 66, 67, 68, 69, 70, 71, 72, 73, 74, 75, 76, 77, 78, 79, 80, 81, 82, 83, 84, 85, 86, 87, 88, 89] rfl (by decide +kernel)
set_option maxRecDepth 20000 in
theorem gX13_meet_X13_has : GoodIn wsX13_meet (wsV RX13 139 RX13 yX13_has wsX13_has) := goodIn_app (goodIn_of _ (by decide +kernel)) ggX13_meet_X13_has
set_option maxRecDepth 20000 in
theorem ggX13_meet_X13_need : GoodIn wsX13_meet wsX13_need := goodIn_r _ [44, 45, 46, 47, 11, 48, 49, 50, 51, 52, 53, 54, 55, 56, 57, 58, 59, 60, 61, 62, 63, 64, 65, 66, 67, 68, 69, 70, 71] rfl (by decide +kernel)
set_option maxRecDepth 20000 in
theorem gX13_meet_X13_need : GoodIn wsX13_meet (wsV RX13 117 RX13 yX13_need wsX13_need) := goodIn_app (goodIn_of _ (by decide +kernel)) ggX13_meet_X13_need
set_option maxRecDepth 20000 in
theorem ggX13_back_X13_need : GoodIn wsX13_back wsX13_need := goodIn_r _ [13, 14, 15, 16, 12, 17, 18, 51, 52, 53, 54, 55, 56, 57, 58, 59, 60, 61, 62, 63, 64, 65, 66, 67, 68, 69, 70, 71, 72] rfl (by decide +kernel)
set_option maxRecDepth 20000 in
theorem gX13_back_X13_need : GoodIn wsX13_back (wsV RX13 117 RX13 yX13_need wsX13_need) := goodIn_app (goodIn_of _ (by decide +kernel)) ggX13_back_X13_need
set_option maxRecDepth 20000 in
theorem ggX13_back_X13_has : GoodIn wsX13_back wsX13_has := goodIn_r _ [22, 23, 24, 25, 12, 26, 27, 28, 29, 30, 31, 32, 33, 34, 35, 36, 37, 38, 39, 40, 41, 42, 43, 44, 45, 46, 47, 48, 49, 50, 51, 52, 53, 54, 55, 56, 57, 58, 59, 60, 61, 62, 63, 64, 65, 66, 67, 68, 69, 70, 71, 72, 73, 74, 75, 76, 77, 78, 79, 80, 81, 82, 83, 84, 85, 86, 87, 88, 89, 90] rfl (by decide +kernel)
set_option maxRecDepth 20000 in
theorem gX13_back_X13_has : GoodIn wsX13_back (wsV RX13 139 RX13 yX13_has wsX13_has) := goodIn_app (goodIn_of _ (by decide +kernel)) ggX13_back_X13_has
set_option maxRecDepth 20000 in
theorem ggX13_begin_X16_instructions : GoodIn wsX13_begin wsX16_instructions := goodIn_r _ [17, 18, 106, 107, 108, 109, 110, 111, 112, 113, 114, 115, 116, 117, 118, 119, 120, 121, 122, 123] rfl (by decide +kernel)
