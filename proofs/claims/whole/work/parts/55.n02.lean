theorem dX3_enter_101 : decode cX3_enter 101 = .ok (.iload 8, 2) := by decide +kernel
theorem dX3_enter_103 : decode cX3_enter 103 = .ok (.aload_n 0, 1) := by decide +kernel
theorem dX3_enter_104 : decode cX3_enter 104 = .ok (.getfield 95, 3) := by decide +kernel
theorem dX3_enter_107 : decode cX3_enter 107 = .ok (.iload_n 2, 1) := by decide +kernel
theorem dX3_enter_108 : decode cX3_enter 108 = .ok (.iadd, 1) := by decide +kernel
theorem dX3_enter_109 : decode cX3_enter 109 = .ok (.if_icmp .ge 76, 3) := by decide +kernel
theorem dX3_enter_112 : decode cX3_enter 112 = .ok (.aload_n 0, 1) := by decide +kernel
theorem dX3_enter_113 : decode cX3_enter 113 = .ok (.getfield 11, 3) := by decide +kernel
theorem dX3_enter_116 : decode cX3_enter 116 = .ok (.iload 8, 2) := by decide +kernel
theorem dX3_enter_118 : decode cX3_enter 118 = .ok (.laload, 1) := by decide +kernel
theorem dX3_enter_119 : decode cX3_enter 119 = .ok (.invokestatic 204, 3) := by decide +kernel
theorem dX3_enter_122 : decode cX3_enter 122 = .ok (.ifCond .eq 45, 3) := by decide +kernel
theorem dX3_enter_125 : decode cX3_enter 125 = .ok (.aload_n 0, 1) := by decide +kernel
theorem dX3_enter_126 : decode cX3_enter 126 = .ok (.aload_n 0, 1) := by decide +kernel
theorem dX3_enter_127 : decode cX3_enter 127 = .ok (.getfield 15, 3) := by decide +kernel
theorem dX3_enter_130 : decode cX3_enter 130 = .ok (.iload 8, 2) := by decide +kernel
theorem dX3_enter_132 : decode cX3_enter 132 = .ok (.laload, 1) := by decide +kernel
theorem dX3_enter_133 : decode cX3_enter 133 = .ok (.invokevirtual 269, 3) := by decide +kernel
theorem dX3_enter_136 : decode cX3_enter 136 = .ok (.ifCond .eq 13, 3) := by decide +kernel
theorem dX3_enter_139 : decode cX3_enter 139 = .ok (.aload_n 0, 1) := by decide +kernel
theorem dX3_enter_140 : decode cX3_enter 140 = .ok (.iload 8, 2) := by decide +kernel
theorem dX3_enter_142 : decode cX3_enter 142 = .ok (.iload_n 2, 1) := by decide +kernel
theorem dX3_enter_143 : decode cX3_enter 143 = .ok (.invokevirtual 281, 3) := by decide +kernel
theorem dX3_enter_146 : decode cX3_enter 146 = .ok (.ifCond .eq 9, 3) := by decide +kernel
theorem dX3_enter_149 : decode cX3_enter 149 = .ok (.aload_n 0, 1) := by decide +kernel
theorem dX3_enter_150 : decode cX3_enter 150 = .ok (.bipush 6, 2) := by decide +kernel
theorem dX3_enter_152 : decode cX3_enter 152 = .ok (.invokevirtual 131, 3) := by decide +kernel
theorem dX3_enter_155 : decode cX3_enter 155 = .ok (.lload 6, 2) := by decide +kernel
theorem dX3_enter_157 : decode cX3_enter 157 = .ok (.aload_n 0, 1) := by decide +kernel
theorem dX3_enter_158 : decode cX3_enter 158 = .ok (.getfield 15, 3) := by decide +kernel
theorem dX3_enter_161 : decode cX3_enter 161 = .ok (.iload 8, 2) := by decide +kernel
theorem dX3_enter_163 : decode cX3_enter 163 = .ok (.laload, 1) := by decide +kernel
theorem dX3_enter_164 : decode cX3_enter 164 = .ok (.lor, 1) := by decide +kernel
theorem dX3_enter_165 : decode cX3_enter 165 = .ok (.lstore 6, 2) := by decide +kernel
theorem dX3_enter_167 : decode cX3_enter 167 = .ok (.lload 4, 2) := by decide +kernel
theorem dX3_enter_169 : decode cX3_enter 169 = .ok (.aload_n 0, 1) := by decide +kernel
theorem dX3_enter_170 : decode cX3_enter 170 = .ok (.getfield 15, 3) := by decide +kernel
theorem dX3_enter_173 : decode cX3_enter 173 = .ok (.iload 8, 2) := by decide +kernel
theorem dX3_enter_175 : decode cX3_enter 175 = .ok (.laload, 1) := by decide +kernel
theorem dX3_enter_176 : decode cX3_enter 176 = .ok (.lor, 1) := by decide +kernel
theorem dX3_enter_177 : decode cX3_enter 177 = .ok (.lstore 4, 2) := by decide +kernel
theorem dX3_enter_179 : decode cX3_enter 179 = .ok (.iinc 8 1, 3) := by decide +kernel
theorem dX3_enter_182 : decode cX3_enter 182 = .ok (.goto (-81), 3) := by decide +kernel
theorem dX3_enter_185 : decode cX3_enter 185 = .ok (.iload_n 3, 1) := by decide +kernel
theorem dX3_enter_186 : decode cX3_enter 186 = .ok (.ifCond .eq 31, 3) := by decide +kernel
theorem dX3_enter_189 : decode cX3_enter 189 = .ok (.lload 4, 2) := by decide +kernel
theorem dX3_enter_191 : decode cX3_enter 191 = .ok (.ldc2_w 285, 3) := by decide +kernel
theorem dX3_enter_194 : decode cX3_enter 194 = .ok (.land, 1) := by decide +kernel
theorem dX3_enter_195 : decode cX3_enter 195 = .ok (.lconst 0, 1) := by decide +kernel
theorem dX3_enter_196 : decode cX3_enter 196 = .ok (.lcmp, 1) := by decide +kernel
theorem dX3_enter_197 : decode cX3_enter 197 = .ok (.ifCond .ne 14, 3) := by decide +kernel
theorem dX3_enter_200 : decode cX3_enter 200 = .ok (.aload_n 0, 1) := by decide +kernel
theorem dX3_enter_201 : decode cX3_enter 201 = .ok (.ldc2_w 285, 3) := by decide +kernel
theorem dX3_enter_204 : decode cX3_enter 204 = .ok (.iconst 0, 1) := by decide +kernel
theorem dX3_enter_205 : decode cX3_enter 205 = .ok (.invokevirtual 242, 3) := by decide +kernel
theorem dX3_enter_208 : decode cX3_enter 208 = .ok (.ifCond .eq 9, 3) := by decide +kernel
theorem dX3_enter_211 : decode cX3_enter 211 = .ok (.aload_n 0, 1) := by decide +kernel
theorem dX3_enter_212 : decode cX3_enter 212 = .ok (.bipush 6, 2) := by decide +kernel
theorem dX3_enter_214 : decode cX3_enter 214 = .ok (.invokevirtual 131, 3) := by decide +kernel
theorem dX3_enter_217 : decode cX3_enter 217 = .ok (.iconst 0, 1) := by decide +kernel
theorem dX3_enter_218 : decode cX3_enter 218 = .ok (.istore 8, 2) := by decide +kernel
theorem dX3_enter_220 : decode cX3_enter 220 = .ok (.iload 8, 2) := by decide +kernel
theorem dX3_enter_222 : decode cX3_enter 222 = .ok (.aload_n 0, 1) := by decide +kernel
theorem dX3_enter_223 : decode cX3_enter 223 = .ok (.getfield 44, 3) := by decide +kernel
theorem dX3_enter_226 : decode cX3_enter 226 = .ok (.iload_n 1, 1) := by decide +kernel
theorem dX3_enter_227 : decode cX3_enter 227 = .ok (.invokevirtual 225, 3) := by decide +kernel
theorem dX3_enter_230 : decode cX3_enter 230 = .ok (.if_icmp .ge 60, 3) := by decide +kernel
theorem dX3_enter_233 : decode cX3_enter 233 = .ok (.aload_n 0, 1) := by decide +kernel
theorem dX3_enter_234 : decode cX3_enter 234 = .ok (.getfield 44, 3) := by decide +kernel
theorem dX3_enter_237 : decode cX3_enter 237 = .ok (.iload_n 1, 1) := by decide +kernel
theorem dX3_enter_238 : decode cX3_enter 238 = .ok (.iload 8, 2) := by decide +kernel
theorem dX3_enter_240 : decode cX3_enter 240 = .ok (.invokevirtual 228, 3) := by decide +kernel
theorem dX3_enter_243 : decode cX3_enter 243 = .ok (.lstore 9, 2) := by decide +kernel
theorem dX3_enter_245 : decode cX3_enter 245 = .ok (.lload 9, 2) := by decide +kernel
theorem dX3_enter_247 : decode cX3_enter 247 = .ok (.invokestatic 116, 3) := by decide +kernel
theorem dX3_enter_250 : decode cX3_enter 250 = .ok (.istore 11, 2) := by decide +kernel
theorem dX3_enter_252 : decode cX3_enter 252 = .ok (.aload_n 0, 1) := by decide +kernel
theorem dX3_enter_253 : decode cX3_enter 253 = .ok (.lload 9, 2) := by decide +kernel
theorem dX3_enter_255 : decode cX3_enter 255 = .ok (.iload 11, 2) := by decide +kernel
theorem dX3_enter_257 : decode cX3_enter 257 = .ok (.ifCond .ne 7, 3) := by decide +kernel
theorem dX3_enter_260 : decode cX3_enter 260 = .ok (.lconst 0, 1) := by decide +kernel
theorem dX3_enter_261 : decode cX3_enter 261 = .ok (.goto 18, 3) := by decide +kernel
theorem dX3_enter_264 : decode cX3_enter 264 = .ok (.lload 9, 2) := by decide +kernel
theorem dX3_enter_266 : decode cX3_enter 266 = .ok (.invokestatic 204, 3) := by decide +kernel
theorem dX3_enter_269 : decode cX3_enter 269 = .ok (.ifCond .eq 8, 3) := by decide +kernel
theorem dX3_enter_272 : decode cX3_enter 272 = .ok (.lload 6, 2) := by decide +kernel
theorem dX3_enter_274 : decode cX3_enter 274 = .ok (.goto 5, 3) := by decide +kernel
theorem dX3_enter_277 : decode cX3_enter 277 = .ok (.lload 4, 2) := by decide +kernel
theorem dX3_enter_279 : decode cX3_enter 279 = .ok (.iload 11, 2) := by decide +kernel
theorem dX3_enter_281 : decode cX3_enter 281 = .ok (.invokevirtual 211, 3) := by decide +kernel
theorem dX3_enter_284 : decode cX3_enter 284 = .ok (.iinc 8 1, 3) := by decide +kernel
theorem dX3_enter_287 : decode cX3_enter 287 = .ok (.goto (-67), 3) := by decide +kernel
theorem dX3_enter_290 : decode cX3_enter 290 = .ok (.return_, 1) := by decide +kernel
theorem dX3_meetsOther_0 : decode cX3_meetsOther 0 = .ok (.aload_n 0, 1) := by decide +kernel
theorem dX3_meetsOther_1 : decode cX3_meetsOther 1 = .ok (.getfield 95, 3) := by decide +kernel
theorem dX3_meetsOther_4 : decode cX3_meetsOther 4 = .ok (.istore_n 3, 1) := by decide +kernel
theorem dX3_meetsOther_5 : decode cX3_meetsOther 5 = .ok (.iload_n 3, 1) := by decide +kernel
theorem dX3_meetsOther_6 : decode cX3_meetsOther 6 = .ok (.aload_n 0, 1) := by decide +kernel
theorem dX3_meetsOther_7 : decode cX3_meetsOther 7 = .ok (.getfield 95, 3) := by decide +kernel
theorem dX3_meetsOther_10 : decode cX3_meetsOther 10 = .ok (.iload_n 2, 1) := by decide +kernel
theorem dX3_meetsOther_11 : decode cX3_meetsOther 11 = .ok (.iadd, 1) := by decide +kernel
theorem dX3_meetsOther_12 : decode cX3_meetsOther 12 = .ok (.if_icmp .ge 34, 3) := by decide +kernel
theorem dX3_meetsOther_15 : decode cX3_meetsOther 15 = .ok (.iload_n 3, 1) := by decide +kernel
theorem dX3_meetsOther_16 : decode cX3_meetsOther 16 = .ok (.iload_n 1, 1) := by decide +kernel
theorem dX3_meetsOther_17 : decode cX3_meetsOther 17 = .ok (.if_icmp .eq 23, 3) := by decide +kernel
theorem dX3_meetsOther_20 : decode cX3_meetsOther 20 = .ok (.aload_n 0, 1) := by decide +kernel
theorem dX3_meetsOther_21 : decode cX3_meetsOther 21 = .ok (.getfield 15, 3) := by decide +kernel
theorem dX3_meetsOther_24 : decode cX3_meetsOther 24 = .ok (.iload_n 3, 1) := by decide +kernel
theorem dX3_meetsOther_25 : decode cX3_meetsOther 25 = .ok (.laload, 1) := by decide +kernel
theorem dX3_meetsOther_26 : decode cX3_meetsOther 26 = .ok (.aload_n 0, 1) := by decide +kernel
theorem dX3_meetsOther_27 : decode cX3_meetsOther 27 = .ok (.getfield 15, 3) := by decide +kernel
theorem dX3_meetsOther_30 : decode cX3_meetsOther 30 = .ok (.iload_n 1, 1) := by decide +kernel
theorem dX3_meetsOther_31 : decode cX3_meetsOther 31 = .ok (.laload, 1) := by decide +kernel
theorem dX3_meetsOther_32 : decode cX3_meetsOther 32 = .ok (.land, 1) := by decide +kernel
theorem dX3_meetsOther_33 : decode cX3_meetsOther 33 = .ok (.lconst 0, 1) := by decide +kernel
theorem dX3_meetsOther_34 : decode cX3_meetsOther 34 = .ok (.lcmp, 1) := by decide +kernel
theorem dX3_meetsOther_35 : decode cX3_meetsOther 35 = .ok (.ifCond .eq 5, 3) := by decide +kernel
theorem dX3_meetsOther_38 : decode cX3_meetsOther 38 = .ok (.iconst 1, 1) := by decide +kernel
theorem dX3_meetsOther_39 : decode cX3_meetsOther 39 = .ok (.ireturn, 1) := by decide +kernel
theorem dX3_meetsOther_40 : decode cX3_meetsOther 40 = .ok (.iinc 3 1, 3) := by decide +kernel
theorem dX3_meetsOther_43 : decode cX3_meetsOther 43 = .ok (.goto (-38), 3) := by decide +kernel
theorem dX3_meetsOther_46 : decode cX3_meetsOther 46 = .ok (.iconst 0, 1) := by decide +kernel
theorem dX3_meetsOther_47 : decode cX3_meetsOther 47 = .ok (.ireturn, 1) := by decide +kernel
theorem dX3_reckon_0 : decode cX3_reckon 0 = .ok (.iload_n 1, 1) := by decide +kernel
theorem dX3_reckon_1 : decode cX3_reckon 1 = .ok (.bipush 32, 2) := by decide +kernel
theorem dX3_reckon_3 : decode cX3_reckon 3 = .ok (.if_icmp .eq 9, 3) := by decide +kernel
theorem dX3_reckon_6 : decode cX3_reckon 6 = .ok (.iload_n 1, 1) := by decide +kernel
theorem dX3_reckon_7 : decode cX3_reckon 7 = .ok (.bipush 33, 2) := by decide +kernel
theorem dX3_reckon_9 : decode cX3_reckon 9 = .ok (.if_icmp .ne 10, 3) := by decide +kernel
theorem dX3_reckon_12 : decode cX3_reckon 12 = .ok (.aload_n 0, 1) := by decide +kernel
theorem dX3_reckon_13 : decode cX3_reckon 13 = .ok (.ldc2_w 190, 3) := by decide +kernel
theorem dX3_reckon_16 : decode cX3_reckon 16 = .ok (.invokevirtual 221, 3) := by decide +kernel
theorem dX3_reckon_19 : decode cX3_reckon 19 = .ok (.aload_n 0, 1) := by decide +kernel
theorem dX3_reckon_20 : decode cX3_reckon 20 = .ok (.invokevirtual 200, 3) := by decide +kernel
theorem dX3_reckon_23 : decode cX3_reckon 23 = .ok (.lstore_n 2, 1) := by decide +kernel
theorem dX3_reckon_24 : decode cX3_reckon 24 = .ok (.lload_n 2, 1) := by decide +kernel
theorem dX3_reckon_25 : decode cX3_reckon 25 = .ok (.invokestatic 287, 3) := by decide +kernel
theorem dX3_reckon_28 : decode cX3_reckon 28 = .ok (.istore 4, 2) := by decide +kernel
theorem dX3_reckon_30 : decode cX3_reckon 30 = .ok (.iload_n 1, 1) := by decide +kernel
theorem dX3_reckon_31 : decode cX3_reckon 31 = .ok (.bipush 29, 2) := by decide +kernel
theorem dX3_reckon_33 : decode cX3_reckon 33 = .ok (.if_icmp .lt 30, 3) := by decide +kernel
theorem dX3_reckon_36 : decode cX3_reckon 36 = .ok (.iload_n 1, 1) := by decide +kernel
theorem dX3_reckon_37 : decode cX3_reckon 37 = .ok (.bipush 31, 2) := by decide +kernel
theorem dX3_reckon_39 : decode cX3_reckon 39 = .ok (.if_icmp .gt 24, 3) := by decide +kernel
theorem dX3_reckon_42 : decode cX3_reckon 42 = .ok (.iload 4, 2) := by decide +kernel
theorem dX3_reckon_44 : decode cX3_reckon 44 = .ok (.ifCond .ne 9, 3) := by decide +kernel
theorem dX3_reckon_47 : decode cX3_reckon 47 = .ok (.lload_n 2, 1) := by decide +kernel
theorem dX3_reckon_48 : decode cX3_reckon 48 = .ok (.lconst 1, 1) := by decide +kernel
theorem dX3_reckon_49 : decode cX3_reckon 49 = .ok (.lcmp, 1) := by decide +kernel
theorem dX3_reckon_50 : decode cX3_reckon 50 = .ok (.ifCond .ne 7, 3) := by decide +kernel
theorem dX3_reckon_53 : decode cX3_reckon 53 = .ok (.iconst 1, 1) := by decide +kernel
theorem dX3_reckon_54 : decode cX3_reckon 54 = .ok (.goto 4, 3) := by decide +kernel
theorem dX3_reckon_57 : decode cX3_reckon 57 = .ok (.iconst 0, 1) := by decide +kernel
theorem dX3_reckon_58 : decode cX3_reckon 58 = .ok (.istore 4, 2) := by decide +kernel
theorem dX3_reckon_60 : decode cX3_reckon 60 = .ok (.goto 51, 3) := by decide +kernel
theorem dX3_reckon_63 : decode cX3_reckon 63 = .ok (.iload_n 1, 1) := by decide +kernel
theorem dX3_reckon_64 : decode cX3_reckon 64 = .ok (.bipush 34, 2) := by decide +kernel
theorem dX3_reckon_66 : decode cX3_reckon 66 = .ok (.if_icmp .ne 19, 3) := by decide +kernel
theorem dX3_reckon_69 : decode cX3_reckon 69 = .ok (.lload_n 2, 1) := by decide +kernel
theorem dX3_reckon_70 : decode cX3_reckon 70 = .ok (.lconst 1, 1) := by decide +kernel
theorem dX3_reckon_71 : decode cX3_reckon 71 = .ok (.lcmp, 1) := by decide +kernel
theorem dX3_reckon_72 : decode cX3_reckon 72 = .ok (.ifCond .ne 7, 3) := by decide +kernel
theorem dX3_reckon_75 : decode cX3_reckon 75 = .ok (.iconst 1, 1) := by decide +kernel
theorem dX3_reckon_76 : decode cX3_reckon 76 = .ok (.goto 4, 3) := by decide +kernel
theorem dX3_reckon_79 : decode cX3_reckon 79 = .ok (.iconst 0, 1) := by decide +kernel
theorem dX3_reckon_80 : decode cX3_reckon 80 = .ok (.istore 4, 2) := by decide +kernel
theorem dX3_reckon_82 : decode cX3_reckon 82 = .ok (.goto 29, 3) := by decide +kernel
theorem dX3_reckon_85 : decode cX3_reckon 85 = .ok (.iload_n 1, 1) := by decide +kernel
theorem dX3_reckon_86 : decode cX3_reckon 86 = .ok (.bipush 36, 2) := by decide +kernel
theorem dX3_reckon_88 : decode cX3_reckon 88 = .ok (.if_icmp .eq 9, 3) := by decide +kernel
theorem dX3_reckon_91 : decode cX3_reckon 91 = .ok (.iload_n 1, 1) := by decide +kernel
theorem dX3_reckon_92 : decode cX3_reckon 92 = .ok (.bipush 37, 2) := by decide +kernel
theorem dX3_reckon_94 : decode cX3_reckon 94 = .ok (.if_icmp .ne 17, 3) := by decide +kernel
theorem dX3_reckon_97 : decode cX3_reckon 97 = .ok (.lload_n 2, 1) := by decide +kernel
theorem dX3_reckon_98 : decode cX3_reckon 98 = .ok (.invokestatic 116, 3) := by decide +kernel
theorem dX3_reckon_101 : decode cX3_reckon 101 = .ok (.ifCond .ne 7, 3) := by decide +kernel
theorem dX3_reckon_104 : decode cX3_reckon 104 = .ok (.iconst 1, 1) := by decide +kernel
theorem dX3_reckon_105 : decode cX3_reckon 105 = .ok (.goto 4, 3) := by decide +kernel
theorem dX3_reckon_108 : decode cX3_reckon 108 = .ok (.iconst 0, 1) := by decide +kernel
theorem dX3_reckon_109 : decode cX3_reckon 109 = .ok (.istore 4, 2) := by decide +kernel
theorem dX3_reckon_111 : decode cX3_reckon 111 = .ok (.iload 4, 2) := by decide +kernel
theorem dX3_reckon_113 : decode cX3_reckon 113 = .ok (.ifCond .ne 8, 3) := by decide +kernel
theorem dX3_reckon_116 : decode cX3_reckon 116 = .ok (.aload_n 0, 1) := by decide +kernel
theorem dX3_reckon_117 : decode cX3_reckon 117 = .ok (.iconst 3, 1) := by decide +kernel
theorem dX3_reckon_118 : decode cX3_reckon 118 = .ok (.invokevirtual 131, 3) := by decide +kernel
theorem dX3_reckon_121 : decode cX3_reckon 121 = .ok (.iload_n 1, 1) := by decide +kernel
theorem dX3_reckon_122 : decode cX3_reckon 122 = .ok (.bipush 31, 2) := by decide +kernel
theorem dX3_reckon_124 : decode cX3_reckon 124 = .ok (.if_icmp .le 15, 3) := by decide +kernel
theorem dX3_reckon_127 : decode cX3_reckon 127 = .ok (.iload_n 1, 1) := by decide +kernel
theorem dX3_reckon_128 : decode cX3_reckon 128 = .ok (.bipush 36, 2) := by decide +kernel
theorem dX3_reckon_130 : decode cX3_reckon 130 = .ok (.if_icmp .lt 14, 3) := by decide +kernel
theorem dX3_reckon_133 : decode cX3_reckon 133 = .ok (.iload_n 1, 1) := by decide +kernel
theorem dX3_reckon_134 : decode cX3_reckon 134 = .ok (.bipush 41, 2) := by decide +kernel
theorem dX3_reckon_136 : decode cX3_reckon 136 = .ok (.if_icmp .gt 8, 3) := by decide +kernel
theorem dX3_reckon_139 : decode cX3_reckon 139 = .ok (.aload_n 0, 1) := by decide +kernel
theorem dX3_reckon_140 : decode cX3_reckon 140 = .ok (.lload_n 2, 1) := by decide +kernel
theorem dX3_reckon_141 : decode cX3_reckon 141 = .ok (.invokevirtual 221, 3) := by decide +kernel
theorem dX3_reckon_144 : decode cX3_reckon 144 = .ok (.iload_n 1, 1) := by decide +kernel
theorem dX3_reckon_145 : decode cX3_reckon 145 = .ok (.bipush 36, 2) := by decide +kernel
theorem dX3_reckon_147 : decode cX3_reckon 147 = .ok (.if_icmp .eq 9, 3) := by decide +kernel
theorem dX3_reckon_150 : decode cX3_reckon 150 = .ok (.iload_n 1, 1) := by decide +kernel
theorem dX3_reckon_151 : decode cX3_reckon 151 = .ok (.bipush 37, 2) := by decide +kernel
theorem dX3_reckon_153 : decode cX3_reckon 153 = .ok (.if_icmp .ne 17, 3) := by decide +kernel
theorem dX3_reckon_156 : decode cX3_reckon 156 = .ok (.aload_n 0, 1) := by decide +kernel
theorem dX3_reckon_157 : decode cX3_reckon 157 = .ok (.lload_n 2, 1) := by decide +kernel
theorem dX3_reckon_158 : decode cX3_reckon 158 = .ok (.iconst 2, 1) := by decide +kernel
theorem dX3_reckon_159 : decode cX3_reckon 159 = .ok (.invokevirtual 215, 3) := by decide +kernel
theorem dX3_reckon_162 : decode cX3_reckon 162 = .ok (.ifCond .ne 8, 3) := by decide +kernel
theorem dX3_reckon_165 : decode cX3_reckon 165 = .ok (.aload_n 0, 1) := by decide +kernel
theorem dX3_reckon_166 : decode cX3_reckon 166 = .ok (.iconst 4, 1) := by decide +kernel
theorem dX3_reckon_167 : decode cX3_reckon 167 = .ok (.invokevirtual 131, 3) := by decide +kernel
theorem dX3_reckon_170 : decode cX3_reckon 170 = .ok (.iload_n 1, 1) := by decide +kernel
theorem dX3_reckon_171 : decode cX3_reckon 171 = .ok (.bipush 42, 2) := by decide +kernel
theorem dX3_reckon_173 : decode cX3_reckon 173 = .ok (.if_icmp .lt 15, 3) := by decide +kernel
theorem dX3_reckon_176 : decode cX3_reckon 176 = .ok (.aload_n 0, 1) := by decide +kernel
theorem dX3_reckon_177 : decode cX3_reckon 177 = .ok (.iload_n 1, 1) := by decide +kernel
theorem dX3_reckon_178 : decode cX3_reckon 178 = .ok (.bipush 40, 2) := by decide +kernel
theorem dX3_reckon_180 : decode cX3_reckon 180 = .ok (.isub, 1) := by decide +kernel
theorem dX3_reckon_181 : decode cX3_reckon 181 = .ok (.i2l, 1) := by decide +kernel
theorem dX3_reckon_182 : decode cX3_reckon 182 = .ok (.invokevirtual 233, 3) := by decide +kernel
theorem dX3_reckon_185 : decode cX3_reckon 185 = .ok (.goto 18, 3) := by decide +kernel
theorem dX3_reckon_188 : decode cX3_reckon 188 = .ok (.aload_n 0, 1) := by decide +kernel
theorem dX3_reckon_189 : decode cX3_reckon 189 = .ok (.iload_n 1, 1) := by decide +kernel
theorem dX3_reckon_190 : decode cX3_reckon 190 = .ok (.bipush 33, 2) := by decide +kernel
theorem dX3_reckon_192 : decode cX3_reckon 192 = .ok (.if_icmp .gt 7, 3) := by decide +kernel
theorem dX3_reckon_195 : decode cX3_reckon 195 = .ok (.lload_n 2, 1) := by decide +kernel
theorem dX3_reckon_196 : decode cX3_reckon 196 = .ok (.goto 4, 3) := by decide +kernel
theorem dX3_reckon_199 : decode cX3_reckon 199 = .ok (.lconst 1, 1) := by decide +kernel
theorem dX3_reckon_200 : decode cX3_reckon 200 = .ok (.invokevirtual 233, 3) := by decide +kernel
theorem dX3_reckon_203 : decode cX3_reckon 203 = .ok (.return_, 1) := by decide +kernel
theorem dX3_keep_0 : decode cX3_keep 0 = .ok (.iload_n 2, 1) := by decide +kernel
theorem dX3_keep_1 : decode cX3_keep 1 = .ok (.invokestatic 254, 3) := by decide +kernel
theorem dX3_keep_4 : decode cX3_keep 4 = .ok (.lstore_n 3, 1) := by decide +kernel
theorem dX3_keep_5 : decode cX3_keep 5 = .ok (.lconst 1, 1) := by decide +kernel
theorem dX3_keep_6 : decode cX3_keep 6 = .ok (.bipush 48, 2) := by decide +kernel
theorem dX3_keep_8 : decode cX3_keep 8 = .ok (.iload_n 2, 1) := by decide +kernel
theorem dX3_keep_9 : decode cX3_keep 9 = .ok (.bipush 15, 2) := by decide +kernel
theorem dX3_keep_11 : decode cX3_keep 11 = .ok (.irem, 1) := by decide +kernel
theorem dX3_keep_12 : decode cX3_keep 12 = .ok (.iadd, 1) := by decide +kernel
theorem dX3_keep_13 : decode cX3_keep 13 = .ok (.lshl, 1) := by decide +kernel
theorem dX3_keep_14 : decode cX3_keep 14 = .ok (.lstore 5, 2) := by decide +kernel
theorem dX3_keep_16 : decode cX3_keep 16 = .ok (.aload_n 0, 1) := by decide +kernel
theorem dX3_keep_17 : decode cX3_keep 17 = .ok (.iload_n 1, 1) := by decide +kernel
theorem dX3_keep_18 : decode cX3_keep 18 = .ok (.bipush 47, 2) := by decide +kernel
theorem dX3_keep_20 : decode cX3_keep 20 = .ok (.if_icmp .ne 7, 3) := by decide +kernel
theorem dX3_keep_23 : decode cX3_keep 23 = .ok (.lload_n 3, 1) := by decide +kernel
theorem dX3_keep_24 : decode cX3_keep 24 = .ok (.goto 6, 3) := by decide +kernel
theorem dX3_keep_27 : decode cX3_keep 27 = .ok (.ldc2_w 236, 3) := by decide +kernel
theorem dX3_keep_30 : decode cX3_keep 30 = .ok (.invokevirtual 221, 3) := by decide +kernel
theorem dX3_keep_33 : decode cX3_keep 33 = .ok (.aload_n 0, 1) := by decide +kernel
theorem dX3_keep_34 : decode cX3_keep 34 = .ok (.getfield 44, 3) := by decide +kernel
theorem dX3_keep_37 : decode cX3_keep 37 = .ok (.aload_n 0, 1) := by decide +kernel
theorem dX3_keep_38 : decode cX3_keep 38 = .ok (.getfield 77, 3) := by decide +kernel
theorem dX3_keep_41 : decode cX3_keep 41 = .ok (.invokevirtual 278, 3) := by decide +kernel
theorem dX3_keep_44 : decode cX3_keep 44 = .ok (.iconst 4, 1) := by decide +kernel
theorem dX3_keep_45 : decode cX3_keep 45 = .ok (.iand, 1) := by decide +kernel
theorem dX3_keep_46 : decode cX3_keep 46 = .ok (.ifCond .ne 9, 3) := by decide +kernel
theorem dX3_keep_49 : decode cX3_keep 49 = .ok (.aload_n 0, 1) := by decide +kernel
theorem dX3_keep_50 : decode cX3_keep 50 = .ok (.bipush 15, 2) := by decide +kernel
theorem dX3_keep_52 : decode cX3_keep 52 = .ok (.invokevirtual 131, 3) := by decide +kernel
theorem dX3_keep_55 : decode cX3_keep 55 = .ok (.aload_n 0, 1) := by decide +kernel
theorem dX3_keep_56 : decode cX3_keep 56 = .ok (.lload_n 3, 1) := by decide +kernel
theorem dX3_keep_57 : decode cX3_keep 57 = .ok (.bipush 8, 2) := by decide +kernel
theorem dX3_keep_59 : decode cX3_keep 59 = .ok (.invokevirtual 215, 3) := by decide +kernel
theorem dX3_keep_62 : decode cX3_keep 62 = .ok (.ifCond .ne 8, 3) := by decide +kernel
theorem dX3_keep_65 : decode cX3_keep 65 = .ok (.aload_n 0, 1) := by decide +kernel
theorem dX3_keep_66 : decode cX3_keep 66 = .ok (.iconst 4, 1) := by decide +kernel
theorem dX3_keep_67 : decode cX3_keep 67 = .ok (.invokevirtual 131, 3) := by decide +kernel
theorem dX3_keep_70 : decode cX3_keep 70 = .ok (.iload_n 1, 1) := by decide +kernel
theorem dX3_keep_71 : decode cX3_keep 71 = .ok (.bipush 48, 2) := by decide +kernel
theorem dX3_keep_73 : decode cX3_keep 73 = .ok (.if_icmp .eq 9, 3) := by decide +kernel
theorem dX3_keep_76 : decode cX3_keep 76 = .ok (.iload_n 1, 1) := by decide +kernel
theorem dX3_keep_77 : decode cX3_keep 77 = .ok (.bipush 50, 2) := by decide +kernel
theorem dX3_keep_79 : decode cX3_keep 79 = .ok (.if_icmp .lt 29, 3) := by decide +kernel
theorem dX3_keep_82 : decode cX3_keep 82 = .ok (.aload_n 0, 1) := by decide +kernel
theorem dX3_keep_83 : decode cX3_keep 83 = .ok (.lload 5, 2) := by decide +kernel
theorem dX3_keep_85 : decode cX3_keep 85 = .ok (.iload_n 1, 1) := by decide +kernel
theorem dX3_keep_86 : decode cX3_keep 86 = .ok (.bipush 50, 2) := by decide +kernel
theorem dX3_keep_88 : decode cX3_keep 88 = .ok (.if_icmp .ne 7, 3) := by decide +kernel
theorem dX3_keep_91 : decode cX3_keep 91 = .ok (.iconst 1, 1) := by decide +kernel
theorem dX3_keep_92 : decode cX3_keep 92 = .ok (.goto 4, 3) := by decide +kernel
theorem dX3_keep_95 : decode cX3_keep 95 = .ok (.iconst 0, 1) := by decide +kernel
theorem dX3_keep_96 : decode cX3_keep 96 = .ok (.invokevirtual 242, 3) := by decide +kernel
theorem dX3_keep_99 : decode cX3_keep 99 = .ok (.ifCond .eq 9, 3) := by decide +kernel
theorem dX3_keep_102 : decode cX3_keep 102 = .ok (.aload_n 0, 1) := by decide +kernel
theorem dX3_keep_103 : decode cX3_keep 103 = .ok (.bipush 6, 2) := by decide +kernel
theorem dX3_keep_105 : decode cX3_keep 105 = .ok (.invokevirtual 131, 3) := by decide +kernel
theorem dX3_keep_108 : decode cX3_keep 108 = .ok (.iload_n 1, 1) := by decide +kernel
theorem dX3_keep_109 : decode cX3_keep 109 = .ok (.bipush 48, 2) := by decide +kernel
theorem dX3_keep_111 : decode cX3_keep 111 = .ok (.if_icmp .ne 11, 3) := by decide +kernel
theorem dX3_keep_114 : decode cX3_keep 114 = .ok (.aload_n 0, 1) := by decide +kernel
theorem dX3_keep_115 : decode cX3_keep 115 = .ok (.lload_n 3, 1) := by decide +kernel
theorem dX3_keep_116 : decode cX3_keep 116 = .ok (.invokevirtual 233, 3) := by decide +kernel
theorem dX3_keep_119 : decode cX3_keep 119 = .ok (.goto 47, 3) := by decide +kernel
theorem dX3_keep_122 : decode cX3_keep 122 = .ok (.iload_n 1, 1) := by decide +kernel
theorem dX3_keep_123 : decode cX3_keep 123 = .ok (.bipush 49, 2) := by decide +kernel
theorem dX3_keep_125 : decode cX3_keep 125 = .ok (.if_icmp .ne 11, 3) := by decide +kernel
theorem dX3_keep_128 : decode cX3_keep 128 = .ok (.aload_n 0, 1) := by decide +kernel
theorem dX3_keep_129 : decode cX3_keep 129 = .ok (.lconst 1, 1) := by decide +kernel
theorem dX3_keep_130 : decode cX3_keep 130 = .ok (.invokevirtual 233, 3) := by decide +kernel
theorem dX3_keep_133 : decode cX3_keep 133 = .ok (.goto 33, 3) := by decide +kernel
theorem dX3_keep_136 : decode cX3_keep 136 = .ok (.iload_n 1, 1) := by decide +kernel
theorem dX3_keep_137 : decode cX3_keep 137 = .ok (.bipush 50, 2) := by decide +kernel
theorem dX3_keep_139 : decode cX3_keep 139 = .ok (.if_icmp .lt 27, 3) := by decide +kernel
theorem dX3_keep_142 : decode cX3_keep 142 = .ok (.aload_n 0, 1) := by decide +kernel
theorem dX3_keep_143 : decode cX3_keep 143 = .ok (.iload_n 1, 1) := by decide +kernel
theorem dX3_keep_144 : decode cX3_keep 144 = .ok (.bipush 51, 2) := by decide +kernel
theorem dX3_keep_146 : decode cX3_keep 146 = .ok (.if_icmp .ne 8, 3) := by decide +kernel
theorem dX3_keep_149 : decode cX3_keep 149 = .ok (.bipush 9, 2) := by decide +kernel
theorem dX3_keep_151 : decode cX3_keep 151 = .ok (.goto 5, 3) := by decide +kernel
theorem dX3_keep_154 : decode cX3_keep 154 = .ok (.bipush 8, 2) := by decide +kernel
theorem dX3_keep_156 : decode cX3_keep 156 = .ok (.lload_n 3, 1) := by decide +kernel
theorem dX3_keep_157 : decode cX3_keep 157 = .ok (.invokestatic 250, 3) := by decide +kernel
theorem dX3_keep_160 : decode cX3_keep 160 = .ok (.lload 5, 2) := by decide +kernel
theorem dX3_keep_162 : decode cX3_keep 162 = .ok (.iconst 0, 1) := by decide +kernel
theorem dX3_keep_163 : decode cX3_keep 163 = .ok (.invokevirtual 211, 3) := by decide +kernel
theorem dX3_keep_166 : decode cX3_keep 166 = .ok (.return_, 1) := by decide +kernel
theorem dX3_lineUp_0 : decode cX3_lineUp 0 = .ok (.aload_n 0, 1) := by decide +kernel
theorem dX3_lineUp_1 : decode cX3_lineUp 1 = .ok (.getfield 44, 3) := by decide +kernel
theorem dX3_lineUp_4 : decode cX3_lineUp 4 = .ok (.iload_n 2, 1) := by decide +kernel
theorem dX3_lineUp_5 : decode cX3_lineUp 5 = .ok (.invokevirtual 290, 3) := by decide +kernel
theorem dX3_lineUp_8 : decode cX3_lineUp 8 = .ok (.lstore 4, 2) := by decide +kernel
theorem dX3_lineUp_10 : decode cX3_lineUp 10 = .ok (.bipush 7, 2) := by decide +kernel
theorem dX3_lineUp_12 : decode cX3_lineUp 12 = .ok (.lload 4, 2) := by decide +kernel
theorem dX3_lineUp_14 : decode cX3_lineUp 14 = .ok (.invokestatic 250, 3) := by decide +kernel
theorem dX3_lineUp_17 : decode cX3_lineUp 17 = .ok (.lstore 6, 2) := by decide +kernel
theorem dX3_lineUp_19 : decode cX3_lineUp 19 = .ok (.iload_n 1, 1) := by decide +kernel
theorem dX3_lineUp_20 : decode cX3_lineUp 20 = .ok (.bipush 52, 2) := by decide +kernel
theorem dX3_lineUp_22 : decode cX3_lineUp 22 = .ok (.if_icmp .ne 31, 3) := by decide +kernel
theorem dX3_lineUp_25 : decode cX3_lineUp 25 = .ok (.iconst 0, 1) := by decide +kernel
theorem dX3_lineUp_26 : decode cX3_lineUp 26 = .ok (.istore 8, 2) := by decide +kernel
theorem dX3_lineUp_28 : decode cX3_lineUp 28 = .ok (.iload 8, 2) := by decide +kernel
theorem dX3_lineUp_30 : decode cX3_lineUp 30 = .ok (.iload_n 3, 1) := by decide +kernel
theorem dX3_lineUp_31 : decode cX3_lineUp 31 = .ok (.if_icmp .ge 15, 3) := by decide +kernel
theorem dX3_lineUp_34 : decode cX3_lineUp 34 = .ok (.aload_n 0, 1) := by decide +kernel
theorem dX3_lineUp_35 : decode cX3_lineUp 35 = .ok (.lload 4, 2) := by decide +kernel
theorem dX3_lineUp_37 : decode cX3_lineUp 37 = .ok (.invokevirtual 221, 3) := by decide +kernel
theorem dX3_lineUp_40 : decode cX3_lineUp 40 = .ok (.iinc 8 1, 3) := by decide +kernel
theorem dX3_lineUp_43 : decode cX3_lineUp 43 = .ok (.goto (-15), 3) := by decide +kernel
theorem dX3_lineUp_46 : decode cX3_lineUp 46 = .ok (.aload_n 0, 1) := by decide +kernel
theorem dX3_lineUp_47 : decode cX3_lineUp 47 = .ok (.lload 6, 2) := by decide +kernel
theorem dX3_lineUp_49 : decode cX3_lineUp 49 = .ok (.invokevirtual 233, 3) := by decide +kernel
theorem dX3_lineUp_52 : decode cX3_lineUp 52 = .ok (.return_, 1) := by decide +kernel
theorem dX3_lineUp_53 : decode cX3_lineUp 53 = .ok (.iload_n 1, 1) := by decide +kernel
theorem dX3_lineUp_54 : decode cX3_lineUp 54 = .ok (.bipush 59, 2) := by decide +kernel
theorem dX3_lineUp_56 : decode cX3_lineUp 56 = .ok (.if_icmp .ne 28, 3) := by decide +kernel
theorem dX3_lineUp_59 : decode cX3_lineUp 59 = .ok (.aload_n 0, 1) := by decide +kernel
theorem dX3_lineUp_60 : decode cX3_lineUp 60 = .ok (.bipush 7, 2) := by decide +kernel
theorem dX3_lineUp_62 : decode cX3_lineUp 62 = .ok (.ldc2_w 190, 3) := by decide +kernel
theorem dX3_lineUp_65 : decode cX3_lineUp 65 = .ok (.invokestatic 250, 3) := by decide +kernel
theorem dX3_lineUp_68 : decode cX3_lineUp 68 = .ok (.invokevirtual 221, 3) := by decide +kernel
theorem dX3_lineUp_71 : decode cX3_lineUp 71 = .ok (.aload_n 0, 1) := by decide +kernel
theorem dX3_lineUp_72 : decode cX3_lineUp 72 = .ok (.bipush 7, 2) := by decide +kernel
theorem dX3_lineUp_74 : decode cX3_lineUp 74 = .ok (.ldc2_w 190, 3) := by decide +kernel
theorem dX3_lineUp_77 : decode cX3_lineUp 77 = .ok (.invokestatic 250, 3) := by decide +kernel
theorem dX3_lineUp_80 : decode cX3_lineUp 80 = .ok (.invokevirtual 233, 3) := by decide +kernel
theorem dX3_lineUp_83 : decode cX3_lineUp 83 = .ok (.return_, 1) := by decide +kernel
theorem dX3_lineUp_84 : decode cX3_lineUp 84 = .ok (.iload_n 1, 1) := by decide +kernel
theorem dX3_lineUp_85 : decode cX3_lineUp 85 = .ok (.bipush 54, 2) := by decide +kernel
theorem dX3_lineUp_87 : decode cX3_lineUp 87 = .ok (.if_icmp .eq 15, 3) := by decide +kernel
theorem dX3_lineUp_90 : decode cX3_lineUp 90 = .ok (.iload_n 1, 1) := by decide +kernel
theorem dX3_lineUp_91 : decode cX3_lineUp 91 = .ok (.bipush 55, 2) := by decide +kernel
theorem dX3_lineUp_93 : decode cX3_lineUp 93 = .ok (.if_icmp .eq 9, 3) := by decide +kernel
theorem dX3_lineUp_96 : decode cX3_lineUp 96 = .ok (.iload_n 1, 1) := by decide +kernel
theorem dX3_lineUp_97 : decode cX3_lineUp 97 = .ok (.bipush 58, 2) := by decide +kernel
theorem dX3_lineUp_99 : decode cX3_lineUp 99 = .ok (.if_icmp .ne 10, 3) := by decide +kernel
theorem dX3_lineUp_102 : decode cX3_lineUp 102 = .ok (.aload_n 0, 1) := by decide +kernel
theorem dX3_lineUp_103 : decode cX3_lineUp 103 = .ok (.ldc2_w 219, 3) := by decide +kernel
theorem dX3_lineUp_106 : decode cX3_lineUp 106 = .ok (.invokevirtual 221, 3) := by decide +kernel
theorem dX3_lineUp_109 : decode cX3_lineUp 109 = .ok (.iload_n 1, 1) := by decide +kernel
theorem dX3_lineUp_110 : decode cX3_lineUp 110 = .ok (.bipush 58, 2) := by decide +kernel
theorem dX3_lineUp_112 : decode cX3_lineUp 112 = .ok (.if_icmp .ne 13, 3) := by decide +kernel
theorem dX3_lineUp_115 : decode cX3_lineUp 115 = .ok (.aload_n 0, 1) := by decide +kernel
theorem dX3_lineUp_116 : decode cX3_lineUp 116 = .ok (.ldc2_w 219, 3) := by decide +kernel
theorem dX3_lineUp_119 : decode cX3_lineUp 119 = .ok (.invokevirtual 221, 3) := by decide +kernel
theorem dX3_lineUp_122 : decode cX3_lineUp 122 = .ok (.goto 15, 3) := by decide +kernel
theorem dX3_lineUp_125 : decode cX3_lineUp 125 = .ok (.iload_n 1, 1) := by decide +kernel
theorem dX3_lineUp_126 : decode cX3_lineUp 126 = .ok (.bipush 56, 2) := by decide +kernel
theorem dX3_lineUp_128 : decode cX3_lineUp 128 = .ok (.if_icmp .ne 9, 3) := by decide +kernel
theorem dX3_lineUp_131 : decode cX3_lineUp 131 = .ok (.aload_n 0, 1) := by decide +kernel
theorem dX3_lineUp_132 : decode cX3_lineUp 132 = .ok (.lload 4, 2) := by decide +kernel
theorem dX3_lineUp_134 : decode cX3_lineUp 134 = .ok (.invokevirtual 221, 3) := by decide +kernel
theorem dX3_lineUp_137 : decode cX3_lineUp 137 = .ok (.aload_n 0, 1) := by decide +kernel
theorem dX3_lineUp_138 : decode cX3_lineUp 138 = .ok (.lload 6, 2) := by decide +kernel
theorem dX3_lineUp_140 : decode cX3_lineUp 140 = .ok (.iload_n 1, 1) := by decide +kernel
theorem dX3_lineUp_141 : decode cX3_lineUp 141 = .ok (.bipush 55, 2) := by decide +kernel
theorem dX3_lineUp_143 : decode cX3_lineUp 143 = .ok (.if_icmp .lt 7, 3) := by decide +kernel
theorem dX3_lineUp_146 : decode cX3_lineUp 146 = .ok (.iconst 1, 1) := by decide +kernel
theorem dX3_lineUp_147 : decode cX3_lineUp 147 = .ok (.goto 4, 3) := by decide +kernel
theorem dX3_lineUp_150 : decode cX3_lineUp 150 = .ok (.iconst 0, 1) := by decide +kernel
theorem dX3_lineUp_151 : decode cX3_lineUp 151 = .ok (.invokevirtual 258, 3) := by decide +kernel
theorem dX3_lineUp_154 : decode cX3_lineUp 154 = .ok (.iload_n 1, 1) := by decide +kernel
theorem dX3_lineUp_155 : decode cX3_lineUp 155 = .ok (.bipush 56, 2) := by decide +kernel
theorem dX3_lineUp_157 : decode cX3_lineUp 157 = .ok (.if_icmp .lt 20, 3) := by decide +kernel
theorem dX3_lineUp_160 : decode cX3_lineUp 160 = .ok (.aload_n 0, 1) := by decide +kernel
theorem dX3_lineUp_161 : decode cX3_lineUp 161 = .ok (.aload_n 0, 1) := by decide +kernel
theorem dX3_lineUp_162 : decode cX3_lineUp 162 = .ok (.getfield 194, 3) := by decide +kernel
theorem dX3_lineUp_165 : decode cX3_lineUp 165 = .ok (.invokevirtual 269, 3) := by decide +kernel
theorem dX3_lineUp_168 : decode cX3_lineUp 168 = .ok (.ifCond .ne 9, 3) := by decide +kernel
theorem dX3_lineUp_171 : decode cX3_lineUp 171 = .ok (.aload_n 0, 1) := by decide +kernel
theorem dX3_lineUp_172 : decode cX3_lineUp 172 = .ok (.bipush 6, 2) := by decide +kernel
theorem dX3_lineUp_174 : decode cX3_lineUp 174 = .ok (.invokevirtual 131, 3) := by decide +kernel
theorem dX3_lineUp_177 : decode cX3_lineUp 177 = .ok (.iload_n 1, 1) := by decide +kernel
theorem dX3_lineUp_178 : decode cX3_lineUp 178 = .ok (.bipush 53, 2) := by decide +kernel
theorem dX3_lineUp_180 : decode cX3_lineUp 180 = .ok (.if_icmp .ne 13, 3) := by decide +kernel
theorem dX3_lineUp_183 : decode cX3_lineUp 183 = .ok (.aload_n 0, 1) := by decide +kernel
theorem dX3_lineUp_184 : decode cX3_lineUp 184 = .ok (.ldc2_w 219, 3) := by decide +kernel
theorem dX3_lineUp_187 : decode cX3_lineUp 187 = .ok (.invokevirtual 233, 3) := by decide +kernel
theorem dX3_lineUp_190 : decode cX3_lineUp 190 = .ok (.goto 51, 3) := by decide +kernel
theorem dX3_lineUp_193 : decode cX3_lineUp 193 = .ok (.iload_n 1, 1) := by decide +kernel
theorem dX3_lineUp_194 : decode cX3_lineUp 194 = .ok (.bipush 57, 2) := by decide +kernel
theorem dX3_lineUp_196 : decode cX3_lineUp 196 = .ok (.if_icmp .ne 12, 3) := by decide +kernel
theorem dX3_lineUp_199 : decode cX3_lineUp 199 = .ok (.aload_n 0, 1) := by decide +kernel
theorem dX3_lineUp_200 : decode cX3_lineUp 200 = .ok (.lload 4, 2) := by decide +kernel
theorem dX3_lineUp_202 : decode cX3_lineUp 202 = .ok (.invokevirtual 233, 3) := by decide +kernel
theorem dX3_lineUp_205 : decode cX3_lineUp 205 = .ok (.goto 36, 3) := by decide +kernel
theorem dX3_lineUp_208 : decode cX3_lineUp 208 = .ok (.iload_n 1, 1) := by decide +kernel
theorem dX3_lineUp_209 : decode cX3_lineUp 209 = .ok (.bipush 55, 2) := by decide +kernel
theorem dX3_lineUp_211 : decode cX3_lineUp 211 = .ok (.if_icmp .gt 30, 3) := by decide +kernel
theorem dX3_lineUp_214 : decode cX3_lineUp 214 = .ok (.aload_n 0, 1) := by decide +kernel
theorem dX3_lineUp_215 : decode cX3_lineUp 215 = .ok (.iload_n 1, 1) := by decide +kernel
theorem dX3_lineUp_216 : decode cX3_lineUp 216 = .ok (.bipush 55, 2) := by decide +kernel
theorem dX3_lineUp_218 : decode cX3_lineUp 218 = .ok (.if_icmp .ne 8, 3) := by decide +kernel
theorem dX3_lineUp_221 : decode cX3_lineUp 221 = .ok (.bipush 9, 2) := by decide +kernel
theorem dX3_lineUp_223 : decode cX3_lineUp 223 = .ok (.goto 5, 3) := by decide +kernel
theorem dX3_lineUp_226 : decode cX3_lineUp 226 = .ok (.bipush 8, 2) := by decide +kernel
theorem dX3_lineUp_228 : decode cX3_lineUp 228 = .ok (.lload 4, 2) := by decide +kernel
theorem dX3_lineUp_230 : decode cX3_lineUp 230 = .ok (.invokestatic 250, 3) := by decide +kernel
theorem dX3_lineUp_233 : decode cX3_lineUp 233 = .ok (.aload_n 0, 1) := by decide +kernel
theorem dX3_lineUp_234 : decode cX3_lineUp 234 = .ok (.getfield 194, 3) := by decide +kernel
theorem dX3_lineUp_237 : decode cX3_lineUp 237 = .ok (.iconst 1, 1) := by decide +kernel
theorem dX3_lineUp_238 : decode cX3_lineUp 238 = .ok (.invokevirtual 211, 3) := by decide +kernel
theorem dX3_lineUp_241 : decode cX3_lineUp 241 = .ok (.return_, 1) := by decide +kernel
theorem dX4_run_0 : decode cX4_run 0 = .ok (.aload_n 0, 1) := by decide +kernel
theorem dX4_run_1 : decode cX4_run 1 = .ok (.aload_n 1, 1) := by decide +kernel
theorem dX4_run_2 : decode cX4_run 2 = .ok (.putfield 76, 3) := by decide +kernel
theorem dX4_run_5 : decode cX4_run 5 = .ok (.aload_n 0, 1) := by decide +kernel
theorem dX4_run_6 : decode cX4_run 6 = .ok (.iconst 0, 1) := by decide +kernel
theorem dX4_run_7 : decode cX4_run 7 = .ok (.putfield 80, 3) := by decide +kernel
theorem dX4_run_10 : decode cX4_run 10 = .ok (.aload_n 0, 1) := by decide +kernel
theorem dX4_run_11 : decode cX4_run 11 = .ok (.iconst 1, 1) := by decide +kernel
theorem dX4_run_12 : decode cX4_run 12 = .ok (.putfield 83, 3) := by decide +kernel
theorem dX4_run_15 : decode cX4_run 15 = .ok (.aload_n 0, 1) := by decide +kernel
theorem dX4_run_16 : decode cX4_run 16 = .ok (.iconst 0, 1) := by decide +kernel
theorem dX4_run_17 : decode cX4_run 17 = .ok (.putfield 87, 3) := by decide +kernel
theorem dX4_run_20 : decode cX4_run 20 = .ok (.aload_n 0, 1) := by decide +kernel
theorem dX4_run_21 : decode cX4_run 21 = .ok (.lconst 0, 1) := by decide +kernel
theorem dX4_run_22 : decode cX4_run 22 = .ok (.putfield 90, 3) := by decide +kernel
theorem dX4_run_25 : decode cX4_run 25 = .ok (.aload_n 0, 1) := by decide +kernel
theorem dX4_run_26 : decode cX4_run 26 = .ok (.getfield 12, 3) := by decide +kernel
theorem dX4_run_29 : decode cX4_run 29 = .ok (.invokevirtual 94, 3) := by decide +kernel
theorem dX4_run_32 : decode cX4_run 32 = .ok (.aload_n 0, 1) := by decide +kernel
theorem dX4_run_33 : decode cX4_run 33 = .ok (.getfield 67, 3) := by decide +kernel
theorem dX4_run_36 : decode cX4_run 36 = .ok (.aload_n 0, 1) := by decide +kernel
theorem dX4_run_37 : decode cX4_run 37 = .ok (.getfield 76, 3) := by decide +kernel
theorem dX4_run_40 : decode cX4_run 40 = .ok (.invokevirtual 97, 3) := by decide +kernel
theorem dX4_run_43 : decode cX4_run 43 = .ok (.aload_n 0, 1) := by decide +kernel
theorem dX4_run_44 : decode cX4_run 44 = .ok (.iconst (-1), 1) := by decide +kernel
theorem dX4_run_45 : decode cX4_run 45 = .ok (.putfield 101, 3) := by decide +kernel
theorem dX4_run_48 : decode cX4_run 48 = .ok (.aload_n 0, 1) := by decide +kernel
theorem dX4_run_49 : decode cX4_run 49 = .ok (.aload_n 0, 1) := by decide +kernel
theorem dX4_run_50 : decode cX4_run 50 = .ok (.getfield 58, 3) := by decide +kernel
theorem dX4_run_53 : decode cX4_run 53 = .ok (.aload_n 0, 1) := by decide +kernel
theorem dX4_run_54 : decode cX4_run 54 = .ok (.getfield 76, 3) := by decide +kernel
theorem dX4_run_57 : decode cX4_run 57 = .ok (.getfield 104, 3) := by decide +kernel
theorem dX4_run_60 : decode cX4_run 60 = .ok (.invokevirtual 109, 3) := by decide +kernel
theorem dX4_run_63 : decode cX4_run 63 = .ok (.aload_n 0, 1) := by decide +kernel
theorem dX4_run_64 : decode cX4_run 64 = .ok (.getfield 76, 3) := by decide +kernel
theorem dX4_run_67 : decode cX4_run 67 = .ok (.getfield 115, 3) := by decide +kernel
theorem dX4_run_70 : decode cX4_run 70 = .ok (.invokevirtual 118, 3) := by decide +kernel
theorem dX4_run_73 : decode cX4_run 73 = .ok (.iconst 0, 1) := by decide +kernel
theorem dX4_run_74 : decode cX4_run 74 = .ok (.istore_n 2, 1) := by decide +kernel
theorem dX4_run_75 : decode cX4_run 75 = .ok (.iload_n 2, 1) := by decide +kernel
theorem dX4_run_76 : decode cX4_run 76 = .ok (.aload_n 0, 1) := by decide +kernel
theorem dX4_run_77 : decode cX4_run 77 = .ok (.getfield 76, 3) := by decide +kernel
theorem dX4_run_80 : decode cX4_run 80 = .ok (.getfield 122, 3) := by decide +kernel
theorem dX4_run_83 : decode cX4_run 83 = .ok (.if_icmp .ge 49, 3) := by decide +kernel
theorem dX4_run_86 : decode cX4_run 86 = .ok (.aload_n 0, 1) := by decide +kernel
theorem dX4_run_87 : decode cX4_run 87 = .ok (.getfield 52, 3) := by decide +kernel
theorem dX4_run_90 : decode cX4_run 90 = .ok (.iload_n 2, 1) := by decide +kernel
theorem dX4_run_91 : decode cX4_run 91 = .ok (.aload_n 0, 1) := by decide +kernel
theorem dX4_run_92 : decode cX4_run 92 = .ok (.getfield 12, 3) := by decide +kernel
theorem dX4_run_95 : decode cX4_run 95 = .ok (.aload_n 0, 1) := by decide +kernel
theorem dX4_run_96 : decode cX4_run 96 = .ok (.getfield 76, 3) := by decide +kernel
theorem dX4_run_99 : decode cX4_run 99 = .ok (.getfield 125, 3) := by decide +kernel
theorem dX4_run_102 : decode cX4_run 102 = .ok (.iload_n 2, 1) := by decide +kernel
theorem dX4_run_103 : decode cX4_run 103 = .ok (.iaload, 1) := by decide +kernel
theorem dX4_run_104 : decode cX4_run 104 = .ok (.aload_n 0, 1) := by decide +kernel
theorem dX4_run_105 : decode cX4_run 105 = .ok (.getfield 76, 3) := by decide +kernel
theorem dX4_run_108 : decode cX4_run 108 = .ok (.getfield 128, 3) := by decide +kernel
theorem dX4_run_111 : decode cX4_run 111 = .ok (.iload_n 2, 1) := by decide +kernel
theorem dX4_run_112 : decode cX4_run 112 = .ok (.laload, 1) := by decide +kernel
theorem dX4_run_113 : decode cX4_run 113 = .ok (.aload_n 0, 1) := by decide +kernel
theorem dX4_run_114 : decode cX4_run 114 = .ok (.getfield 76, 3) := by decide +kernel
theorem dX4_run_117 : decode cX4_run 117 = .ok (.getfield 132, 3) := by decide +kernel
theorem dX4_run_120 : decode cX4_run 120 = .ok (.iload_n 2, 1) := by decide +kernel
theorem dX4_run_121 : decode cX4_run 121 = .ok (.laload, 1) := by decide +kernel
theorem dX4_run_122 : decode cX4_run 122 = .ok (.invokevirtual 135, 3) := by decide +kernel
theorem dX4_run_125 : decode cX4_run 125 = .ok (.iastore, 1) := by decide +kernel
theorem dX4_run_126 : decode cX4_run 126 = .ok (.iinc 2 1, 3) := by decide +kernel
theorem dX4_run_129 : decode cX4_run 129 = .ok (.goto (-54), 3) := by decide +kernel
theorem dX4_run_132 : decode cX4_run 132 = .ok (.iconst 0, 1) := by decide +kernel
theorem dX4_run_133 : decode cX4_run 133 = .ok (.istore_n 2, 1) := by decide +kernel
theorem dX4_run_134 : decode cX4_run 134 = .ok (.iload_n 2, 1) := by decide +kernel
theorem dX4_run_135 : decode cX4_run 135 = .ok (.sipush 20000, 3) := by decide +kernel
theorem dX4_run_138 : decode cX4_run 138 = .ok (.if_icmp .gt 20, 3) := by decide +kernel
theorem dX4_run_141 : decode cX4_run 141 = .ok (.aload_n 0, 1) := by decide +kernel
theorem dX4_run_142 : decode cX4_run 142 = .ok (.getfield 83, 3) := by decide +kernel
theorem dX4_run_145 : decode cX4_run 145 = .ok (.ifCond .eq 13, 3) := by decide +kernel
theorem dX4_run_148 : decode cX4_run 148 = .ok (.aload_n 0, 1) := by decide +kernel
theorem dX4_run_149 : decode cX4_run 149 = .ok (.invokevirtual 139, 3) := by decide +kernel
theorem dX4_run_152 : decode cX4_run 152 = .ok (.iinc 2 1, 3) := by decide +kernel
theorem dX4_run_155 : decode cX4_run 155 = .ok (.goto (-21), 3) := by decide +kernel
theorem dX4_run_158 : decode cX4_run 158 = .ok (.aload_n 0, 1) := by decide +kernel
theorem dX4_run_159 : decode cX4_run 159 = .ok (.getfield 87, 3) := by decide +kernel
theorem dX4_run_162 : decode cX4_run 162 = .ok (.ifCond .ne 21, 3) := by decide +kernel
theorem dX4_run_165 : decode cX4_run 165 = .ok (.aload_n 0, 1) := by decide +kernel
theorem dX4_run_166 : decode cX4_run 166 = .ok (.getfield 67, 3) := by decide +kernel
theorem dX4_run_169 : decode cX4_run 169 = .ok (.invokevirtual 142, 3) := by decide +kernel
theorem dX4_run_172 : decode cX4_run 172 = .ok (.ifCond .ne 11, 3) := by decide +kernel
theorem dX4_run_175 : decode cX4_run 175 = .ok (.aload_n 0, 1) := by decide +kernel
theorem dX4_run_176 : decode cX4_run 176 = .ok (.iconst 2, 1) := by decide +kernel
theorem dX4_run_177 : decode cX4_run 177 = .ok (.ldc2_w 146, 3) := by decide +kernel
theorem dX4_run_180 : decode cX4_run 180 = .ok (.invokevirtual 148, 3) := by decide +kernel
theorem dX4_run_183 : decode cX4_run 183 = .ok (.aload_n 0, 1) := by decide +kernel
theorem dX4_run_184 : decode cX4_run 184 = .ok (.getfield 87, 3) := by decide +kernel
theorem dX4_run_187 : decode cX4_run 187 = .ok (.ifCond .ne 69, 3) := by decide +kernel
theorem dX4_run_190 : decode cX4_run 190 = .ok (.iconst 0, 1) := by decide +kernel
theorem dX4_run_191 : decode cX4_run 191 = .ok (.istore_n 2, 1) := by decide +kernel
theorem dX4_run_192 : decode cX4_run 192 = .ok (.iload_n 2, 1) := by decide +kernel
theorem dX4_run_193 : decode cX4_run 193 = .ok (.aload_n 0, 1) := by decide +kernel
theorem dX4_run_194 : decode cX4_run 194 = .ok (.getfield 49, 3) := by decide +kernel
theorem dX4_run_197 : decode cX4_run 197 = .ok (.iconst 0, 1) := by decide +kernel
theorem dX4_run_198 : decode cX4_run 198 = .ok (.iaload, 1) := by decide +kernel
theorem dX4_run_199 : decode cX4_run 199 = .ok (.if_icmp .ge 50, 3) := by decide +kernel
theorem dX4_run_202 : decode cX4_run 202 = .ok (.aload_n 0, 1) := by decide +kernel
theorem dX4_run_203 : decode cX4_run 203 = .ok (.getfield 55, 3) := by decide +kernel
theorem dX4_run_206 : decode cX4_run 206 = .ok (.iload_n 2, 1) := by decide +kernel
theorem dX4_run_207 : decode cX4_run 207 = .ok (.iaload, 1) := by decide +kernel
theorem dX4_run_208 : decode cX4_run 208 = .ok (.istore_n 3, 1) := by decide +kernel
theorem dX4_run_209 : decode cX4_run 209 = .ok (.aload_n 0, 1) := by decide +kernel
theorem dX4_run_210 : decode cX4_run 210 = .ok (.getfield 76, 3) := by decide +kernel
theorem dX4_run_213 : decode cX4_run 213 = .ok (.aload_n 0, 1) := by decide +kernel
theorem dX4_run_214 : decode cX4_run 214 = .ok (.getfield 12, 3) := by decide +kernel
theorem dX4_run_217 : decode cX4_run 217 = .ok (.getfield 152, 3) := by decide +kernel
theorem dX4_run_220 : decode cX4_run 220 = .ok (.iload_n 3, 1) := by decide +kernel
theorem dX4_run_221 : decode cX4_run 221 = .ok (.baload, 1) := by decide +kernel
theorem dX4_run_222 : decode cX4_run 222 = .ok (.aload_n 0, 1) := by decide +kernel
theorem dX4_run_223 : decode cX4_run 223 = .ok (.getfield 12, 3) := by decide +kernel
theorem dX4_run_226 : decode cX4_run 226 = .ok (.getfield 155, 3) := by decide +kernel
theorem dX4_run_229 : decode cX4_run 229 = .ok (.iload_n 3, 1) := by decide +kernel
theorem dX4_run_230 : decode cX4_run 230 = .ok (.laload, 1) := by decide +kernel
theorem dX4_run_231 : decode cX4_run 231 = .ok (.aload_n 0, 1) := by decide +kernel
theorem dX4_run_232 : decode cX4_run 232 = .ok (.getfield 12, 3) := by decide +kernel
theorem dX4_run_235 : decode cX4_run 235 = .ok (.getfield 158, 3) := by decide +kernel
theorem dX4_run_238 : decode cX4_run 238 = .ok (.iload_n 3, 1) := by decide +kernel
theorem dX4_run_239 : decode cX4_run 239 = .ok (.laload, 1) := by decide +kernel
theorem dX4_run_240 : decode cX4_run 240 = .ok (.invokevirtual 161, 3) := by decide +kernel
theorem dX4_run_243 : decode cX4_run 243 = .ok (.iinc 2 1, 3) := by decide +kernel
theorem dX4_run_246 : decode cX4_run 246 = .ok (.goto (-54), 3) := by decide +kernel
theorem dX4_run_249 : decode cX4_run 249 = .ok (.aload_n 0, 1) := by decide +kernel
theorem dX4_run_250 : decode cX4_run 250 = .ok (.getfield 67, 3) := by decide +kernel
theorem dX4_run_253 : decode cX4_run 253 = .ok (.invokevirtual 165, 3) := by decide +kernel
theorem dX4_run_256 : decode cX4_run 256 = .ok (.aload_n 0, 1) := by decide +kernel
theorem dX4_run_257 : decode cX4_run 257 = .ok (.getfield 76, 3) := by decide +kernel
theorem dX4_run_260 : decode cX4_run 260 = .ok (.aload_n 0, 1) := by decide +kernel
theorem dX4_run_261 : decode cX4_run 261 = .ok (.getfield 87, 3) := by decide +kernel
theorem dX4_run_264 : decode cX4_run 264 = .ok (.aload_n 0, 1) := by decide +kernel
theorem dX4_run_265 : decode cX4_run 265 = .ok (.getfield 90, 3) := by decide +kernel
theorem dX4_run_268 : decode cX4_run 268 = .ok (.aload_n 0, 1) := by decide +kernel
theorem dX4_run_269 : decode cX4_run 269 = .ok (.getfield 80, 3) := by decide +kernel
theorem dX4_run_272 : decode cX4_run 272 = .ok (.invokevirtual 168, 3) := by decide +kernel
theorem dX4_run_275 : decode cX4_run 275 = .ok (.return_, 1) := by decide +kernel
theorem dX4_end_0 : decode cX4_end 0 = .ok (.aload_n 0, 1) := by decide +kernel
theorem dX4_end_1 : decode cX4_end 1 = .ok (.iconst 0, 1) := by decide +kernel
theorem dX4_end_2 : decode cX4_end 2 = .ok (.putfield 83, 3) := by decide +kernel
theorem dX4_end_5 : decode cX4_end 5 = .ok (.aload_n 0, 1) := by decide +kernel
theorem dX4_end_6 : decode cX4_end 6 = .ok (.iload_n 1, 1) := by decide +kernel
theorem dX4_end_7 : decode cX4_end 7 = .ok (.putfield 87, 3) := by decide +kernel
theorem dX4_end_10 : decode cX4_end 10 = .ok (.aload_n 0, 1) := by decide +kernel
theorem dX4_end_11 : decode cX4_end 11 = .ok (.lload_n 2, 1) := by decide +kernel
theorem dX4_end_12 : decode cX4_end 12 = .ok (.putfield 90, 3) := by decide +kernel
theorem dX4_end_15 : decode cX4_end 15 = .ok (.return_, 1) := by decide +kernel
theorem dX4_pay_0 : decode cX4_pay 0 = .ok (.iload_n 1, 1) := by decide +kernel
theorem dX4_pay_1 : decode cX4_pay 1 = .ok (.aload_n 0, 1) := by decide +kernel
theorem dX4_pay_2 : decode cX4_pay 2 = .ok (.getfield 76, 3) := by decide +kernel
theorem dX4_pay_5 : decode cX4_pay 5 = .ok (.getfield 171, 3) := by decide +kernel
theorem dX4_pay_8 : decode cX4_pay 8 = .ok (.aload_n 0, 1) := by decide +kernel
theorem dX4_pay_9 : decode cX4_pay 9 = .ok (.getfield 80, 3) := by decide +kernel
theorem dX4_pay_12 : decode cX4_pay 12 = .ok (.isub, 1) := by decide +kernel
theorem dX4_pay_13 : decode cX4_pay 13 = .ok (.if_icmp .le 24, 3) := by decide +kernel
theorem dX4_pay_16 : decode cX4_pay 16 = .ok (.aload_n 0, 1) := by decide +kernel
theorem dX4_pay_17 : decode cX4_pay 17 = .ok (.aload_n 0, 1) := by decide +kernel
theorem dX4_pay_18 : decode cX4_pay 18 = .ok (.getfield 76, 3) := by decide +kernel
theorem dX4_pay_21 : decode cX4_pay 21 = .ok (.getfield 171, 3) := by decide +kernel
theorem dX4_pay_24 : decode cX4_pay 24 = .ok (.putfield 80, 3) := by decide +kernel
theorem dX4_pay_27 : decode cX4_pay 27 = .ok (.aload_n 0, 1) := by decide +kernel
theorem dX4_pay_28 : decode cX4_pay 28 = .ok (.iconst 2, 1) := by decide +kernel
theorem dX4_pay_29 : decode cX4_pay 29 = .ok (.ldc2_w 174, 3) := by decide +kernel
theorem dX4_pay_32 : decode cX4_pay 32 = .ok (.invokevirtual 148, 3) := by decide +kernel
theorem dX4_pay_35 : decode cX4_pay 35 = .ok (.iconst 0, 1) := by decide +kernel
theorem dX4_pay_36 : decode cX4_pay 36 = .ok (.ireturn, 1) := by decide +kernel
theorem dX4_pay_37 : decode cX4_pay 37 = .ok (.aload_n 0, 1) := by decide +kernel
theorem dX4_pay_38 : decode cX4_pay 38 = .ok (.dup, 1) := by decide +kernel
theorem dX4_pay_39 : decode cX4_pay 39 = .ok (.getfield 80, 3) := by decide +kernel
theorem dX4_pay_42 : decode cX4_pay 42 = .ok (.iload_n 1, 1) := by decide +kernel
theorem dX4_pay_43 : decode cX4_pay 43 = .ok (.iadd, 1) := by decide +kernel
theorem dX4_pay_44 : decode cX4_pay 44 = .ok (.putfield 80, 3) := by decide +kernel
theorem dX4_pay_47 : decode cX4_pay 47 = .ok (.iconst 1, 1) := by decide +kernel
theorem dX4_pay_48 : decode cX4_pay 48 = .ok (.ireturn, 1) := by decide +kernel
theorem dX4_pushFrame_0 : decode cX4_pushFrame 0 = .ok (.aload_n 0, 1) := by decide +kernel
theorem dX4_pushFrame_1 : decode cX4_pushFrame 1 = .ok (.dup, 1) := by decide +kernel
theorem dX4_pushFrame_2 : decode cX4_pushFrame 2 = .ok (.getfield 101, 3) := by decide +kernel
theorem dX4_pushFrame_5 : decode cX4_pushFrame 5 = .ok (.iconst 1, 1) := by decide +kernel
theorem dX4_pushFrame_6 : decode cX4_pushFrame 6 = .ok (.iadd, 1) := by decide +kernel
theorem dX4_pushFrame_7 : decode cX4_pushFrame 7 = .ok (.putfield 101, 3) := by decide +kernel
theorem dX4_pushFrame_10 : decode cX4_pushFrame 10 = .ok (.aload_n 0, 1) := by decide +kernel
theorem dX4_pushFrame_11 : decode cX4_pushFrame 11 = .ok (.getfield 38, 3) := by decide +kernel
theorem dX4_pushFrame_14 : decode cX4_pushFrame 14 = .ok (.aload_n 0, 1) := by decide +kernel
theorem dX4_pushFrame_15 : decode cX4_pushFrame 15 = .ok (.getfield 101, 3) := by decide +kernel
theorem dX4_pushFrame_18 : decode cX4_pushFrame 18 = .ok (.aload_n 1, 1) := by decide +kernel
theorem dX4_pushFrame_19 : decode cX4_pushFrame 19 = .ok (.aastore, 1) := by decide +kernel
theorem dX4_pushFrame_20 : decode cX4_pushFrame 20 = .ok (.aload_n 0, 1) := by decide +kernel
theorem dX4_pushFrame_21 : decode cX4_pushFrame 21 = .ok (.getfield 42, 3) := by decide +kernel
theorem dX4_pushFrame_24 : decode cX4_pushFrame 24 = .ok (.aload_n 0, 1) := by decide +kernel
theorem dX4_pushFrame_25 : decode cX4_pushFrame 25 = .ok (.getfield 101, 3) := by decide +kernel
theorem dX4_pushFrame_28 : decode cX4_pushFrame 28 = .ok (.iload_n 2, 1) := by decide +kernel
theorem dX4_pushFrame_29 : decode cX4_pushFrame 29 = .ok (.iastore, 1) := by decide +kernel
theorem dX4_pushFrame_30 : decode cX4_pushFrame 30 = .ok (.aload_n 0, 1) := by decide +kernel
theorem dX4_pushFrame_31 : decode cX4_pushFrame 31 = .ok (.getfield 46, 3) := by decide +kernel
theorem dX4_pushFrame_34 : decode cX4_pushFrame 34 = .ok (.aload_n 0, 1) := by decide +kernel
theorem dX4_pushFrame_35 : decode cX4_pushFrame 35 = .ok (.getfield 101, 3) := by decide +kernel
theorem dX4_pushFrame_38 : decode cX4_pushFrame 38 = .ok (.iconst 0, 1) := by decide +kernel
theorem dX4_pushFrame_39 : decode cX4_pushFrame 39 = .ok (.iastore, 1) := by decide +kernel
theorem dX4_pushFrame_40 : decode cX4_pushFrame 40 = .ok (.aload_n 0, 1) := by decide +kernel
theorem dX4_pushFrame_41 : decode cX4_pushFrame 41 = .ok (.getfield 49, 3) := by decide +kernel
theorem dX4_pushFrame_44 : decode cX4_pushFrame 44 = .ok (.aload_n 0, 1) := by decide +kernel
theorem dX4_pushFrame_45 : decode cX4_pushFrame 45 = .ok (.getfield 101, 3) := by decide +kernel
theorem dX4_pushFrame_48 : decode cX4_pushFrame 48 = .ok (.iconst 0, 1) := by decide +kernel
theorem dX4_pushFrame_49 : decode cX4_pushFrame 49 = .ok (.iastore, 1) := by decide +kernel
theorem dX4_pushFrame_50 : decode cX4_pushFrame 50 = .ok (.iconst 0, 1) := by decide +kernel
theorem dX4_pushFrame_51 : decode cX4_pushFrame 51 = .ok (.istore_n 3, 1) := by decide +kernel
theorem dX4_pushFrame_52 : decode cX4_pushFrame 52 = .ok (.iload_n 3, 1) := by decide +kernel
theorem dX4_pushFrame_53 : decode cX4_pushFrame 53 = .ok (.bipush 40, 2) := by decide +kernel
theorem dX4_pushFrame_55 : decode cX4_pushFrame 55 = .ok (.if_icmp .ge 24, 3) := by decide +kernel
theorem dX4_pushFrame_58 : decode cX4_pushFrame 58 = .ok (.aload_n 0, 1) := by decide +kernel
theorem dX4_pushFrame_59 : decode cX4_pushFrame 59 = .ok (.getfield 52, 3) := by decide +kernel
theorem dX4_pushFrame_62 : decode cX4_pushFrame 62 = .ok (.aload_n 0, 1) := by decide +kernel
theorem dX4_pushFrame_63 : decode cX4_pushFrame 63 = .ok (.getfield 101, 3) := by decide +kernel
theorem dX4_pushFrame_66 : decode cX4_pushFrame 66 = .ok (.bipush 40, 2) := by decide +kernel
theorem dX4_pushFrame_68 : decode cX4_pushFrame 68 = .ok (.imul, 1) := by decide +kernel
theorem dX4_pushFrame_69 : decode cX4_pushFrame 69 = .ok (.iload_n 3, 1) := by decide +kernel
theorem dX4_pushFrame_70 : decode cX4_pushFrame 70 = .ok (.iadd, 1) := by decide +kernel
theorem dX4_pushFrame_71 : decode cX4_pushFrame 71 = .ok (.iconst 0, 1) := by decide +kernel
theorem dX4_pushFrame_72 : decode cX4_pushFrame 72 = .ok (.iastore, 1) := by decide +kernel
theorem dX4_pushFrame_73 : decode cX4_pushFrame 73 = .ok (.iinc 3 1, 3) := by decide +kernel
theorem dX4_pushFrame_76 : decode cX4_pushFrame 76 = .ok (.goto (-24), 3) := by decide +kernel
theorem dX4_pushFrame_79 : decode cX4_pushFrame 79 = .ok (.return_, 1) := by decide +kernel
theorem dX4_push_0 : decode cX4_push 0 = .ok (.aload_n 0, 1) := by decide +kernel
theorem dX4_push_1 : decode cX4_push 1 = .ok (.getfield 49, 3) := by decide +kernel
theorem dX4_push_4 : decode cX4_push 4 = .ok (.aload_n 0, 1) := by decide +kernel
theorem dX4_push_5 : decode cX4_push 5 = .ok (.getfield 101, 3) := by decide +kernel
theorem dX4_push_8 : decode cX4_push 8 = .ok (.iaload, 1) := by decide +kernel
theorem dX4_push_9 : decode cX4_push 9 = .ok (.bipush 64, 2) := by decide +kernel
theorem dX4_push_11 : decode cX4_push 11 = .ok (.if_icmp .lt 14, 3) := by decide +kernel
theorem dX4_push_14 : decode cX4_push 14 = .ok (.aload_n 0, 1) := by decide +kernel
theorem dX4_push_15 : decode cX4_push 15 = .ok (.dup, 1) := by decide +kernel
theorem dX4_push_16 : decode cX4_push 16 = .ok (.getfield 71, 3) := by decide +kernel
theorem dX4_push_19 : decode cX4_push 19 = .ok (.iconst 1, 1) := by decide +kernel
theorem dX4_push_20 : decode cX4_push 20 = .ok (.iadd, 1) := by decide +kernel
theorem dX4_push_21 : decode cX4_push 21 = .ok (.putfield 71, 3) := by decide +kernel
theorem dX4_push_24 : decode cX4_push 24 = .ok (.return_, 1) := by decide +kernel
theorem dX4_push_25 : decode cX4_push 25 = .ok (.aload_n 0, 1) := by decide +kernel
theorem dX4_push_26 : decode cX4_push 26 = .ok (.getfield 55, 3) := by decide +kernel
theorem dX4_push_29 : decode cX4_push 29 = .ok (.aload_n 0, 1) := by decide +kernel
theorem dX4_push_30 : decode cX4_push 30 = .ok (.getfield 101, 3) := by decide +kernel
theorem dX4_push_33 : decode cX4_push 33 = .ok (.bipush 64, 2) := by decide +kernel
theorem dX4_push_35 : decode cX4_push 35 = .ok (.imul, 1) := by decide +kernel
theorem dX4_push_36 : decode cX4_push 36 = .ok (.aload_n 0, 1) := by decide +kernel
theorem dX4_push_37 : decode cX4_push 37 = .ok (.getfield 49, 3) := by decide +kernel
theorem dX4_push_40 : decode cX4_push 40 = .ok (.aload_n 0, 1) := by decide +kernel
theorem dX4_push_41 : decode cX4_push 41 = .ok (.getfield 101, 3) := by decide +kernel
theorem dX4_push_44 : decode cX4_push 44 = .ok (.iaload, 1) := by decide +kernel
theorem dX4_push_45 : decode cX4_push 45 = .ok (.iadd, 1) := by decide +kernel
theorem dX4_push_46 : decode cX4_push 46 = .ok (.iload_n 1, 1) := by decide +kernel
theorem dX4_push_47 : decode cX4_push 47 = .ok (.iastore, 1) := by decide +kernel
theorem dX4_push_48 : decode cX4_push 48 = .ok (.aload_n 0, 1) := by decide +kernel
theorem dX4_push_49 : decode cX4_push 49 = .ok (.getfield 49, 3) := by decide +kernel
theorem dX4_push_52 : decode cX4_push 52 = .ok (.aload_n 0, 1) := by decide +kernel
theorem dX4_push_53 : decode cX4_push 53 = .ok (.getfield 101, 3) := by decide +kernel
theorem dX4_push_56 : decode cX4_push 56 = .ok (.dup2, 1) := by decide +kernel
theorem dX4_push_57 : decode cX4_push 57 = .ok (.iaload, 1) := by decide +kernel
theorem dX4_push_58 : decode cX4_push 58 = .ok (.iconst 1, 1) := by decide +kernel
theorem dX4_push_59 : decode cX4_push 59 = .ok (.iadd, 1) := by decide +kernel
theorem dX4_push_60 : decode cX4_push 60 = .ok (.iastore, 1) := by decide +kernel
theorem dX4_push_61 : decode cX4_push 61 = .ok (.return_, 1) := by decide +kernel
theorem dX4_pop_0 : decode cX4_pop 0 = .ok (.aload_n 0, 1) := by decide +kernel
theorem dX4_pop_1 : decode cX4_pop 1 = .ok (.getfield 49, 3) := by decide +kernel
theorem dX4_pop_4 : decode cX4_pop 4 = .ok (.aload_n 0, 1) := by decide +kernel
theorem dX4_pop_5 : decode cX4_pop 5 = .ok (.getfield 101, 3) := by decide +kernel
theorem dX4_pop_8 : decode cX4_pop 8 = .ok (.iaload, 1) := by decide +kernel
theorem dX4_pop_9 : decode cX4_pop 9 = .ok (.ifCond .ne 15, 3) := by decide +kernel
theorem dX4_pop_12 : decode cX4_pop 12 = .ok (.aload_n 0, 1) := by decide +kernel
theorem dX4_pop_13 : decode cX4_pop 13 = .ok (.dup, 1) := by decide +kernel
theorem dX4_pop_14 : decode cX4_pop 14 = .ok (.getfield 71, 3) := by decide +kernel
theorem dX4_pop_17 : decode cX4_pop 17 = .ok (.iconst 1, 1) := by decide +kernel
theorem dX4_pop_18 : decode cX4_pop 18 = .ok (.iadd, 1) := by decide +kernel
theorem dX4_pop_19 : decode cX4_pop 19 = .ok (.putfield 71, 3) := by decide +kernel
theorem dX4_pop_22 : decode cX4_pop 22 = .ok (.iconst 0, 1) := by decide +kernel
theorem dX4_pop_23 : decode cX4_pop 23 = .ok (.ireturn, 1) := by decide +kernel
theorem dX4_pop_24 : decode cX4_pop 24 = .ok (.aload_n 0, 1) := by decide +kernel
theorem dX4_pop_25 : decode cX4_pop 25 = .ok (.getfield 49, 3) := by decide +kernel
theorem dX4_pop_28 : decode cX4_pop 28 = .ok (.aload_n 0, 1) := by decide +kernel
theorem dX4_pop_29 : decode cX4_pop 29 = .ok (.getfield 101, 3) := by decide +kernel
theorem dX4_pop_32 : decode cX4_pop 32 = .ok (.dup2, 1) := by decide +kernel
theorem dX4_pop_33 : decode cX4_pop 33 = .ok (.iaload, 1) := by decide +kernel
theorem dX4_pop_34 : decode cX4_pop 34 = .ok (.iconst 1, 1) := by decide +kernel
theorem dX4_pop_35 : decode cX4_pop 35 = .ok (.isub, 1) := by decide +kernel
theorem dX4_pop_36 : decode cX4_pop 36 = .ok (.iastore, 1) := by decide +kernel
theorem dX4_pop_37 : decode cX4_pop 37 = .ok (.aload_n 0, 1) := by decide +kernel
theorem dX4_pop_38 : decode cX4_pop 38 = .ok (.getfield 55, 3) := by decide +kernel
theorem dX4_pop_41 : decode cX4_pop 41 = .ok (.aload_n 0, 1) := by decide +kernel
theorem dX4_pop_42 : decode cX4_pop 42 = .ok (.getfield 101, 3) := by decide +kernel
theorem dX4_pop_45 : decode cX4_pop 45 = .ok (.bipush 64, 2) := by decide +kernel
theorem dX4_pop_47 : decode cX4_pop 47 = .ok (.imul, 1) := by decide +kernel
theorem dX4_pop_48 : decode cX4_pop 48 = .ok (.aload_n 0, 1) := by decide +kernel
theorem dX4_pop_49 : decode cX4_pop 49 = .ok (.getfield 49, 3) := by decide +kernel
theorem dX4_pop_52 : decode cX4_pop 52 = .ok (.aload_n 0, 1) := by decide +kernel
theorem dX4_pop_53 : decode cX4_pop 53 = .ok (.getfield 101, 3) := by decide +kernel
theorem dX4_pop_56 : decode cX4_pop 56 = .ok (.iaload, 1) := by decide +kernel
theorem dX4_pop_57 : decode cX4_pop 57 = .ok (.iadd, 1) := by decide +kernel
theorem dX4_pop_58 : decode cX4_pop 58 = .ok (.iaload, 1) := by decide +kernel
theorem dX4_pop_59 : decode cX4_pop 59 = .ok (.ireturn, 1) := by decide +kernel
theorem dX4_peek_0 : decode cX4_peek 0 = .ok (.aload_n 0, 1) := by decide +kernel
theorem dX4_peek_1 : decode cX4_peek 1 = .ok (.getfield 49, 3) := by decide +kernel
theorem dX4_peek_4 : decode cX4_peek 4 = .ok (.aload_n 0, 1) := by decide +kernel
theorem dX4_peek_5 : decode cX4_peek 5 = .ok (.getfield 101, 3) := by decide +kernel
theorem dX4_peek_8 : decode cX4_peek 8 = .ok (.iaload, 1) := by decide +kernel
theorem dX4_peek_9 : decode cX4_peek 9 = .ok (.iconst 1, 1) := by decide +kernel
theorem dX4_peek_10 : decode cX4_peek 10 = .ok (.isub, 1) := by decide +kernel
theorem dX4_peek_11 : decode cX4_peek 11 = .ok (.iload_n 1, 1) := by decide +kernel
theorem dX4_peek_12 : decode cX4_peek 12 = .ok (.isub, 1) := by decide +kernel
theorem dX4_peek_13 : decode cX4_peek 13 = .ok (.istore_n 2, 1) := by decide +kernel
theorem dX4_peek_14 : decode cX4_peek 14 = .ok (.iload_n 2, 1) := by decide +kernel
theorem dX4_peek_15 : decode cX4_peek 15 = .ok (.ifCond .ge 15, 3) := by decide +kernel
theorem dX4_peek_18 : decode cX4_peek 18 = .ok (.aload_n 0, 1) := by decide +kernel
theorem dX4_peek_19 : decode cX4_peek 19 = .ok (.dup, 1) := by decide +kernel
theorem dX4_peek_20 : decode cX4_peek 20 = .ok (.getfield 71, 3) := by decide +kernel
theorem dX4_peek_23 : decode cX4_peek 23 = .ok (.iconst 1, 1) := by decide +kernel
theorem dX4_peek_24 : decode cX4_peek 24 = .ok (.iadd, 1) := by decide +kernel
theorem dX4_peek_25 : decode cX4_peek 25 = .ok (.putfield 71, 3) := by decide +kernel
theorem dX4_peek_28 : decode cX4_peek 28 = .ok (.iconst 0, 1) := by decide +kernel
theorem dX4_peek_29 : decode cX4_peek 29 = .ok (.ireturn, 1) := by decide +kernel
theorem dX4_peek_30 : decode cX4_peek 30 = .ok (.aload_n 0, 1) := by decide +kernel
theorem dX4_peek_31 : decode cX4_peek 31 = .ok (.getfield 55, 3) := by decide +kernel
theorem dX4_peek_34 : decode cX4_peek 34 = .ok (.aload_n 0, 1) := by decide +kernel
theorem dX4_peek_35 : decode cX4_peek 35 = .ok (.getfield 101, 3) := by decide +kernel
theorem dX4_peek_38 : decode cX4_peek 38 = .ok (.bipush 64, 2) := by decide +kernel
theorem dX4_peek_40 : decode cX4_peek 40 = .ok (.imul, 1) := by decide +kernel
theorem dX4_peek_41 : decode cX4_peek 41 = .ok (.iload_n 2, 1) := by decide +kernel
theorem dX4_peek_42 : decode cX4_peek 42 = .ok (.iadd, 1) := by decide +kernel
theorem dX4_peek_43 : decode cX4_peek 43 = .ok (.iaload, 1) := by decide +kernel
theorem dX4_peek_44 : decode cX4_peek 44 = .ok (.ireturn, 1) := by decide +kernel
theorem dX4_pushNumber_0 : decode cX4_pushNumber 0 = .ok (.aload_n 0, 1) := by decide +kernel
theorem dX4_pushNumber_1 : decode cX4_pushNumber 1 = .ok (.aload_n 0, 1) := by decide +kernel
theorem dX4_pushNumber_2 : decode cX4_pushNumber 2 = .ok (.getfield 12, 3) := by decide +kernel
theorem dX4_pushNumber_5 : decode cX4_pushNumber 5 = .ok (.iload_n 1, 1) := by decide +kernel
theorem dX4_pushNumber_6 : decode cX4_pushNumber 6 = .ok (.lload_n 2, 1) := by decide +kernel
theorem dX4_pushNumber_7 : decode cX4_pushNumber 7 = .ok (.lload 4, 2) := by decide +kernel
theorem dX4_pushNumber_9 : decode cX4_pushNumber 9 = .ok (.invokevirtual 135, 3) := by decide +kernel
theorem dX4_pushNumber_12 : decode cX4_pushNumber 12 = .ok (.invokevirtual 176, 3) := by decide +kernel
theorem dX4_pushNumber_15 : decode cX4_pushNumber 15 = .ok (.return_, 1) := by decide +kernel
theorem dX4_target_0 : decode cX4_target 0 = .ok (.aload_n 0, 1) := by decide +kernel
theorem dX4_target_1 : decode cX4_target 1 = .ok (.getfield 12, 3) := by decide +kernel
theorem dX4_target_4 : decode cX4_target 4 = .ok (.getfield 152, 3) := by decide +kernel
theorem dX4_target_7 : decode cX4_target 7 = .ok (.iload_n 1, 1) := by decide +kernel
theorem dX4_target_8 : decode cX4_target 8 = .ok (.baload, 1) := by decide +kernel
theorem dX4_target_9 : decode cX4_target 9 = .ok (.bipush 8, 2) := by decide +kernel
theorem dX4_target_11 : decode cX4_target 11 = .ok (.if_icmp .ne 17, 3) := by decide +kernel
theorem dX4_target_14 : decode cX4_target 14 = .ok (.aload_n 0, 1) := by decide +kernel
theorem dX4_target_15 : decode cX4_target 15 = .ok (.getfield 12, 3) := by decide +kernel
theorem dX4_target_18 : decode cX4_target 18 = .ok (.getfield 158, 3) := by decide +kernel
theorem dX4_target_21 : decode cX4_target 21 = .ok (.iload_n 1, 1) := by decide +kernel
theorem dX4_target_22 : decode cX4_target 22 = .ok (.laload, 1) := by decide +kernel
theorem dX4_target_23 : decode cX4_target 23 = .ok (.lconst 0, 1) := by decide +kernel
theorem dX4_target_24 : decode cX4_target 24 = .ok (.lcmp, 1) := by decide +kernel
theorem dX4_target_25 : decode cX4_target 25 = .ok (.ifCond .ne 15, 3) := by decide +kernel
theorem dX4_target_28 : decode cX4_target 28 = .ok (.aload_n 0, 1) := by decide +kernel
theorem dX4_target_29 : decode cX4_target 29 = .ok (.dup, 1) := by decide +kernel
theorem dX4_target_30 : decode cX4_target 30 = .ok (.getfield 71, 3) := by decide +kernel
theorem dX4_target_33 : decode cX4_target 33 = .ok (.iconst 1, 1) := by decide +kernel
theorem dX4_target_34 : decode cX4_target 34 = .ok (.iadd, 1) := by decide +kernel
theorem dX4_target_35 : decode cX4_target 35 = .ok (.putfield 71, 3) := by decide +kernel
theorem dX4_target_38 : decode cX4_target 38 = .ok (.iconst 0, 1) := by decide +kernel
theorem dX4_target_39 : decode cX4_target 39 = .ok (.ireturn, 1) := by decide +kernel
theorem dX4_target_40 : decode cX4_target 40 = .ok (.aload_n 0, 1) := by decide +kernel
theorem dX4_target_41 : decode cX4_target 41 = .ok (.getfield 12, 3) := by decide +kernel
theorem dX4_target_44 : decode cX4_target 44 = .ok (.getfield 158, 3) := by decide +kernel
theorem dX4_target_47 : decode cX4_target 47 = .ok (.iload_n 1, 1) := by decide +kernel
theorem dX4_target_48 : decode cX4_target 48 = .ok (.laload, 1) := by decide +kernel
theorem dX4_target_49 : decode cX4_target 49 = .ok (.l2i, 1) := by decide +kernel
theorem dX4_target_50 : decode cX4_target 50 = .ok (.ireturn, 1) := by decide +kernel
theorem dX4_step_0 : decode cX4_step 0 = .ok (.aload_n 0, 1) := by decide +kernel
theorem dX4_step_1 : decode cX4_step 1 = .ok (.getfield 38, 3) := by decide +kernel
theorem dX4_step_4 : decode cX4_step 4 = .ok (.aload_n 0, 1) := by decide +kernel
theorem dX4_step_5 : decode cX4_step 5 = .ok (.getfield 101, 3) := by decide +kernel
theorem dX4_step_8 : decode cX4_step 8 = .ok (.aaload, 1) := by decide +kernel
theorem dX4_step_9 : decode cX4_step 9 = .ok (.astore_n 1, 1) := by decide +kernel
theorem dX4_step_10 : decode cX4_step 10 = .ok (.aload_n 0, 1) := by decide +kernel
theorem dX4_step_11 : decode cX4_step 11 = .ok (.getfield 46, 3) := by decide +kernel
theorem dX4_step_14 : decode cX4_step 14 = .ok (.aload_n 0, 1) := by decide +kernel
theorem dX4_step_15 : decode cX4_step 15 = .ok (.getfield 101, 3) := by decide +kernel
theorem dX4_step_18 : decode cX4_step 18 = .ok (.iaload, 1) := by decide +kernel
theorem dX4_step_19 : decode cX4_step 19 = .ok (.istore_n 2, 1) := by decide +kernel
theorem dX4_step_20 : decode cX4_step 20 = .ok (.aload_n 1, 1) := by decide +kernel
theorem dX4_step_21 : decode cX4_step 21 = .ok (.ifnull 20, 3) := by decide +kernel
theorem dX4_step_24 : decode cX4_step 24 = .ok (.iload_n 2, 1) := by decide +kernel
theorem dX4_step_25 : decode cX4_step 25 = .ok (.aload_n 1, 1) := by decide +kernel
theorem dX4_step_26 : decode cX4_step 26 = .ok (.aload_n 0, 1) := by decide +kernel
theorem dX4_step_27 : decode cX4_step 27 = .ok (.getfield 42, 3) := by decide +kernel
theorem dX4_step_30 : decode cX4_step 30 = .ok (.aload_n 0, 1) := by decide +kernel
theorem dX4_step_31 : decode cX4_step 31 = .ok (.getfield 101, 3) := by decide +kernel
theorem dX4_step_34 : decode cX4_step 34 = .ok (.iaload, 1) := by decide +kernel
theorem dX4_step_35 : decode cX4_step 35 = .ok (.invokevirtual 180, 3) := by decide +kernel
theorem dX4_step_38 : decode cX4_step 38 = .ok (.if_icmp .lt 22, 3) := by decide +kernel
theorem dX4_step_41 : decode cX4_step 41 = .ok (.aload_n 0, 1) := by decide +kernel
theorem dX4_step_42 : decode cX4_step 42 = .ok (.dup, 1) := by decide +kernel
theorem dX4_step_43 : decode cX4_step 43 = .ok (.getfield 71, 3) := by decide +kernel
theorem dX4_step_46 : decode cX4_step 46 = .ok (.iconst 1, 1) := by decide +kernel
theorem dX4_step_47 : decode cX4_step 47 = .ok (.iadd, 1) := by decide +kernel
theorem dX4_step_48 : decode cX4_step 48 = .ok (.putfield 71, 3) := by decide +kernel
theorem dX4_step_51 : decode cX4_step 51 = .ok (.aload_n 0, 1) := by decide +kernel
theorem dX4_step_52 : decode cX4_step 52 = .ok (.iconst 2, 1) := by decide +kernel
theorem dX4_step_53 : decode cX4_step 53 = .ok (.ldc2_w 146, 3) := by decide +kernel
theorem dX4_step_56 : decode cX4_step 56 = .ok (.invokevirtual 148, 3) := by decide +kernel
theorem dX4_step_59 : decode cX4_step 59 = .ok (.return_, 1) := by decide +kernel
theorem dX4_step_60 : decode cX4_step 60 = .ok (.aload_n 1, 1) := by decide +kernel
theorem dX4_step_61 : decode cX4_step 61 = .ok (.aload_n 0, 1) := by decide +kernel
theorem dX4_step_62 : decode cX4_step 62 = .ok (.getfield 42, 3) := by decide +kernel
theorem dX4_step_65 : decode cX4_step 65 = .ok (.aload_n 0, 1) := by decide +kernel
theorem dX4_step_66 : decode cX4_step 66 = .ok (.getfield 101, 3) := by decide +kernel
theorem dX4_step_69 : decode cX4_step 69 = .ok (.iaload, 1) := by decide +kernel
theorem dX4_step_70 : decode cX4_step 70 = .ok (.iload_n 2, 1) := by decide +kernel
theorem dX4_step_71 : decode cX4_step 71 = .ok (.invokevirtual 184, 3) := by decide +kernel
theorem dX4_step_74 : decode cX4_step 74 = .ok (.istore_n 3, 1) := by decide +kernel
theorem dX4_step_75 : decode cX4_step 75 = .ok (.aload_n 1, 1) := by decide +kernel
theorem dX4_step_76 : decode cX4_step 76 = .ok (.iload_n 3, 1) := by decide +kernel
theorem dX4_step_77 : decode cX4_step 77 = .ok (.invokevirtual 188, 3) := by decide +kernel
theorem dX4_step_80 : decode cX4_step 80 = .ok (.istore 4, 2) := by decide +kernel
theorem dX4_step_82 : decode cX4_step 82 = .ok (.aload_n 1, 1) := by decide +kernel
theorem dX4_step_83 : decode cX4_step 83 = .ok (.iload_n 3, 1) := by decide +kernel
theorem dX4_step_84 : decode cX4_step 84 = .ok (.iconst 1, 1) := by decide +kernel
theorem dX4_step_85 : decode cX4_step 85 = .ok (.iadd, 1) := by decide +kernel
theorem dX4_step_86 : decode cX4_step 86 = .ok (.invokevirtual 188, 3) := by decide +kernel
theorem dX4_step_89 : decode cX4_step 89 = .ok (.istore 5, 2) := by decide +kernel
theorem dX4_step_91 : decode cX4_step 91 = .ok (.aload_n 0, 1) := by decide +kernel
theorem dX4_step_92 : decode cX4_step 92 = .ok (.getfield 46, 3) := by decide +kernel
theorem dX4_step_95 : decode cX4_step 95 = .ok (.aload_n 0, 1) := by decide +kernel
theorem dX4_step_96 : decode cX4_step 96 = .ok (.getfield 101, 3) := by decide +kernel
theorem dX4_step_99 : decode cX4_step 99 = .ok (.iload_n 2, 1) := by decide +kernel
theorem dX4_step_100 : decode cX4_step 100 = .ok (.iconst 1, 1) := by decide +kernel
theorem dX4_step_101 : decode cX4_step 101 = .ok (.iadd, 1) := by decide +kernel
theorem dX4_step_102 : decode cX4_step 102 = .ok (.iastore, 1) := by decide +kernel
theorem dX4_step_103 : decode cX4_step 103 = .ok (.aload_n 0, 1) := by decide +kernel
theorem dX4_step_104 : decode cX4_step 104 = .ok (.iconst 1, 1) := by decide +kernel
theorem dX4_step_105 : decode cX4_step 105 = .ok (.invokevirtual 191, 3) := by decide +kernel
theorem dX4_step_108 : decode cX4_step 108 = .ok (.ifCond .ne 4, 3) := by decide +kernel
theorem dX4_step_111 : decode cX4_step 111 = .ok (.return_, 1) := by decide +kernel
theorem dX4_step_112 : decode cX4_step 112 = .ok (.iload 4, 2) := by decide +kernel
theorem dX4_step_114 : decode cX4_step 114 = .ok (.iconst 4, 1) := by decide +kernel
theorem dX4_step_115 : decode cX4_step 115 = .ok (.if_icmp .le 10, 3) := by decide +kernel
theorem dX4_step_118 : decode cX4_step 118 = .ok (.iload 4, 2) := by decide +kernel
theorem dX4_step_120 : decode cX4_step 120 = .ok (.bipush 45, 2) := by decide +kernel
theorem dX4_step_122 : decode cX4_step 122 = .ok (.if_icmp .ne 21, 3) := by decide +kernel
theorem dX4_step_125 : decode cX4_step 125 = .ok (.aload_n 0, 1) := by decide +kernel
theorem dX4_step_126 : decode cX4_step 126 = .ok (.iload 4, 2) := by decide +kernel
theorem dX4_step_128 : decode cX4_step 128 = .ok (.aload_n 1, 1) := by decide +kernel
theorem dX4_step_129 : decode cX4_step 129 = .ok (.iload_n 3, 1) := by decide +kernel
theorem dX4_step_130 : decode cX4_step 130 = .ok (.iconst 1, 1) := by decide +kernel
theorem dX4_step_131 : decode cX4_step 131 = .ok (.iadd, 1) := by decide +kernel
theorem dX4_step_132 : decode cX4_step 132 = .ok (.iconst 2, 1) := by decide +kernel
theorem dX4_step_133 : decode cX4_step 133 = .ok (.invokevirtual 195, 3) := by decide +kernel
theorem dX4_step_136 : decode cX4_step 136 = .ok (.l2i, 1) := by decide +kernel
theorem dX4_step_137 : decode cX4_step 137 = .ok (.invokevirtual 199, 3) := by decide +kernel
theorem dX4_step_140 : decode cX4_step 140 = .ok (.goto 250, 3) := by decide +kernel
theorem dX4_step_143 : decode cX4_step 143 = .ok (.iload 4, 2) := by decide +kernel
theorem dX4_step_145 : decode cX4_step 145 = .ok (.bipush 10, 2) := by decide +kernel
theorem dX4_step_147 : decode cX4_step 147 = .ok (.if_icmp .le 17, 3) := by decide +kernel
theorem dX4_step_150 : decode cX4_step 150 = .ok (.iload 4, 2) := by decide +kernel
theorem dX4_step_152 : decode cX4_step 152 = .ok (.bipush 35, 2) := by decide +kernel
theorem dX4_step_154 : decode cX4_step 154 = .ok (.if_icmp .eq 10, 3) := by decide +kernel
theorem dX4_step_157 : decode cX4_step 157 = .ok (.iload 4, 2) := by decide +kernel
theorem dX4_step_159 : decode cX4_step 159 = .ok (.bipush 46, 2) := by decide +kernel
theorem dX4_step_161 : decode cX4_step 161 = .ok (.if_icmp .ne 16, 3) := by decide +kernel
theorem dX4_step_164 : decode cX4_step 164 = .ok (.aload_n 0, 1) := by decide +kernel
theorem dX4_step_165 : decode cX4_step 165 = .ok (.iload 4, 2) := by decide +kernel
theorem dX4_step_167 : decode cX4_step 167 = .ok (.aload_n 1, 1) := by decide +kernel
theorem dX4_step_168 : decode cX4_step 168 = .ok (.iload_n 3, 1) := by decide +kernel
theorem dX4_step_169 : decode cX4_step 169 = .ok (.iconst 1, 1) := by decide +kernel
theorem dX4_step_170 : decode cX4_step 170 = .ok (.iadd, 1) := by decide +kernel
theorem dX4_step_171 : decode cX4_step 171 = .ok (.invokevirtual 203, 3) := by decide +kernel
theorem dX4_step_174 : decode cX4_step 174 = .ok (.goto 216, 3) := by decide +kernel
theorem dX4_step_177 : decode cX4_step 177 = .ok (.iload 4, 2) := by decide +kernel
theorem dX4_step_179 : decode cX4_step 179 = .ok (.bipush 15, 2) := by decide +kernel
theorem dX4_step_181 : decode cX4_step 181 = .ok (.if_icmp .gt 27, 3) := by decide +kernel
theorem dX4_step_184 : decode cX4_step 184 = .ok (.aload_n 0, 1) := by decide +kernel
theorem dX4_step_185 : decode cX4_step 185 = .ok (.iload 4, 2) := by decide +kernel
theorem dX4_step_187 : decode cX4_step 187 = .ok (.aload_n 0, 1) := by decide +kernel
theorem dX4_step_188 : decode cX4_step 188 = .ok (.getfield 101, 3) := by decide +kernel
theorem dX4_step_191 : decode cX4_step 191 = .ok (.bipush 40, 2) := by decide +kernel
theorem dX4_step_193 : decode cX4_step 193 = .ok (.imul, 1) := by decide +kernel
theorem dX4_step_194 : decode cX4_step 194 = .ok (.iload 5, 2) := by decide +kernel
theorem dX4_step_196 : decode cX4_step 196 = .ok (.bipush 39, 2) := by decide +kernel
theorem dX4_step_198 : decode cX4_step 198 = .ok (.invokestatic 207, 3) := by decide +kernel
theorem dX4_step_201 : decode cX4_step 201 = .ok (.iadd, 1) := by decide +kernel
theorem dX4_step_202 : decode cX4_step 202 = .ok (.invokevirtual 212, 3) := by decide +kernel
theorem dX4_step_205 : decode cX4_step 205 = .ok (.goto 185, 3) := by decide +kernel
theorem dX4_step_208 : decode cX4_step 208 = .ok (.iload 4, 2) := by decide +kernel
theorem dX4_step_210 : decode cX4_step 210 = .ok (.bipush 20, 2) := by decide +kernel
theorem dX4_step_212 : decode cX4_step 212 = .ok (.if_icmp .gt 19, 3) := by decide +kernel
theorem dX4_step_215 : decode cX4_step 215 = .ok (.aload_n 0, 1) := by decide +kernel
theorem dX4_step_216 : decode cX4_step 216 = .ok (.iload 4, 2) := by decide +kernel
theorem dX4_step_218 : decode cX4_step 218 = .ok (.aload_n 1, 1) := by decide +kernel
theorem dX4_step_219 : decode cX4_step 219 = .ok (.iload_n 3, 1) := by decide +kernel
theorem dX4_step_220 : decode cX4_step 220 = .ok (.iconst 2, 1) := by decide +kernel
theorem dX4_step_221 : decode cX4_step 221 = .ok (.iadd, 1) := by decide +kernel
theorem dX4_step_222 : decode cX4_step 222 = .ok (.invokevirtual 188, 3) := by decide +kernel
theorem dX4_step_225 : decode cX4_step 225 = .ok (.invokevirtual 215, 3) := by decide +kernel
theorem dX4_step_228 : decode cX4_step 228 = .ok (.goto 162, 3) := by decide +kernel
theorem dX4_step_231 : decode cX4_step 231 = .ok (.iload 4, 2) := by decide +kernel
theorem dX4_step_233 : decode cX4_step 233 = .ok (.bipush 21, 2) := by decide +kernel
theorem dX4_step_235 : decode cX4_step 235 = .ok (.if_icmp .ne 18, 3) := by decide +kernel
theorem dX4_step_238 : decode cX4_step 238 = .ok (.aload_n 0, 1) := by decide +kernel
theorem dX4_step_239 : decode cX4_step 239 = .ok (.bipush 6, 2) := by decide +kernel
theorem dX4_step_241 : decode cX4_step 241 = .ok (.aload_n 1, 1) := by decide +kernel
theorem dX4_step_242 : decode cX4_step 242 = .ok (.iload 5, 2) := by decide +kernel
theorem dX4_step_244 : decode cX4_step 244 = .ok (.invokevirtual 218, 3) := by decide +kernel
theorem dX4_step_247 : decode cX4_step 247 = .ok (.invokevirtual 221, 3) := by decide +kernel
theorem dX4_step_250 : decode cX4_step 250 = .ok (.goto 140, 3) := by decide +kernel
theorem dX4_step_253 : decode cX4_step 253 = .ok (.iload 4, 2) := by decide +kernel
theorem dX4_step_255 : decode cX4_step 255 = .ok (.bipush 22, 2) := by decide +kernel
theorem dX4_step_257 : decode cX4_step 257 = .ok (.if_icmp .ne 16, 3) := by decide +kernel
theorem dX4_step_260 : decode cX4_step 260 = .ok (.aload_n 0, 1) := by decide +kernel
theorem dX4_step_261 : decode cX4_step 261 = .ok (.aload_n 1, 1) := by decide +kernel
theorem dX4_step_262 : decode cX4_step 262 = .ok (.iload 5, 2) := by decide +kernel
theorem dX4_step_264 : decode cX4_step 264 = .ok (.invokevirtual 218, 3) := by decide +kernel
theorem dX4_step_267 : decode cX4_step 267 = .ok (.invokevirtual 224, 3) := by decide +kernel
theorem dX4_step_270 : decode cX4_step 270 = .ok (.goto 120, 3) := by decide +kernel
theorem dX4_step_273 : decode cX4_step 273 = .ok (.iload 4, 2) := by decide +kernel
theorem dX4_step_275 : decode cX4_step 275 = .ok (.bipush 23, 2) := by decide +kernel
theorem dX4_step_277 : decode cX4_step 277 = .ok (.if_icmp .ne 48, 3) := by decide +kernel
theorem dX4_step_280 : decode cX4_step 280 = .ok (.aload_n 1, 1) := by decide +kernel
theorem dX4_step_281 : decode cX4_step 281 = .ok (.iload 5, 2) := by decide +kernel
theorem dX4_step_283 : decode cX4_step 283 = .ok (.bipush 7, 2) := by decide +kernel
theorem dX4_step_285 : decode cX4_step 285 = .ok (.invokevirtual 227, 3) := by decide +kernel
theorem dX4_step_288 : decode cX4_step 288 = .ok (.istore 6, 2) := by decide +kernel
theorem dX4_step_290 : decode cX4_step 290 = .ok (.aload_n 1, 1) := by decide +kernel
theorem dX4_step_291 : decode cX4_step 291 = .ok (.iload 5, 2) := by decide +kernel
theorem dX4_step_293 : decode cX4_step 293 = .ok (.bipush 8, 2) := by decide +kernel
theorem dX4_step_295 : decode cX4_step 295 = .ok (.invokevirtual 227, 3) := by decide +kernel
theorem dX4_step_298 : decode cX4_step 298 = .ok (.istore 7, 2) := by decide +kernel
theorem dX4_step_300 : decode cX4_step 300 = .ok (.iload 6, 2) := by decide +kernel
theorem dX4_step_302 : decode cX4_step 302 = .ok (.ifCond .ne 12, 3) := by decide +kernel
theorem dX4_step_305 : decode cX4_step 305 = .ok (.aload_n 0, 1) := by decide +kernel
theorem dX4_step_306 : decode cX4_step 306 = .ok (.iload 7, 2) := by decide +kernel
theorem dX4_step_308 : decode cX4_step 308 = .ok (.invokevirtual 230, 3) := by decide +kernel
theorem dX4_step_311 : decode cX4_step 311 = .ok (.goto 11, 3) := by decide +kernel
theorem dX4_step_314 : decode cX4_step 314 = .ok (.aload_n 0, 1) := by decide +kernel
theorem dX4_step_315 : decode cX4_step 315 = .ok (.iload 6, 2) := by decide +kernel
theorem dX4_step_317 : decode cX4_step 317 = .ok (.iload 7, 2) := by decide +kernel
theorem dX4_step_319 : decode cX4_step 319 = .ok (.invokevirtual 233, 3) := by decide +kernel
theorem dX4_step_322 : decode cX4_step 322 = .ok (.goto 68, 3) := by decide +kernel
theorem dX4_step_325 : decode cX4_step 325 = .ok (.iload 4, 2) := by decide +kernel
theorem dX4_step_327 : decode cX4_step 327 = .ok (.bipush 44, 2) := by decide +kernel
theorem dX4_step_329 : decode cX4_step 329 = .ok (.if_icmp .gt 12, 3) := by decide +kernel
theorem dX4_step_332 : decode cX4_step 332 = .ok (.aload_n 0, 1) := by decide +kernel
theorem dX4_step_333 : decode cX4_step 333 = .ok (.iload 4, 2) := by decide +kernel
theorem dX4_step_335 : decode cX4_step 335 = .ok (.invokevirtual 236, 3) := by decide +kernel
theorem dX4_step_338 : decode cX4_step 338 = .ok (.goto 52, 3) := by decide +kernel
theorem dX4_step_341 : decode cX4_step 341 = .ok (.iload 4, 2) := by decide +kernel
theorem dX4_step_343 : decode cX4_step 343 = .ok (.bipush 51, 2) := by decide +kernel
theorem dX4_step_345 : decode cX4_step 345 = .ok (.if_icmp .gt 18, 3) := by decide +kernel
theorem dX4_step_348 : decode cX4_step 348 = .ok (.aload_n 0, 1) := by decide +kernel
theorem dX4_step_349 : decode cX4_step 349 = .ok (.iload 4, 2) := by decide +kernel
theorem dX4_step_351 : decode cX4_step 351 = .ok (.aload_n 1, 1) := by decide +kernel
theorem dX4_step_352 : decode cX4_step 352 = .ok (.getfield 239, 3) := by decide +kernel
theorem dX4_step_355 : decode cX4_step 355 = .ok (.iload 5, 2) := by decide +kernel
theorem dX4_step_357 : decode cX4_step 357 = .ok (.invokevirtual 242, 3) := by decide +kernel
theorem dX4_step_360 : decode cX4_step 360 = .ok (.goto 30, 3) := by decide +kernel
theorem dX4_step_363 : decode cX4_step 363 = .ok (.iload 4, 2) := by decide +kernel
theorem dX4_step_365 : decode cX4_step 365 = .ok (.bipush 59, 2) := by decide +kernel
theorem dX4_step_367 : decode cX4_step 367 = .ok (.if_icmp .ne 10, 3) := by decide +kernel
theorem dX4_step_370 : decode cX4_step 370 = .ok (.aload_n 0, 1) := by decide +kernel
theorem dX4_step_371 : decode cX4_step 371 = .ok (.invokevirtual 246, 3) := by decide +kernel
theorem dX4_step_374 : decode cX4_step 374 = .ok (.goto 16, 3) := by decide +kernel
theorem dX4_step_377 : decode cX4_step 377 = .ok (.aload_n 0, 1) := by decide +kernel
theorem dX4_step_378 : decode cX4_step 378 = .ok (.iload 4, 2) := by decide +kernel
theorem dX4_step_380 : decode cX4_step 380 = .ok (.aload_n 1, 1) := by decide +kernel
theorem dX4_step_381 : decode cX4_step 381 = .ok (.iload_n 3, 1) := by decide +kernel
theorem dX4_step_382 : decode cX4_step 382 = .ok (.iconst 2, 1) := by decide +kernel
theorem dX4_step_383 : decode cX4_step 383 = .ok (.iadd, 1) := by decide +kernel
theorem dX4_step_384 : decode cX4_step 384 = .ok (.invokevirtual 188, 3) := by decide +kernel
theorem dX4_step_387 : decode cX4_step 387 = .ok (.invokevirtual 249, 3) := by decide +kernel
theorem dX4_step_390 : decode cX4_step 390 = .ok (.return_, 1) := by decide +kernel
theorem dX4_steer_0 : decode cX4_steer 0 = .ok (.iload_n 1, 1) := by decide +kernel
theorem dX4_steer_1 : decode cX4_steer 1 = .ok (.ifCond .ne 11, 3) := by decide +kernel
theorem dX4_steer_4 : decode cX4_steer 4 = .ok (.aload_n 0, 1) := by decide +kernel
theorem dX4_steer_5 : decode cX4_steer 5 = .ok (.invokevirtual 252, 3) := by decide +kernel
theorem dX4_steer_8 : decode cX4_steer 8 = .ok (.pop, 1) := by decide +kernel
theorem dX4_steer_9 : decode cX4_steer 9 = .ok (.goto 91, 3) := by decide +kernel
theorem dX4_steer_12 : decode cX4_steer 12 = .ok (.iload_n 1, 1) := by decide +kernel
theorem dX4_steer_13 : decode cX4_steer 13 = .ok (.iconst 1, 1) := by decide +kernel
theorem dX4_steer_14 : decode cX4_steer 14 = .ok (.if_icmp .ne 10, 3) := by decide +kernel
theorem dX4_steer_17 : decode cX4_steer 17 = .ok (.aload_n 0, 1) := by decide +kernel
theorem dX4_steer_18 : decode cX4_steer 18 = .ok (.invokevirtual 256, 3) := by decide +kernel
theorem dX4_steer_21 : decode cX4_steer 21 = .ok (.goto 79, 3) := by decide +kernel
theorem dX4_steer_24 : decode cX4_steer 24 = .ok (.iload_n 1, 1) := by decide +kernel
theorem dX4_steer_25 : decode cX4_steer 25 = .ok (.bipush 45, 2) := by decide +kernel
theorem dX4_steer_27 : decode cX4_steer 27 = .ok (.if_icmp .ne 23, 3) := by decide +kernel
theorem dX4_steer_30 : decode cX4_steer 30 = .ok (.aload_n 0, 1) := by decide +kernel
theorem dX4_steer_31 : decode cX4_steer 31 = .ok (.iconst 1, 1) := by decide +kernel
theorem dX4_steer_32 : decode cX4_steer 32 = .ok (.aload_n 0, 1) := by decide +kernel
theorem dX4_steer_33 : decode cX4_steer 33 = .ok (.getfield 12, 3) := by decide +kernel
theorem dX4_steer_36 : decode cX4_steer 36 = .ok (.getfield 158, 3) := by decide +kernel
theorem dX4_steer_39 : decode cX4_steer 39 = .ok (.aload_n 0, 1) := by decide +kernel
theorem dX4_steer_40 : decode cX4_steer 40 = .ok (.invokevirtual 252, 3) := by decide +kernel
theorem dX4_steer_43 : decode cX4_steer 43 = .ok (.laload, 1) := by decide +kernel
theorem dX4_steer_44 : decode cX4_steer 44 = .ok (.invokevirtual 148, 3) := by decide +kernel
theorem dX4_steer_47 : decode cX4_steer 47 = .ok (.goto 53, 3) := by decide +kernel
theorem dX4_steer_50 : decode cX4_steer 50 = .ok (.iload_n 1, 1) := by decide +kernel
theorem dX4_steer_51 : decode cX4_steer 51 = .ok (.iconst 2, 1) := by decide +kernel
theorem dX4_steer_52 : decode cX4_steer 52 = .ok (.if_icmp .eq 38, 3) := by decide +kernel
theorem dX4_steer_55 : decode cX4_steer 55 = .ok (.aload_n 0, 1) := by decide +kernel
theorem dX4_steer_56 : decode cX4_steer 56 = .ok (.getfield 12, 3) := by decide +kernel
theorem dX4_steer_59 : decode cX4_steer 59 = .ok (.getfield 158, 3) := by decide +kernel
theorem dX4_steer_62 : decode cX4_steer 62 = .ok (.aload_n 0, 1) := by decide +kernel
theorem dX4_steer_63 : decode cX4_steer 63 = .ok (.invokevirtual 252, 3) := by decide +kernel
theorem dX4_steer_66 : decode cX4_steer 66 = .ok (.laload, 1) := by decide +kernel
theorem dX4_steer_67 : decode cX4_steer 67 = .ok (.lconst 1, 1) := by decide +kernel
theorem dX4_steer_68 : decode cX4_steer 68 = .ok (.lcmp, 1) := by decide +kernel
theorem dX4_steer_69 : decode cX4_steer 69 = .ok (.ifCond .ne 7, 3) := by decide +kernel
theorem dX4_steer_72 : decode cX4_steer 72 = .ok (.iconst 1, 1) := by decide +kernel
theorem dX4_steer_73 : decode cX4_steer 73 = .ok (.goto 4, 3) := by decide +kernel
theorem dX4_steer_76 : decode cX4_steer 76 = .ok (.iconst 0, 1) := by decide +kernel
theorem dX4_steer_77 : decode cX4_steer 77 = .ok (.iload_n 1, 1) := by decide +kernel
theorem dX4_steer_78 : decode cX4_steer 78 = .ok (.iconst 3, 1) := by decide +kernel
theorem dX4_steer_79 : decode cX4_steer 79 = .ok (.if_icmp .ne 7, 3) := by decide +kernel
theorem dX4_steer_82 : decode cX4_steer 82 = .ok (.iconst 1, 1) := by decide +kernel
theorem dX4_steer_83 : decode cX4_steer 83 = .ok (.goto 4, 3) := by decide +kernel
theorem dX4_steer_86 : decode cX4_steer 86 = .ok (.iconst 0, 1) := by decide +kernel
theorem dX4_steer_87 : decode cX4_steer 87 = .ok (.if_icmp .ne 13, 3) := by decide +kernel
theorem dX4_steer_90 : decode cX4_steer 90 = .ok (.aload_n 0, 1) := by decide +kernel
theorem dX4_steer_91 : decode cX4_steer 91 = .ok (.getfield 46, 3) := by decide +kernel
theorem dX4_steer_94 : decode cX4_steer 94 = .ok (.aload_n 0, 1) := by decide +kernel
theorem dX4_steer_95 : decode cX4_steer 95 = .ok (.getfield 101, 3) := by decide +kernel
theorem dX4_steer_98 : decode cX4_steer 98 = .ok (.iload_n 2, 1) := by decide +kernel
theorem dX4_steer_99 : decode cX4_steer 99 = .ok (.iastore, 1) := by decide +kernel
theorem dX4_steer_100 : decode cX4_steer 100 = .ok (.return_, 1) := by decide +kernel
theorem dX4_giveBack_0 : decode cX4_giveBack 0 = .ok (.aload_n 0, 1) := by decide +kernel
theorem dX4_giveBack_1 : decode cX4_giveBack 1 = .ok (.getfield 38, 3) := by decide +kernel
theorem dX4_giveBack_4 : decode cX4_giveBack 4 = .ok (.aload_n 0, 1) := by decide +kernel
theorem dX4_giveBack_5 : decode cX4_giveBack 5 = .ok (.getfield 101, 3) := by decide +kernel
theorem dX4_giveBack_8 : decode cX4_giveBack 8 = .ok (.aaload, 1) := by decide +kernel
theorem dX4_giveBack_9 : decode cX4_giveBack 9 = .ok (.aload_n 0, 1) := by decide +kernel
theorem dX4_giveBack_10 : decode cX4_giveBack 10 = .ok (.getfield 42, 3) := by decide +kernel
theorem dX4_giveBack_13 : decode cX4_giveBack 13 = .ok (.aload_n 0, 1) := by decide +kernel
theorem dX4_giveBack_14 : decode cX4_giveBack 14 = .ok (.getfield 101, 3) := by decide +kernel
theorem dX4_giveBack_17 : decode cX4_giveBack 17 = .ok (.iaload, 1) := by decide +kernel
theorem dX4_giveBack_18 : decode cX4_giveBack 18 = .ok (.invokevirtual 259, 3) := by decide +kernel
theorem dX4_giveBack_21 : decode cX4_giveBack 21 = .ok (.istore_n 1, 1) := by decide +kernel
theorem dX4_giveBack_22 : decode cX4_giveBack 22 = .ok (.aload_n 0, 1) := by decide +kernel
theorem dX4_giveBack_23 : decode cX4_giveBack 23 = .ok (.getfield 49, 3) := by decide +kernel
theorem dX4_giveBack_26 : decode cX4_giveBack 26 = .ok (.aload_n 0, 1) := by decide +kernel
theorem dX4_giveBack_27 : decode cX4_giveBack 27 = .ok (.getfield 101, 3) := by decide +kernel
theorem dX4_giveBack_30 : decode cX4_giveBack 30 = .ok (.iaload, 1) := by decide +kernel
theorem dX4_giveBack_31 : decode cX4_giveBack 31 = .ok (.iload_n 1, 1) := by decide +kernel
theorem dX4_giveBack_32 : decode cX4_giveBack 32 = .ok (.if_icmp .eq 13, 3) := by decide +kernel
theorem dX4_giveBack_35 : decode cX4_giveBack 35 = .ok (.aload_n 0, 1) := by decide +kernel
theorem dX4_giveBack_36 : decode cX4_giveBack 36 = .ok (.dup, 1) := by decide +kernel
theorem dX4_giveBack_37 : decode cX4_giveBack 37 = .ok (.getfield 71, 3) := by decide +kernel
theorem dX4_giveBack_40 : decode cX4_giveBack 40 = .ok (.iconst 1, 1) := by decide +kernel
theorem dX4_giveBack_41 : decode cX4_giveBack 41 = .ok (.iadd, 1) := by decide +kernel
theorem dX4_giveBack_42 : decode cX4_giveBack 42 = .ok (.putfield 71, 3) := by decide +kernel
theorem dX4_giveBack_45 : decode cX4_giveBack 45 = .ok (.aload_n 0, 1) := by decide +kernel
theorem dX4_giveBack_46 : decode cX4_giveBack 46 = .ok (.getfield 101, 3) := by decide +kernel
theorem dX4_giveBack_49 : decode cX4_giveBack 49 = .ok (.ifCond .ne 9, 3) := by decide +kernel
theorem dX4_giveBack_52 : decode cX4_giveBack 52 = .ok (.aload_n 0, 1) := by decide +kernel
theorem dX4_giveBack_53 : decode cX4_giveBack 53 = .ok (.iconst 0, 1) := by decide +kernel
theorem dX4_giveBack_54 : decode cX4_giveBack 54 = .ok (.putfield 83, 3) := by decide +kernel
theorem dX4_giveBack_57 : decode cX4_giveBack 57 = .ok (.return_, 1) := by decide +kernel
theorem dX4_giveBack_58 : decode cX4_giveBack 58 = .ok (.aload_n 0, 1) := by decide +kernel
theorem dX4_giveBack_59 : decode cX4_giveBack 59 = .ok (.getfield 101, 3) := by decide +kernel
theorem dX4_giveBack_62 : decode cX4_giveBack 62 = .ok (.bipush 64, 2) := by decide +kernel
theorem dX4_giveBack_64 : decode cX4_giveBack 64 = .ok (.imul, 1) := by decide +kernel
theorem dX4_giveBack_65 : decode cX4_giveBack 65 = .ok (.istore_n 2, 1) := by decide +kernel
theorem dX4_giveBack_66 : decode cX4_giveBack 66 = .ok (.aload_n 0, 1) := by decide +kernel
theorem dX4_giveBack_67 : decode cX4_giveBack 67 = .ok (.dup, 1) := by decide +kernel
theorem dX4_giveBack_68 : decode cX4_giveBack 68 = .ok (.getfield 101, 3) := by decide +kernel
theorem dX4_giveBack_71 : decode cX4_giveBack 71 = .ok (.iconst 1, 1) := by decide +kernel
theorem dX4_giveBack_72 : decode cX4_giveBack 72 = .ok (.isub, 1) := by decide +kernel
theorem dX4_giveBack_73 : decode cX4_giveBack 73 = .ok (.putfield 101, 3) := by decide +kernel
theorem dX4_giveBack_76 : decode cX4_giveBack 76 = .ok (.iconst 0, 1) := by decide +kernel
theorem dX4_giveBack_77 : decode cX4_giveBack 77 = .ok (.istore_n 3, 1) := by decide +kernel
theorem dX4_giveBack_78 : decode cX4_giveBack 78 = .ok (.iload_n 3, 1) := by decide +kernel
theorem dX4_giveBack_79 : decode cX4_giveBack 79 = .ok (.iload_n 1, 1) := by decide +kernel
theorem dX4_giveBack_80 : decode cX4_giveBack 80 = .ok (.if_icmp .ge 21, 3) := by decide +kernel
theorem dX4_giveBack_83 : decode cX4_giveBack 83 = .ok (.aload_n 0, 1) := by decide +kernel
theorem dX4_giveBack_84 : decode cX4_giveBack 84 = .ok (.aload_n 0, 1) := by decide +kernel
theorem dX4_giveBack_85 : decode cX4_giveBack 85 = .ok (.getfield 55, 3) := by decide +kernel
theorem dX4_giveBack_88 : decode cX4_giveBack 88 = .ok (.iload_n 2, 1) := by decide +kernel
theorem dX4_giveBack_89 : decode cX4_giveBack 89 = .ok (.iload_n 3, 1) := by decide +kernel
theorem dX4_giveBack_90 : decode cX4_giveBack 90 = .ok (.iadd, 1) := by decide +kernel
theorem dX4_giveBack_91 : decode cX4_giveBack 91 = .ok (.iaload, 1) := by decide +kernel
theorem dX4_giveBack_92 : decode cX4_giveBack 92 = .ok (.invokevirtual 176, 3) := by decide +kernel
theorem dX4_giveBack_95 : decode cX4_giveBack 95 = .ok (.iinc 3 1, 3) := by decide +kernel
theorem dX4_giveBack_98 : decode cX4_giveBack 98 = .ok (.goto (-20), 3) := by decide +kernel
theorem dX4_giveBack_101 : decode cX4_giveBack 101 = .ok (.return_, 1) := by decide +kernel
theorem dX4_set_0 : decode cX4_set 0 = .ok (.iload_n 1, 1) := by decide +kernel
theorem dX4_set_1 : decode cX4_set 1 = .ok (.lookupswitch 169 #[(5, 67), (6, 82), (7, 98), (8, 123), (9, 123), (10, 137), (46, 153)], 67) := by decide +kernel
theorem dX4_set_68 : decode cX4_set 68 = .ok (.aload_n 0, 1) := by decide +kernel
theorem dX4_set_69 : decode cX4_set 69 = .ok (.iconst 2, 1) := by decide +kernel
theorem dX4_set_70 : decode cX4_set 70 = .ok (.lconst 0, 1) := by decide +kernel
theorem dX4_set_71 : decode cX4_set 71 = .ok (.aload_n 2, 1) := by decide +kernel
theorem dX4_set_72 : decode cX4_set 72 = .ok (.iload_n 3, 1) := by decide +kernel
theorem dX4_set_73 : decode cX4_set 73 = .ok (.invokevirtual 188, 3) := by decide +kernel
theorem dX4_set_76 : decode cX4_set 76 = .ok (.i2l, 1) := by decide +kernel
theorem dX4_set_77 : decode cX4_set 77 = .ok (.invokevirtual 262, 3) := by decide +kernel
theorem dX4_set_80 : decode cX4_set 80 = .ok (.goto 90, 3) := by decide +kernel
theorem dX4_set_83 : decode cX4_set 83 = .ok (.aload_n 0, 1) := by decide +kernel
theorem dX4_set_84 : decode cX4_set 84 = .ok (.iconst 3, 1) := by decide +kernel
theorem dX4_set_85 : decode cX4_set 85 = .ok (.lconst 0, 1) := by decide +kernel
theorem dX4_set_86 : decode cX4_set 86 = .ok (.aload_n 2, 1) := by decide +kernel
theorem dX4_set_87 : decode cX4_set 87 = .ok (.iload_n 3, 1) := by decide +kernel
theorem dX4_set_88 : decode cX4_set 88 = .ok (.bipush 8, 2) := by decide +kernel
theorem dX4_set_90 : decode cX4_set 90 = .ok (.invokevirtual 195, 3) := by decide +kernel
theorem dX4_set_93 : decode cX4_set 93 = .ok (.invokevirtual 262, 3) := by decide +kernel
theorem dX4_set_96 : decode cX4_set 96 = .ok (.goto 74, 3) := by decide +kernel
theorem dX4_set_99 : decode cX4_set 99 = .ok (.aload_n 0, 1) := by decide +kernel
theorem dX4_set_100 : decode cX4_set 100 = .ok (.iconst 4, 1) := by decide +kernel
theorem dX4_set_101 : decode cX4_set 101 = .ok (.aload_n 2, 1) := by decide +kernel
theorem dX4_set_102 : decode cX4_set 102 = .ok (.iload_n 3, 1) := by decide +kernel
theorem dX4_set_103 : decode cX4_set 103 = .ok (.bipush 8, 2) := by decide +kernel
theorem dX4_set_105 : decode cX4_set 105 = .ok (.invokevirtual 195, 3) := by decide +kernel
theorem dX4_set_108 : decode cX4_set 108 = .ok (.aload_n 2, 1) := by decide +kernel
theorem dX4_set_109 : decode cX4_set 109 = .ok (.iload_n 3, 1) := by decide +kernel
theorem dX4_set_110 : decode cX4_set 110 = .ok (.bipush 8, 2) := by decide +kernel
theorem dX4_set_112 : decode cX4_set 112 = .ok (.iadd, 1) := by decide +kernel
theorem dX4_set_113 : decode cX4_set 113 = .ok (.bipush 8, 2) := by decide +kernel
theorem dX4_set_115 : decode cX4_set 115 = .ok (.invokevirtual 195, 3) := by decide +kernel
theorem dX4_set_118 : decode cX4_set 118 = .ok (.invokevirtual 262, 3) := by decide +kernel
theorem dX4_set_121 : decode cX4_set 121 = .ok (.goto 49, 3) := by decide +kernel
theorem dX4_set_124 : decode cX4_set 124 = .ok (.aload_n 0, 1) := by decide +kernel
theorem dX4_set_125 : decode cX4_set 125 = .ok (.iconst 1, 1) := by decide +kernel
theorem dX4_set_126 : decode cX4_set 126 = .ok (.lconst 0, 1) := by decide +kernel
theorem dX4_set_127 : decode cX4_set 127 = .ok (.bipush 9, 2) := by decide +kernel
theorem dX4_set_129 : decode cX4_set 129 = .ok (.iload_n 1, 1) := by decide +kernel
theorem dX4_set_130 : decode cX4_set 130 = .ok (.isub, 1) := by decide +kernel
theorem dX4_set_131 : decode cX4_set 131 = .ok (.i2l, 1) := by decide +kernel
theorem dX4_set_132 : decode cX4_set 132 = .ok (.invokevirtual 262, 3) := by decide +kernel
theorem dX4_set_135 : decode cX4_set 135 = .ok (.goto 35, 3) := by decide +kernel
theorem dX4_set_138 : decode cX4_set 138 = .ok (.aload_n 0, 1) := by decide +kernel
theorem dX4_set_139 : decode cX4_set 139 = .ok (.iconst 5, 1) := by decide +kernel
theorem dX4_set_140 : decode cX4_set 140 = .ok (.lconst 0, 1) := by decide +kernel
theorem dX4_set_141 : decode cX4_set 141 = .ok (.aload_n 2, 1) := by decide +kernel
theorem dX4_set_142 : decode cX4_set 142 = .ok (.iload_n 3, 1) := by decide +kernel
theorem dX4_set_143 : decode cX4_set 143 = .ok (.bipush 8, 2) := by decide +kernel
theorem dX4_set_145 : decode cX4_set 145 = .ok (.invokevirtual 195, 3) := by decide +kernel
theorem dX4_set_148 : decode cX4_set 148 = .ok (.invokevirtual 262, 3) := by decide +kernel
theorem dX4_set_151 : decode cX4_set 151 = .ok (.goto 19, 3) := by decide +kernel
theorem dX4_set_154 : decode cX4_set 154 = .ok (.aload_n 0, 1) := by decide +kernel
theorem dX4_set_155 : decode cX4_set 155 = .ok (.iconst 5, 1) := by decide +kernel
theorem dX4_set_156 : decode cX4_set 156 = .ok (.lconst 0, 1) := by decide +kernel
theorem dX4_set_157 : decode cX4_set 157 = .ok (.aload_n 0, 1) := by decide +kernel
theorem dX4_set_158 : decode cX4_set 158 = .ok (.getfield 76, 3) := by decide +kernel
theorem dX4_set_161 : decode cX4_set 161 = .ok (.getfield 265, 3) := by decide +kernel
theorem dX4_set_164 : decode cX4_set 164 = .ok (.invokevirtual 262, 3) := by decide +kernel
theorem dX4_set_167 : decode cX4_set 167 = .ok (.goto 3, 3) := by decide +kernel
theorem dX4_set_170 : decode cX4_set 170 = .ok (.return_, 1) := by decide +kernel
theorem dX4_useLocal_0 : decode cX4_useLocal 0 = .ok (.iload_n 1, 1) := by decide +kernel
theorem dX4_useLocal_1 : decode cX4_useLocal 1 = .ok (.bipush 13, 2) := by decide +kernel
theorem dX4_useLocal_3 : decode cX4_useLocal 3 = .ok (.if_icmp .ne 14, 3) := by decide +kernel
theorem dX4_useLocal_6 : decode cX4_useLocal 6 = .ok (.aload_n 0, 1) := by decide +kernel
theorem dX4_useLocal_7 : decode cX4_useLocal 7 = .ok (.getfield 52, 3) := by decide +kernel
theorem dX4_useLocal_10 : decode cX4_useLocal 10 = .ok (.iload_n 2, 1) := by decide +kernel
theorem dX4_useLocal_11 : decode cX4_useLocal 11 = .ok (.aload_n 0, 1) := by decide +kernel
theorem dX4_useLocal_12 : decode cX4_useLocal 12 = .ok (.invokevirtual 252, 3) := by decide +kernel
theorem dX4_useLocal_15 : decode cX4_useLocal 15 = .ok (.iastore, 1) := by decide +kernel
theorem dX4_useLocal_16 : decode cX4_useLocal 16 = .ok (.return_, 1) := by decide +kernel
theorem dX4_useLocal_17 : decode cX4_useLocal 17 = .ok (.aload_n 0, 1) := by decide +kernel
theorem dX4_useLocal_18 : decode cX4_useLocal 18 = .ok (.getfield 52, 3) := by decide +kernel
theorem dX4_useLocal_21 : decode cX4_useLocal 21 = .ok (.iload_n 2, 1) := by decide +kernel
theorem dX4_useLocal_22 : decode cX4_useLocal 22 = .ok (.iaload, 1) := by decide +kernel
theorem dX4_useLocal_23 : decode cX4_useLocal 23 = .ok (.istore_n 3, 1) := by decide +kernel
theorem dX4_useLocal_24 : decode cX4_useLocal 24 = .ok (.iload_n 3, 1) := by decide +kernel
theorem dX4_useLocal_25 : decode cX4_useLocal 25 = .ok (.ifCond .ne 13, 3) := by decide +kernel
theorem dX4_useLocal_28 : decode cX4_useLocal 28 = .ok (.aload_n 0, 1) := by decide +kernel
theorem dX4_useLocal_29 : decode cX4_useLocal 29 = .ok (.dup, 1) := by decide +kernel
theorem dX4_useLocal_30 : decode cX4_useLocal 30 = .ok (.getfield 71, 3) := by decide +kernel
theorem dX4_useLocal_33 : decode cX4_useLocal 33 = .ok (.iconst 1, 1) := by decide +kernel
theorem dX4_useLocal_34 : decode cX4_useLocal 34 = .ok (.iadd, 1) := by decide +kernel
theorem dX4_useLocal_35 : decode cX4_useLocal 35 = .ok (.putfield 71, 3) := by decide +kernel
theorem dX4_useLocal_38 : decode cX4_useLocal 38 = .ok (.iload_n 1, 1) := by decide +kernel
theorem dX4_useLocal_39 : decode cX4_useLocal 39 = .ok (.bipush 11, 2) := by decide +kernel
theorem dX4_useLocal_41 : decode cX4_useLocal 41 = .ok (.if_icmp .ne 11, 3) := by decide +kernel
theorem dX4_useLocal_44 : decode cX4_useLocal 44 = .ok (.aload_n 0, 1) := by decide +kernel
theorem dX4_useLocal_45 : decode cX4_useLocal 45 = .ok (.iload_n 3, 1) := by decide +kernel
theorem dX4_useLocal_46 : decode cX4_useLocal 46 = .ok (.invokevirtual 268, 3) := by decide +kernel
theorem dX4_useLocal_49 : decode cX4_useLocal 49 = .ok (.goto 33, 3) := by decide +kernel
theorem dX4_useLocal_52 : decode cX4_useLocal 52 = .ok (.iload_n 1, 1) := by decide +kernel
theorem dX4_useLocal_53 : decode cX4_useLocal 53 = .ok (.bipush 12, 2) := by decide +kernel
theorem dX4_useLocal_55 : decode cX4_useLocal 55 = .ok (.if_icmp .ne 18, 3) := by decide +kernel
theorem dX4_useLocal_58 : decode cX4_useLocal 58 = .ok (.aload_n 0, 1) := by decide +kernel
theorem dX4_useLocal_59 : decode cX4_useLocal 59 = .ok (.getfield 52, 3) := by decide +kernel
theorem dX4_useLocal_62 : decode cX4_useLocal 62 = .ok (.iload_n 2, 1) := by decide +kernel
theorem dX4_useLocal_63 : decode cX4_useLocal 63 = .ok (.iconst 0, 1) := by decide +kernel
theorem dX4_useLocal_64 : decode cX4_useLocal 64 = .ok (.iastore, 1) := by decide +kernel
theorem dX4_useLocal_65 : decode cX4_useLocal 65 = .ok (.aload_n 0, 1) := by decide +kernel
theorem dX4_useLocal_66 : decode cX4_useLocal 66 = .ok (.iload_n 3, 1) := by decide +kernel
theorem dX4_useLocal_67 : decode cX4_useLocal 67 = .ok (.invokevirtual 176, 3) := by decide +kernel
theorem dX4_useLocal_70 : decode cX4_useLocal 70 = .ok (.goto 12, 3) := by decide +kernel
theorem dX4_useLocal_73 : decode cX4_useLocal 73 = .ok (.aload_n 0, 1) := by decide +kernel
theorem dX4_useLocal_74 : decode cX4_useLocal 74 = .ok (.bipush 8, 2) := by decide +kernel
theorem dX4_useLocal_76 : decode cX4_useLocal 76 = .ok (.lconst 0, 1) := by decide +kernel
theorem dX4_useLocal_77 : decode cX4_useLocal 77 = .ok (.iload_n 3, 1) := by decide +kernel
theorem dX4_useLocal_78 : decode cX4_useLocal 78 = .ok (.i2l, 1) := by decide +kernel
theorem dX4_useLocal_79 : decode cX4_useLocal 79 = .ok (.invokevirtual 262, 3) := by decide +kernel
theorem dX4_useLocal_82 : decode cX4_useLocal 82 = .ok (.return_, 1) := by decide +kernel
theorem dX4_pushCopy_0 : decode cX4_pushCopy 0 = .ok (.aload_n 0, 1) := by decide +kernel
theorem dX4_pushCopy_1 : decode cX4_pushCopy 1 = .ok (.aload_n 0, 1) := by decide +kernel
theorem dX4_pushCopy_2 : decode cX4_pushCopy 2 = .ok (.getfield 12, 3) := by decide +kernel
theorem dX4_pushCopy_5 : decode cX4_pushCopy 5 = .ok (.iload_n 1, 1) := by decide +kernel
theorem dX4_pushCopy_6 : decode cX4_pushCopy 6 = .ok (.invokevirtual 271, 3) := by decide +kernel
theorem dX4_pushCopy_9 : decode cX4_pushCopy 9 = .ok (.invokevirtual 191, 3) := by decide +kernel
theorem dX4_pushCopy_12 : decode cX4_pushCopy 12 = .ok (.ifCond .eq 15, 3) := by decide +kernel
theorem dX4_pushCopy_15 : decode cX4_pushCopy 15 = .ok (.aload_n 0, 1) := by decide +kernel
theorem dX4_pushCopy_16 : decode cX4_pushCopy 16 = .ok (.aload_n 0, 1) := by decide +kernel
theorem dX4_pushCopy_17 : decode cX4_pushCopy 17 = .ok (.getfield 12, 3) := by decide +kernel
theorem dX4_pushCopy_20 : decode cX4_pushCopy 20 = .ok (.iload_n 1, 1) := by decide +kernel
theorem dX4_pushCopy_21 : decode cX4_pushCopy 21 = .ok (.invokevirtual 274, 3) := by decide +kernel
theorem dX4_pushCopy_24 : decode cX4_pushCopy 24 = .ok (.invokevirtual 176, 3) := by decide +kernel
theorem dX4_pushCopy_27 : decode cX4_pushCopy 27 = .ok (.return_, 1) := by decide +kernel
theorem dX4_refer_0 : decode cX4_refer 0 = .ok (.iload_n 1, 1) := by decide +kernel
theorem dX4_refer_1 : decode cX4_refer 1 = .ok (.bipush 20, 2) := by decide +kernel
theorem dX4_refer_3 : decode cX4_refer 3 = .ok (.if_icmp .ne 4, 3) := by decide +kernel
theorem dX4_refer_6 : decode cX4_refer 6 = .ok (.return_, 1) := by decide +kernel
theorem dX4_refer_7 : decode cX4_refer 7 = .ok (.aload_n 0, 1) := by decide +kernel
theorem dX4_refer_8 : decode cX4_refer 8 = .ok (.invokevirtual 252, 3) := by decide +kernel
theorem dX4_refer_11 : decode cX4_refer 11 = .ok (.istore_n 3, 1) := by decide +kernel
theorem dX4_refer_12 : decode cX4_refer 12 = .ok (.aload_n 0, 1) := by decide +kernel
theorem dX4_refer_13 : decode cX4_refer 13 = .ok (.iload_n 3, 1) := by decide +kernel
theorem dX4_refer_14 : decode cX4_refer 14 = .ok (.invokevirtual 277, 3) := by decide +kernel
theorem dX4_refer_17 : decode cX4_refer 17 = .ok (.istore 4, 2) := by decide +kernel
theorem dX4_refer_19 : decode cX4_refer 19 = .ok (.iload_n 1, 1) := by decide +kernel
theorem dX4_refer_20 : decode cX4_refer 20 = .ok (.bipush 17, 2) := by decide +kernel
theorem dX4_refer_22 : decode cX4_refer 22 = .ok (.if_icmp .gt 32, 3) := by decide +kernel
theorem dX4_refer_25 : decode cX4_refer 25 = .ok (.aload_n 0, 1) := by decide +kernel
theorem dX4_refer_26 : decode cX4_refer 26 = .ok (.getfield 12, 3) := by decide +kernel
theorem dX4_refer_29 : decode cX4_refer 29 = .ok (.getfield 158, 3) := by decide +kernel
theorem dX4_refer_32 : decode cX4_refer 32 = .ok (.iload_n 3, 1) := by decide +kernel
theorem dX4_refer_33 : decode cX4_refer 33 = .ok (.aload_n 0, 1) := by decide +kernel
theorem dX4_refer_34 : decode cX4_refer 34 = .ok (.getfield 12, 3) := by decide +kernel
theorem dX4_refer_37 : decode cX4_refer 37 = .ok (.iload 4, 2) := by decide +kernel
theorem dX4_refer_39 : decode cX4_refer 39 = .ok (.iload_n 2, 1) := by decide +kernel
theorem dX4_refer_40 : decode cX4_refer 40 = .ok (.i2l, 1) := by decide +kernel
theorem dX4_refer_41 : decode cX4_refer 41 = .ok (.invokevirtual 280, 3) := by decide +kernel
theorem dX4_refer_44 : decode cX4_refer 44 = .ok (.i2l, 1) := by decide +kernel
theorem dX4_refer_45 : decode cX4_refer 45 = .ok (.lastore, 1) := by decide +kernel
theorem dX4_refer_46 : decode cX4_refer 46 = .ok (.aload_n 0, 1) := by decide +kernel
theorem dX4_refer_47 : decode cX4_refer 47 = .ok (.iload_n 3, 1) := by decide +kernel
theorem dX4_refer_48 : decode cX4_refer 48 = .ok (.invokevirtual 176, 3) := by decide +kernel
theorem dX4_refer_51 : decode cX4_refer 51 = .ok (.goto 31, 3) := by decide +kernel
theorem dX4_refer_54 : decode cX4_refer 54 = .ok (.iload_n 1, 1) := by decide +kernel
theorem dX4_refer_55 : decode cX4_refer 55 = .ok (.bipush 18, 2) := by decide +kernel
theorem dX4_refer_57 : decode cX4_refer 57 = .ok (.if_icmp .ne 12, 3) := by decide +kernel
theorem dX4_refer_60 : decode cX4_refer 60 = .ok (.aload_n 0, 1) := by decide +kernel
theorem dX4_refer_61 : decode cX4_refer 61 = .ok (.iload 4, 2) := by decide +kernel
theorem dX4_refer_63 : decode cX4_refer 63 = .ok (.invokevirtual 268, 3) := by decide +kernel
theorem dX4_refer_66 : decode cX4_refer 66 = .ok (.goto 16, 3) := by decide +kernel
theorem dX4_refer_69 : decode cX4_refer 69 = .ok (.aload_n 0, 1) := by decide +kernel
theorem dX4_refer_70 : decode cX4_refer 70 = .ok (.getfield 12, 3) := by decide +kernel
theorem dX4_refer_73 : decode cX4_refer 73 = .ok (.iload 4, 2) := by decide +kernel
theorem dX4_refer_75 : decode cX4_refer 75 = .ok (.aload_n 0, 1) := by decide +kernel
theorem dX4_refer_76 : decode cX4_refer 76 = .ok (.invokevirtual 252, 3) := by decide +kernel
theorem dX4_refer_79 : decode cX4_refer 79 = .ok (.invokevirtual 284, 3) := by decide +kernel
theorem dX4_refer_82 : decode cX4_refer 82 = .ok (.return_, 1) := by decide +kernel
theorem dX4_gather_0 : decode cX4_gather 0 = .ok (.aload_n 0, 1) := by decide +kernel
theorem dX4_gather_1 : decode cX4_gather 1 = .ok (.getfield 49, 3) := by decide +kernel
theorem dX4_gather_4 : decode cX4_gather 4 = .ok (.aload_n 0, 1) := by decide +kernel
theorem dX4_gather_5 : decode cX4_gather 5 = .ok (.getfield 101, 3) := by decide +kernel
theorem dX4_gather_8 : decode cX4_gather 8 = .ok (.iaload, 1) := by decide +kernel
theorem dX4_gather_9 : decode cX4_gather 9 = .ok (.iload_n 2, 1) := by decide +kernel
theorem dX4_gather_10 : decode cX4_gather 10 = .ok (.isub, 1) := by decide +kernel
theorem dX4_gather_11 : decode cX4_gather 11 = .ok (.istore_n 3, 1) := by decide +kernel
theorem dX4_gather_12 : decode cX4_gather 12 = .ok (.iload_n 3, 1) := by decide +kernel
theorem dX4_gather_13 : decode cX4_gather 13 = .ok (.ifCond .ge 14, 3) := by decide +kernel
theorem dX4_gather_16 : decode cX4_gather 16 = .ok (.aload_n 0, 1) := by decide +kernel
theorem dX4_gather_17 : decode cX4_gather 17 = .ok (.dup, 1) := by decide +kernel
theorem dX4_gather_18 : decode cX4_gather 18 = .ok (.getfield 71, 3) := by decide +kernel
theorem dX4_gather_21 : decode cX4_gather 21 = .ok (.iconst 1, 1) := by decide +kernel
theorem dX4_gather_22 : decode cX4_gather 22 = .ok (.iadd, 1) := by decide +kernel
theorem dX4_gather_23 : decode cX4_gather 23 = .ok (.putfield 71, 3) := by decide +kernel
theorem dX4_gather_26 : decode cX4_gather 26 = .ok (.return_, 1) := by decide +kernel
theorem dX4_gather_27 : decode cX4_gather 27 = .ok (.aload_n 0, 1) := by decide +kernel
theorem dX4_gather_28 : decode cX4_gather 28 = .ok (.getfield 12, 3) := by decide +kernel
theorem dX4_gather_31 : decode cX4_gather 31 = .ok (.iload_n 1, 1) := by decide +kernel
theorem dX4_gather_32 : decode cX4_gather 32 = .ok (.lconst 0, 1) := by decide +kernel
theorem dX4_gather_33 : decode cX4_gather 33 = .ok (.lconst 0, 1) := by decide +kernel
theorem dX4_gather_34 : decode cX4_gather 34 = .ok (.invokevirtual 135, 3) := by decide +kernel
theorem dX4_gather_37 : decode cX4_gather 37 = .ok (.istore 4, 2) := by decide +kernel
theorem dX4_gather_39 : decode cX4_gather 39 = .ok (.iload_n 3, 1) := by decide +kernel
theorem dX4_gather_40 : decode cX4_gather 40 = .ok (.istore 5, 2) := by decide +kernel
theorem dX4_gather_42 : decode cX4_gather 42 = .ok (.iload 5, 2) := by decide +kernel
theorem dX4_gather_44 : decode cX4_gather 44 = .ok (.iload_n 3, 1) := by decide +kernel
theorem dX4_gather_45 : decode cX4_gather 45 = .ok (.iload_n 2, 1) := by decide +kernel
theorem dX4_gather_46 : decode cX4_gather 46 = .ok (.iadd, 1) := by decide +kernel
theorem dX4_gather_47 : decode cX4_gather 47 = .ok (.if_icmp .ge 33, 3) := by decide +kernel
theorem dX4_gather_50 : decode cX4_gather 50 = .ok (.aload_n 0, 1) := by decide +kernel
theorem dX4_gather_51 : decode cX4_gather 51 = .ok (.getfield 12, 3) := by decide +kernel
theorem dX4_gather_54 : decode cX4_gather 54 = .ok (.iload 4, 2) := by decide +kernel
theorem dX4_gather_56 : decode cX4_gather 56 = .ok (.aload_n 0, 1) := by decide +kernel
theorem dX4_gather_57 : decode cX4_gather 57 = .ok (.getfield 55, 3) := by decide +kernel
theorem dX4_gather_60 : decode cX4_gather 60 = .ok (.aload_n 0, 1) := by decide +kernel
theorem dX4_gather_61 : decode cX4_gather 61 = .ok (.getfield 101, 3) := by decide +kernel
theorem dX4_gather_64 : decode cX4_gather 64 = .ok (.bipush 64, 2) := by decide +kernel
theorem dX4_gather_66 : decode cX4_gather 66 = .ok (.imul, 1) := by decide +kernel
theorem dX4_gather_67 : decode cX4_gather 67 = .ok (.iload 5, 2) := by decide +kernel
theorem dX4_gather_69 : decode cX4_gather 69 = .ok (.iadd, 1) := by decide +kernel
theorem dX4_gather_70 : decode cX4_gather 70 = .ok (.iaload, 1) := by decide +kernel
theorem dX4_gather_71 : decode cX4_gather 71 = .ok (.invokevirtual 287, 3) := by decide +kernel
theorem dX4_gather_74 : decode cX4_gather 74 = .ok (.iinc 5 1, 3) := by decide +kernel
theorem dX4_gather_77 : decode cX4_gather 77 = .ok (.goto (-35), 3) := by decide +kernel
theorem dX4_gather_80 : decode cX4_gather 80 = .ok (.aload_n 0, 1) := by decide +kernel
theorem dX4_gather_81 : decode cX4_gather 81 = .ok (.getfield 49, 3) := by decide +kernel
theorem dX4_gather_84 : decode cX4_gather 84 = .ok (.aload_n 0, 1) := by decide +kernel
theorem dX4_gather_85 : decode cX4_gather 85 = .ok (.getfield 101, 3) := by decide +kernel
theorem dX4_gather_88 : decode cX4_gather 88 = .ok (.iload_n 3, 1) := by decide +kernel
theorem dX4_gather_89 : decode cX4_gather 89 = .ok (.iastore, 1) := by decide +kernel
theorem dX4_gather_90 : decode cX4_gather 90 = .ok (.aload_n 0, 1) := by decide +kernel
theorem dX4_gather_91 : decode cX4_gather 91 = .ok (.iload 4, 2) := by decide +kernel
theorem dX4_gather_93 : decode cX4_gather 93 = .ok (.invokevirtual 176, 3) := by decide +kernel
theorem dX4_gather_96 : decode cX4_gather 96 = .ok (.return_, 1) := by decide +kernel
theorem dX4_scatter_0 : decode cX4_scatter 0 = .ok (.aload_n 0, 1) := by decide +kernel
theorem dX4_scatter_1 : decode cX4_scatter 1 = .ok (.invokevirtual 252, 3) := by decide +kernel
theorem dX4_scatter_4 : decode cX4_scatter 4 = .ok (.istore_n 2, 1) := by decide +kernel
theorem dX4_scatter_5 : decode cX4_scatter 5 = .ok (.aload_n 0, 1) := by decide +kernel
theorem dX4_scatter_6 : decode cX4_scatter 6 = .ok (.getfield 49, 3) := by decide +kernel
theorem dX4_scatter_9 : decode cX4_scatter 9 = .ok (.aload_n 0, 1) := by decide +kernel
theorem dX4_scatter_10 : decode cX4_scatter 10 = .ok (.getfield 101, 3) := by decide +kernel
theorem dX4_scatter_13 : decode cX4_scatter 13 = .ok (.iaload, 1) := by decide +kernel
theorem dX4_scatter_14 : decode cX4_scatter 14 = .ok (.istore_n 3, 1) := by decide +kernel
theorem dX4_scatter_15 : decode cX4_scatter 15 = .ok (.iload_n 3, 1) := by decide +kernel
theorem dX4_scatter_16 : decode cX4_scatter 16 = .ok (.iload_n 1, 1) := by decide +kernel
theorem dX4_scatter_17 : decode cX4_scatter 17 = .ok (.iadd, 1) := by decide +kernel
theorem dX4_scatter_18 : decode cX4_scatter 18 = .ok (.bipush 64, 2) := by decide +kernel
theorem dX4_scatter_20 : decode cX4_scatter 20 = .ok (.if_icmp .gt 18, 3) := by decide +kernel
theorem dX4_scatter_23 : decode cX4_scatter 23 = .ok (.aload_n 0, 1) := by decide +kernel
theorem dX4_scatter_24 : decode cX4_scatter 24 = .ok (.getfield 12, 3) := by decide +kernel
theorem dX4_scatter_27 : decode cX4_scatter 27 = .ok (.getfield 155, 3) := by decide +kernel
theorem dX4_scatter_30 : decode cX4_scatter 30 = .ok (.iload_n 2, 1) := by decide +kernel
theorem dX4_scatter_31 : decode cX4_scatter 31 = .ok (.laload, 1) := by decide +kernel
theorem dX4_scatter_32 : decode cX4_scatter 32 = .ok (.iload_n 1, 1) := by decide +kernel
theorem dX4_scatter_33 : decode cX4_scatter 33 = .ok (.i2l, 1) := by decide +kernel
theorem dX4_scatter_34 : decode cX4_scatter 34 = .ok (.lcmp, 1) := by decide +kernel
theorem dX4_scatter_35 : decode cX4_scatter 35 = .ok (.ifCond .eq 14, 3) := by decide +kernel
theorem dX4_scatter_38 : decode cX4_scatter 38 = .ok (.aload_n 0, 1) := by decide +kernel
theorem dX4_scatter_39 : decode cX4_scatter 39 = .ok (.dup, 1) := by decide +kernel
theorem dX4_scatter_40 : decode cX4_scatter 40 = .ok (.getfield 71, 3) := by decide +kernel
theorem dX4_scatter_43 : decode cX4_scatter 43 = .ok (.iconst 1, 1) := by decide +kernel
theorem dX4_scatter_44 : decode cX4_scatter 44 = .ok (.iadd, 1) := by decide +kernel
theorem dX4_scatter_45 : decode cX4_scatter 45 = .ok (.putfield 71, 3) := by decide +kernel
theorem dX4_scatter_48 : decode cX4_scatter 48 = .ok (.return_, 1) := by decide +kernel
theorem dX4_scatter_49 : decode cX4_scatter 49 = .ok (.iload_n 1, 1) := by decide +kernel
theorem dX4_scatter_50 : decode cX4_scatter 50 = .ok (.iconst 1, 1) := by decide +kernel
theorem dX4_scatter_51 : decode cX4_scatter 51 = .ok (.isub, 1) := by decide +kernel
theorem dX4_scatter_52 : decode cX4_scatter 52 = .ok (.istore 4, 2) := by decide +kernel
theorem dX4_scatter_54 : decode cX4_scatter 54 = .ok (.iload 4, 2) := by decide +kernel
theorem dX4_scatter_56 : decode cX4_scatter 56 = .ok (.ifCond .lt 34, 3) := by decide +kernel
theorem dX4_scatter_59 : decode cX4_scatter 59 = .ok (.aload_n 0, 1) := by decide +kernel
theorem dX4_scatter_60 : decode cX4_scatter 60 = .ok (.getfield 55, 3) := by decide +kernel
theorem dX4_scatter_63 : decode cX4_scatter 63 = .ok (.aload_n 0, 1) := by decide +kernel
theorem dX4_scatter_64 : decode cX4_scatter 64 = .ok (.getfield 101, 3) := by decide +kernel
theorem dX4_scatter_67 : decode cX4_scatter 67 = .ok (.bipush 64, 2) := by decide +kernel
theorem dX4_scatter_69 : decode cX4_scatter 69 = .ok (.imul, 1) := by decide +kernel
theorem dX4_scatter_70 : decode cX4_scatter 70 = .ok (.iload_n 3, 1) := by decide +kernel
theorem dX4_scatter_71 : decode cX4_scatter 71 = .ok (.iadd, 1) := by decide +kernel
theorem dX4_scatter_72 : decode cX4_scatter 72 = .ok (.iload 4, 2) := by decide +kernel
theorem dX4_scatter_74 : decode cX4_scatter 74 = .ok (.iadd, 1) := by decide +kernel
theorem dX4_scatter_75 : decode cX4_scatter 75 = .ok (.aload_n 0, 1) := by decide +kernel
theorem dX4_scatter_76 : decode cX4_scatter 76 = .ok (.getfield 12, 3) := by decide +kernel
theorem dX4_scatter_79 : decode cX4_scatter 79 = .ok (.iload_n 2, 1) := by decide +kernel
theorem dX4_scatter_80 : decode cX4_scatter 80 = .ok (.invokevirtual 290, 3) := by decide +kernel
theorem dX4_scatter_83 : decode cX4_scatter 83 = .ok (.iastore, 1) := by decide +kernel
theorem dX4_scatter_84 : decode cX4_scatter 84 = .ok (.iinc 4 (-1), 3) := by decide +kernel
theorem dX4_scatter_87 : decode cX4_scatter 87 = .ok (.goto (-33), 3) := by decide +kernel
theorem dX4_scatter_90 : decode cX4_scatter 90 = .ok (.aload_n 0, 1) := by decide +kernel
theorem dX4_scatter_91 : decode cX4_scatter 91 = .ok (.getfield 49, 3) := by decide +kernel
theorem dX4_scatter_94 : decode cX4_scatter 94 = .ok (.aload_n 0, 1) := by decide +kernel
theorem dX4_scatter_95 : decode cX4_scatter 95 = .ok (.getfield 101, 3) := by decide +kernel
theorem dX4_scatter_98 : decode cX4_scatter 98 = .ok (.iload_n 3, 1) := by decide +kernel
theorem dX4_scatter_99 : decode cX4_scatter 99 = .ok (.iload_n 1, 1) := by decide +kernel
theorem dX4_scatter_100 : decode cX4_scatter 100 = .ok (.iadd, 1) := by decide +kernel
theorem dX4_scatter_101 : decode cX4_scatter 101 = .ok (.iastore, 1) := by decide +kernel
theorem dX4_scatter_102 : decode cX4_scatter 102 = .ok (.return_, 1) := by decide +kernel
theorem dX4_enter_0 : decode cX4_enter 0 = .ok (.aload_n 0, 1) := by decide +kernel
theorem dX4_enter_1 : decode cX4_enter 1 = .ok (.getfield 58, 3) := by decide +kernel
theorem dX4_enter_4 : decode cX4_enter 4 = .ok (.iload_n 1, 1) := by decide +kernel
theorem dX4_enter_5 : decode cX4_enter 5 = .ok (.invokevirtual 109, 3) := by decide +kernel
theorem dX4_enter_8 : decode cX4_enter 8 = .ok (.astore_n 3, 1) := by decide +kernel
theorem dX4_enter_9 : decode cX4_enter 9 = .ok (.aload_n 3, 1) := by decide +kernel
theorem dX4_enter_10 : decode cX4_enter 10 = .ok (.ifnull 28, 3) := by decide +kernel
theorem dX4_enter_13 : decode cX4_enter 13 = .ok (.aload_n 0, 1) := by decide +kernel
theorem dX4_enter_14 : decode cX4_enter 14 = .ok (.getfield 101, 3) := by decide +kernel
theorem dX4_enter_17 : decode cX4_enter 17 = .ok (.iconst 1, 1) := by decide +kernel
theorem dX4_enter_18 : decode cX4_enter 18 = .ok (.iadd, 1) := by decide +kernel
theorem dX4_enter_19 : decode cX4_enter 19 = .ok (.bipush 32, 2) := by decide +kernel
theorem dX4_enter_21 : decode cX4_enter 21 = .ok (.if_icmp .ge 17, 3) := by decide +kernel
theorem dX4_enter_24 : decode cX4_enter 24 = .ok (.aload_n 0, 1) := by decide +kernel
theorem dX4_enter_25 : decode cX4_enter 25 = .ok (.getfield 67, 3) := by decide +kernel
theorem dX4_enter_28 : decode cX4_enter 28 = .ok (.iconst 2, 1) := by decide +kernel
theorem dX4_enter_29 : decode cX4_enter 29 = .ok (.lconst 0, 1) := by decide +kernel
theorem dX4_enter_30 : decode cX4_enter 30 = .ok (.iload_n 1, 1) := by decide +kernel
theorem dX4_enter_31 : decode cX4_enter 31 = .ok (.iconst 0, 1) := by decide +kernel
theorem dX4_enter_32 : decode cX4_enter 32 = .ok (.invokevirtual 293, 3) := by decide +kernel
theorem dX4_enter_35 : decode cX4_enter 35 = .ok (.ifCond .ge 12, 3) := by decide +kernel
theorem dX4_enter_38 : decode cX4_enter 38 = .ok (.aload_n 0, 1) := by decide +kernel
theorem dX4_enter_39 : decode cX4_enter 39 = .ok (.iconst 2, 1) := by decide +kernel
theorem dX4_enter_40 : decode cX4_enter 40 = .ok (.ldc2_w 146, 3) := by decide +kernel
theorem dX4_enter_43 : decode cX4_enter 43 = .ok (.invokevirtual 148, 3) := by decide +kernel
theorem dX4_enter_46 : decode cX4_enter 46 = .ok (.return_, 1) := by decide +kernel
theorem dX4_enter_47 : decode cX4_enter 47 = .ok (.aload_n 0, 1) := by decide +kernel
theorem dX4_enter_48 : decode cX4_enter 48 = .ok (.iconst 5, 1) := by decide +kernel
theorem dX4_enter_49 : decode cX4_enter 49 = .ok (.invokevirtual 191, 3) := by decide +kernel
theorem dX4_enter_52 : decode cX4_enter 52 = .ok (.ifCond .ne 4, 3) := by decide +kernel
theorem dX4_enter_55 : decode cX4_enter 55 = .ok (.return_, 1) := by decide +kernel
theorem dX4_enter_56 : decode cX4_enter 56 = .ok (.aload_n 3, 1) := by decide +kernel
theorem dX4_enter_57 : decode cX4_enter 57 = .ok (.iload_n 2, 1) := by decide +kernel
theorem dX4_enter_58 : decode cX4_enter 58 = .ok (.invokevirtual 297, 3) := by decide +kernel
theorem dX4_enter_61 : decode cX4_enter 61 = .ok (.aload_n 0, 1) := by decide +kernel
theorem dX4_enter_62 : decode cX4_enter 62 = .ok (.getfield 49, 3) := by decide +kernel
theorem dX4_enter_65 : decode cX4_enter 65 = .ok (.aload_n 0, 1) := by decide +kernel
theorem dX4_enter_66 : decode cX4_enter 66 = .ok (.getfield 101, 3) := by decide +kernel
theorem dX4_enter_69 : decode cX4_enter 69 = .ok (.iaload, 1) := by decide +kernel
theorem dX4_enter_70 : decode cX4_enter 70 = .ok (.invokestatic 207, 3) := by decide +kernel
theorem dX4_enter_73 : decode cX4_enter 73 = .ok (.istore 4, 2) := by decide +kernel
theorem dX4_enter_75 : decode cX4_enter 75 = .ok (.aload_n 0, 1) := by decide +kernel
theorem dX4_enter_76 : decode cX4_enter 76 = .ok (.getfield 101, 3) := by decide +kernel
theorem dX4_enter_79 : decode cX4_enter 79 = .ok (.bipush 64, 2) := by decide +kernel
theorem dX4_enter_81 : decode cX4_enter 81 = .ok (.imul, 1) := by decide +kernel
theorem dX4_enter_82 : decode cX4_enter 82 = .ok (.aload_n 0, 1) := by decide +kernel
theorem dX4_enter_83 : decode cX4_enter 83 = .ok (.getfield 49, 3) := by decide +kernel
theorem dX4_enter_86 : decode cX4_enter 86 = .ok (.aload_n 0, 1) := by decide +kernel
theorem dX4_enter_87 : decode cX4_enter 87 = .ok (.getfield 101, 3) := by decide +kernel
theorem dX4_enter_90 : decode cX4_enter 90 = .ok (.iaload, 1) := by decide +kernel
theorem dX4_enter_91 : decode cX4_enter 91 = .ok (.iadd, 1) := by decide +kernel
theorem dX4_enter_92 : decode cX4_enter 92 = .ok (.iload 4, 2) := by decide +kernel
theorem dX4_enter_94 : decode cX4_enter 94 = .ok (.isub, 1) := by decide +kernel
theorem dX4_enter_95 : decode cX4_enter 95 = .ok (.istore 5, 2) := by decide +kernel
theorem dX4_enter_97 : decode cX4_enter 97 = .ok (.aload_n 0, 1) := by decide +kernel
theorem dX4_enter_98 : decode cX4_enter 98 = .ok (.getfield 49, 3) := by decide +kernel
theorem dX4_enter_101 : decode cX4_enter 101 = .ok (.aload_n 0, 1) := by decide +kernel
theorem dX4_enter_102 : decode cX4_enter 102 = .ok (.getfield 101, 3) := by decide +kernel
theorem dX4_enter_105 : decode cX4_enter 105 = .ok (.dup2, 1) := by decide +kernel
theorem dX4_enter_106 : decode cX4_enter 106 = .ok (.iaload, 1) := by decide +kernel
theorem dX4_enter_107 : decode cX4_enter 107 = .ok (.iload 4, 2) := by decide +kernel
theorem dX4_enter_109 : decode cX4_enter 109 = .ok (.isub, 1) := by decide +kernel
theorem dX4_enter_110 : decode cX4_enter 110 = .ok (.iastore, 1) := by decide +kernel
theorem dX4_enter_111 : decode cX4_enter 111 = .ok (.aload_n 0, 1) := by decide +kernel
theorem dX4_enter_112 : decode cX4_enter 112 = .ok (.aload_n 3, 1) := by decide +kernel
theorem dX4_enter_113 : decode cX4_enter 113 = .ok (.iload_n 2, 1) := by decide +kernel
theorem dX4_enter_114 : decode cX4_enter 114 = .ok (.invokevirtual 118, 3) := by decide +kernel
theorem dX4_enter_117 : decode cX4_enter 117 = .ok (.aload_n 0, 1) := by decide +kernel
theorem dX4_enter_118 : decode cX4_enter 118 = .ok (.getfield 55, 3) := by decide +kernel
theorem dX4_enter_121 : decode cX4_enter 121 = .ok (.iload 5, 2) := by decide +kernel
theorem dX4_enter_123 : decode cX4_enter 123 = .ok (.aload_n 0, 1) := by decide +kernel
theorem dX4_enter_124 : decode cX4_enter 124 = .ok (.getfield 52, 3) := by decide +kernel
theorem dX4_enter_127 : decode cX4_enter 127 = .ok (.aload_n 0, 1) := by decide +kernel
theorem dX4_enter_128 : decode cX4_enter 128 = .ok (.getfield 101, 3) := by decide +kernel
theorem dX4_enter_131 : decode cX4_enter 131 = .ok (.bipush 40, 2) := by decide +kernel
theorem dX4_enter_133 : decode cX4_enter 133 = .ok (.imul, 1) := by decide +kernel
theorem dX4_enter_134 : decode cX4_enter 134 = .ok (.iload 4, 2) := by decide +kernel
theorem dX4_enter_136 : decode cX4_enter 136 = .ok (.invokestatic 300, 3) := by decide +kernel
theorem dX4_enter_139 : decode cX4_enter 139 = .ok (.return_, 1) := by decide +kernel
theorem dX4_useCoin_0 : decode cX4_useCoin 0 = .ok (.iconst 0, 1) := by decide +kernel
theorem dX4_useCoin_1 : decode cX4_useCoin 1 = .ok (.istore_n 2, 1) := by decide +kernel
theorem dX4_useCoin_2 : decode cX4_useCoin 2 = .ok (.iload_n 1, 1) := by decide +kernel
theorem dX4_useCoin_3 : decode cX4_useCoin 3 = .ok (.iconst 1, 1) := by decide +kernel
theorem dX4_useCoin_4 : decode cX4_useCoin 4 = .ok (.if_icmp .eq 8, 3) := by decide +kernel
theorem dX4_useCoin_7 : decode cX4_useCoin 7 = .ok (.iload_n 1, 1) := by decide +kernel
theorem dX4_useCoin_8 : decode cX4_useCoin 8 = .ok (.iconst 5, 1) := by decide +kernel
theorem dX4_useCoin_9 : decode cX4_useCoin 9 = .ok (.if_icmp .ne 36, 3) := by decide +kernel
theorem dX4_useCoin_12 : decode cX4_useCoin 12 = .ok (.aload_n 0, 1) := by decide +kernel
theorem dX4_useCoin_13 : decode cX4_useCoin 13 = .ok (.getfield 67, 3) := by decide +kernel
theorem dX4_useCoin_16 : decode cX4_useCoin 16 = .ok (.iconst 1, 1) := by decide +kernel
theorem dX4_useCoin_17 : decode cX4_useCoin 17 = .ok (.aload_n 0, 1) := by decide +kernel
theorem dX4_useCoin_18 : decode cX4_useCoin 18 = .ok (.getfield 12, 3) := by decide +kernel
theorem dX4_useCoin_21 : decode cX4_useCoin 21 = .ok (.getfield 158, 3) := by decide +kernel
theorem dX4_useCoin_24 : decode cX4_useCoin 24 = .ok (.aload_n 0, 1) := by decide +kernel
theorem dX4_useCoin_25 : decode cX4_useCoin 25 = .ok (.iload_n 1, 1) := by decide +kernel
theorem dX4_useCoin_26 : decode cX4_useCoin 26 = .ok (.iconst 1, 1) := by decide +kernel
theorem dX4_useCoin_27 : decode cX4_useCoin 27 = .ok (.if_icmp .ne 7, 3) := by decide +kernel
theorem dX4_useCoin_30 : decode cX4_useCoin 30 = .ok (.iconst 1, 1) := by decide +kernel
theorem dX4_useCoin_31 : decode cX4_useCoin 31 = .ok (.goto 4, 3) := by decide +kernel
theorem dX4_useCoin_34 : decode cX4_useCoin 34 = .ok (.iconst 0, 1) := by decide +kernel
theorem dX4_useCoin_35 : decode cX4_useCoin 35 = .ok (.invokevirtual 306, 3) := by decide +kernel
theorem dX4_useCoin_38 : decode cX4_useCoin 38 = .ok (.laload, 1) := by decide +kernel
theorem dX4_useCoin_39 : decode cX4_useCoin 39 = .ok (.iconst 0, 1) := by decide +kernel
theorem dX4_useCoin_40 : decode cX4_useCoin 40 = .ok (.iconst 0, 1) := by decide +kernel
theorem dX4_useCoin_41 : decode cX4_useCoin 41 = .ok (.invokevirtual 293, 3) := by decide +kernel
theorem dX4_useCoin_44 : decode cX4_useCoin 44 = .ok (.istore_n 2, 1) := by decide +kernel
theorem dX4_useCoin_45 : decode cX4_useCoin 45 = .ok (.iload_n 2, 1) := by decide +kernel
theorem dX4_useCoin_46 : decode cX4_useCoin 46 = .ok (.ifCond .ge 12, 3) := by decide +kernel
theorem dX4_useCoin_49 : decode cX4_useCoin 49 = .ok (.aload_n 0, 1) := by decide +kernel
theorem dX4_useCoin_50 : decode cX4_useCoin 50 = .ok (.iconst 2, 1) := by decide +kernel
theorem dX4_useCoin_51 : decode cX4_useCoin 51 = .ok (.ldc2_w 146, 3) := by decide +kernel
theorem dX4_useCoin_54 : decode cX4_useCoin 54 = .ok (.invokevirtual 148, 3) := by decide +kernel
theorem dX4_useCoin_57 : decode cX4_useCoin 57 = .ok (.return_, 1) := by decide +kernel
theorem dX4_useCoin_58 : decode cX4_useCoin 58 = .ok (.aload_n 0, 1) := by decide +kernel
theorem dX4_useCoin_59 : decode cX4_useCoin 59 = .ok (.iconst 5, 1) := by decide +kernel
theorem dX4_useCoin_60 : decode cX4_useCoin 60 = .ok (.invokevirtual 191, 3) := by decide +kernel
theorem dX4_useCoin_63 : decode cX4_useCoin 63 = .ok (.ifCond .ne 4, 3) := by decide +kernel
theorem dX4_useCoin_66 : decode cX4_useCoin 66 = .ok (.return_, 1) := by decide +kernel
theorem dX4_useCoin_67 : decode cX4_useCoin 67 = .ok (.aload_n 0, 1) := by decide +kernel
theorem dX4_useCoin_68 : decode cX4_useCoin 68 = .ok (.getfield 12, 3) := by decide +kernel
theorem dX4_useCoin_71 : decode cX4_useCoin 71 = .ok (.getfield 158, 3) := by decide +kernel
theorem dX4_useCoin_74 : decode cX4_useCoin 74 = .ok (.aload_n 0, 1) := by decide +kernel
theorem dX4_useCoin_75 : decode cX4_useCoin 75 = .ok (.iconst 0, 1) := by decide +kernel
theorem dX4_useCoin_76 : decode cX4_useCoin 76 = .ok (.invokevirtual 306, 3) := by decide +kernel
theorem dX4_useCoin_79 : decode cX4_useCoin 79 = .ok (.laload, 1) := by decide +kernel
theorem dX4_useCoin_80 : decode cX4_useCoin 80 = .ok (.lstore_n 3, 1) := by decide +kernel
theorem dX4_useCoin_81 : decode cX4_useCoin 81 = .ok (.iload_n 1, 1) := by decide +kernel
theorem dX4_useCoin_82 : decode cX4_useCoin 82 = .ok (.ifCond .ne 11, 3) := by decide +kernel
theorem dX4_useCoin_85 : decode cX4_useCoin 85 = .ok (.aload_n 0, 1) := by decide +kernel
theorem dX4_useCoin_86 : decode cX4_useCoin 86 = .ok (.lload_n 3, 1) := by decide +kernel
theorem dX4_useCoin_87 : decode cX4_useCoin 87 = .ok (.invokevirtual 309, 3) := by decide +kernel
theorem dX4_useCoin_90 : decode cX4_useCoin 90 = .ok (.goto 141, 3) := by decide +kernel
theorem dX4_useCoin_93 : decode cX4_useCoin 93 = .ok (.iload_n 1, 1) := by decide +kernel
theorem dX4_useCoin_94 : decode cX4_useCoin 94 = .ok (.iconst 1, 1) := by decide +kernel
theorem dX4_useCoin_95 : decode cX4_useCoin 95 = .ok (.if_icmp .ne 39, 3) := by decide +kernel
theorem dX4_useCoin_98 : decode cX4_useCoin 98 = .ok (.aload_n 0, 1) := by decide +kernel
theorem dX4_useCoin_99 : decode cX4_useCoin 99 = .ok (.invokevirtual 252, 3) := by decide +kernel
theorem dX4_useCoin_102 : decode cX4_useCoin 102 = .ok (.pop, 1) := by decide +kernel
theorem dX4_useCoin_103 : decode cX4_useCoin 103 = .ok (.aload_n 0, 1) := by decide +kernel
theorem dX4_useCoin_104 : decode cX4_useCoin 104 = .ok (.invokevirtual 252, 3) := by decide +kernel
theorem dX4_useCoin_107 : decode cX4_useCoin 107 = .ok (.pop, 1) := by decide +kernel
theorem dX4_useCoin_108 : decode cX4_useCoin 108 = .ok (.aload_n 0, 1) := by decide +kernel
theorem dX4_useCoin_109 : decode cX4_useCoin 109 = .ok (.getfield 67, 3) := by decide +kernel
theorem dX4_useCoin_112 : decode cX4_useCoin 112 = .ok (.getfield 313, 3) := by decide +kernel
theorem dX4_useCoin_115 : decode cX4_useCoin 115 = .ok (.iload_n 2, 1) := by decide +kernel
theorem dX4_useCoin_116 : decode cX4_useCoin 116 = .ok (.iconst 1, 1) := by decide +kernel
theorem dX4_useCoin_117 : decode cX4_useCoin 117 = .ok (.bastore, 1) := by decide +kernel
theorem dX4_useCoin_118 : decode cX4_useCoin 118 = .ok (.aload_n 0, 1) := by decide +kernel
theorem dX4_useCoin_119 : decode cX4_useCoin 119 = .ok (.getfield 67, 3) := by decide +kernel
theorem dX4_useCoin_122 : decode cX4_useCoin 122 = .ok (.getfield 317, 3) := by decide +kernel
theorem dX4_useCoin_125 : decode cX4_useCoin 125 = .ok (.iload_n 2, 1) := by decide +kernel
theorem dX4_useCoin_126 : decode cX4_useCoin 126 = .ok (.dup2, 1) := by decide +kernel
theorem dX4_useCoin_127 : decode cX4_useCoin 127 = .ok (.laload, 1) := by decide +kernel
theorem dX4_useCoin_128 : decode cX4_useCoin 128 = .ok (.lload_n 3, 1) := by decide +kernel
theorem dX4_useCoin_129 : decode cX4_useCoin 129 = .ok (.ladd, 1) := by decide +kernel
theorem dX4_useCoin_130 : decode cX4_useCoin 130 = .ok (.lastore, 1) := by decide +kernel
theorem dX4_useCoin_131 : decode cX4_useCoin 131 = .ok (.goto 100, 3) := by decide +kernel
theorem dX4_useCoin_134 : decode cX4_useCoin 134 = .ok (.iload_n 1, 1) := by decide +kernel
theorem dX4_useCoin_135 : decode cX4_useCoin 135 = .ok (.iconst 2, 1) := by decide +kernel
theorem dX4_useCoin_136 : decode cX4_useCoin 136 = .ok (.if_icmp .ne 28, 3) := by decide +kernel
theorem dX4_useCoin_139 : decode cX4_useCoin 139 = .ok (.aload_n 0, 1) := by decide +kernel
theorem dX4_useCoin_140 : decode cX4_useCoin 140 = .ok (.iconst 3, 1) := by decide +kernel
theorem dX4_useCoin_141 : decode cX4_useCoin 141 = .ok (.lconst 0, 1) := by decide +kernel
theorem dX4_useCoin_142 : decode cX4_useCoin 142 = .ok (.aload_n 0, 1) := by decide +kernel
theorem dX4_useCoin_143 : decode cX4_useCoin 143 = .ok (.getfield 12, 3) := by decide +kernel
theorem dX4_useCoin_146 : decode cX4_useCoin 146 = .ok (.getfield 158, 3) := by decide +kernel
theorem dX4_useCoin_149 : decode cX4_useCoin 149 = .ok (.aload_n 0, 1) := by decide +kernel
theorem dX4_useCoin_150 : decode cX4_useCoin 150 = .ok (.aload_n 0, 1) := by decide +kernel
theorem dX4_useCoin_151 : decode cX4_useCoin 151 = .ok (.invokevirtual 252, 3) := by decide +kernel
theorem dX4_useCoin_154 : decode cX4_useCoin 154 = .ok (.invokevirtual 277, 3) := by decide +kernel
theorem dX4_useCoin_157 : decode cX4_useCoin 157 = .ok (.laload, 1) := by decide +kernel
theorem dX4_useCoin_158 : decode cX4_useCoin 158 = .ok (.invokevirtual 262, 3) := by decide +kernel
theorem dX4_useCoin_161 : decode cX4_useCoin 161 = .ok (.goto 70, 3) := by decide +kernel
theorem dX4_useCoin_164 : decode cX4_useCoin 164 = .ok (.iload_n 1, 1) := by decide +kernel
theorem dX4_useCoin_165 : decode cX4_useCoin 165 = .ok (.iconst 3, 1) := by decide +kernel
theorem dX4_useCoin_166 : decode cX4_useCoin 166 = .ok (.if_icmp .ne 32, 3) := by decide +kernel
theorem dX4_useCoin_169 : decode cX4_useCoin 169 = .ok (.aload_n 0, 1) := by decide +kernel
theorem dX4_useCoin_170 : decode cX4_useCoin 170 = .ok (.invokevirtual 252, 3) := by decide +kernel
theorem dX4_useCoin_173 : decode cX4_useCoin 173 = .ok (.pop, 1) := by decide +kernel
theorem dX4_useCoin_174 : decode cX4_useCoin 174 = .ok (.aload_n 0, 1) := by decide +kernel
theorem dX4_useCoin_175 : decode cX4_useCoin 175 = .ok (.bipush 10, 2) := by decide +kernel
theorem dX4_useCoin_177 : decode cX4_useCoin 177 = .ok (.lconst 0, 1) := by decide +kernel
theorem dX4_useCoin_178 : decode cX4_useCoin 178 = .ok (.aload_n 0, 1) := by decide +kernel
theorem dX4_useCoin_179 : decode cX4_useCoin 179 = .ok (.getfield 12, 3) := by decide +kernel
theorem dX4_useCoin_182 : decode cX4_useCoin 182 = .ok (.getfield 158, 3) := by decide +kernel
theorem dX4_useCoin_185 : decode cX4_useCoin 185 = .ok (.aload_n 0, 1) := by decide +kernel
theorem dX4_useCoin_186 : decode cX4_useCoin 186 = .ok (.invokevirtual 252, 3) := by decide +kernel
theorem dX4_useCoin_189 : decode cX4_useCoin 189 = .ok (.laload, 1) := by decide +kernel
theorem dX4_useCoin_190 : decode cX4_useCoin 190 = .ok (.lload_n 3, 1) := by decide +kernel
theorem dX4_useCoin_191 : decode cX4_useCoin 191 = .ok (.ladd, 1) := by decide +kernel
theorem dX4_useCoin_192 : decode cX4_useCoin 192 = .ok (.invokevirtual 262, 3) := by decide +kernel
theorem dX4_useCoin_195 : decode cX4_useCoin 195 = .ok (.goto 36, 3) := by decide +kernel
theorem dX4_useCoin_198 : decode cX4_useCoin 198 = .ok (.iload_n 1, 1) := by decide +kernel
theorem dX4_useCoin_199 : decode cX4_useCoin 199 = .ok (.iconst 4, 1) := by decide +kernel
theorem dX4_useCoin_200 : decode cX4_useCoin 200 = .ok (.if_icmp .ne 11, 3) := by decide +kernel
theorem dX4_useCoin_203 : decode cX4_useCoin 203 = .ok (.aload_n 0, 1) := by decide +kernel
theorem dX4_useCoin_204 : decode cX4_useCoin 204 = .ok (.lload_n 3, 1) := by decide +kernel
theorem dX4_useCoin_205 : decode cX4_useCoin 205 = .ok (.invokevirtual 320, 3) := by decide +kernel
theorem dX4_useCoin_208 : decode cX4_useCoin 208 = .ok (.goto 23, 3) := by decide +kernel
theorem dX4_useCoin_211 : decode cX4_useCoin 211 = .ok (.aload_n 0, 1) := by decide +kernel
theorem dX4_useCoin_212 : decode cX4_useCoin 212 = .ok (.invokevirtual 252, 3) := by decide +kernel
theorem dX4_useCoin_215 : decode cX4_useCoin 215 = .ok (.pop, 1) := by decide +kernel
theorem dX4_useCoin_216 : decode cX4_useCoin 216 = .ok (.aload_n 0, 1) := by decide +kernel
theorem dX4_useCoin_217 : decode cX4_useCoin 217 = .ok (.iconst 3, 1) := by decide +kernel
theorem dX4_useCoin_218 : decode cX4_useCoin 218 = .ok (.lconst 0, 1) := by decide +kernel
theorem dX4_useCoin_219 : decode cX4_useCoin 219 = .ok (.aload_n 0, 1) := by decide +kernel
theorem dX4_useCoin_220 : decode cX4_useCoin 220 = .ok (.getfield 67, 3) := by decide +kernel
theorem dX4_useCoin_223 : decode cX4_useCoin 223 = .ok (.getfield 317, 3) := by decide +kernel
theorem dX4_useCoin_226 : decode cX4_useCoin 226 = .ok (.iload_n 2, 1) := by decide +kernel
theorem dX4_useCoin_227 : decode cX4_useCoin 227 = .ok (.laload, 1) := by decide +kernel
theorem dX4_useCoin_228 : decode cX4_useCoin 228 = .ok (.invokevirtual 262, 3) := by decide +kernel
theorem dX4_useCoin_231 : decode cX4_useCoin 231 = .ok (.return_, 1) := by decide +kernel
theorem dX4_withdraw_0 : decode cX4_withdraw 0 = .ok (.aload_n 0, 1) := by decide +kernel
theorem dX4_withdraw_1 : decode cX4_withdraw 1 = .ok (.getfield 67, 3) := by decide +kernel
theorem dX4_withdraw_4 : decode cX4_withdraw 4 = .ok (.getfield 317, 3) := by decide +kernel
theorem dX4_withdraw_7 : decode cX4_withdraw 7 = .ok (.iconst 0, 1) := by decide +kernel
theorem dX4_withdraw_8 : decode cX4_withdraw 8 = .ok (.laload, 1) := by decide +kernel
theorem dX4_withdraw_9 : decode cX4_withdraw 9 = .ok (.lload_n 1, 1) := by decide +kernel
theorem dX4_withdraw_10 : decode cX4_withdraw 10 = .ok (.invokestatic 323, 3) := by decide +kernel
theorem dX4_withdraw_13 : decode cX4_withdraw 13 = .ok (.ifCond .eq 10, 3) := by decide +kernel
theorem dX4_withdraw_16 : decode cX4_withdraw 16 = .ok (.aload_n 0, 1) := by decide +kernel
theorem dX4_withdraw_17 : decode cX4_withdraw 17 = .ok (.iconst 1, 1) := by decide +kernel
theorem dX4_withdraw_18 : decode cX4_withdraw 18 = .ok (.lconst 1, 1) := by decide +kernel
theorem dX4_withdraw_19 : decode cX4_withdraw 19 = .ok (.invokevirtual 148, 3) := by decide +kernel
theorem dX4_withdraw_22 : decode cX4_withdraw 22 = .ok (.return_, 1) := by decide +kernel
theorem dX4_withdraw_23 : decode cX4_withdraw 23 = .ok (.aload_n 0, 1) := by decide +kernel
theorem dX4_withdraw_24 : decode cX4_withdraw 24 = .ok (.invokevirtual 252, 3) := by decide +kernel
theorem dX4_withdraw_27 : decode cX4_withdraw 27 = .ok (.pop, 1) := by decide +kernel
theorem dX4_withdraw_28 : decode cX4_withdraw 28 = .ok (.aload_n 0, 1) := by decide +kernel
theorem dX4_withdraw_29 : decode cX4_withdraw 29 = .ok (.getfield 67, 3) := by decide +kernel
theorem dX4_withdraw_32 : decode cX4_withdraw 32 = .ok (.getfield 317, 3) := by decide +kernel
theorem dX4_withdraw_35 : decode cX4_withdraw 35 = .ok (.iconst 0, 1) := by decide +kernel
theorem dX4_withdraw_36 : decode cX4_withdraw 36 = .ok (.dup2, 1) := by decide +kernel
theorem dX4_withdraw_37 : decode cX4_withdraw 37 = .ok (.laload, 1) := by decide +kernel
theorem dX4_withdraw_38 : decode cX4_withdraw 38 = .ok (.lload_n 1, 1) := by decide +kernel
theorem dX4_withdraw_39 : decode cX4_withdraw 39 = .ok (.lsub, 1) := by decide +kernel
theorem dX4_withdraw_40 : decode cX4_withdraw 40 = .ok (.lastore, 1) := by decide +kernel
theorem dX4_withdraw_41 : decode cX4_withdraw 41 = .ok (.aload_n 0, 1) := by decide +kernel
theorem dX4_withdraw_42 : decode cX4_withdraw 42 = .ok (.bipush 10, 2) := by decide +kernel
theorem dX4_withdraw_44 : decode cX4_withdraw 44 = .ok (.lconst 0, 1) := by decide +kernel
theorem dX4_withdraw_45 : decode cX4_withdraw 45 = .ok (.lload_n 1, 1) := by decide +kernel
theorem dX4_withdraw_46 : decode cX4_withdraw 46 = .ok (.invokevirtual 262, 3) := by decide +kernel
theorem dX4_withdraw_49 : decode cX4_withdraw 49 = .ok (.return_, 1) := by decide +kernel
theorem dX4_split_0 : decode cX4_split 0 = .ok (.aload_n 0, 1) := by decide +kernel
theorem dX4_split_1 : decode cX4_split 1 = .ok (.invokevirtual 252, 3) := by decide +kernel
theorem dX4_split_4 : decode cX4_split 4 = .ok (.pop, 1) := by decide +kernel
theorem dX4_split_5 : decode cX4_split 5 = .ok (.aload_n 0, 1) := by decide +kernel
theorem dX4_split_6 : decode cX4_split 6 = .ok (.getfield 12, 3) := by decide +kernel
theorem dX4_split_9 : decode cX4_split 9 = .ok (.getfield 158, 3) := by decide +kernel
theorem dX4_split_12 : decode cX4_split 12 = .ok (.aload_n 0, 1) := by decide +kernel
theorem dX4_split_13 : decode cX4_split 13 = .ok (.invokevirtual 252, 3) := by decide +kernel
theorem dX4_split_16 : decode cX4_split 16 = .ok (.laload, 1) := by decide +kernel
theorem dX4_split_17 : decode cX4_split 17 = .ok (.lstore_n 3, 1) := by decide +kernel
theorem dX4_split_18 : decode cX4_split 18 = .ok (.lload_n 3, 1) := by decide +kernel
theorem dX4_split_19 : decode cX4_split 19 = .ok (.lload_n 1, 1) := by decide +kernel
theorem dX4_split_20 : decode cX4_split 20 = .ok (.invokestatic 323, 3) := by decide +kernel
theorem dX4_split_23 : decode cX4_split 23 = .ok (.ifCond .eq 12, 3) := by decide +kernel
theorem dX4_split_26 : decode cX4_split 26 = .ok (.aload_n 0, 1) := by decide +kernel
theorem dX4_split_27 : decode cX4_split 27 = .ok (.iconst 1, 1) := by decide +kernel
theorem dX4_split_28 : decode cX4_split 28 = .ok (.ldc2_w 327, 3) := by decide +kernel
theorem dX4_split_31 : decode cX4_split 31 = .ok (.invokevirtual 148, 3) := by decide +kernel
theorem dX4_split_34 : decode cX4_split 34 = .ok (.return_, 1) := by decide +kernel
theorem dX4_split_35 : decode cX4_split 35 = .ok (.aload_n 0, 1) := by decide +kernel
theorem dX4_split_36 : decode cX4_split 36 = .ok (.bipush 10, 2) := by decide +kernel
theorem dX4_split_38 : decode cX4_split 38 = .ok (.lconst 0, 1) := by decide +kernel
theorem dX4_split_39 : decode cX4_split 39 = .ok (.lload_n 3, 1) := by decide +kernel
theorem dX4_split_40 : decode cX4_split 40 = .ok (.lload_n 1, 1) := by decide +kernel
theorem dX4_split_41 : decode cX4_split 41 = .ok (.lsub, 1) := by decide +kernel
theorem dX4_split_42 : decode cX4_split 42 = .ok (.invokevirtual 262, 3) := by decide +kernel
theorem dX4_split_45 : decode cX4_split 45 = .ok (.aload_n 0, 1) := by decide +kernel
theorem dX4_split_46 : decode cX4_split 46 = .ok (.bipush 10, 2) := by decide +kernel
theorem dX4_split_48 : decode cX4_split 48 = .ok (.lconst 0, 1) := by decide +kernel
theorem dX4_split_49 : decode cX4_split 49 = .ok (.lload_n 1, 1) := by decide +kernel
theorem dX4_split_50 : decode cX4_split 50 = .ok (.invokevirtual 262, 3) := by decide +kernel
theorem dX4_split_53 : decode cX4_split 53 = .ok (.return_, 1) := by decide +kernel
theorem dX4_reckon_0 : decode cX4_reckon 0 = .ok (.iload_n 1, 1) := by decide +kernel
theorem dX4_reckon_1 : decode cX4_reckon 1 = .ok (.bipush 34, 2) := by decide +kernel
theorem dX4_reckon_3 : decode cX4_reckon 3 = .ok (.if_icmp .ne 24, 3) := by decide +kernel
theorem dX4_reckon_6 : decode cX4_reckon 6 = .ok (.aload_n 0, 1) := by decide +kernel
theorem dX4_reckon_7 : decode cX4_reckon 7 = .ok (.iconst 1, 1) := by decide +kernel
theorem dX4_reckon_8 : decode cX4_reckon 8 = .ok (.lconst 0, 1) := by decide +kernel
theorem dX4_reckon_9 : decode cX4_reckon 9 = .ok (.lconst 1, 1) := by decide +kernel
theorem dX4_reckon_10 : decode cX4_reckon 10 = .ok (.aload_n 0, 1) := by decide +kernel
theorem dX4_reckon_11 : decode cX4_reckon 11 = .ok (.getfield 12, 3) := by decide +kernel
theorem dX4_reckon_14 : decode cX4_reckon 14 = .ok (.getfield 158, 3) := by decide +kernel
theorem dX4_reckon_17 : decode cX4_reckon 17 = .ok (.aload_n 0, 1) := by decide +kernel
theorem dX4_reckon_18 : decode cX4_reckon 18 = .ok (.invokevirtual 252, 3) := by decide +kernel
theorem dX4_reckon_21 : decode cX4_reckon 21 = .ok (.laload, 1) := by decide +kernel
theorem dX4_reckon_22 : decode cX4_reckon 22 = .ok (.lsub, 1) := by decide +kernel
theorem dX4_reckon_23 : decode cX4_reckon 23 = .ok (.invokevirtual 262, 3) := by decide +kernel
theorem dX4_reckon_26 : decode cX4_reckon 26 = .ok (.return_, 1) := by decide +kernel
theorem dX4_reckon_27 : decode cX4_reckon 27 = .ok (.aload_n 0, 1) := by decide +kernel
theorem dX4_reckon_28 : decode cX4_reckon 28 = .ok (.invokevirtual 252, 3) := by decide +kernel
theorem dX4_reckon_31 : decode cX4_reckon 31 = .ok (.istore_n 2, 1) := by decide +kernel
theorem dX4_reckon_32 : decode cX4_reckon 32 = .ok (.iload_n 1, 1) := by decide +kernel
theorem dX4_reckon_33 : decode cX4_reckon 33 = .ok (.bipush 42, 2) := by decide +kernel
theorem dX4_reckon_35 : decode cX4_reckon 35 = .ok (.if_icmp .lt 37, 3) := by decide +kernel
theorem dX4_reckon_38 : decode cX4_reckon 38 = .ok (.aload_n 0, 1) := by decide +kernel
theorem dX4_reckon_39 : decode cX4_reckon 39 = .ok (.getfield 21, 3) := by decide +kernel
theorem dX4_reckon_42 : decode cX4_reckon 42 = .ok (.aload_n 0, 1) := by decide +kernel
theorem dX4_reckon_43 : decode cX4_reckon 43 = .ok (.getfield 12, 3) := by decide +kernel
theorem dX4_reckon_46 : decode cX4_reckon 46 = .ok (.getfield 155, 3) := by decide +kernel
theorem dX4_reckon_49 : decode cX4_reckon 49 = .ok (.iload_n 2, 1) := by decide +kernel
theorem dX4_reckon_50 : decode cX4_reckon 50 = .ok (.laload, 1) := by decide +kernel
theorem dX4_reckon_51 : decode cX4_reckon 51 = .ok (.aload_n 0, 1) := by decide +kernel
theorem dX4_reckon_52 : decode cX4_reckon 52 = .ok (.getfield 12, 3) := by decide +kernel
theorem dX4_reckon_55 : decode cX4_reckon 55 = .ok (.getfield 158, 3) := by decide +kernel
theorem dX4_reckon_58 : decode cX4_reckon 58 = .ok (.iload_n 2, 1) := by decide +kernel
theorem dX4_reckon_59 : decode cX4_reckon 59 = .ok (.laload, 1) := by decide +kernel
theorem dX4_reckon_60 : decode cX4_reckon 60 = .ok (.invokevirtual 329, 3) := by decide +kernel
theorem dX4_reckon_63 : decode cX4_reckon 63 = .ok (.aload_n 0, 1) := by decide +kernel
theorem dX4_reckon_64 : decode cX4_reckon 64 = .ok (.iload_n 1, 1) := by decide +kernel
theorem dX4_reckon_65 : decode cX4_reckon 65 = .ok (.bipush 40, 2) := by decide +kernel
theorem dX4_reckon_67 : decode cX4_reckon 67 = .ok (.isub, 1) := by decide +kernel
theorem dX4_reckon_68 : decode cX4_reckon 68 = .ok (.invokevirtual 332, 3) := by decide +kernel
theorem dX4_reckon_71 : decode cX4_reckon 71 = .ok (.return_, 1) := by decide +kernel
theorem dX4_reckon_72 : decode cX4_reckon 72 = .ok (.aload_n 0, 1) := by decide +kernel
theorem dX4_reckon_73 : decode cX4_reckon 73 = .ok (.invokevirtual 252, 3) := by decide +kernel
theorem dX4_reckon_76 : decode cX4_reckon 76 = .ok (.istore_n 3, 1) := by decide +kernel
theorem dX4_reckon_77 : decode cX4_reckon 77 = .ok (.aload_n 0, 1) := by decide +kernel
theorem dX4_reckon_78 : decode cX4_reckon 78 = .ok (.getfield 12, 3) := by decide +kernel
theorem dX4_reckon_81 : decode cX4_reckon 81 = .ok (.getfield 152, 3) := by decide +kernel
theorem dX4_reckon_84 : decode cX4_reckon 84 = .ok (.iload_n 3, 1) := by decide +kernel
theorem dX4_reckon_85 : decode cX4_reckon 85 = .ok (.baload, 1) := by decide +kernel
theorem dX4_reckon_86 : decode cX4_reckon 86 = .ok (.istore 4, 2) := by decide +kernel
theorem dX4_reckon_88 : decode cX4_reckon 88 = .ok (.aload_n 0, 1) := by decide +kernel
theorem dX4_reckon_89 : decode cX4_reckon 89 = .ok (.getfield 21, 3) := by decide +kernel
theorem dX4_reckon_92 : decode cX4_reckon 92 = .ok (.aload_n 0, 1) := by decide +kernel
theorem dX4_reckon_93 : decode cX4_reckon 93 = .ok (.getfield 12, 3) := by decide +kernel
theorem dX4_reckon_96 : decode cX4_reckon 96 = .ok (.getfield 155, 3) := by decide +kernel
theorem dX4_reckon_99 : decode cX4_reckon 99 = .ok (.iload_n 3, 1) := by decide +kernel
theorem dX4_reckon_100 : decode cX4_reckon 100 = .ok (.laload, 1) := by decide +kernel
theorem dX4_reckon_101 : decode cX4_reckon 101 = .ok (.aload_n 0, 1) := by decide +kernel
theorem dX4_reckon_102 : decode cX4_reckon 102 = .ok (.getfield 12, 3) := by decide +kernel
theorem dX4_reckon_105 : decode cX4_reckon 105 = .ok (.getfield 158, 3) := by decide +kernel
theorem dX4_reckon_108 : decode cX4_reckon 108 = .ok (.iload_n 3, 1) := by decide +kernel
theorem dX4_reckon_109 : decode cX4_reckon 109 = .ok (.laload, 1) := by decide +kernel
theorem dX4_reckon_110 : decode cX4_reckon 110 = .ok (.invokevirtual 329, 3) := by decide +kernel
theorem dX4_reckon_113 : decode cX4_reckon 113 = .ok (.iload_n 1, 1) := by decide +kernel
theorem dX4_reckon_114 : decode cX4_reckon 114 = .ok (.bipush 36, 2) := by decide +kernel
theorem dX4_reckon_116 : decode cX4_reckon 116 = .ok (.if_icmp .lt 13, 3) := by decide +kernel
theorem dX4_reckon_119 : decode cX4_reckon 119 = .ok (.aload_n 0, 1) := by decide +kernel
theorem dX4_reckon_120 : decode cX4_reckon 120 = .ok (.iload_n 1, 1) := by decide +kernel
theorem dX4_reckon_121 : decode cX4_reckon 121 = .ok (.iload_n 3, 1) := by decide +kernel
theorem dX4_reckon_122 : decode cX4_reckon 122 = .ok (.iload_n 2, 1) := by decide +kernel
theorem dX4_reckon_123 : decode cX4_reckon 123 = .ok (.invokevirtual 335, 3) := by decide +kernel
theorem dX4_reckon_126 : decode cX4_reckon 126 = .ok (.goto 67, 3) := by decide +kernel
theorem dX4_reckon_129 : decode cX4_reckon 129 = .ok (.iload_n 1, 1) := by decide +kernel
theorem dX4_reckon_130 : decode cX4_reckon 130 = .ok (.bipush 32, 2) := by decide +kernel
theorem dX4_reckon_132 : decode cX4_reckon 132 = .ok (.if_icmp .lt 32, 3) := by decide +kernel
theorem dX4_reckon_135 : decode cX4_reckon 135 = .ok (.aload_n 0, 1) := by decide +kernel
theorem dX4_reckon_136 : decode cX4_reckon 136 = .ok (.iload_n 1, 1) := by decide +kernel
theorem dX4_reckon_137 : decode cX4_reckon 137 = .ok (.bipush 32, 2) := by decide +kernel
theorem dX4_reckon_139 : decode cX4_reckon 139 = .ok (.if_icmp .ne 7, 3) := by decide +kernel
theorem dX4_reckon_142 : decode cX4_reckon 142 = .ok (.iconst 1, 1) := by decide +kernel
theorem dX4_reckon_143 : decode cX4_reckon 143 = .ok (.goto 4, 3) := by decide +kernel
theorem dX4_reckon_146 : decode cX4_reckon 146 = .ok (.iconst 0, 1) := by decide +kernel
theorem dX4_reckon_147 : decode cX4_reckon 147 = .ok (.aload_n 0, 1) := by decide +kernel
theorem dX4_reckon_148 : decode cX4_reckon 148 = .ok (.getfield 12, 3) := by decide +kernel
theorem dX4_reckon_151 : decode cX4_reckon 151 = .ok (.getfield 158, 3) := by decide +kernel
theorem dX4_reckon_154 : decode cX4_reckon 154 = .ok (.iload_n 2, 1) := by decide +kernel
theorem dX4_reckon_155 : decode cX4_reckon 155 = .ok (.laload, 1) := by decide +kernel
theorem dX4_reckon_156 : decode cX4_reckon 156 = .ok (.iload 4, 2) := by decide +kernel
theorem dX4_reckon_158 : decode cX4_reckon 158 = .ok (.invokevirtual 338, 3) := by decide +kernel
theorem dX4_reckon_161 : decode cX4_reckon 161 = .ok (.goto 32, 3) := by decide +kernel
theorem dX4_reckon_164 : decode cX4_reckon 164 = .ok (.aload_n 0, 1) := by decide +kernel
theorem dX4_reckon_165 : decode cX4_reckon 165 = .ok (.iload_n 1, 1) := by decide +kernel
theorem dX4_reckon_166 : decode cX4_reckon 166 = .ok (.aload_n 0, 1) := by decide +kernel
theorem dX4_reckon_167 : decode cX4_reckon 167 = .ok (.getfield 12, 3) := by decide +kernel
theorem dX4_reckon_170 : decode cX4_reckon 170 = .ok (.getfield 155, 3) := by decide +kernel
theorem dX4_reckon_173 : decode cX4_reckon 173 = .ok (.iload_n 2, 1) := by decide +kernel
theorem dX4_reckon_174 : decode cX4_reckon 174 = .ok (.laload, 1) := by decide +kernel
theorem dX4_reckon_175 : decode cX4_reckon 175 = .ok (.aload_n 0, 1) := by decide +kernel
theorem dX4_reckon_176 : decode cX4_reckon 176 = .ok (.getfield 12, 3) := by decide +kernel
theorem dX4_reckon_179 : decode cX4_reckon 179 = .ok (.getfield 158, 3) := by decide +kernel
theorem dX4_reckon_182 : decode cX4_reckon 182 = .ok (.iload_n 2, 1) := by decide +kernel
theorem dX4_reckon_183 : decode cX4_reckon 183 = .ok (.laload, 1) := by decide +kernel
theorem dX4_reckon_184 : decode cX4_reckon 184 = .ok (.invokevirtual 342, 3) := by decide +kernel
theorem dX4_reckon_187 : decode cX4_reckon 187 = .ok (.aload_n 0, 1) := by decide +kernel
theorem dX4_reckon_188 : decode cX4_reckon 188 = .ok (.iload 4, 2) := by decide +kernel
theorem dX4_reckon_190 : decode cX4_reckon 190 = .ok (.invokevirtual 332, 3) := by decide +kernel
theorem dX4_reckon_193 : decode cX4_reckon 193 = .ok (.return_, 1) := by decide +kernel
theorem dX4_pushWide_0 : decode cX4_pushWide 0 = .ok (.iload_n 1, 1) := by decide +kernel
theorem dX4_pushWide_1 : decode cX4_pushWide 1 = .ok (.iconst 1, 1) := by decide +kernel
theorem dX4_pushWide_2 : decode cX4_pushWide 2 = .ok (.if_icmp .eq 21, 3) := by decide +kernel
theorem dX4_pushWide_5 : decode cX4_pushWide 5 = .ok (.aload_n 0, 1) := by decide +kernel
theorem dX4_pushWide_6 : decode cX4_pushWide 6 = .ok (.getfield 21, 3) := by decide +kernel
theorem dX4_pushWide_9 : decode cX4_pushWide 9 = .ok (.iload_n 1, 1) := by decide +kernel
theorem dX4_pushWide_10 : decode cX4_pushWide 10 = .ok (.invokevirtual 345, 3) := by decide +kernel
theorem dX4_pushWide_13 : decode cX4_pushWide 13 = .ok (.ifCond .ne 10, 3) := by decide +kernel
theorem dX4_pushWide_16 : decode cX4_pushWide 16 = .ok (.aload_n 0, 1) := by decide +kernel
theorem dX4_pushWide_17 : decode cX4_pushWide 17 = .ok (.iconst 2, 1) := by decide +kernel
theorem dX4_pushWide_18 : decode cX4_pushWide 18 = .ok (.lconst 1, 1) := by decide +kernel
theorem dX4_pushWide_19 : decode cX4_pushWide 19 = .ok (.invokevirtual 148, 3) := by decide +kernel
theorem dX4_pushWide_22 : decode cX4_pushWide 22 = .ok (.return_, 1) := by decide +kernel
theorem dX4_pushWide_23 : decode cX4_pushWide 23 = .ok (.aload_n 0, 1) := by decide +kernel
theorem dX4_pushWide_24 : decode cX4_pushWide 24 = .ok (.iload_n 1, 1) := by decide +kernel
theorem dX4_pushWide_25 : decode cX4_pushWide 25 = .ok (.aload_n 0, 1) := by decide +kernel
theorem dX4_pushWide_26 : decode cX4_pushWide 26 = .ok (.getfield 21, 3) := by decide +kernel
theorem dX4_pushWide_29 : decode cX4_pushWide 29 = .ok (.getfield 347, 3) := by decide +kernel
theorem dX4_pushWide_32 : decode cX4_pushWide 32 = .ok (.aload_n 0, 1) := by decide +kernel
theorem dX4_pushWide_33 : decode cX4_pushWide 33 = .ok (.getfield 21, 3) := by decide +kernel
theorem dX4_pushWide_36 : decode cX4_pushWide 36 = .ok (.getfield 349, 3) := by decide +kernel
theorem dX4_pushWide_39 : decode cX4_pushWide 39 = .ok (.invokevirtual 262, 3) := by decide +kernel
theorem dX4_pushWide_42 : decode cX4_pushWide 42 = .ok (.return_, 1) := by decide +kernel
theorem dX4_combine_0 : decode cX4_combine 0 = .ok (.iload_n 1, 1) := by decide +kernel
theorem dX4_combine_1 : decode cX4_combine 1 = .ok (.tableswitch 164 24 30 #[43, 56, 69, 82, 82, 106, 135], 43) := by decide +kernel
theorem dX4_combine_44 : decode cX4_combine 44 = .ok (.aload_n 0, 1) := by decide +kernel
theorem dX4_combine_45 : decode cX4_combine 45 = .ok (.getfield 21, 3) := by decide +kernel
theorem dX4_combine_48 : decode cX4_combine 48 = .ok (.lload_n 2, 1) := by decide +kernel
theorem dX4_combine_49 : decode cX4_combine 49 = .ok (.lload 4, 2) := by decide +kernel
theorem dX4_combine_51 : decode cX4_combine 51 = .ok (.invokevirtual 351, 3) := by decide +kernel
theorem dX4_combine_54 : decode cX4_combine 54 = .ok (.goto 137, 3) := by decide +kernel
theorem dX4_combine_57 : decode cX4_combine 57 = .ok (.aload_n 0, 1) := by decide +kernel
theorem dX4_combine_58 : decode cX4_combine 58 = .ok (.getfield 21, 3) := by decide +kernel
theorem dX4_combine_61 : decode cX4_combine 61 = .ok (.lload_n 2, 1) := by decide +kernel
theorem dX4_combine_62 : decode cX4_combine 62 = .ok (.lload 4, 2) := by decide +kernel
theorem dX4_combine_64 : decode cX4_combine 64 = .ok (.invokevirtual 354, 3) := by decide +kernel
theorem dX4_combine_67 : decode cX4_combine 67 = .ok (.goto 124, 3) := by decide +kernel
theorem dX4_combine_70 : decode cX4_combine 70 = .ok (.aload_n 0, 1) := by decide +kernel
theorem dX4_combine_71 : decode cX4_combine 71 = .ok (.getfield 21, 3) := by decide +kernel
theorem dX4_combine_74 : decode cX4_combine 74 = .ok (.lload_n 2, 1) := by decide +kernel
theorem dX4_combine_75 : decode cX4_combine 75 = .ok (.lload 4, 2) := by decide +kernel
theorem dX4_combine_77 : decode cX4_combine 77 = .ok (.invokevirtual 357, 3) := by decide +kernel
theorem dX4_combine_80 : decode cX4_combine 80 = .ok (.goto 111, 3) := by decide +kernel
theorem dX4_combine_83 : decode cX4_combine 83 = .ok (.aload_n 0, 1) := by decide +kernel
theorem dX4_combine_84 : decode cX4_combine 84 = .ok (.getfield 21, 3) := by decide +kernel
theorem dX4_combine_87 : decode cX4_combine 87 = .ok (.lload_n 2, 1) := by decide +kernel
theorem dX4_combine_88 : decode cX4_combine 88 = .ok (.lload 4, 2) := by decide +kernel
theorem dX4_combine_90 : decode cX4_combine 90 = .ok (.iload_n 1, 1) := by decide +kernel
theorem dX4_combine_91 : decode cX4_combine 91 = .ok (.bipush 28, 2) := by decide +kernel
theorem dX4_combine_93 : decode cX4_combine 93 = .ok (.if_icmp .ne 7, 3) := by decide +kernel
theorem dX4_combine_96 : decode cX4_combine 96 = .ok (.iconst 1, 1) := by decide +kernel
theorem dX4_combine_97 : decode cX4_combine 97 = .ok (.goto 4, 3) := by decide +kernel
theorem dX4_combine_100 : decode cX4_combine 100 = .ok (.iconst 0, 1) := by decide +kernel
theorem dX4_combine_101 : decode cX4_combine 101 = .ok (.invokevirtual 360, 3) := by decide +kernel
theorem dX4_combine_104 : decode cX4_combine 104 = .ok (.goto 87, 3) := by decide +kernel
theorem dX4_combine_107 : decode cX4_combine 107 = .ok (.aload_n 0, 1) := by decide +kernel
theorem dX4_combine_108 : decode cX4_combine 108 = .ok (.getfield 21, 3) := by decide +kernel
theorem dX4_combine_111 : decode cX4_combine 111 = .ok (.aload_n 0, 1) := by decide +kernel
theorem dX4_combine_112 : decode cX4_combine 112 = .ok (.getfield 21, 3) := by decide +kernel
theorem dX4_combine_115 : decode cX4_combine 115 = .ok (.getfield 347, 3) := by decide +kernel
theorem dX4_combine_118 : decode cX4_combine 118 = .ok (.lload_n 2, 1) := by decide +kernel
theorem dX4_combine_119 : decode cX4_combine 119 = .ok (.land, 1) := by decide +kernel
theorem dX4_combine_120 : decode cX4_combine 120 = .ok (.aload_n 0, 1) := by decide +kernel
theorem dX4_combine_121 : decode cX4_combine 121 = .ok (.getfield 21, 3) := by decide +kernel
theorem dX4_combine_124 : decode cX4_combine 124 = .ok (.getfield 349, 3) := by decide +kernel
theorem dX4_combine_127 : decode cX4_combine 127 = .ok (.lload 4, 2) := by decide +kernel
theorem dX4_combine_129 : decode cX4_combine 129 = .ok (.land, 1) := by decide +kernel
theorem dX4_combine_130 : decode cX4_combine 130 = .ok (.invokevirtual 329, 3) := by decide +kernel
theorem dX4_combine_133 : decode cX4_combine 133 = .ok (.goto 58, 3) := by decide +kernel
theorem dX4_combine_136 : decode cX4_combine 136 = .ok (.aload_n 0, 1) := by decide +kernel
theorem dX4_combine_137 : decode cX4_combine 137 = .ok (.getfield 21, 3) := by decide +kernel
theorem dX4_combine_140 : decode cX4_combine 140 = .ok (.aload_n 0, 1) := by decide +kernel
theorem dX4_combine_141 : decode cX4_combine 141 = .ok (.getfield 21, 3) := by decide +kernel
theorem dX4_combine_144 : decode cX4_combine 144 = .ok (.getfield 347, 3) := by decide +kernel
theorem dX4_combine_147 : decode cX4_combine 147 = .ok (.lload_n 2, 1) := by decide +kernel
theorem dX4_combine_148 : decode cX4_combine 148 = .ok (.lor, 1) := by decide +kernel
theorem dX4_combine_149 : decode cX4_combine 149 = .ok (.aload_n 0, 1) := by decide +kernel
theorem dX4_combine_150 : decode cX4_combine 150 = .ok (.getfield 21, 3) := by decide +kernel
theorem dX4_combine_153 : decode cX4_combine 153 = .ok (.getfield 349, 3) := by decide +kernel
theorem dX4_combine_156 : decode cX4_combine 156 = .ok (.lload 4, 2) := by decide +kernel
theorem dX4_combine_158 : decode cX4_combine 158 = .ok (.lor, 1) := by decide +kernel
theorem dX4_combine_159 : decode cX4_combine 159 = .ok (.invokevirtual 329, 3) := by decide +kernel
theorem dX4_combine_162 : decode cX4_combine 162 = .ok (.goto 29, 3) := by decide +kernel
theorem dX4_combine_165 : decode cX4_combine 165 = .ok (.aload_n 0, 1) := by decide +kernel
theorem dX4_combine_166 : decode cX4_combine 166 = .ok (.getfield 21, 3) := by decide +kernel
theorem dX4_combine_169 : decode cX4_combine 169 = .ok (.aload_n 0, 1) := by decide +kernel
theorem dX4_combine_170 : decode cX4_combine 170 = .ok (.getfield 21, 3) := by decide +kernel
theorem dX4_combine_173 : decode cX4_combine 173 = .ok (.getfield 347, 3) := by decide +kernel
theorem dX4_combine_176 : decode cX4_combine 176 = .ok (.lload_n 2, 1) := by decide +kernel
theorem dX4_combine_177 : decode cX4_combine 177 = .ok (.lxor, 1) := by decide +kernel
theorem dX4_combine_178 : decode cX4_combine 178 = .ok (.aload_n 0, 1) := by decide +kernel
theorem dX4_combine_179 : decode cX4_combine 179 = .ok (.getfield 21, 3) := by decide +kernel
theorem dX4_combine_182 : decode cX4_combine 182 = .ok (.getfield 349, 3) := by decide +kernel
theorem dX4_combine_185 : decode cX4_combine 185 = .ok (.lload 4, 2) := by decide +kernel
theorem dX4_combine_187 : decode cX4_combine 187 = .ok (.lxor, 1) := by decide +kernel
theorem dX4_combine_188 : decode cX4_combine 188 = .ok (.invokevirtual 329, 3) := by decide +kernel
theorem dX4_combine_191 : decode cX4_combine 191 = .ok (.return_, 1) := by decide +kernel
theorem dX4_shift_0 : decode cX4_shift 0 = .ok (.lload_n 2, 1) := by decide +kernel
theorem dX4_shift_1 : decode cX4_shift 1 = .ok (.iload 4, 2) := by decide +kernel
theorem dX4_shift_3 : decode cX4_shift 3 = .ok (.invokestatic 364, 3) := by decide +kernel
theorem dX4_shift_6 : decode cX4_shift 6 = .ok (.i2l, 1) := by decide +kernel
theorem dX4_shift_7 : decode cX4_shift 7 = .ok (.lcmp, 1) := by decide +kernel
theorem dX4_shift_8 : decode cX4_shift 8 = .ok (.ifCond .lt 10, 3) := by decide +kernel
theorem dX4_shift_11 : decode cX4_shift 11 = .ok (.aload_n 0, 1) := by decide +kernel
theorem dX4_shift_12 : decode cX4_shift 12 = .ok (.iconst 2, 1) := by decide +kernel
theorem dX4_shift_13 : decode cX4_shift 13 = .ok (.lconst 1, 1) := by decide +kernel
theorem dX4_shift_14 : decode cX4_shift 14 = .ok (.invokevirtual 148, 3) := by decide +kernel
theorem dX4_shift_17 : decode cX4_shift 17 = .ok (.return_, 1) := by decide +kernel
theorem dX4_shift_18 : decode cX4_shift 18 = .ok (.iload_n 1, 1) := by decide +kernel
theorem dX4_shift_19 : decode cX4_shift 19 = .ok (.ifCond .eq 24, 3) := by decide +kernel
theorem dX4_shift_22 : decode cX4_shift 22 = .ok (.aload_n 0, 1) := by decide +kernel
theorem dX4_shift_23 : decode cX4_shift 23 = .ok (.getfield 21, 3) := by decide +kernel
theorem dX4_shift_26 : decode cX4_shift 26 = .ok (.lload_n 2, 1) := by decide +kernel
theorem dX4_shift_27 : decode cX4_shift 27 = .ok (.l2i, 1) := by decide +kernel
theorem dX4_shift_28 : decode cX4_shift 28 = .ok (.invokevirtual 367, 3) := by decide +kernel
theorem dX4_shift_31 : decode cX4_shift 31 = .ok (.aload_n 0, 1) := by decide +kernel
theorem dX4_shift_32 : decode cX4_shift 32 = .ok (.getfield 21, 3) := by decide +kernel
theorem dX4_shift_35 : decode cX4_shift 35 = .ok (.iload 4, 2) := by decide +kernel
theorem dX4_shift_37 : decode cX4_shift 37 = .ok (.invokevirtual 370, 3) := by decide +kernel
theorem dX4_shift_40 : decode cX4_shift 40 = .ok (.goto 12, 3) := by decide +kernel
theorem dX4_shift_43 : decode cX4_shift 43 = .ok (.aload_n 0, 1) := by decide +kernel
theorem dX4_shift_44 : decode cX4_shift 44 = .ok (.getfield 21, 3) := by decide +kernel
theorem dX4_shift_47 : decode cX4_shift 47 = .ok (.lload_n 2, 1) := by decide +kernel
theorem dX4_shift_48 : decode cX4_shift 48 = .ok (.l2i, 1) := by decide +kernel
theorem dX4_shift_49 : decode cX4_shift 49 = .ok (.invokevirtual 373, 3) := by decide +kernel
theorem dX4_shift_52 : decode cX4_shift 52 = .ok (.aload_n 0, 1) := by decide +kernel
theorem dX4_shift_53 : decode cX4_shift 53 = .ok (.iload 4, 2) := by decide +kernel
theorem dX4_shift_55 : decode cX4_shift 55 = .ok (.invokevirtual 332, 3) := by decide +kernel
theorem dX4_shift_58 : decode cX4_shift 58 = .ok (.return_, 1) := by decide +kernel
theorem dX4_compare_0 : decode cX4_compare 0 = .ok (.iload_n 1, 1) := by decide +kernel
theorem dX4_compare_1 : decode cX4_compare 1 = .ok (.bipush 37, 2) := by decide +kernel
theorem dX4_compare_3 : decode cX4_compare 3 = .ok (.if_icmp .gt 61, 3) := by decide +kernel
theorem dX4_compare_6 : decode cX4_compare 6 = .ok (.aload_n 0, 1) := by decide +kernel
theorem dX4_compare_7 : decode cX4_compare 7 = .ok (.aload_n 0, 1) := by decide +kernel
theorem dX4_compare_8 : decode cX4_compare 8 = .ok (.getfield 12, 3) := by decide +kernel
theorem dX4_compare_11 : decode cX4_compare 11 = .ok (.iload_n 2, 1) := by decide +kernel
theorem dX4_compare_12 : decode cX4_compare 12 = .ok (.invokevirtual 271, 3) := by decide +kernel
theorem dX4_compare_15 : decode cX4_compare 15 = .ok (.aload_n 0, 1) := by decide +kernel
theorem dX4_compare_16 : decode cX4_compare 16 = .ok (.getfield 12, 3) := by decide +kernel
theorem dX4_compare_19 : decode cX4_compare 19 = .ok (.iload_n 3, 1) := by decide +kernel
theorem dX4_compare_20 : decode cX4_compare 20 = .ok (.invokevirtual 271, 3) := by decide +kernel
theorem dX4_compare_23 : decode cX4_compare 23 = .ok (.iadd, 1) := by decide +kernel
theorem dX4_compare_24 : decode cX4_compare 24 = .ok (.invokevirtual 191, 3) := by decide +kernel
theorem dX4_compare_27 : decode cX4_compare 27 = .ok (.ifCond .ne 4, 3) := by decide +kernel
theorem dX4_compare_30 : decode cX4_compare 30 = .ok (.return_, 1) := by decide +kernel
theorem dX4_compare_31 : decode cX4_compare 31 = .ok (.aload_n 0, 1) := by decide +kernel
theorem dX4_compare_32 : decode cX4_compare 32 = .ok (.getfield 12, 3) := by decide +kernel
theorem dX4_compare_35 : decode cX4_compare 35 = .ok (.iload_n 2, 1) := by decide +kernel
theorem dX4_compare_36 : decode cX4_compare 36 = .ok (.iload_n 3, 1) := by decide +kernel
theorem dX4_compare_37 : decode cX4_compare 37 = .ok (.invokevirtual 376, 3) := by decide +kernel
theorem dX4_compare_40 : decode cX4_compare 40 = .ok (.iload_n 1, 1) := by decide +kernel
theorem dX4_compare_41 : decode cX4_compare 41 = .ok (.bipush 36, 2) := by decide +kernel
theorem dX4_compare_43 : decode cX4_compare 43 = .ok (.if_icmp .ne 7, 3) := by decide +kernel
theorem dX4_compare_46 : decode cX4_compare 46 = .ok (.iconst 1, 1) := by decide +kernel
theorem dX4_compare_47 : decode cX4_compare 47 = .ok (.goto 4, 3) := by decide +kernel
theorem dX4_compare_50 : decode cX4_compare 50 = .ok (.iconst 0, 1) := by decide +kernel
theorem dX4_compare_51 : decode cX4_compare 51 = .ok (.if_icmp .ne 7, 3) := by decide +kernel
theorem dX4_compare_54 : decode cX4_compare 54 = .ok (.iconst 1, 1) := by decide +kernel
theorem dX4_compare_55 : decode cX4_compare 55 = .ok (.goto 4, 3) := by decide +kernel
theorem dX4_compare_58 : decode cX4_compare 58 = .ok (.iconst 0, 1) := by decide +kernel
theorem dX4_compare_59 : decode cX4_compare 59 = .ok (.istore 4, 2) := by decide +kernel
theorem dX4_compare_61 : decode cX4_compare 61 = .ok (.goto 113, 3) := by decide +kernel
theorem dX4_compare_64 : decode cX4_compare 64 = .ok (.aload_n 0, 1) := by decide +kernel
theorem dX4_compare_65 : decode cX4_compare 65 = .ok (.getfield 12, 3) := by decide +kernel
theorem dX4_compare_68 : decode cX4_compare 68 = .ok (.getfield 155, 3) := by decide +kernel
theorem dX4_compare_71 : decode cX4_compare 71 = .ok (.iload_n 2, 1) := by decide +kernel
theorem dX4_compare_72 : decode cX4_compare 72 = .ok (.laload, 1) := by decide +kernel
theorem dX4_compare_73 : decode cX4_compare 73 = .ok (.aload_n 0, 1) := by decide +kernel
theorem dX4_compare_74 : decode cX4_compare 74 = .ok (.getfield 12, 3) := by decide +kernel
theorem dX4_compare_77 : decode cX4_compare 77 = .ok (.getfield 158, 3) := by decide +kernel
theorem dX4_compare_80 : decode cX4_compare 80 = .ok (.iload_n 2, 1) := by decide +kernel
theorem dX4_compare_81 : decode cX4_compare 81 = .ok (.laload, 1) := by decide +kernel
theorem dX4_compare_82 : decode cX4_compare 82 = .ok (.aload_n 0, 1) := by decide +kernel
theorem dX4_compare_83 : decode cX4_compare 83 = .ok (.getfield 12, 3) := by decide +kernel
theorem dX4_compare_86 : decode cX4_compare 86 = .ok (.getfield 155, 3) := by decide +kernel
theorem dX4_compare_89 : decode cX4_compare 89 = .ok (.iload_n 3, 1) := by decide +kernel
theorem dX4_compare_90 : decode cX4_compare 90 = .ok (.laload, 1) := by decide +kernel
theorem dX4_compare_91 : decode cX4_compare 91 = .ok (.aload_n 0, 1) := by decide +kernel
theorem dX4_compare_92 : decode cX4_compare 92 = .ok (.getfield 12, 3) := by decide +kernel
theorem dX4_compare_95 : decode cX4_compare 95 = .ok (.getfield 158, 3) := by decide +kernel
theorem dX4_compare_98 : decode cX4_compare 98 = .ok (.iload_n 3, 1) := by decide +kernel
theorem dX4_compare_99 : decode cX4_compare 99 = .ok (.laload, 1) := by decide +kernel
theorem dX4_compare_100 : decode cX4_compare 100 = .ok (.invokestatic 380, 3) := by decide +kernel
theorem dX4_compare_103 : decode cX4_compare 103 = .ok (.istore 5, 2) := by decide +kernel
theorem dX4_compare_105 : decode cX4_compare 105 = .ok (.iload_n 1, 1) := by decide +kernel
theorem dX4_compare_106 : decode cX4_compare 106 = .ok (.bipush 38, 2) := by decide +kernel
theorem dX4_compare_108 : decode cX4_compare 108 = .ok (.if_icmp .ne 16, 3) := by decide +kernel
theorem dX4_compare_111 : decode cX4_compare 111 = .ok (.iload 5, 2) := by decide +kernel
theorem dX4_compare_113 : decode cX4_compare 113 = .ok (.ifCond .ge 7, 3) := by decide +kernel
theorem dX4_compare_116 : decode cX4_compare 116 = .ok (.iconst 1, 1) := by decide +kernel
theorem dX4_compare_117 : decode cX4_compare 117 = .ok (.goto 55, 3) := by decide +kernel
theorem dX4_compare_120 : decode cX4_compare 120 = .ok (.iconst 0, 1) := by decide +kernel
theorem dX4_compare_121 : decode cX4_compare 121 = .ok (.goto 51, 3) := by decide +kernel
theorem dX4_compare_124 : decode cX4_compare 124 = .ok (.iload_n 1, 1) := by decide +kernel
theorem dX4_compare_125 : decode cX4_compare 125 = .ok (.bipush 39, 2) := by decide +kernel
theorem dX4_compare_127 : decode cX4_compare 127 = .ok (.if_icmp .ne 16, 3) := by decide +kernel
theorem dX4_compare_130 : decode cX4_compare 130 = .ok (.iload 5, 2) := by decide +kernel
theorem dX4_compare_132 : decode cX4_compare 132 = .ok (.ifCond .gt 7, 3) := by decide +kernel
theorem dX4_compare_135 : decode cX4_compare 135 = .ok (.iconst 1, 1) := by decide +kernel
theorem dX4_compare_136 : decode cX4_compare 136 = .ok (.goto 36, 3) := by decide +kernel
theorem dX4_compare_139 : decode cX4_compare 139 = .ok (.iconst 0, 1) := by decide +kernel
theorem dX4_compare_140 : decode cX4_compare 140 = .ok (.goto 32, 3) := by decide +kernel
theorem dX4_compare_143 : decode cX4_compare 143 = .ok (.iload_n 1, 1) := by decide +kernel
theorem dX4_compare_144 : decode cX4_compare 144 = .ok (.bipush 40, 2) := by decide +kernel
theorem dX4_compare_146 : decode cX4_compare 146 = .ok (.if_icmp .ne 16, 3) := by decide +kernel
theorem dX4_compare_149 : decode cX4_compare 149 = .ok (.iload 5, 2) := by decide +kernel
theorem dX4_compare_151 : decode cX4_compare 151 = .ok (.ifCond .le 7, 3) := by decide +kernel
theorem dX4_compare_154 : decode cX4_compare 154 = .ok (.iconst 1, 1) := by decide +kernel
theorem dX4_compare_155 : decode cX4_compare 155 = .ok (.goto 17, 3) := by decide +kernel
theorem dX4_compare_158 : decode cX4_compare 158 = .ok (.iconst 0, 1) := by decide +kernel
theorem dX4_compare_159 : decode cX4_compare 159 = .ok (.goto 13, 3) := by decide +kernel
theorem dX4_compare_162 : decode cX4_compare 162 = .ok (.iload 5, 2) := by decide +kernel
theorem dX4_compare_164 : decode cX4_compare 164 = .ok (.ifCond .lt 7, 3) := by decide +kernel
theorem dX4_compare_167 : decode cX4_compare 167 = .ok (.iconst 1, 1) := by decide +kernel
theorem dX4_compare_168 : decode cX4_compare 168 = .ok (.goto 4, 3) := by decide +kernel
