theorem dX3_pack_40 : decode cX3_pack 40 = .ok (.goto (-22), 3) := by decide +kernel
theorem dX3_pack_43 : decode cX3_pack 43 = .ok (.aload_n 0, 1) := by decide +kernel
theorem dX3_pack_44 : decode cX3_pack 44 = .ok (.iload_n 2, 1) := by decide +kernel
theorem dX3_pack_45 : decode cX3_pack 45 = .ok (.invokestatic 254, 3) := by decide +kernel
theorem dX3_pack_48 : decode cX3_pack 48 = .ok (.invokevirtual 233, 3) := by decide +kernel
theorem dX3_pack_51 : decode cX3_pack 51 = .ok (.return_, 1) := by decide +kernel
theorem dX3_pack_52 : decode cX3_pack 52 = .ok (.aload_n 0, 1) := by decide +kernel
theorem dX3_pack_53 : decode cX3_pack 53 = .ok (.iload_n 2, 1) := by decide +kernel
theorem dX3_pack_54 : decode cX3_pack 54 = .ok (.invokestatic 254, 3) := by decide +kernel
theorem dX3_pack_57 : decode cX3_pack 57 = .ok (.invokevirtual 221, 3) := by decide +kernel
theorem dX3_pack_60 : decode cX3_pack 60 = .ok (.iconst 0, 1) := by decide +kernel
theorem dX3_pack_61 : decode cX3_pack 61 = .ok (.istore 4, 2) := by decide +kernel
theorem dX3_pack_63 : decode cX3_pack 63 = .ok (.iload 4, 2) := by decide +kernel
theorem dX3_pack_65 : decode cX3_pack 65 = .ok (.iload_n 3, 1) := by decide +kernel
theorem dX3_pack_66 : decode cX3_pack 66 = .ok (.if_icmp .ge 23, 3) := by decide +kernel
theorem dX3_pack_69 : decode cX3_pack 69 = .ok (.aload_n 0, 1) := by decide +kernel
theorem dX3_pack_70 : decode cX3_pack 70 = .ok (.aload_n 0, 1) := by decide +kernel
theorem dX3_pack_71 : decode cX3_pack 71 = .ok (.getfield 44, 3) := by decide +kernel
theorem dX3_pack_74 : decode cX3_pack 74 = .ok (.iload_n 2, 1) := by decide +kernel
theorem dX3_pack_75 : decode cX3_pack 75 = .ok (.iload 4, 2) := by decide +kernel
theorem dX3_pack_77 : decode cX3_pack 77 = .ok (.invokevirtual 262, 3) := by decide +kernel
theorem dX3_pack_80 : decode cX3_pack 80 = .ok (.invokevirtual 233, 3) := by decide +kernel
theorem dX3_pack_83 : decode cX3_pack 83 = .ok (.iinc 4 1, 3) := by decide +kernel
theorem dX3_pack_86 : decode cX3_pack 86 = .ok (.goto (-23), 3) := by decide +kernel
theorem dX3_pack_89 : decode cX3_pack 89 = .ok (.return_, 1) := by decide +kernel
theorem dX3_enter_0 : decode cX3_enter 0 = .ok (.aload_n 0, 1) := by decide +kernel
theorem dX3_enter_1 : decode cX3_enter 1 = .ok (.getfield 44, 3) := by decide +kernel
theorem dX3_enter_4 : decode cX3_enter 4 = .ok (.iload_n 1, 1) := by decide +kernel
theorem dX3_enter_5 : decode cX3_enter 5 = .ok (.invokevirtual 102, 3) := by decide +kernel
theorem dX3_enter_8 : decode cX3_enter 8 = .ok (.istore_n 2, 1) := by decide +kernel
theorem dX3_enter_9 : decode cX3_enter 9 = .ok (.iload_n 2, 1) := by decide +kernel
theorem dX3_enter_10 : decode cX3_enter 10 = .ok (.iconst 1, 1) := by decide +kernel
theorem dX3_enter_11 : decode cX3_enter 11 = .ok (.isub, 1) := by decide +kernel
theorem dX3_enter_12 : decode cX3_enter 12 = .ok (.istore_n 3, 1) := by decide +kernel
theorem dX3_enter_13 : decode cX3_enter 13 = .ok (.iload_n 3, 1) := by decide +kernel
theorem dX3_enter_14 : decode cX3_enter 14 = .ok (.ifCond .lt 22, 3) := by decide +kernel
theorem dX3_enter_17 : decode cX3_enter 17 = .ok (.aload_n 0, 1) := by decide +kernel
theorem dX3_enter_18 : decode cX3_enter 18 = .ok (.aload_n 0, 1) := by decide +kernel
theorem dX3_enter_19 : decode cX3_enter 19 = .ok (.getfield 44, 3) := by decide +kernel
theorem dX3_enter_22 : decode cX3_enter 22 = .ok (.iload_n 1, 1) := by decide +kernel
theorem dX3_enter_23 : decode cX3_enter 23 = .ok (.iload_n 3, 1) := by decide +kernel
theorem dX3_enter_24 : decode cX3_enter 24 = .ok (.invokevirtual 275, 3) := by decide +kernel
theorem dX3_enter_27 : decode cX3_enter 27 = .ok (.invokevirtual 221, 3) := by decide +kernel
theorem dX3_enter_30 : decode cX3_enter 30 = .ok (.iinc 3 (-1), 3) := by decide +kernel
theorem dX3_enter_33 : decode cX3_enter 33 = .ok (.goto (-20), 3) := by decide +kernel
theorem dX3_enter_36 : decode cX3_enter 36 = .ok (.aload_n 0, 1) := by decide +kernel
theorem dX3_enter_37 : decode cX3_enter 37 = .ok (.getfield 48, 3) := by decide +kernel
theorem dX3_enter_40 : decode cX3_enter 40 = .ok (.ifCond .eq 4, 3) := by decide +kernel
theorem dX3_enter_43 : decode cX3_enter 43 = .ok (.return_, 1) := by decide +kernel
theorem dX3_enter_44 : decode cX3_enter 44 = .ok (.aload_n 0, 1) := by decide +kernel
theorem dX3_enter_45 : decode cX3_enter 45 = .ok (.getfield 44, 3) := by decide +kernel
theorem dX3_enter_48 : decode cX3_enter 48 = .ok (.iload_n 1, 1) := by decide +kernel
theorem dX3_enter_49 : decode cX3_enter 49 = .ok (.invokevirtual 278, 3) := by decide +kernel
theorem dX3_enter_52 : decode cX3_enter 52 = .ok (.iconst 4, 1) := by decide +kernel
theorem dX3_enter_53 : decode cX3_enter 53 = .ok (.iand, 1) := by decide +kernel
theorem dX3_enter_54 : decode cX3_enter 54 = .ok (.ifCond .eq 7, 3) := by decide +kernel
theorem dX3_enter_57 : decode cX3_enter 57 = .ok (.iconst 1, 1) := by decide +kernel
theorem dX3_enter_58 : decode cX3_enter 58 = .ok (.goto 4, 3) := by decide +kernel
theorem dX3_enter_61 : decode cX3_enter 61 = .ok (.iconst 0, 1) := by decide +kernel
theorem dX3_enter_62 : decode cX3_enter 62 = .ok (.istore_n 3, 1) := by decide +kernel
theorem dX3_enter_63 : decode cX3_enter 63 = .ok (.iload_n 3, 1) := by decide +kernel
theorem dX3_enter_64 : decode cX3_enter 64 = .ok (.ifCond .eq 25, 3) := by decide +kernel
theorem dX3_enter_67 : decode cX3_enter 67 = .ok (.aload_n 0, 1) := by decide +kernel
theorem dX3_enter_68 : decode cX3_enter 68 = .ok (.getfield 44, 3) := by decide +kernel
theorem dX3_enter_71 : decode cX3_enter 71 = .ok (.aload_n 0, 1) := by decide +kernel
theorem dX3_enter_72 : decode cX3_enter 72 = .ok (.getfield 77, 3) := by decide +kernel
theorem dX3_enter_75 : decode cX3_enter 75 = .ok (.invokevirtual 278, 3) := by decide +kernel
theorem dX3_enter_78 : decode cX3_enter 78 = .ok (.iconst 4, 1) := by decide +kernel
theorem dX3_enter_79 : decode cX3_enter 79 = .ok (.iand, 1) := by decide +kernel
theorem dX3_enter_80 : decode cX3_enter 80 = .ok (.ifCond .ne 9, 3) := by decide +kernel
theorem dX3_enter_83 : decode cX3_enter 83 = .ok (.aload_n 0, 1) := by decide +kernel
theorem dX3_enter_84 : decode cX3_enter 84 = .ok (.bipush 15, 2) := by decide +kernel
theorem dX3_enter_86 : decode cX3_enter 86 = .ok (.invokevirtual 131, 3) := by decide +kernel
theorem dX3_enter_89 : decode cX3_enter 89 = .ok (.lconst 0, 1) := by decide +kernel
theorem dX3_enter_90 : decode cX3_enter 90 = .ok (.lstore 4, 2) := by decide +kernel
theorem dX3_enter_92 : decode cX3_enter 92 = .ok (.lconst 0, 1) := by decide +kernel
theorem dX3_enter_93 : decode cX3_enter 93 = .ok (.lstore 6, 2) := by decide +kernel
theorem dX3_enter_95 : decode cX3_enter 95 = .ok (.aload_n 0, 1) := by decide +kernel
theorem dX3_enter_96 : decode cX3_enter 96 = .ok (.getfield 95, 3) := by decide +kernel
theorem dX3_enter_99 : decode cX3_enter 99 = .ok (.istore 8, 2) := by decide +kernel
theorem dX3_enter_101 : decode cX3_enter 101 = .ok (.iload 8, 2) := by decide +kernel
theorem dX3_enter_103 : decode cX3_enter 103 = .ok (.aload_n 0, 1) := by decide +kernel
theorem dX3_enter_104 : decode cX3_enter 104 = .ok (.getfield 95, 3) := by decide +kernel
theorem dX3_enter_107 : decode cX3_enter 107 = .ok (.iload_n 2, 1) := by decide +kernel
theorem dX3_enter_108 : decode cX3_enter 108 = .ok (.iadd, 1) := by decide +kernel
theorem dX3_enter_109 : decode cX3_enter 109 = .ok (.if_icmp .ge 76, 3) := by decide +kernel
theorem dX3_enter_112 : decode cX3_enter 112 = .ok (.aload_n 0, 1) := by decide +kernel
theorem dX3_enter_113 : decode cX3_enter 113 = .ok (.getfield 11, 3) := by decide +kernel
theorem dX3_enter_116 : decode cX3_enter 116 = .ok (.iload 8, 2) := by decide +kernel
theorem dX3_enter_118 : decode cX3_enter 118 = .ok (.laload, 1) := by decide +kernel
theorem dX3_enter_119 : decode cX3_enter 119 = .ok (.invokestatic 204, 3) := by decide +kernel
theorem dX3_enter_122 : decode cX3_enter 122 = .ok (.ifCond .eq 45, 3) := by decide +kernel
theorem dX3_enter_125 : decode cX3_enter 125 = .ok (.aload_n 0, 1) := by decide +kernel
theorem dX3_enter_126 : decode cX3_enter 126 = .ok (.aload_n 0, 1) := by decide +kernel
theorem dX3_enter_127 : decode cX3_enter 127 = .ok (.getfield 15, 3) := by decide +kernel
theorem dX3_enter_130 : decode cX3_enter 130 = .ok (.iload 8, 2) := by decide +kernel
theorem dX3_enter_132 : decode cX3_enter 132 = .ok (.laload, 1) := by decide +kernel
theorem dX3_enter_133 : decode cX3_enter 133 = .ok (.invokevirtual 269, 3) := by decide +kernel
theorem dX3_enter_136 : decode cX3_enter 136 = .ok (.ifCond .eq 13, 3) := by decide +kernel
theorem dX3_enter_139 : decode cX3_enter 139 = .ok (.aload_n 0, 1) := by decide +kernel
theorem dX3_enter_140 : decode cX3_enter 140 = .ok (.iload 8, 2) := by decide +kernel
theorem dX3_enter_142 : decode cX3_enter 142 = .ok (.iload_n 2, 1) := by decide +kernel
theorem dX3_enter_143 : decode cX3_enter 143 = .ok (.invokevirtual 281, 3) := by decide +kernel
theorem dX3_enter_146 : decode cX3_enter 146 = .ok (.ifCond .eq 9, 3) := by decide +kernel
theorem dX3_enter_149 : decode cX3_enter 149 = .ok (.aload_n 0, 1) := by decide +kernel
theorem dX3_enter_150 : decode cX3_enter 150 = .ok (.bipush 6, 2) := by decide +kernel
theorem dX3_enter_152 : decode cX3_enter 152 = .ok (.invokevirtual 131, 3) := by decide +kernel
theorem dX3_enter_155 : decode cX3_enter 155 = .ok (.lload 6, 2) := by decide +kernel
theorem dX3_enter_157 : decode cX3_enter 157 = .ok (.aload_n 0, 1) := by decide +kernel
theorem dX3_enter_158 : decode cX3_enter 158 = .ok (.getfield 15, 3) := by decide +kernel
theorem dX3_enter_161 : decode cX3_enter 161 = .ok (.iload 8, 2) := by decide +kernel
theorem dX3_enter_163 : decode cX3_enter 163 = .ok (.laload, 1) := by decide +kernel
theorem dX3_enter_164 : decode cX3_enter 164 = .ok (.lor, 1) := by decide +kernel
theorem dX3_enter_165 : decode cX3_enter 165 = .ok (.lstore 6, 2) := by decide +kernel
theorem dX3_enter_167 : decode cX3_enter 167 = .ok (.lload 4, 2) := by decide +kernel
theorem dX3_enter_169 : decode cX3_enter 169 = .ok (.aload_n 0, 1) := by decide +kernel
theorem dX3_enter_170 : decode cX3_enter 170 = .ok (.getfield 15, 3) := by decide +kernel
theorem dX3_enter_173 : decode cX3_enter 173 = .ok (.iload 8, 2) := by decide +kernel
theorem dX3_enter_175 : decode cX3_enter 175 = .ok (.laload, 1) := by decide +kernel
theorem dX3_enter_176 : decode cX3_enter 176 = .ok (.lor, 1) := by decide +kernel
theorem dX3_enter_177 : decode cX3_enter 177 = .ok (.lstore 4, 2) := by decide +kernel
theorem dX3_enter_179 : decode cX3_enter 179 = .ok (.iinc 8 1, 3) := by decide +kernel
theorem dX3_enter_182 : decode cX3_enter 182 = .ok (.goto (-81), 3) := by decide +kernel
theorem dX3_enter_185 : decode cX3_enter 185 = .ok (.iload_n 3, 1) := by decide +kernel
theorem dX3_enter_186 : decode cX3_enter 186 = .ok (.ifCond .eq 31, 3) := by decide +kernel
theorem dX3_enter_189 : decode cX3_enter 189 = .ok (.lload 4, 2) := by decide +kernel
theorem dX3_enter_191 : decode cX3_enter 191 = .ok (.ldc2_w 285, 3) := by decide +kernel
theorem dX3_enter_194 : decode cX3_enter 194 = .ok (.land, 1) := by decide +kernel
theorem dX3_enter_195 : decode cX3_enter 195 = .ok (.lconst 0, 1) := by decide +kernel
theorem dX3_enter_196 : decode cX3_enter 196 = .ok (.lcmp, 1) := by decide +kernel
theorem dX3_enter_197 : decode cX3_enter 197 = .ok (.ifCond .ne 14, 3) := by decide +kernel
theorem dX3_enter_200 : decode cX3_enter 200 = .ok (.aload_n 0, 1) := by decide +kernel
theorem dX3_enter_201 : decode cX3_enter 201 = .ok (.ldc2_w 285, 3) := by decide +kernel
theorem dX3_enter_204 : decode cX3_enter 204 = .ok (.iconst 0, 1) := by decide +kernel
theorem dX3_enter_205 : decode cX3_enter 205 = .ok (.invokevirtual 242, 3) := by decide +kernel
theorem dX3_enter_208 : decode cX3_enter 208 = .ok (.ifCond .eq 9, 3) := by decide +kernel
theorem dX3_enter_211 : decode cX3_enter 211 = .ok (.aload_n 0, 1) := by decide +kernel
theorem dX3_enter_212 : decode cX3_enter 212 = .ok (.bipush 6, 2) := by decide +kernel
theorem dX3_enter_214 : decode cX3_enter 214 = .ok (.invokevirtual 131, 3) := by decide +kernel
theorem dX3_enter_217 : decode cX3_enter 217 = .ok (.iconst 0, 1) := by decide +kernel
theorem dX3_enter_218 : decode cX3_enter 218 = .ok (.istore 8, 2) := by decide +kernel
theorem dX3_enter_220 : decode cX3_enter 220 = .ok (.iload 8, 2) := by decide +kernel
theorem dX3_enter_222 : decode cX3_enter 222 = .ok (.aload_n 0, 1) := by decide +kernel
theorem dX3_enter_223 : decode cX3_enter 223 = .ok (.getfield 44, 3) := by decide +kernel
theorem dX3_enter_226 : decode cX3_enter 226 = .ok (.iload_n 1, 1) := by decide +kernel
theorem dX3_enter_227 : decode cX3_enter 227 = .ok (.invokevirtual 225, 3) := by decide +kernel
theorem dX3_enter_230 : decode cX3_enter 230 = .ok (.if_icmp .ge 60, 3) := by decide +kernel
theorem dX3_enter_233 : decode cX3_enter 233 = .ok (.aload_n 0, 1) := by decide +kernel
theorem dX3_enter_234 : decode cX3_enter 234 = .ok (.getfield 44, 3) := by decide +kernel
theorem dX3_enter_237 : decode cX3_enter 237 = .ok (.iload_n 1, 1) := by decide +kernel
theorem dX3_enter_238 : decode cX3_enter 238 = .ok (.iload 8, 2) := by decide +kernel
theorem dX3_enter_240 : decode cX3_enter 240 = .ok (.invokevirtual 228, 3) := by decide +kernel
theorem dX3_enter_243 : decode cX3_enter 243 = .ok (.lstore 9, 2) := by decide +kernel
theorem dX3_enter_245 : decode cX3_enter 245 = .ok (.lload 9, 2) := by decide +kernel
theorem dX3_enter_247 : decode cX3_enter 247 = .ok (.invokestatic 116, 3) := by decide +kernel
theorem dX3_enter_250 : decode cX3_enter 250 = .ok (.istore 11, 2) := by decide +kernel
theorem dX3_enter_252 : decode cX3_enter 252 = .ok (.aload_n 0, 1) := by decide +kernel
theorem dX3_enter_253 : decode cX3_enter 253 = .ok (.lload 9, 2) := by decide +kernel
theorem dX3_enter_255 : decode cX3_enter 255 = .ok (.iload 11, 2) := by decide +kernel
theorem dX3_enter_257 : decode cX3_enter 257 = .ok (.ifCond .ne 7, 3) := by decide +kernel
theorem dX3_enter_260 : decode cX3_enter 260 = .ok (.lconst 0, 1) := by decide +kernel
theorem dX3_enter_261 : decode cX3_enter 261 = .ok (.goto 18, 3) := by decide +kernel
theorem dX3_enter_264 : decode cX3_enter 264 = .ok (.lload 9, 2) := by decide +kernel
theorem dX3_enter_266 : decode cX3_enter 266 = .ok (.invokestatic 204, 3) := by decide +kernel
theorem dX3_enter_269 : decode cX3_enter 269 = .ok (.ifCond .eq 8, 3) := by decide +kernel
theorem dX3_enter_272 : decode cX3_enter 272 = .ok (.lload 6, 2) := by decide +kernel
theorem dX3_enter_274 : decode cX3_enter 274 = .ok (.goto 5, 3) := by decide +kernel
theorem dX3_enter_277 : decode cX3_enter 277 = .ok (.lload 4, 2) := by decide +kernel
theorem dX3_enter_279 : decode cX3_enter 279 = .ok (.iload 11, 2) := by decide +kernel
theorem dX3_enter_281 : decode cX3_enter 281 = .ok (.invokevirtual 211, 3) := by decide +kernel
theorem dX3_enter_284 : decode cX3_enter 284 = .ok (.iinc 8 1, 3) := by decide +kernel
theorem dX3_enter_287 : decode cX3_enter 287 = .ok (.goto (-67), 3) := by decide +kernel
theorem dX3_enter_290 : decode cX3_enter 290 = .ok (.return_, 1) := by decide +kernel
theorem dX3_meetsOther_0 : decode cX3_meetsOther 0 = .ok (.aload_n 0, 1) := by decide +kernel
theorem dX3_meetsOther_1 : decode cX3_meetsOther 1 = .ok (.getfield 95, 3) := by decide +kernel
theorem dX3_meetsOther_4 : decode cX3_meetsOther 4 = .ok (.istore_n 3, 1) := by decide +kernel
theorem dX3_meetsOther_5 : decode cX3_meetsOther 5 = .ok (.iload_n 3, 1) := by decide +kernel
theorem dX3_meetsOther_6 : decode cX3_meetsOther 6 = .ok (.aload_n 0, 1) := by decide +kernel
theorem dX3_meetsOther_7 : decode cX3_meetsOther 7 = .ok (.getfield 95, 3) := by decide +kernel
theorem dX3_meetsOther_10 : decode cX3_meetsOther 10 = .ok (.iload_n 2, 1) := by decide +kernel
theorem dX3_meetsOther_11 : decode cX3_meetsOther 11 = .ok (.iadd, 1) := by decide +kernel
theorem dX3_meetsOther_12 : decode cX3_meetsOther 12 = .ok (.if_icmp .ge 34, 3) := by decide +kernel
theorem dX3_meetsOther_15 : decode cX3_meetsOther 15 = .ok (.iload_n 3, 1) := by decide +kernel
theorem dX3_meetsOther_16 : decode cX3_meetsOther 16 = .ok (.iload_n 1, 1) := by decide +kernel
theorem dX3_meetsOther_17 : decode cX3_meetsOther 17 = .ok (.if_icmp .eq 23, 3) := by decide +kernel
theorem dX3_meetsOther_20 : decode cX3_meetsOther 20 = .ok (.aload_n 0, 1) := by decide +kernel
theorem dX3_meetsOther_21 : decode cX3_meetsOther 21 = .ok (.getfield 15, 3) := by decide +kernel
theorem dX3_meetsOther_24 : decode cX3_meetsOther 24 = .ok (.iload_n 3, 1) := by decide +kernel
theorem dX3_meetsOther_25 : decode cX3_meetsOther 25 = .ok (.laload, 1) := by decide +kernel
theorem dX3_meetsOther_26 : decode cX3_meetsOther 26 = .ok (.aload_n 0, 1) := by decide +kernel
theorem dX3_meetsOther_27 : decode cX3_meetsOther 27 = .ok (.getfield 15, 3) := by decide +kernel
theorem dX3_meetsOther_30 : decode cX3_meetsOther 30 = .ok (.iload_n 1, 1) := by decide +kernel
theorem dX3_meetsOther_31 : decode cX3_meetsOther 31 = .ok (.laload, 1) := by decide +kernel
theorem dX3_meetsOther_32 : decode cX3_meetsOther 32 = .ok (.land, 1) := by decide +kernel
theorem dX3_meetsOther_33 : decode cX3_meetsOther 33 = .ok (.lconst 0, 1) := by decide +kernel
theorem dX3_meetsOther_34 : decode cX3_meetsOther 34 = .ok (.lcmp, 1) := by decide +kernel
theorem dX3_meetsOther_35 : decode cX3_meetsOther 35 = .ok (.ifCond .eq 5, 3) := by decide +kernel
theorem dX3_meetsOther_38 : decode cX3_meetsOther 38 = .ok (.iconst 1, 1) := by decide +kernel
theorem dX3_meetsOther_39 : decode cX3_meetsOther 39 = .ok (.ireturn, 1) := by decide +kernel
theorem dX3_meetsOther_40 : decode cX3_meetsOther 40 = .ok (.iinc 3 1, 3) := by decide +kernel
theorem dX3_meetsOther_43 : decode cX3_meetsOther 43 = .ok (.goto (-38), 3) := by decide +kernel
theorem dX3_meetsOther_46 : decode cX3_meetsOther 46 = .ok (.iconst 0, 1) := by decide +kernel
theorem dX3_meetsOther_47 : decode cX3_meetsOther 47 = .ok (.ireturn, 1) := by decide +kernel
theorem dX3_reckon_0 : decode cX3_reckon 0 = .ok (.iload_n 1, 1) := by decide +kernel
theorem dX3_reckon_1 : decode cX3_reckon 1 = .ok (.bipush 32, 2) := by decide +kernel
theorem dX3_reckon_3 : decode cX3_reckon 3 = .ok (.if_icmp .eq 9, 3) := by decide +kernel
theorem dX3_reckon_6 : decode cX3_reckon 6 = .ok (.iload_n 1, 1) := by decide +kernel
theorem dX3_reckon_7 : decode cX3_reckon 7 = .ok (.bipush 33, 2) := by decide +kernel
theorem dX3_reckon_9 : decode cX3_reckon 9 = .ok (.if_icmp .ne 10, 3) := by decide +kernel
theorem dX3_reckon_12 : decode cX3_reckon 12 = .ok (.aload_n 0, 1) := by decide +kernel
theorem dX3_reckon_13 : decode cX3_reckon 13 = .ok (.ldc2_w 190, 3) := by decide +kernel
theorem dX3_reckon_16 : decode cX3_reckon 16 = .ok (.invokevirtual 221, 3) := by decide +kernel
theorem dX3_reckon_19 : decode cX3_reckon 19 = .ok (.aload_n 0, 1) := by decide +kernel
theorem dX3_reckon_20 : decode cX3_reckon 20 = .ok (.invokevirtual 200, 3) := by decide +kernel
theorem dX3_reckon_23 : decode cX3_reckon 23 = .ok (.lstore_n 2, 1) := by decide +kernel
theorem dX3_reckon_24 : decode cX3_reckon 24 = .ok (.lload_n 2, 1) := by decide +kernel
theorem dX3_reckon_25 : decode cX3_reckon 25 = .ok (.invokestatic 287, 3) := by decide +kernel
theorem dX3_reckon_28 : decode cX3_reckon 28 = .ok (.istore 4, 2) := by decide +kernel
theorem dX3_reckon_30 : decode cX3_reckon 30 = .ok (.iload_n 1, 1) := by decide +kernel
theorem dX3_reckon_31 : decode cX3_reckon 31 = .ok (.bipush 29, 2) := by decide +kernel
theorem dX3_reckon_33 : decode cX3_reckon 33 = .ok (.if_icmp .lt 30, 3) := by decide +kernel
theorem dX3_reckon_36 : decode cX3_reckon 36 = .ok (.iload_n 1, 1) := by decide +kernel
theorem dX3_reckon_37 : decode cX3_reckon 37 = .ok (.bipush 31, 2) := by decide +kernel
theorem dX3_reckon_39 : decode cX3_reckon 39 = .ok (.if_icmp .gt 24, 3) := by decide +kernel
theorem dX3_reckon_42 : decode cX3_reckon 42 = .ok (.iload 4, 2) := by decide +kernel
theorem dX3_reckon_44 : decode cX3_reckon 44 = .ok (.ifCond .ne 9, 3) := by decide +kernel
theorem dX3_reckon_47 : decode cX3_reckon 47 = .ok (.lload_n 2, 1) := by decide +kernel
theorem dX3_reckon_48 : decode cX3_reckon 48 = .ok (.lconst 1, 1) := by decide +kernel
theorem dX3_reckon_49 : decode cX3_reckon 49 = .ok (.lcmp, 1) := by decide +kernel
theorem dX3_reckon_50 : decode cX3_reckon 50 = .ok (.ifCond .ne 7, 3) := by decide +kernel
theorem dX3_reckon_53 : decode cX3_reckon 53 = .ok (.iconst 1, 1) := by decide +kernel
theorem dX3_reckon_54 : decode cX3_reckon 54 = .ok (.goto 4, 3) := by decide +kernel
theorem dX3_reckon_57 : decode cX3_reckon 57 = .ok (.iconst 0, 1) := by decide +kernel
theorem dX3_reckon_58 : decode cX3_reckon 58 = .ok (.istore 4, 2) := by decide +kernel
theorem dX3_reckon_60 : decode cX3_reckon 60 = .ok (.goto 51, 3) := by decide +kernel
theorem dX3_reckon_63 : decode cX3_reckon 63 = .ok (.iload_n 1, 1) := by decide +kernel
theorem dX3_reckon_64 : decode cX3_reckon 64 = .ok (.bipush 34, 2) := by decide +kernel
theorem dX3_reckon_66 : decode cX3_reckon 66 = .ok (.if_icmp .ne 19, 3) := by decide +kernel
theorem dX3_reckon_69 : decode cX3_reckon 69 = .ok (.lload_n 2, 1) := by decide +kernel
theorem dX3_reckon_70 : decode cX3_reckon 70 = .ok (.lconst 1, 1) := by decide +kernel
theorem dX3_reckon_71 : decode cX3_reckon 71 = .ok (.lcmp, 1) := by decide +kernel
theorem dX3_reckon_72 : decode cX3_reckon 72 = .ok (.ifCond .ne 7, 3) := by decide +kernel
theorem dX3_reckon_75 : decode cX3_reckon 75 = .ok (.iconst 1, 1) := by decide +kernel
theorem dX3_reckon_76 : decode cX3_reckon 76 = .ok (.goto 4, 3) := by decide +kernel
theorem dX3_reckon_79 : decode cX3_reckon 79 = .ok (.iconst 0, 1) := by decide +kernel
theorem dX3_reckon_80 : decode cX3_reckon 80 = .ok (.istore 4, 2) := by decide +kernel
theorem dX3_reckon_82 : decode cX3_reckon 82 = .ok (.goto 29, 3) := by decide +kernel
theorem dX3_reckon_85 : decode cX3_reckon 85 = .ok (.iload_n 1, 1) := by decide +kernel
theorem dX3_reckon_86 : decode cX3_reckon 86 = .ok (.bipush 36, 2) := by decide +kernel
theorem dX3_reckon_88 : decode cX3_reckon 88 = .ok (.if_icmp .eq 9, 3) := by decide +kernel
theorem dX3_reckon_91 : decode cX3_reckon 91 = .ok (.iload_n 1, 1) := by decide +kernel
theorem dX3_reckon_92 : decode cX3_reckon 92 = .ok (.bipush 37, 2) := by decide +kernel
theorem dX3_reckon_94 : decode cX3_reckon 94 = .ok (.if_icmp .ne 17, 3) := by decide +kernel
theorem dX3_reckon_97 : decode cX3_reckon 97 = .ok (.lload_n 2, 1) := by decide +kernel
theorem dX3_reckon_98 : decode cX3_reckon 98 = .ok (.invokestatic 116, 3) := by decide +kernel
theorem dX3_reckon_101 : decode cX3_reckon 101 = .ok (.ifCond .ne 7, 3) := by decide +kernel
theorem dX3_reckon_104 : decode cX3_reckon 104 = .ok (.iconst 1, 1) := by decide +kernel
theorem dX3_reckon_105 : decode cX3_reckon 105 = .ok (.goto 4, 3) := by decide +kernel
theorem dX3_reckon_108 : decode cX3_reckon 108 = .ok (.iconst 0, 1) := by decide +kernel
theorem dX3_reckon_109 : decode cX3_reckon 109 = .ok (.istore 4, 2) := by decide +kernel
theorem dX3_reckon_111 : decode cX3_reckon 111 = .ok (.iload 4, 2) := by decide +kernel
theorem dX3_reckon_113 : decode cX3_reckon 113 = .ok (.ifCond .ne 8, 3) := by decide +kernel
theorem dX3_reckon_116 : decode cX3_reckon 116 = .ok (.aload_n 0, 1) := by decide +kernel
theorem dX3_reckon_117 : decode cX3_reckon 117 = .ok (.iconst 3, 1) := by decide +kernel
theorem dX3_reckon_118 : decode cX3_reckon 118 = .ok (.invokevirtual 131, 3) := by decide +kernel
theorem dX3_reckon_121 : decode cX3_reckon 121 = .ok (.iload_n 1, 1) := by decide +kernel
theorem dX3_reckon_122 : decode cX3_reckon 122 = .ok (.bipush 31, 2) := by decide +kernel
theorem dX3_reckon_124 : decode cX3_reckon 124 = .ok (.if_icmp .le 15, 3) := by decide +kernel
theorem dX3_reckon_127 : decode cX3_reckon 127 = .ok (.iload_n 1, 1) := by decide +kernel
theorem dX3_reckon_128 : decode cX3_reckon 128 = .ok (.bipush 36, 2) := by decide +kernel
theorem dX3_reckon_130 : decode cX3_reckon 130 = .ok (.if_icmp .lt 14, 3) := by decide +kernel
theorem dX3_reckon_133 : decode cX3_reckon 133 = .ok (.iload_n 1, 1) := by decide +kernel
theorem dX3_reckon_134 : decode cX3_reckon 134 = .ok (.bipush 41, 2) := by decide +kernel
theorem dX3_reckon_136 : decode cX3_reckon 136 = .ok (.if_icmp .gt 8, 3) := by decide +kernel
theorem dX3_reckon_139 : decode cX3_reckon 139 = .ok (.aload_n 0, 1) := by decide +kernel
theorem dX3_reckon_140 : decode cX3_reckon 140 = .ok (.lload_n 2, 1) := by decide +kernel
theorem dX3_reckon_141 : decode cX3_reckon 141 = .ok (.invokevirtual 221, 3) := by decide +kernel
theorem dX3_reckon_144 : decode cX3_reckon 144 = .ok (.iload_n 1, 1) := by decide +kernel
theorem dX3_reckon_145 : decode cX3_reckon 145 = .ok (.bipush 36, 2) := by decide +kernel
theorem dX3_reckon_147 : decode cX3_reckon 147 = .ok (.if_icmp .eq 9, 3) := by decide +kernel
theorem dX3_reckon_150 : decode cX3_reckon 150 = .ok (.iload_n 1, 1) := by decide +kernel
theorem dX3_reckon_151 : decode cX3_reckon 151 = .ok (.bipush 37, 2) := by decide +kernel
theorem dX3_reckon_153 : decode cX3_reckon 153 = .ok (.if_icmp .ne 17, 3) := by decide +kernel
theorem dX3_reckon_156 : decode cX3_reckon 156 = .ok (.aload_n 0, 1) := by decide +kernel
theorem dX3_reckon_157 : decode cX3_reckon 157 = .ok (.lload_n 2, 1) := by decide +kernel
theorem dX3_reckon_158 : decode cX3_reckon 158 = .ok (.iconst 2, 1) := by decide +kernel
theorem dX3_reckon_159 : decode cX3_reckon 159 = .ok (.invokevirtual 215, 3) := by decide +kernel
theorem dX3_reckon_162 : decode cX3_reckon 162 = .ok (.ifCond .ne 8, 3) := by decide +kernel
theorem dX3_reckon_165 : decode cX3_reckon 165 = .ok (.aload_n 0, 1) := by decide +kernel
theorem dX3_reckon_166 : decode cX3_reckon 166 = .ok (.iconst 4, 1) := by decide +kernel
theorem dX3_reckon_167 : decode cX3_reckon 167 = .ok (.invokevirtual 131, 3) := by decide +kernel
theorem dX3_reckon_170 : decode cX3_reckon 170 = .ok (.iload_n 1, 1) := by decide +kernel
theorem dX3_reckon_171 : decode cX3_reckon 171 = .ok (.bipush 42, 2) := by decide +kernel
theorem dX3_reckon_173 : decode cX3_reckon 173 = .ok (.if_icmp .lt 15, 3) := by decide +kernel
theorem dX3_reckon_176 : decode cX3_reckon 176 = .ok (.aload_n 0, 1) := by decide +kernel
theorem dX3_reckon_177 : decode cX3_reckon 177 = .ok (.iload_n 1, 1) := by decide +kernel
theorem dX3_reckon_178 : decode cX3_reckon 178 = .ok (.bipush 40, 2) := by decide +kernel
theorem dX3_reckon_180 : decode cX3_reckon 180 = .ok (.isub, 1) := by decide +kernel
theorem dX3_reckon_181 : decode cX3_reckon 181 = .ok (.i2l, 1) := by decide +kernel
theorem dX3_reckon_182 : decode cX3_reckon 182 = .ok (.invokevirtual 233, 3) := by decide +kernel
theorem dX3_reckon_185 : decode cX3_reckon 185 = .ok (.goto 18, 3) := by decide +kernel
theorem dX3_reckon_188 : decode cX3_reckon 188 = .ok (.aload_n 0, 1) := by decide +kernel
theorem dX3_reckon_189 : decode cX3_reckon 189 = .ok (.iload_n 1, 1) := by decide +kernel
theorem dX3_reckon_190 : decode cX3_reckon 190 = .ok (.bipush 33, 2) := by decide +kernel
theorem dX3_reckon_192 : decode cX3_reckon 192 = .ok (.if_icmp .gt 7, 3) := by decide +kernel
theorem dX3_reckon_195 : decode cX3_reckon 195 = .ok (.lload_n 2, 1) := by decide +kernel
theorem dX3_reckon_196 : decode cX3_reckon 196 = .ok (.goto 4, 3) := by decide +kernel
theorem dX3_reckon_199 : decode cX3_reckon 199 = .ok (.lconst 1, 1) := by decide +kernel
theorem dX3_reckon_200 : decode cX3_reckon 200 = .ok (.invokevirtual 233, 3) := by decide +kernel
theorem dX3_reckon_203 : decode cX3_reckon 203 = .ok (.return_, 1) := by decide +kernel
theorem dX3_keep_0 : decode cX3_keep 0 = .ok (.iload_n 2, 1) := by decide +kernel
theorem dX3_keep_1 : decode cX3_keep 1 = .ok (.invokestatic 254, 3) := by decide +kernel
theorem dX3_keep_4 : decode cX3_keep 4 = .ok (.lstore_n 3, 1) := by decide +kernel
theorem dX3_keep_5 : decode cX3_keep 5 = .ok (.lconst 1, 1) := by decide +kernel
theorem dX3_keep_6 : decode cX3_keep 6 = .ok (.bipush 48, 2) := by decide +kernel
theorem dX3_keep_8 : decode cX3_keep 8 = .ok (.iload_n 2, 1) := by decide +kernel
theorem dX3_keep_9 : decode cX3_keep 9 = .ok (.bipush 15, 2) := by decide +kernel
theorem dX3_keep_11 : decode cX3_keep 11 = .ok (.irem, 1) := by decide +kernel
theorem dX3_keep_12 : decode cX3_keep 12 = .ok (.iadd, 1) := by decide +kernel
theorem dX3_keep_13 : decode cX3_keep 13 = .ok (.lshl, 1) := by decide +kernel
theorem dX3_keep_14 : decode cX3_keep 14 = .ok (.lstore 5, 2) := by decide +kernel
theorem dX3_keep_16 : decode cX3_keep 16 = .ok (.aload_n 0, 1) := by decide +kernel
theorem dX3_keep_17 : decode cX3_keep 17 = .ok (.iload_n 1, 1) := by decide +kernel
theorem dX3_keep_18 : decode cX3_keep 18 = .ok (.bipush 47, 2) := by decide +kernel
theorem dX3_keep_20 : decode cX3_keep 20 = .ok (.if_icmp .ne 7, 3) := by decide +kernel
theorem dX3_keep_23 : decode cX3_keep 23 = .ok (.lload_n 3, 1) := by decide +kernel
theorem dX3_keep_24 : decode cX3_keep 24 = .ok (.goto 6, 3) := by decide +kernel
theorem dX3_keep_27 : decode cX3_keep 27 = .ok (.ldc2_w 236, 3) := by decide +kernel
theorem dX3_keep_30 : decode cX3_keep 30 = .ok (.invokevirtual 221, 3) := by decide +kernel
theorem dX3_keep_33 : decode cX3_keep 33 = .ok (.aload_n 0, 1) := by decide +kernel
theorem dX3_keep_34 : decode cX3_keep 34 = .ok (.getfield 44, 3) := by decide +kernel
theorem dX3_keep_37 : decode cX3_keep 37 = .ok (.aload_n 0, 1) := by decide +kernel
theorem dX3_keep_38 : decode cX3_keep 38 = .ok (.getfield 77, 3) := by decide +kernel
theorem dX3_keep_41 : decode cX3_keep 41 = .ok (.invokevirtual 278, 3) := by decide +kernel
theorem dX3_keep_44 : decode cX3_keep 44 = .ok (.iconst 4, 1) := by decide +kernel
theorem dX3_keep_45 : decode cX3_keep 45 = .ok (.iand, 1) := by decide +kernel
theorem dX3_keep_46 : decode cX3_keep 46 = .ok (.ifCond .ne 9, 3) := by decide +kernel
theorem dX3_keep_49 : decode cX3_keep 49 = .ok (.aload_n 0, 1) := by decide +kernel
theorem dX3_keep_50 : decode cX3_keep 50 = .ok (.bipush 15, 2) := by decide +kernel
theorem dX3_keep_52 : decode cX3_keep 52 = .ok (.invokevirtual 131, 3) := by decide +kernel
theorem dX3_keep_55 : decode cX3_keep 55 = .ok (.aload_n 0, 1) := by decide +kernel
theorem dX3_keep_56 : decode cX3_keep 56 = .ok (.lload_n 3, 1) := by decide +kernel
theorem dX3_keep_57 : decode cX3_keep 57 = .ok (.bipush 8, 2) := by decide +kernel
theorem dX3_keep_59 : decode cX3_keep 59 = .ok (.invokevirtual 215, 3) := by decide +kernel
theorem dX3_keep_62 : decode cX3_keep 62 = .ok (.ifCond .ne 8, 3) := by decide +kernel
theorem dX3_keep_65 : decode cX3_keep 65 = .ok (.aload_n 0, 1) := by decide +kernel
theorem dX3_keep_66 : decode cX3_keep 66 = .ok (.iconst 4, 1) := by decide +kernel
theorem dX3_keep_67 : decode cX3_keep 67 = .ok (.invokevirtual 131, 3) := by decide +kernel
theorem dX3_keep_70 : decode cX3_keep 70 = .ok (.iload_n 1, 1) := by decide +kernel
theorem dX3_keep_71 : decode cX3_keep 71 = .ok (.bipush 48, 2) := by decide +kernel
theorem dX3_keep_73 : decode cX3_keep 73 = .ok (.if_icmp .eq 9, 3) := by decide +kernel
theorem dX3_keep_76 : decode cX3_keep 76 = .ok (.iload_n 1, 1) := by decide +kernel
theorem dX3_keep_77 : decode cX3_keep 77 = .ok (.bipush 50, 2) := by decide +kernel
theorem dX3_keep_79 : decode cX3_keep 79 = .ok (.if_icmp .lt 29, 3) := by decide +kernel
theorem dX3_keep_82 : decode cX3_keep 82 = .ok (.aload_n 0, 1) := by decide +kernel
theorem dX3_keep_83 : decode cX3_keep 83 = .ok (.lload 5, 2) := by decide +kernel
theorem dX3_keep_85 : decode cX3_keep 85 = .ok (.iload_n 1, 1) := by decide +kernel
theorem dX3_keep_86 : decode cX3_keep 86 = .ok (.bipush 50, 2) := by decide +kernel
theorem dX3_keep_88 : decode cX3_keep 88 = .ok (.if_icmp .ne 7, 3) := by decide +kernel
theorem dX3_keep_91 : decode cX3_keep 91 = .ok (.iconst 1, 1) := by decide +kernel
theorem dX3_keep_92 : decode cX3_keep 92 = .ok (.goto 4, 3) := by decide +kernel
theorem dX3_keep_95 : decode cX3_keep 95 = .ok (.iconst 0, 1) := by decide +kernel
theorem dX3_keep_96 : decode cX3_keep 96 = .ok (.invokevirtual 242, 3) := by decide +kernel
theorem dX3_keep_99 : decode cX3_keep 99 = .ok (.ifCond .eq 9, 3) := by decide +kernel
theorem dX3_keep_102 : decode cX3_keep 102 = .ok (.aload_n 0, 1) := by decide +kernel
theorem dX3_keep_103 : decode cX3_keep 103 = .ok (.bipush 6, 2) := by decide +kernel
theorem dX3_keep_105 : decode cX3_keep 105 = .ok (.invokevirtual 131, 3) := by decide +kernel
theorem dX3_keep_108 : decode cX3_keep 108 = .ok (.iload_n 1, 1) := by decide +kernel
theorem dX3_keep_109 : decode cX3_keep 109 = .ok (.bipush 48, 2) := by decide +kernel
theorem dX3_keep_111 : decode cX3_keep 111 = .ok (.if_icmp .ne 11, 3) := by decide +kernel
theorem dX3_keep_114 : decode cX3_keep 114 = .ok (.aload_n 0, 1) := by decide +kernel
theorem dX3_keep_115 : decode cX3_keep 115 = .ok (.lload_n 3, 1) := by decide +kernel
theorem dX3_keep_116 : decode cX3_keep 116 = .ok (.invokevirtual 233, 3) := by decide +kernel
theorem dX3_keep_119 : decode cX3_keep 119 = .ok (.goto 47, 3) := by decide +kernel
theorem dX3_keep_122 : decode cX3_keep 122 = .ok (.iload_n 1, 1) := by decide +kernel
theorem dX3_keep_123 : decode cX3_keep 123 = .ok (.bipush 49, 2) := by decide +kernel
theorem dX3_keep_125 : decode cX3_keep 125 = .ok (.if_icmp .ne 11, 3) := by decide +kernel
theorem dX3_keep_128 : decode cX3_keep 128 = .ok (.aload_n 0, 1) := by decide +kernel
theorem dX3_keep_129 : decode cX3_keep 129 = .ok (.lconst 1, 1) := by decide +kernel
theorem dX3_keep_130 : decode cX3_keep 130 = .ok (.invokevirtual 233, 3) := by decide +kernel
theorem dX3_keep_133 : decode cX3_keep 133 = .ok (.goto 33, 3) := by decide +kernel
theorem dX3_keep_136 : decode cX3_keep 136 = .ok (.iload_n 1, 1) := by decide +kernel
theorem dX3_keep_137 : decode cX3_keep 137 = .ok (.bipush 50, 2) := by decide +kernel
theorem dX3_keep_139 : decode cX3_keep 139 = .ok (.if_icmp .lt 27, 3) := by decide +kernel
theorem dX3_keep_142 : decode cX3_keep 142 = .ok (.aload_n 0, 1) := by decide +kernel
theorem dX3_keep_143 : decode cX3_keep 143 = .ok (.iload_n 1, 1) := by decide +kernel
theorem dX3_keep_144 : decode cX3_keep 144 = .ok (.bipush 51, 2) := by decide +kernel
theorem dX3_keep_146 : decode cX3_keep 146 = .ok (.if_icmp .ne 8, 3) := by decide +kernel
theorem dX3_keep_149 : decode cX3_keep 149 = .ok (.bipush 9, 2) := by decide +kernel
theorem dX3_keep_151 : decode cX3_keep 151 = .ok (.goto 5, 3) := by decide +kernel
theorem dX3_keep_154 : decode cX3_keep 154 = .ok (.bipush 8, 2) := by decide +kernel
theorem dX3_keep_156 : decode cX3_keep 156 = .ok (.lload_n 3, 1) := by decide +kernel
theorem dX3_keep_157 : decode cX3_keep 157 = .ok (.invokestatic 250, 3) := by decide +kernel
theorem dX3_keep_160 : decode cX3_keep 160 = .ok (.lload 5, 2) := by decide +kernel
theorem dX3_keep_162 : decode cX3_keep 162 = .ok (.iconst 0, 1) := by decide +kernel
theorem dX3_keep_163 : decode cX3_keep 163 = .ok (.invokevirtual 211, 3) := by decide +kernel
theorem dX3_keep_166 : decode cX3_keep 166 = .ok (.return_, 1) := by decide +kernel
theorem dX3_lineUp_0 : decode cX3_lineUp 0 = .ok (.aload_n 0, 1) := by decide +kernel
theorem dX3_lineUp_1 : decode cX3_lineUp 1 = .ok (.getfield 44, 3) := by decide +kernel
theorem dX3_lineUp_4 : decode cX3_lineUp 4 = .ok (.iload_n 2, 1) := by decide +kernel
theorem dX3_lineUp_5 : decode cX3_lineUp 5 = .ok (.invokevirtual 290, 3) := by decide +kernel
theorem dX3_lineUp_8 : decode cX3_lineUp 8 = .ok (.lstore 4, 2) := by decide +kernel
theorem dX3_lineUp_10 : decode cX3_lineUp 10 = .ok (.bipush 7, 2) := by decide +kernel
theorem dX3_lineUp_12 : decode cX3_lineUp 12 = .ok (.lload 4, 2) := by decide +kernel
theorem dX3_lineUp_14 : decode cX3_lineUp 14 = .ok (.invokestatic 250, 3) := by decide +kernel
theorem dX3_lineUp_17 : decode cX3_lineUp 17 = .ok (.lstore 6, 2) := by decide +kernel
theorem dX3_lineUp_19 : decode cX3_lineUp 19 = .ok (.iload_n 1, 1) := by decide +kernel
theorem dX3_lineUp_20 : decode cX3_lineUp 20 = .ok (.bipush 52, 2) := by decide +kernel
theorem dX3_lineUp_22 : decode cX3_lineUp 22 = .ok (.if_icmp .ne 31, 3) := by decide +kernel
theorem dX3_lineUp_25 : decode cX3_lineUp 25 = .ok (.iconst 0, 1) := by decide +kernel
theorem dX3_lineUp_26 : decode cX3_lineUp 26 = .ok (.istore 8, 2) := by decide +kernel
theorem dX3_lineUp_28 : decode cX3_lineUp 28 = .ok (.iload 8, 2) := by decide +kernel
theorem dX3_lineUp_30 : decode cX3_lineUp 30 = .ok (.iload_n 3, 1) := by decide +kernel
theorem dX3_lineUp_31 : decode cX3_lineUp 31 = .ok (.if_icmp .ge 15, 3) := by decide +kernel
theorem dX3_lineUp_34 : decode cX3_lineUp 34 = .ok (.aload_n 0, 1) := by decide +kernel
theorem dX3_lineUp_35 : decode cX3_lineUp 35 = .ok (.lload 4, 2) := by decide +kernel
theorem dX3_lineUp_37 : decode cX3_lineUp 37 = .ok (.invokevirtual 221, 3) := by decide +kernel
theorem dX3_lineUp_40 : decode cX3_lineUp 40 = .ok (.iinc 8 1, 3) := by decide +kernel
theorem dX3_lineUp_43 : decode cX3_lineUp 43 = .ok (.goto (-15), 3) := by decide +kernel
theorem dX3_lineUp_46 : decode cX3_lineUp 46 = .ok (.aload_n 0, 1) := by decide +kernel
theorem dX3_lineUp_47 : decode cX3_lineUp 47 = .ok (.lload 6, 2) := by decide +kernel
theorem dX3_lineUp_49 : decode cX3_lineUp 49 = .ok (.invokevirtual 233, 3) := by decide +kernel
theorem dX3_lineUp_52 : decode cX3_lineUp 52 = .ok (.return_, 1) := by decide +kernel
theorem dX3_lineUp_53 : decode cX3_lineUp 53 = .ok (.iload_n 1, 1) := by decide +kernel
theorem dX3_lineUp_54 : decode cX3_lineUp 54 = .ok (.bipush 59, 2) := by decide +kernel
theorem dX3_lineUp_56 : decode cX3_lineUp 56 = .ok (.if_icmp .ne 28, 3) := by decide +kernel
theorem dX3_lineUp_59 : decode cX3_lineUp 59 = .ok (.aload_n 0, 1) := by decide +kernel
theorem dX3_lineUp_60 : decode cX3_lineUp 60 = .ok (.bipush 7, 2) := by decide +kernel
theorem dX3_lineUp_62 : decode cX3_lineUp 62 = .ok (.ldc2_w 190, 3) := by decide +kernel
theorem dX3_lineUp_65 : decode cX3_lineUp 65 = .ok (.invokestatic 250, 3) := by decide +kernel
theorem dX3_lineUp_68 : decode cX3_lineUp 68 = .ok (.invokevirtual 221, 3) := by decide +kernel
theorem dX3_lineUp_71 : decode cX3_lineUp 71 = .ok (.aload_n 0, 1) := by decide +kernel
theorem dX3_lineUp_72 : decode cX3_lineUp 72 = .ok (.bipush 7, 2) := by decide +kernel
theorem dX3_lineUp_74 : decode cX3_lineUp 74 = .ok (.ldc2_w 190, 3) := by decide +kernel
theorem dX3_lineUp_77 : decode cX3_lineUp 77 = .ok (.invokestatic 250, 3) := by decide +kernel
theorem dX3_lineUp_80 : decode cX3_lineUp 80 = .ok (.invokevirtual 233, 3) := by decide +kernel
theorem dX3_lineUp_83 : decode cX3_lineUp 83 = .ok (.return_, 1) := by decide +kernel
theorem dX3_lineUp_84 : decode cX3_lineUp 84 = .ok (.iload_n 1, 1) := by decide +kernel
theorem dX3_lineUp_85 : decode cX3_lineUp 85 = .ok (.bipush 54, 2) := by decide +kernel
theorem dX3_lineUp_87 : decode cX3_lineUp 87 = .ok (.if_icmp .eq 15, 3) := by decide +kernel
theorem dX3_lineUp_90 : decode cX3_lineUp 90 = .ok (.iload_n 1, 1) := by decide +kernel
theorem dX3_lineUp_91 : decode cX3_lineUp 91 = .ok (.bipush 55, 2) := by decide +kernel
theorem dX3_lineUp_93 : decode cX3_lineUp 93 = .ok (.if_icmp .eq 9, 3) := by decide +kernel
theorem dX3_lineUp_96 : decode cX3_lineUp 96 = .ok (.iload_n 1, 1) := by decide +kernel
theorem dX3_lineUp_97 : decode cX3_lineUp 97 = .ok (.bipush 58, 2) := by decide +kernel
theorem dX3_lineUp_99 : decode cX3_lineUp 99 = .ok (.if_icmp .ne 10, 3) := by decide +kernel
theorem dX3_lineUp_102 : decode cX3_lineUp 102 = .ok (.aload_n 0, 1) := by decide +kernel
theorem dX3_lineUp_103 : decode cX3_lineUp 103 = .ok (.ldc2_w 219, 3) := by decide +kernel
theorem dX3_lineUp_106 : decode cX3_lineUp 106 = .ok (.invokevirtual 221, 3) := by decide +kernel
theorem dX3_lineUp_109 : decode cX3_lineUp 109 = .ok (.iload_n 1, 1) := by decide +kernel
theorem dX3_lineUp_110 : decode cX3_lineUp 110 = .ok (.bipush 58, 2) := by decide +kernel
theorem dX3_lineUp_112 : decode cX3_lineUp 112 = .ok (.if_icmp .ne 13, 3) := by decide +kernel
theorem dX3_lineUp_115 : decode cX3_lineUp 115 = .ok (.aload_n 0, 1) := by decide +kernel
theorem dX3_lineUp_116 : decode cX3_lineUp 116 = .ok (.ldc2_w 219, 3) := by decide +kernel
theorem dX3_lineUp_119 : decode cX3_lineUp 119 = .ok (.invokevirtual 221, 3) := by decide +kernel
theorem dX3_lineUp_122 : decode cX3_lineUp 122 = .ok (.goto 15, 3) := by decide +kernel
theorem dX3_lineUp_125 : decode cX3_lineUp 125 = .ok (.iload_n 1, 1) := by decide +kernel
theorem dX3_lineUp_126 : decode cX3_lineUp 126 = .ok (.bipush 56, 2) := by decide +kernel
theorem dX3_lineUp_128 : decode cX3_lineUp 128 = .ok (.if_icmp .ne 9, 3) := by decide +kernel
theorem dX3_lineUp_131 : decode cX3_lineUp 131 = .ok (.aload_n 0, 1) := by decide +kernel
theorem dX3_lineUp_132 : decode cX3_lineUp 132 = .ok (.lload 4, 2) := by decide +kernel
theorem dX3_lineUp_134 : decode cX3_lineUp 134 = .ok (.invokevirtual 221, 3) := by decide +kernel
theorem dX3_lineUp_137 : decode cX3_lineUp 137 = .ok (.aload_n 0, 1) := by decide +kernel
theorem dX3_lineUp_138 : decode cX3_lineUp 138 = .ok (.lload 6, 2) := by decide +kernel
theorem dX3_lineUp_140 : decode cX3_lineUp 140 = .ok (.iload_n 1, 1) := by decide +kernel
theorem dX3_lineUp_141 : decode cX3_lineUp 141 = .ok (.bipush 55, 2) := by decide +kernel
theorem dX3_lineUp_143 : decode cX3_lineUp 143 = .ok (.if_icmp .lt 7, 3) := by decide +kernel
theorem dX3_lineUp_146 : decode cX3_lineUp 146 = .ok (.iconst 1, 1) := by decide +kernel
theorem dX3_lineUp_147 : decode cX3_lineUp 147 = .ok (.goto 4, 3) := by decide +kernel
theorem dX3_lineUp_150 : decode cX3_lineUp 150 = .ok (.iconst 0, 1) := by decide +kernel
theorem dX3_lineUp_151 : decode cX3_lineUp 151 = .ok (.invokevirtual 258, 3) := by decide +kernel
theorem dX3_lineUp_154 : decode cX3_lineUp 154 = .ok (.iload_n 1, 1) := by decide +kernel
theorem dX3_lineUp_155 : decode cX3_lineUp 155 = .ok (.bipush 56, 2) := by decide +kernel
theorem dX3_lineUp_157 : decode cX3_lineUp 157 = .ok (.if_icmp .lt 20, 3) := by decide +kernel
theorem dX3_lineUp_160 : decode cX3_lineUp 160 = .ok (.aload_n 0, 1) := by decide +kernel
theorem dX3_lineUp_161 : decode cX3_lineUp 161 = .ok (.aload_n 0, 1) := by decide +kernel
theorem dX3_lineUp_162 : decode cX3_lineUp 162 = .ok (.getfield 194, 3) := by decide +kernel
theorem dX3_lineUp_165 : decode cX3_lineUp 165 = .ok (.invokevirtual 269, 3) := by decide +kernel
theorem dX3_lineUp_168 : decode cX3_lineUp 168 = .ok (.ifCond .ne 9, 3) := by decide +kernel
theorem dX3_lineUp_171 : decode cX3_lineUp 171 = .ok (.aload_n 0, 1) := by decide +kernel
theorem dX3_lineUp_172 : decode cX3_lineUp 172 = .ok (.bipush 6, 2) := by decide +kernel
theorem dX3_lineUp_174 : decode cX3_lineUp 174 = .ok (.invokevirtual 131, 3) := by decide +kernel
theorem dX3_lineUp_177 : decode cX3_lineUp 177 = .ok (.iload_n 1, 1) := by decide +kernel
theorem dX3_lineUp_178 : decode cX3_lineUp 178 = .ok (.bipush 53, 2) := by decide +kernel
theorem dX3_lineUp_180 : decode cX3_lineUp 180 = .ok (.if_icmp .ne 13, 3) := by decide +kernel
theorem dX3_lineUp_183 : decode cX3_lineUp 183 = .ok (.aload_n 0, 1) := by decide +kernel
theorem dX3_lineUp_184 : decode cX3_lineUp 184 = .ok (.ldc2_w 219, 3) := by decide +kernel
theorem dX3_lineUp_187 : decode cX3_lineUp 187 = .ok (.invokevirtual 233, 3) := by decide +kernel
theorem dX3_lineUp_190 : decode cX3_lineUp 190 = .ok (.goto 51, 3) := by decide +kernel
theorem dX3_lineUp_193 : decode cX3_lineUp 193 = .ok (.iload_n 1, 1) := by decide +kernel
theorem dX3_lineUp_194 : decode cX3_lineUp 194 = .ok (.bipush 57, 2) := by decide +kernel
theorem dX3_lineUp_196 : decode cX3_lineUp 196 = .ok (.if_icmp .ne 12, 3) := by decide +kernel
theorem dX3_lineUp_199 : decode cX3_lineUp 199 = .ok (.aload_n 0, 1) := by decide +kernel
theorem dX3_lineUp_200 : decode cX3_lineUp 200 = .ok (.lload 4, 2) := by decide +kernel
theorem dX3_lineUp_202 : decode cX3_lineUp 202 = .ok (.invokevirtual 233, 3) := by decide +kernel
theorem dX3_lineUp_205 : decode cX3_lineUp 205 = .ok (.goto 36, 3) := by decide +kernel
theorem dX3_lineUp_208 : decode cX3_lineUp 208 = .ok (.iload_n 1, 1) := by decide +kernel
theorem dX3_lineUp_209 : decode cX3_lineUp 209 = .ok (.bipush 55, 2) := by decide +kernel
theorem dX3_lineUp_211 : decode cX3_lineUp 211 = .ok (.if_icmp .gt 30, 3) := by decide +kernel
theorem dX3_lineUp_214 : decode cX3_lineUp 214 = .ok (.aload_n 0, 1) := by decide +kernel
theorem dX3_lineUp_215 : decode cX3_lineUp 215 = .ok (.iload_n 1, 1) := by decide +kernel
theorem dX3_lineUp_216 : decode cX3_lineUp 216 = .ok (.bipush 55, 2) := by decide +kernel
theorem dX3_lineUp_218 : decode cX3_lineUp 218 = .ok (.if_icmp .ne 8, 3) := by decide +kernel
theorem dX3_lineUp_221 : decode cX3_lineUp 221 = .ok (.bipush 9, 2) := by decide +kernel
theorem dX3_lineUp_223 : decode cX3_lineUp 223 = .ok (.goto 5, 3) := by decide +kernel
theorem dX3_lineUp_226 : decode cX3_lineUp 226 = .ok (.bipush 8, 2) := by decide +kernel
theorem dX3_lineUp_228 : decode cX3_lineUp 228 = .ok (.lload 4, 2) := by decide +kernel
theorem dX3_lineUp_230 : decode cX3_lineUp 230 = .ok (.invokestatic 250, 3) := by decide +kernel
theorem dX3_lineUp_233 : decode cX3_lineUp 233 = .ok (.aload_n 0, 1) := by decide +kernel
theorem dX3_lineUp_234 : decode cX3_lineUp 234 = .ok (.getfield 194, 3) := by decide +kernel
theorem dX3_lineUp_237 : decode cX3_lineUp 237 = .ok (.iconst 1, 1) := by decide +kernel
theorem dX3_lineUp_238 : decode cX3_lineUp 238 = .ok (.invokevirtual 211, 3) := by decide +kernel
theorem dX3_lineUp_241 : decode cX3_lineUp 241 = .ok (.return_, 1) := by decide +kernel
theorem dX4_run_0 : decode cX4_run 0 = .ok (.aload_n 0, 1) := by decide +kernel
theorem dX4_run_1 : decode cX4_run 1 = .ok (.aload_n 1, 1) := by decide +kernel
theorem dX4_run_2 : decode cX4_run 2 = .ok (.putfield 75, 3) := by decide +kernel
theorem dX4_run_5 : decode cX4_run 5 = .ok (.aload_n 0, 1) := by decide +kernel
theorem dX4_run_6 : decode cX4_run 6 = .ok (.iconst 0, 1) := by decide +kernel
theorem dX4_run_7 : decode cX4_run 7 = .ok (.putfield 79, 3) := by decide +kernel
theorem dX4_run_10 : decode cX4_run 10 = .ok (.aload_n 0, 1) := by decide +kernel
theorem dX4_run_11 : decode cX4_run 11 = .ok (.iconst 1, 1) := by decide +kernel
theorem dX4_run_12 : decode cX4_run 12 = .ok (.putfield 82, 3) := by decide +kernel
theorem dX4_run_15 : decode cX4_run 15 = .ok (.aload_n 0, 1) := by decide +kernel
theorem dX4_run_16 : decode cX4_run 16 = .ok (.iconst 0, 1) := by decide +kernel
theorem dX4_run_17 : decode cX4_run 17 = .ok (.putfield 86, 3) := by decide +kernel
theorem dX4_run_20 : decode cX4_run 20 = .ok (.aload_n 0, 1) := by decide +kernel
theorem dX4_run_21 : decode cX4_run 21 = .ok (.lconst 0, 1) := by decide +kernel
theorem dX4_run_22 : decode cX4_run 22 = .ok (.putfield 89, 3) := by decide +kernel
theorem dX4_run_25 : decode cX4_run 25 = .ok (.aload_n 0, 1) := by decide +kernel
theorem dX4_run_26 : decode cX4_run 26 = .ok (.getfield 12, 3) := by decide +kernel
theorem dX4_run_29 : decode cX4_run 29 = .ok (.invokevirtual 93, 3) := by decide +kernel
theorem dX4_run_32 : decode cX4_run 32 = .ok (.aload_n 0, 1) := by decide +kernel
theorem dX4_run_33 : decode cX4_run 33 = .ok (.getfield 67, 3) := by decide +kernel
theorem dX4_run_36 : decode cX4_run 36 = .ok (.aload_n 0, 1) := by decide +kernel
theorem dX4_run_37 : decode cX4_run 37 = .ok (.getfield 75, 3) := by decide +kernel
theorem dX4_run_40 : decode cX4_run 40 = .ok (.invokevirtual 96, 3) := by decide +kernel
theorem dX4_run_43 : decode cX4_run 43 = .ok (.aload_n 0, 1) := by decide +kernel
theorem dX4_run_44 : decode cX4_run 44 = .ok (.iconst (-1), 1) := by decide +kernel
theorem dX4_run_45 : decode cX4_run 45 = .ok (.putfield 100, 3) := by decide +kernel
theorem dX4_run_48 : decode cX4_run 48 = .ok (.aload_n 0, 1) := by decide +kernel
theorem dX4_run_49 : decode cX4_run 49 = .ok (.aload_n 0, 1) := by decide +kernel
theorem dX4_run_50 : decode cX4_run 50 = .ok (.getfield 58, 3) := by decide +kernel
theorem dX4_run_53 : decode cX4_run 53 = .ok (.aload_n 0, 1) := by decide +kernel
theorem dX4_run_54 : decode cX4_run 54 = .ok (.getfield 75, 3) := by decide +kernel
theorem dX4_run_57 : decode cX4_run 57 = .ok (.getfield 103, 3) := by decide +kernel
theorem dX4_run_60 : decode cX4_run 60 = .ok (.invokevirtual 108, 3) := by decide +kernel
theorem dX4_run_63 : decode cX4_run 63 = .ok (.aload_n 0, 1) := by decide +kernel
theorem dX4_run_64 : decode cX4_run 64 = .ok (.getfield 75, 3) := by decide +kernel
theorem dX4_run_67 : decode cX4_run 67 = .ok (.getfield 114, 3) := by decide +kernel
theorem dX4_run_70 : decode cX4_run 70 = .ok (.invokevirtual 117, 3) := by decide +kernel
theorem dX4_run_73 : decode cX4_run 73 = .ok (.iconst 0, 1) := by decide +kernel
theorem dX4_run_74 : decode cX4_run 74 = .ok (.istore_n 2, 1) := by decide +kernel
theorem dX4_run_75 : decode cX4_run 75 = .ok (.iload_n 2, 1) := by decide +kernel
theorem dX4_run_76 : decode cX4_run 76 = .ok (.aload_n 0, 1) := by decide +kernel
theorem dX4_run_77 : decode cX4_run 77 = .ok (.getfield 75, 3) := by decide +kernel
theorem dX4_run_80 : decode cX4_run 80 = .ok (.getfield 121, 3) := by decide +kernel
theorem dX4_run_83 : decode cX4_run 83 = .ok (.if_icmp .ge 49, 3) := by decide +kernel
theorem dX4_run_86 : decode cX4_run 86 = .ok (.aload_n 0, 1) := by decide +kernel
theorem dX4_run_87 : decode cX4_run 87 = .ok (.getfield 52, 3) := by decide +kernel
theorem dX4_run_90 : decode cX4_run 90 = .ok (.iload_n 2, 1) := by decide +kernel
theorem dX4_run_91 : decode cX4_run 91 = .ok (.aload_n 0, 1) := by decide +kernel
theorem dX4_run_92 : decode cX4_run 92 = .ok (.getfield 12, 3) := by decide +kernel
theorem dX4_run_95 : decode cX4_run 95 = .ok (.aload_n 0, 1) := by decide +kernel
theorem dX4_run_96 : decode cX4_run 96 = .ok (.getfield 75, 3) := by decide +kernel
theorem dX4_run_99 : decode cX4_run 99 = .ok (.getfield 124, 3) := by decide +kernel
theorem dX4_run_102 : decode cX4_run 102 = .ok (.iload_n 2, 1) := by decide +kernel
theorem dX4_run_103 : decode cX4_run 103 = .ok (.iaload, 1) := by decide +kernel
theorem dX4_run_104 : decode cX4_run 104 = .ok (.aload_n 0, 1) := by decide +kernel
theorem dX4_run_105 : decode cX4_run 105 = .ok (.getfield 75, 3) := by decide +kernel
theorem dX4_run_108 : decode cX4_run 108 = .ok (.getfield 127, 3) := by decide +kernel
theorem dX4_run_111 : decode cX4_run 111 = .ok (.iload_n 2, 1) := by decide +kernel
theorem dX4_run_112 : decode cX4_run 112 = .ok (.laload, 1) := by decide +kernel
theorem dX4_run_113 : decode cX4_run 113 = .ok (.aload_n 0, 1) := by decide +kernel
theorem dX4_run_114 : decode cX4_run 114 = .ok (.getfield 75, 3) := by decide +kernel
theorem dX4_run_117 : decode cX4_run 117 = .ok (.getfield 131, 3) := by decide +kernel
theorem dX4_run_120 : decode cX4_run 120 = .ok (.iload_n 2, 1) := by decide +kernel
theorem dX4_run_121 : decode cX4_run 121 = .ok (.laload, 1) := by decide +kernel
theorem dX4_run_122 : decode cX4_run 122 = .ok (.invokevirtual 134, 3) := by decide +kernel
theorem dX4_run_125 : decode cX4_run 125 = .ok (.iastore, 1) := by decide +kernel
theorem dX4_run_126 : decode cX4_run 126 = .ok (.iinc 2 1, 3) := by decide +kernel
theorem dX4_run_129 : decode cX4_run 129 = .ok (.goto (-54), 3) := by decide +kernel
theorem dX4_run_132 : decode cX4_run 132 = .ok (.iconst 0, 1) := by decide +kernel
theorem dX4_run_133 : decode cX4_run 133 = .ok (.istore_n 2, 1) := by decide +kernel
theorem dX4_run_134 : decode cX4_run 134 = .ok (.iload_n 2, 1) := by decide +kernel
theorem dX4_run_135 : decode cX4_run 135 = .ok (.sipush 20000, 3) := by decide +kernel
theorem dX4_run_138 : decode cX4_run 138 = .ok (.if_icmp .gt 48, 3) := by decide +kernel
theorem dX4_run_141 : decode cX4_run 141 = .ok (.aload_n 0, 1) := by decide +kernel
theorem dX4_run_142 : decode cX4_run 142 = .ok (.getfield 82, 3) := by decide +kernel
theorem dX4_run_145 : decode cX4_run 145 = .ok (.ifCond .eq 41, 3) := by decide +kernel
theorem dX4_run_148 : decode cX4_run 148 = .ok (.aload_n 0, 1) := by decide +kernel
theorem dX4_run_149 : decode cX4_run 149 = .ok (.getfield 12, 3) := by decide +kernel
theorem dX4_run_152 : decode cX4_run 152 = .ok (.getfield 71, 3) := by decide +kernel
theorem dX4_run_155 : decode cX4_run 155 = .ok (.istore_n 3, 1) := by decide +kernel
theorem dX4_run_156 : decode cX4_run 156 = .ok (.aload_n 0, 1) := by decide +kernel
theorem dX4_run_157 : decode cX4_run 157 = .ok (.invokevirtual 138, 3) := by decide +kernel
theorem dX4_run_160 : decode cX4_run 160 = .ok (.aload_n 0, 1) := by decide +kernel
theorem dX4_run_161 : decode cX4_run 161 = .ok (.getfield 12, 3) := by decide +kernel
theorem dX4_run_164 : decode cX4_run 164 = .ok (.aload_n 0, 1) := by decide +kernel
theorem dX4_run_165 : decode cX4_run 165 = .ok (.getfield 12, 3) := by decide +kernel
theorem dX4_run_168 : decode cX4_run 168 = .ok (.getfield 71, 3) := by decide +kernel
theorem dX4_run_171 : decode cX4_run 171 = .ok (.iload_n 3, 1) := by decide +kernel
theorem dX4_run_172 : decode cX4_run 172 = .ok (.iconst 1, 1) := by decide +kernel
theorem dX4_run_173 : decode cX4_run 173 = .ok (.iadd, 1) := by decide +kernel
theorem dX4_run_174 : decode cX4_run 174 = .ok (.invokestatic 141, 3) := by decide +kernel
theorem dX4_run_177 : decode cX4_run 177 = .ok (.putfield 71, 3) := by decide +kernel
theorem dX4_run_180 : decode cX4_run 180 = .ok (.iinc 2 1, 3) := by decide +kernel
theorem dX4_run_183 : decode cX4_run 183 = .ok (.goto (-49), 3) := by decide +kernel
theorem dX4_run_186 : decode cX4_run 186 = .ok (.aload_n 0, 1) := by decide +kernel
theorem dX4_run_187 : decode cX4_run 187 = .ok (.getfield 86, 3) := by decide +kernel
theorem dX4_run_190 : decode cX4_run 190 = .ok (.ifCond .ne 21, 3) := by decide +kernel
theorem dX4_run_193 : decode cX4_run 193 = .ok (.aload_n 0, 1) := by decide +kernel
theorem dX4_run_194 : decode cX4_run 194 = .ok (.getfield 67, 3) := by decide +kernel
theorem dX4_run_197 : decode cX4_run 197 = .ok (.invokevirtual 147, 3) := by decide +kernel
theorem dX4_run_200 : decode cX4_run 200 = .ok (.ifCond .ne 11, 3) := by decide +kernel
theorem dX4_run_203 : decode cX4_run 203 = .ok (.aload_n 0, 1) := by decide +kernel
theorem dX4_run_204 : decode cX4_run 204 = .ok (.iconst 2, 1) := by decide +kernel
theorem dX4_run_205 : decode cX4_run 205 = .ok (.ldc2_w 151, 3) := by decide +kernel
theorem dX4_run_208 : decode cX4_run 208 = .ok (.invokevirtual 153, 3) := by decide +kernel
theorem dX4_run_211 : decode cX4_run 211 = .ok (.aload_n 0, 1) := by decide +kernel
theorem dX4_run_212 : decode cX4_run 212 = .ok (.getfield 86, 3) := by decide +kernel
theorem dX4_run_215 : decode cX4_run 215 = .ok (.ifCond .ne 69, 3) := by decide +kernel
theorem dX4_run_218 : decode cX4_run 218 = .ok (.iconst 0, 1) := by decide +kernel
theorem dX4_run_219 : decode cX4_run 219 = .ok (.istore_n 2, 1) := by decide +kernel
theorem dX4_run_220 : decode cX4_run 220 = .ok (.iload_n 2, 1) := by decide +kernel
theorem dX4_run_221 : decode cX4_run 221 = .ok (.aload_n 0, 1) := by decide +kernel
theorem dX4_run_222 : decode cX4_run 222 = .ok (.getfield 49, 3) := by decide +kernel
theorem dX4_run_225 : decode cX4_run 225 = .ok (.iconst 0, 1) := by decide +kernel
theorem dX4_run_226 : decode cX4_run 226 = .ok (.iaload, 1) := by decide +kernel
theorem dX4_run_227 : decode cX4_run 227 = .ok (.if_icmp .ge 50, 3) := by decide +kernel
theorem dX4_run_230 : decode cX4_run 230 = .ok (.aload_n 0, 1) := by decide +kernel
theorem dX4_run_231 : decode cX4_run 231 = .ok (.getfield 55, 3) := by decide +kernel
theorem dX4_run_234 : decode cX4_run 234 = .ok (.iload_n 2, 1) := by decide +kernel
theorem dX4_run_235 : decode cX4_run 235 = .ok (.iaload, 1) := by decide +kernel
theorem dX4_run_236 : decode cX4_run 236 = .ok (.istore_n 3, 1) := by decide +kernel
theorem dX4_run_237 : decode cX4_run 237 = .ok (.aload_n 0, 1) := by decide +kernel
theorem dX4_run_238 : decode cX4_run 238 = .ok (.getfield 75, 3) := by decide +kernel
theorem dX4_run_241 : decode cX4_run 241 = .ok (.aload_n 0, 1) := by decide +kernel
theorem dX4_run_242 : decode cX4_run 242 = .ok (.getfield 12, 3) := by decide +kernel
theorem dX4_run_245 : decode cX4_run 245 = .ok (.getfield 157, 3) := by decide +kernel
theorem dX4_run_248 : decode cX4_run 248 = .ok (.iload_n 3, 1) := by decide +kernel
theorem dX4_run_249 : decode cX4_run 249 = .ok (.baload, 1) := by decide +kernel
theorem dX4_run_250 : decode cX4_run 250 = .ok (.aload_n 0, 1) := by decide +kernel
theorem dX4_run_251 : decode cX4_run 251 = .ok (.getfield 12, 3) := by decide +kernel
theorem dX4_run_254 : decode cX4_run 254 = .ok (.getfield 160, 3) := by decide +kernel
theorem dX4_run_257 : decode cX4_run 257 = .ok (.iload_n 3, 1) := by decide +kernel
theorem dX4_run_258 : decode cX4_run 258 = .ok (.laload, 1) := by decide +kernel
theorem dX4_run_259 : decode cX4_run 259 = .ok (.aload_n 0, 1) := by decide +kernel
theorem dX4_run_260 : decode cX4_run 260 = .ok (.getfield 12, 3) := by decide +kernel
theorem dX4_run_263 : decode cX4_run 263 = .ok (.getfield 163, 3) := by decide +kernel
theorem dX4_run_266 : decode cX4_run 266 = .ok (.iload_n 3, 1) := by decide +kernel
theorem dX4_run_267 : decode cX4_run 267 = .ok (.laload, 1) := by decide +kernel
theorem dX4_run_268 : decode cX4_run 268 = .ok (.invokevirtual 166, 3) := by decide +kernel
theorem dX4_run_271 : decode cX4_run 271 = .ok (.iinc 2 1, 3) := by decide +kernel
theorem dX4_run_274 : decode cX4_run 274 = .ok (.goto (-54), 3) := by decide +kernel
theorem dX4_run_277 : decode cX4_run 277 = .ok (.aload_n 0, 1) := by decide +kernel
theorem dX4_run_278 : decode cX4_run 278 = .ok (.getfield 67, 3) := by decide +kernel
theorem dX4_run_281 : decode cX4_run 281 = .ok (.invokevirtual 170, 3) := by decide +kernel
theorem dX4_run_284 : decode cX4_run 284 = .ok (.aload_n 0, 1) := by decide +kernel
theorem dX4_run_285 : decode cX4_run 285 = .ok (.getfield 75, 3) := by decide +kernel
theorem dX4_run_288 : decode cX4_run 288 = .ok (.aload_n 0, 1) := by decide +kernel
theorem dX4_run_289 : decode cX4_run 289 = .ok (.getfield 86, 3) := by decide +kernel
theorem dX4_run_292 : decode cX4_run 292 = .ok (.aload_n 0, 1) := by decide +kernel
theorem dX4_run_293 : decode cX4_run 293 = .ok (.getfield 89, 3) := by decide +kernel
theorem dX4_run_296 : decode cX4_run 296 = .ok (.aload_n 0, 1) := by decide +kernel
theorem dX4_run_297 : decode cX4_run 297 = .ok (.getfield 79, 3) := by decide +kernel
theorem dX4_run_300 : decode cX4_run 300 = .ok (.invokevirtual 173, 3) := by decide +kernel
theorem dX4_run_303 : decode cX4_run 303 = .ok (.return_, 1) := by decide +kernel
theorem dX4_end_0 : decode cX4_end 0 = .ok (.aload_n 0, 1) := by decide +kernel
theorem dX4_end_1 : decode cX4_end 1 = .ok (.iconst 0, 1) := by decide +kernel
theorem dX4_end_2 : decode cX4_end 2 = .ok (.putfield 82, 3) := by decide +kernel
theorem dX4_end_5 : decode cX4_end 5 = .ok (.aload_n 0, 1) := by decide +kernel
theorem dX4_end_6 : decode cX4_end 6 = .ok (.iload_n 1, 1) := by decide +kernel
theorem dX4_end_7 : decode cX4_end 7 = .ok (.putfield 86, 3) := by decide +kernel
theorem dX4_end_10 : decode cX4_end 10 = .ok (.aload_n 0, 1) := by decide +kernel
theorem dX4_end_11 : decode cX4_end 11 = .ok (.lload_n 2, 1) := by decide +kernel
theorem dX4_end_12 : decode cX4_end 12 = .ok (.putfield 89, 3) := by decide +kernel
theorem dX4_end_15 : decode cX4_end 15 = .ok (.return_, 1) := by decide +kernel
theorem dX4_pay_0 : decode cX4_pay 0 = .ok (.iload_n 1, 1) := by decide +kernel
theorem dX4_pay_1 : decode cX4_pay 1 = .ok (.aload_n 0, 1) := by decide +kernel
theorem dX4_pay_2 : decode cX4_pay 2 = .ok (.getfield 75, 3) := by decide +kernel
theorem dX4_pay_5 : decode cX4_pay 5 = .ok (.getfield 176, 3) := by decide +kernel
theorem dX4_pay_8 : decode cX4_pay 8 = .ok (.aload_n 0, 1) := by decide +kernel
theorem dX4_pay_9 : decode cX4_pay 9 = .ok (.getfield 79, 3) := by decide +kernel
theorem dX4_pay_12 : decode cX4_pay 12 = .ok (.isub, 1) := by decide +kernel
theorem dX4_pay_13 : decode cX4_pay 13 = .ok (.if_icmp .le 24, 3) := by decide +kernel
theorem dX4_pay_16 : decode cX4_pay 16 = .ok (.aload_n 0, 1) := by decide +kernel
theorem dX4_pay_17 : decode cX4_pay 17 = .ok (.aload_n 0, 1) := by decide +kernel
theorem dX4_pay_18 : decode cX4_pay 18 = .ok (.getfield 75, 3) := by decide +kernel
theorem dX4_pay_21 : decode cX4_pay 21 = .ok (.getfield 176, 3) := by decide +kernel
theorem dX4_pay_24 : decode cX4_pay 24 = .ok (.putfield 79, 3) := by decide +kernel
theorem dX4_pay_27 : decode cX4_pay 27 = .ok (.aload_n 0, 1) := by decide +kernel
theorem dX4_pay_28 : decode cX4_pay 28 = .ok (.iconst 2, 1) := by decide +kernel
theorem dX4_pay_29 : decode cX4_pay 29 = .ok (.ldc2_w 179, 3) := by decide +kernel
theorem dX4_pay_32 : decode cX4_pay 32 = .ok (.invokevirtual 153, 3) := by decide +kernel
theorem dX4_pay_35 : decode cX4_pay 35 = .ok (.iconst 0, 1) := by decide +kernel
theorem dX4_pay_36 : decode cX4_pay 36 = .ok (.ireturn, 1) := by decide +kernel
theorem dX4_pay_37 : decode cX4_pay 37 = .ok (.aload_n 0, 1) := by decide +kernel
theorem dX4_pay_38 : decode cX4_pay 38 = .ok (.dup, 1) := by decide +kernel
theorem dX4_pay_39 : decode cX4_pay 39 = .ok (.getfield 79, 3) := by decide +kernel
theorem dX4_pay_42 : decode cX4_pay 42 = .ok (.iload_n 1, 1) := by decide +kernel
theorem dX4_pay_43 : decode cX4_pay 43 = .ok (.iadd, 1) := by decide +kernel
theorem dX4_pay_44 : decode cX4_pay 44 = .ok (.putfield 79, 3) := by decide +kernel
theorem dX4_pay_47 : decode cX4_pay 47 = .ok (.iconst 1, 1) := by decide +kernel
theorem dX4_pay_48 : decode cX4_pay 48 = .ok (.ireturn, 1) := by decide +kernel
theorem dX4_pushFrame_0 : decode cX4_pushFrame 0 = .ok (.aload_n 0, 1) := by decide +kernel
theorem dX4_pushFrame_1 : decode cX4_pushFrame 1 = .ok (.dup, 1) := by decide +kernel
theorem dX4_pushFrame_2 : decode cX4_pushFrame 2 = .ok (.getfield 100, 3) := by decide +kernel
theorem dX4_pushFrame_5 : decode cX4_pushFrame 5 = .ok (.iconst 1, 1) := by decide +kernel
theorem dX4_pushFrame_6 : decode cX4_pushFrame 6 = .ok (.iadd, 1) := by decide +kernel
theorem dX4_pushFrame_7 : decode cX4_pushFrame 7 = .ok (.putfield 100, 3) := by decide +kernel
theorem dX4_pushFrame_10 : decode cX4_pushFrame 10 = .ok (.aload_n 0, 1) := by decide +kernel
theorem dX4_pushFrame_11 : decode cX4_pushFrame 11 = .ok (.getfield 38, 3) := by decide +kernel
theorem dX4_pushFrame_14 : decode cX4_pushFrame 14 = .ok (.aload_n 0, 1) := by decide +kernel
theorem dX4_pushFrame_15 : decode cX4_pushFrame 15 = .ok (.getfield 100, 3) := by decide +kernel
theorem dX4_pushFrame_18 : decode cX4_pushFrame 18 = .ok (.aload_n 1, 1) := by decide +kernel
theorem dX4_pushFrame_19 : decode cX4_pushFrame 19 = .ok (.aastore, 1) := by decide +kernel
theorem dX4_pushFrame_20 : decode cX4_pushFrame 20 = .ok (.aload_n 0, 1) := by decide +kernel
theorem dX4_pushFrame_21 : decode cX4_pushFrame 21 = .ok (.getfield 42, 3) := by decide +kernel
theorem dX4_pushFrame_24 : decode cX4_pushFrame 24 = .ok (.aload_n 0, 1) := by decide +kernel
theorem dX4_pushFrame_25 : decode cX4_pushFrame 25 = .ok (.getfield 100, 3) := by decide +kernel
theorem dX4_pushFrame_28 : decode cX4_pushFrame 28 = .ok (.iload_n 2, 1) := by decide +kernel
theorem dX4_pushFrame_29 : decode cX4_pushFrame 29 = .ok (.iastore, 1) := by decide +kernel
theorem dX4_pushFrame_30 : decode cX4_pushFrame 30 = .ok (.aload_n 0, 1) := by decide +kernel
theorem dX4_pushFrame_31 : decode cX4_pushFrame 31 = .ok (.getfield 46, 3) := by decide +kernel
theorem dX4_pushFrame_34 : decode cX4_pushFrame 34 = .ok (.aload_n 0, 1) := by decide +kernel
theorem dX4_pushFrame_35 : decode cX4_pushFrame 35 = .ok (.getfield 100, 3) := by decide +kernel
theorem dX4_pushFrame_38 : decode cX4_pushFrame 38 = .ok (.iconst 0, 1) := by decide +kernel
theorem dX4_pushFrame_39 : decode cX4_pushFrame 39 = .ok (.iastore, 1) := by decide +kernel
theorem dX4_pushFrame_40 : decode cX4_pushFrame 40 = .ok (.aload_n 0, 1) := by decide +kernel
theorem dX4_pushFrame_41 : decode cX4_pushFrame 41 = .ok (.getfield 49, 3) := by decide +kernel
theorem dX4_pushFrame_44 : decode cX4_pushFrame 44 = .ok (.aload_n 0, 1) := by decide +kernel
theorem dX4_pushFrame_45 : decode cX4_pushFrame 45 = .ok (.getfield 100, 3) := by decide +kernel
theorem dX4_pushFrame_48 : decode cX4_pushFrame 48 = .ok (.iconst 0, 1) := by decide +kernel
theorem dX4_pushFrame_49 : decode cX4_pushFrame 49 = .ok (.iastore, 1) := by decide +kernel
theorem dX4_pushFrame_50 : decode cX4_pushFrame 50 = .ok (.iconst 0, 1) := by decide +kernel
theorem dX4_pushFrame_51 : decode cX4_pushFrame 51 = .ok (.istore_n 3, 1) := by decide +kernel
theorem dX4_pushFrame_52 : decode cX4_pushFrame 52 = .ok (.iload_n 3, 1) := by decide +kernel
theorem dX4_pushFrame_53 : decode cX4_pushFrame 53 = .ok (.bipush 40, 2) := by decide +kernel
theorem dX4_pushFrame_55 : decode cX4_pushFrame 55 = .ok (.if_icmp .ge 24, 3) := by decide +kernel
theorem dX4_pushFrame_58 : decode cX4_pushFrame 58 = .ok (.aload_n 0, 1) := by decide +kernel
theorem dX4_pushFrame_59 : decode cX4_pushFrame 59 = .ok (.getfield 52, 3) := by decide +kernel
theorem dX4_pushFrame_62 : decode cX4_pushFrame 62 = .ok (.aload_n 0, 1) := by decide +kernel
theorem dX4_pushFrame_63 : decode cX4_pushFrame 63 = .ok (.getfield 100, 3) := by decide +kernel
theorem dX4_pushFrame_66 : decode cX4_pushFrame 66 = .ok (.bipush 40, 2) := by decide +kernel
theorem dX4_pushFrame_68 : decode cX4_pushFrame 68 = .ok (.imul, 1) := by decide +kernel
theorem dX4_pushFrame_69 : decode cX4_pushFrame 69 = .ok (.iload_n 3, 1) := by decide +kernel
theorem dX4_pushFrame_70 : decode cX4_pushFrame 70 = .ok (.iadd, 1) := by decide +kernel
theorem dX4_pushFrame_71 : decode cX4_pushFrame 71 = .ok (.iconst 0, 1) := by decide +kernel
theorem dX4_pushFrame_72 : decode cX4_pushFrame 72 = .ok (.iastore, 1) := by decide +kernel
theorem dX4_pushFrame_73 : decode cX4_pushFrame 73 = .ok (.iinc 3 1, 3) := by decide +kernel
theorem dX4_pushFrame_76 : decode cX4_pushFrame 76 = .ok (.goto (-24), 3) := by decide +kernel
theorem dX4_pushFrame_79 : decode cX4_pushFrame 79 = .ok (.return_, 1) := by decide +kernel
theorem dX4_push_0 : decode cX4_push 0 = .ok (.aload_n 0, 1) := by decide +kernel
theorem dX4_push_1 : decode cX4_push 1 = .ok (.getfield 49, 3) := by decide +kernel
theorem dX4_push_4 : decode cX4_push 4 = .ok (.aload_n 0, 1) := by decide +kernel
theorem dX4_push_5 : decode cX4_push 5 = .ok (.getfield 100, 3) := by decide +kernel
theorem dX4_push_8 : decode cX4_push 8 = .ok (.iaload, 1) := by decide +kernel
theorem dX4_push_9 : decode cX4_push 9 = .ok (.bipush 64, 2) := by decide +kernel
theorem dX4_push_11 : decode cX4_push 11 = .ok (.if_icmp .lt 17, 3) := by decide +kernel
theorem dX4_push_14 : decode cX4_push 14 = .ok (.aload_n 0, 1) := by decide +kernel
theorem dX4_push_15 : decode cX4_push 15 = .ok (.getfield 12, 3) := by decide +kernel
theorem dX4_push_18 : decode cX4_push 18 = .ok (.dup, 1) := by decide +kernel
theorem dX4_push_19 : decode cX4_push 19 = .ok (.getfield 71, 3) := by decide +kernel
theorem dX4_push_22 : decode cX4_push 22 = .ok (.iconst 1, 1) := by decide +kernel
theorem dX4_push_23 : decode cX4_push 23 = .ok (.iadd, 1) := by decide +kernel
theorem dX4_push_24 : decode cX4_push 24 = .ok (.putfield 71, 3) := by decide +kernel
theorem dX4_push_27 : decode cX4_push 27 = .ok (.return_, 1) := by decide +kernel
theorem dX4_push_28 : decode cX4_push 28 = .ok (.aload_n 0, 1) := by decide +kernel
theorem dX4_push_29 : decode cX4_push 29 = .ok (.getfield 55, 3) := by decide +kernel
theorem dX4_push_32 : decode cX4_push 32 = .ok (.aload_n 0, 1) := by decide +kernel
theorem dX4_push_33 : decode cX4_push 33 = .ok (.getfield 100, 3) := by decide +kernel
theorem dX4_push_36 : decode cX4_push 36 = .ok (.bipush 64, 2) := by decide +kernel
theorem dX4_push_38 : decode cX4_push 38 = .ok (.imul, 1) := by decide +kernel
theorem dX4_push_39 : decode cX4_push 39 = .ok (.aload_n 0, 1) := by decide +kernel
theorem dX4_push_40 : decode cX4_push 40 = .ok (.getfield 49, 3) := by decide +kernel
theorem dX4_push_43 : decode cX4_push 43 = .ok (.aload_n 0, 1) := by decide +kernel
theorem dX4_push_44 : decode cX4_push 44 = .ok (.getfield 100, 3) := by decide +kernel
theorem dX4_push_47 : decode cX4_push 47 = .ok (.iaload, 1) := by decide +kernel
theorem dX4_push_48 : decode cX4_push 48 = .ok (.iadd, 1) := by decide +kernel
theorem dX4_push_49 : decode cX4_push 49 = .ok (.iload_n 1, 1) := by decide +kernel
theorem dX4_push_50 : decode cX4_push 50 = .ok (.iastore, 1) := by decide +kernel
theorem dX4_push_51 : decode cX4_push 51 = .ok (.aload_n 0, 1) := by decide +kernel
theorem dX4_push_52 : decode cX4_push 52 = .ok (.getfield 49, 3) := by decide +kernel
theorem dX4_push_55 : decode cX4_push 55 = .ok (.aload_n 0, 1) := by decide +kernel
theorem dX4_push_56 : decode cX4_push 56 = .ok (.getfield 100, 3) := by decide +kernel
theorem dX4_push_59 : decode cX4_push 59 = .ok (.dup2, 1) := by decide +kernel
theorem dX4_push_60 : decode cX4_push 60 = .ok (.iaload, 1) := by decide +kernel
theorem dX4_push_61 : decode cX4_push 61 = .ok (.iconst 1, 1) := by decide +kernel
theorem dX4_push_62 : decode cX4_push 62 = .ok (.iadd, 1) := by decide +kernel
theorem dX4_push_63 : decode cX4_push 63 = .ok (.iastore, 1) := by decide +kernel
theorem dX4_push_64 : decode cX4_push 64 = .ok (.return_, 1) := by decide +kernel
theorem dX4_pop_0 : decode cX4_pop 0 = .ok (.aload_n 0, 1) := by decide +kernel
theorem dX4_pop_1 : decode cX4_pop 1 = .ok (.getfield 49, 3) := by decide +kernel
theorem dX4_pop_4 : decode cX4_pop 4 = .ok (.aload_n 0, 1) := by decide +kernel
theorem dX4_pop_5 : decode cX4_pop 5 = .ok (.getfield 100, 3) := by decide +kernel
theorem dX4_pop_8 : decode cX4_pop 8 = .ok (.iaload, 1) := by decide +kernel
theorem dX4_pop_9 : decode cX4_pop 9 = .ok (.ifCond .ne 18, 3) := by decide +kernel
theorem dX4_pop_12 : decode cX4_pop 12 = .ok (.aload_n 0, 1) := by decide +kernel
theorem dX4_pop_13 : decode cX4_pop 13 = .ok (.getfield 12, 3) := by decide +kernel
theorem dX4_pop_16 : decode cX4_pop 16 = .ok (.dup, 1) := by decide +kernel
theorem dX4_pop_17 : decode cX4_pop 17 = .ok (.getfield 71, 3) := by decide +kernel
theorem dX4_pop_20 : decode cX4_pop 20 = .ok (.iconst 1, 1) := by decide +kernel
theorem dX4_pop_21 : decode cX4_pop 21 = .ok (.iadd, 1) := by decide +kernel
theorem dX4_pop_22 : decode cX4_pop 22 = .ok (.putfield 71, 3) := by decide +kernel
theorem dX4_pop_25 : decode cX4_pop 25 = .ok (.iconst 0, 1) := by decide +kernel
theorem dX4_pop_26 : decode cX4_pop 26 = .ok (.ireturn, 1) := by decide +kernel
theorem dX4_pop_27 : decode cX4_pop 27 = .ok (.aload_n 0, 1) := by decide +kernel
theorem dX4_pop_28 : decode cX4_pop 28 = .ok (.getfield 49, 3) := by decide +kernel
theorem dX4_pop_31 : decode cX4_pop 31 = .ok (.aload_n 0, 1) := by decide +kernel
theorem dX4_pop_32 : decode cX4_pop 32 = .ok (.getfield 100, 3) := by decide +kernel
theorem dX4_pop_35 : decode cX4_pop 35 = .ok (.dup2, 1) := by decide +kernel
theorem dX4_pop_36 : decode cX4_pop 36 = .ok (.iaload, 1) := by decide +kernel
theorem dX4_pop_37 : decode cX4_pop 37 = .ok (.iconst 1, 1) := by decide +kernel
theorem dX4_pop_38 : decode cX4_pop 38 = .ok (.isub, 1) := by decide +kernel
theorem dX4_pop_39 : decode cX4_pop 39 = .ok (.iastore, 1) := by decide +kernel
theorem dX4_pop_40 : decode cX4_pop 40 = .ok (.aload_n 0, 1) := by decide +kernel
theorem dX4_pop_41 : decode cX4_pop 41 = .ok (.getfield 55, 3) := by decide +kernel
theorem dX4_pop_44 : decode cX4_pop 44 = .ok (.aload_n 0, 1) := by decide +kernel
theorem dX4_pop_45 : decode cX4_pop 45 = .ok (.getfield 100, 3) := by decide +kernel
theorem dX4_pop_48 : decode cX4_pop 48 = .ok (.bipush 64, 2) := by decide +kernel
theorem dX4_pop_50 : decode cX4_pop 50 = .ok (.imul, 1) := by decide +kernel
theorem dX4_pop_51 : decode cX4_pop 51 = .ok (.aload_n 0, 1) := by decide +kernel
theorem dX4_pop_52 : decode cX4_pop 52 = .ok (.getfield 49, 3) := by decide +kernel
theorem dX4_pop_55 : decode cX4_pop 55 = .ok (.aload_n 0, 1) := by decide +kernel
theorem dX4_pop_56 : decode cX4_pop 56 = .ok (.getfield 100, 3) := by decide +kernel
theorem dX4_pop_59 : decode cX4_pop 59 = .ok (.iaload, 1) := by decide +kernel
theorem dX4_pop_60 : decode cX4_pop 60 = .ok (.iadd, 1) := by decide +kernel
theorem dX4_pop_61 : decode cX4_pop 61 = .ok (.iaload, 1) := by decide +kernel
theorem dX4_pop_62 : decode cX4_pop 62 = .ok (.ireturn, 1) := by decide +kernel
theorem dX4_popOf_0 : decode cX4_popOf 0 = .ok (.aload_n 0, 1) := by decide +kernel
theorem dX4_popOf_1 : decode cX4_popOf 1 = .ok (.invokevirtual 181, 3) := by decide +kernel
theorem dX4_popOf_4 : decode cX4_popOf 4 = .ok (.istore_n 2, 1) := by decide +kernel
theorem dX4_popOf_5 : decode cX4_popOf 5 = .ok (.aload_n 0, 1) := by decide +kernel
theorem dX4_popOf_6 : decode cX4_popOf 6 = .ok (.getfield 12, 3) := by decide +kernel
theorem dX4_popOf_9 : decode cX4_popOf 9 = .ok (.getfield 157, 3) := by decide +kernel
theorem dX4_popOf_12 : decode cX4_popOf 12 = .ok (.iload_n 2, 1) := by decide +kernel
theorem dX4_popOf_13 : decode cX4_popOf 13 = .ok (.baload, 1) := by decide +kernel
theorem dX4_popOf_14 : decode cX4_popOf 14 = .ok (.iload_n 1, 1) := by decide +kernel
theorem dX4_popOf_15 : decode cX4_popOf 15 = .ok (.if_icmp .eq 16, 3) := by decide +kernel
theorem dX4_popOf_18 : decode cX4_popOf 18 = .ok (.aload_n 0, 1) := by decide +kernel
theorem dX4_popOf_19 : decode cX4_popOf 19 = .ok (.getfield 12, 3) := by decide +kernel
theorem dX4_popOf_22 : decode cX4_popOf 22 = .ok (.dup, 1) := by decide +kernel
theorem dX4_popOf_23 : decode cX4_popOf 23 = .ok (.getfield 71, 3) := by decide +kernel
theorem dX4_popOf_26 : decode cX4_popOf 26 = .ok (.iconst 1, 1) := by decide +kernel
theorem dX4_popOf_27 : decode cX4_popOf 27 = .ok (.iadd, 1) := by decide +kernel
theorem dX4_popOf_28 : decode cX4_popOf 28 = .ok (.putfield 71, 3) := by decide +kernel
theorem dX4_popOf_31 : decode cX4_popOf 31 = .ok (.iload_n 2, 1) := by decide +kernel
theorem dX4_popOf_32 : decode cX4_popOf 32 = .ok (.ireturn, 1) := by decide +kernel
theorem dX4_peek_0 : decode cX4_peek 0 = .ok (.aload_n 0, 1) := by decide +kernel
theorem dX4_peek_1 : decode cX4_peek 1 = .ok (.getfield 49, 3) := by decide +kernel
theorem dX4_peek_4 : decode cX4_peek 4 = .ok (.aload_n 0, 1) := by decide +kernel
theorem dX4_peek_5 : decode cX4_peek 5 = .ok (.getfield 100, 3) := by decide +kernel
theorem dX4_peek_8 : decode cX4_peek 8 = .ok (.iaload, 1) := by decide +kernel
theorem dX4_peek_9 : decode cX4_peek 9 = .ok (.iconst 1, 1) := by decide +kernel
theorem dX4_peek_10 : decode cX4_peek 10 = .ok (.isub, 1) := by decide +kernel
theorem dX4_peek_11 : decode cX4_peek 11 = .ok (.iload_n 1, 1) := by decide +kernel
theorem dX4_peek_12 : decode cX4_peek 12 = .ok (.isub, 1) := by decide +kernel
theorem dX4_peek_13 : decode cX4_peek 13 = .ok (.istore_n 2, 1) := by decide +kernel
theorem dX4_peek_14 : decode cX4_peek 14 = .ok (.iload_n 2, 1) := by decide +kernel
theorem dX4_peek_15 : decode cX4_peek 15 = .ok (.ifCond .ge 18, 3) := by decide +kernel
theorem dX4_peek_18 : decode cX4_peek 18 = .ok (.aload_n 0, 1) := by decide +kernel
theorem dX4_peek_19 : decode cX4_peek 19 = .ok (.getfield 12, 3) := by decide +kernel
theorem dX4_peek_22 : decode cX4_peek 22 = .ok (.dup, 1) := by decide +kernel
theorem dX4_peek_23 : decode cX4_peek 23 = .ok (.getfield 71, 3) := by decide +kernel
theorem dX4_peek_26 : decode cX4_peek 26 = .ok (.iconst 1, 1) := by decide +kernel
theorem dX4_peek_27 : decode cX4_peek 27 = .ok (.iadd, 1) := by decide +kernel
theorem dX4_peek_28 : decode cX4_peek 28 = .ok (.putfield 71, 3) := by decide +kernel
theorem dX4_peek_31 : decode cX4_peek 31 = .ok (.iconst 0, 1) := by decide +kernel
theorem dX4_peek_32 : decode cX4_peek 32 = .ok (.ireturn, 1) := by decide +kernel
theorem dX4_peek_33 : decode cX4_peek 33 = .ok (.aload_n 0, 1) := by decide +kernel
theorem dX4_peek_34 : decode cX4_peek 34 = .ok (.getfield 55, 3) := by decide +kernel
theorem dX4_peek_37 : decode cX4_peek 37 = .ok (.aload_n 0, 1) := by decide +kernel
theorem dX4_peek_38 : decode cX4_peek 38 = .ok (.getfield 100, 3) := by decide +kernel
theorem dX4_peek_41 : decode cX4_peek 41 = .ok (.bipush 64, 2) := by decide +kernel
theorem dX4_peek_43 : decode cX4_peek 43 = .ok (.imul, 1) := by decide +kernel
theorem dX4_peek_44 : decode cX4_peek 44 = .ok (.iload_n 2, 1) := by decide +kernel
theorem dX4_peek_45 : decode cX4_peek 45 = .ok (.iadd, 1) := by decide +kernel
theorem dX4_peek_46 : decode cX4_peek 46 = .ok (.iaload, 1) := by decide +kernel
theorem dX4_peek_47 : decode cX4_peek 47 = .ok (.ireturn, 1) := by decide +kernel
theorem dX4_pushNumber_0 : decode cX4_pushNumber 0 = .ok (.aload_n 0, 1) := by decide +kernel
theorem dX4_pushNumber_1 : decode cX4_pushNumber 1 = .ok (.aload_n 0, 1) := by decide +kernel
theorem dX4_pushNumber_2 : decode cX4_pushNumber 2 = .ok (.getfield 12, 3) := by decide +kernel
theorem dX4_pushNumber_5 : decode cX4_pushNumber 5 = .ok (.iload_n 1, 1) := by decide +kernel
theorem dX4_pushNumber_6 : decode cX4_pushNumber 6 = .ok (.lload_n 2, 1) := by decide +kernel
theorem dX4_pushNumber_7 : decode cX4_pushNumber 7 = .ok (.lload 4, 2) := by decide +kernel
theorem dX4_pushNumber_9 : decode cX4_pushNumber 9 = .ok (.invokevirtual 134, 3) := by decide +kernel
theorem dX4_pushNumber_12 : decode cX4_pushNumber 12 = .ok (.invokevirtual 185, 3) := by decide +kernel
theorem dX4_pushNumber_15 : decode cX4_pushNumber 15 = .ok (.return_, 1) := by decide +kernel
theorem dX4_target_0 : decode cX4_target 0 = .ok (.aload_n 0, 1) := by decide +kernel
theorem dX4_target_1 : decode cX4_target 1 = .ok (.getfield 12, 3) := by decide +kernel
theorem dX4_target_4 : decode cX4_target 4 = .ok (.getfield 157, 3) := by decide +kernel
theorem dX4_target_7 : decode cX4_target 7 = .ok (.iload_n 1, 1) := by decide +kernel
theorem dX4_target_8 : decode cX4_target 8 = .ok (.baload, 1) := by decide +kernel
theorem dX4_target_9 : decode cX4_target 9 = .ok (.bipush 8, 2) := by decide +kernel
theorem dX4_target_11 : decode cX4_target 11 = .ok (.if_icmp .ne 17, 3) := by decide +kernel
theorem dX4_target_14 : decode cX4_target 14 = .ok (.aload_n 0, 1) := by decide +kernel
theorem dX4_target_15 : decode cX4_target 15 = .ok (.getfield 12, 3) := by decide +kernel
theorem dX4_target_18 : decode cX4_target 18 = .ok (.getfield 163, 3) := by decide +kernel
theorem dX4_target_21 : decode cX4_target 21 = .ok (.iload_n 1, 1) := by decide +kernel
theorem dX4_target_22 : decode cX4_target 22 = .ok (.laload, 1) := by decide +kernel
theorem dX4_target_23 : decode cX4_target 23 = .ok (.lconst 0, 1) := by decide +kernel
theorem dX4_target_24 : decode cX4_target 24 = .ok (.lcmp, 1) := by decide +kernel
theorem dX4_target_25 : decode cX4_target 25 = .ok (.ifCond .ne 18, 3) := by decide +kernel
theorem dX4_target_28 : decode cX4_target 28 = .ok (.aload_n 0, 1) := by decide +kernel
theorem dX4_target_29 : decode cX4_target 29 = .ok (.getfield 12, 3) := by decide +kernel
theorem dX4_target_32 : decode cX4_target 32 = .ok (.dup, 1) := by decide +kernel
theorem dX4_target_33 : decode cX4_target 33 = .ok (.getfield 71, 3) := by decide +kernel
theorem dX4_target_36 : decode cX4_target 36 = .ok (.iconst 1, 1) := by decide +kernel
theorem dX4_target_37 : decode cX4_target 37 = .ok (.iadd, 1) := by decide +kernel
theorem dX4_target_38 : decode cX4_target 38 = .ok (.putfield 71, 3) := by decide +kernel
theorem dX4_target_41 : decode cX4_target 41 = .ok (.iconst 0, 1) := by decide +kernel
theorem dX4_target_42 : decode cX4_target 42 = .ok (.ireturn, 1) := by decide +kernel
theorem dX4_target_43 : decode cX4_target 43 = .ok (.aload_n 0, 1) := by decide +kernel
theorem dX4_target_44 : decode cX4_target 44 = .ok (.getfield 12, 3) := by decide +kernel
theorem dX4_target_47 : decode cX4_target 47 = .ok (.getfield 163, 3) := by decide +kernel
theorem dX4_target_50 : decode cX4_target 50 = .ok (.iload_n 1, 1) := by decide +kernel
theorem dX4_target_51 : decode cX4_target 51 = .ok (.laload, 1) := by decide +kernel
theorem dX4_target_52 : decode cX4_target 52 = .ok (.l2i, 1) := by decide +kernel
theorem dX4_target_53 : decode cX4_target 53 = .ok (.ireturn, 1) := by decide +kernel
theorem dX4_step_0 : decode cX4_step 0 = .ok (.aload_n 0, 1) := by decide +kernel
theorem dX4_step_1 : decode cX4_step 1 = .ok (.getfield 38, 3) := by decide +kernel
theorem dX4_step_4 : decode cX4_step 4 = .ok (.aload_n 0, 1) := by decide +kernel
theorem dX4_step_5 : decode cX4_step 5 = .ok (.getfield 100, 3) := by decide +kernel
theorem dX4_step_8 : decode cX4_step 8 = .ok (.aaload, 1) := by decide +kernel
theorem dX4_step_9 : decode cX4_step 9 = .ok (.astore_n 1, 1) := by decide +kernel
theorem dX4_step_10 : decode cX4_step 10 = .ok (.aload_n 0, 1) := by decide +kernel
theorem dX4_step_11 : decode cX4_step 11 = .ok (.getfield 46, 3) := by decide +kernel
theorem dX4_step_14 : decode cX4_step 14 = .ok (.aload_n 0, 1) := by decide +kernel
theorem dX4_step_15 : decode cX4_step 15 = .ok (.getfield 100, 3) := by decide +kernel
theorem dX4_step_18 : decode cX4_step 18 = .ok (.iaload, 1) := by decide +kernel
theorem dX4_step_19 : decode cX4_step 19 = .ok (.istore_n 2, 1) := by decide +kernel
theorem dX4_step_20 : decode cX4_step 20 = .ok (.aload_n 1, 1) := by decide +kernel
theorem dX4_step_21 : decode cX4_step 21 = .ok (.ifnull 20, 3) := by decide +kernel
theorem dX4_step_24 : decode cX4_step 24 = .ok (.iload_n 2, 1) := by decide +kernel
theorem dX4_step_25 : decode cX4_step 25 = .ok (.aload_n 1, 1) := by decide +kernel
theorem dX4_step_26 : decode cX4_step 26 = .ok (.aload_n 0, 1) := by decide +kernel
theorem dX4_step_27 : decode cX4_step 27 = .ok (.getfield 42, 3) := by decide +kernel
theorem dX4_step_30 : decode cX4_step 30 = .ok (.aload_n 0, 1) := by decide +kernel
theorem dX4_step_31 : decode cX4_step 31 = .ok (.getfield 100, 3) := by decide +kernel
theorem dX4_step_34 : decode cX4_step 34 = .ok (.iaload, 1) := by decide +kernel
theorem dX4_step_35 : decode cX4_step 35 = .ok (.invokevirtual 189, 3) := by decide +kernel
theorem dX4_step_38 : decode cX4_step 38 = .ok (.if_icmp .lt 25, 3) := by decide +kernel
theorem dX4_step_41 : decode cX4_step 41 = .ok (.aload_n 0, 1) := by decide +kernel
theorem dX4_step_42 : decode cX4_step 42 = .ok (.getfield 12, 3) := by decide +kernel
theorem dX4_step_45 : decode cX4_step 45 = .ok (.dup, 1) := by decide +kernel
theorem dX4_step_46 : decode cX4_step 46 = .ok (.getfield 71, 3) := by decide +kernel
theorem dX4_step_49 : decode cX4_step 49 = .ok (.iconst 1, 1) := by decide +kernel
theorem dX4_step_50 : decode cX4_step 50 = .ok (.iadd, 1) := by decide +kernel
theorem dX4_step_51 : decode cX4_step 51 = .ok (.putfield 71, 3) := by decide +kernel
theorem dX4_step_54 : decode cX4_step 54 = .ok (.aload_n 0, 1) := by decide +kernel
theorem dX4_step_55 : decode cX4_step 55 = .ok (.iconst 2, 1) := by decide +kernel
theorem dX4_step_56 : decode cX4_step 56 = .ok (.ldc2_w 151, 3) := by decide +kernel
theorem dX4_step_59 : decode cX4_step 59 = .ok (.invokevirtual 153, 3) := by decide +kernel
theorem dX4_step_62 : decode cX4_step 62 = .ok (.return_, 1) := by decide +kernel
theorem dX4_step_63 : decode cX4_step 63 = .ok (.aload_n 1, 1) := by decide +kernel
theorem dX4_step_64 : decode cX4_step 64 = .ok (.aload_n 0, 1) := by decide +kernel
theorem dX4_step_65 : decode cX4_step 65 = .ok (.getfield 42, 3) := by decide +kernel
theorem dX4_step_68 : decode cX4_step 68 = .ok (.aload_n 0, 1) := by decide +kernel
theorem dX4_step_69 : decode cX4_step 69 = .ok (.getfield 100, 3) := by decide +kernel
theorem dX4_step_72 : decode cX4_step 72 = .ok (.iaload, 1) := by decide +kernel
theorem dX4_step_73 : decode cX4_step 73 = .ok (.iload_n 2, 1) := by decide +kernel
theorem dX4_step_74 : decode cX4_step 74 = .ok (.invokevirtual 193, 3) := by decide +kernel
theorem dX4_step_77 : decode cX4_step 77 = .ok (.istore_n 3, 1) := by decide +kernel
theorem dX4_step_78 : decode cX4_step 78 = .ok (.aload_n 1, 1) := by decide +kernel
theorem dX4_step_79 : decode cX4_step 79 = .ok (.iload_n 3, 1) := by decide +kernel
theorem dX4_step_80 : decode cX4_step 80 = .ok (.invokevirtual 196, 3) := by decide +kernel
theorem dX4_step_83 : decode cX4_step 83 = .ok (.istore 4, 2) := by decide +kernel
theorem dX4_step_85 : decode cX4_step 85 = .ok (.aload_n 1, 1) := by decide +kernel
theorem dX4_step_86 : decode cX4_step 86 = .ok (.iload_n 3, 1) := by decide +kernel
theorem dX4_step_87 : decode cX4_step 87 = .ok (.iconst 1, 1) := by decide +kernel
theorem dX4_step_88 : decode cX4_step 88 = .ok (.iadd, 1) := by decide +kernel
theorem dX4_step_89 : decode cX4_step 89 = .ok (.invokevirtual 196, 3) := by decide +kernel
theorem dX4_step_92 : decode cX4_step 92 = .ok (.istore 5, 2) := by decide +kernel
theorem dX4_step_94 : decode cX4_step 94 = .ok (.aload_n 0, 1) := by decide +kernel
theorem dX4_step_95 : decode cX4_step 95 = .ok (.getfield 46, 3) := by decide +kernel
theorem dX4_step_98 : decode cX4_step 98 = .ok (.aload_n 0, 1) := by decide +kernel
theorem dX4_step_99 : decode cX4_step 99 = .ok (.getfield 100, 3) := by decide +kernel
theorem dX4_step_102 : decode cX4_step 102 = .ok (.iload_n 2, 1) := by decide +kernel
theorem dX4_step_103 : decode cX4_step 103 = .ok (.iconst 1, 1) := by decide +kernel
theorem dX4_step_104 : decode cX4_step 104 = .ok (.iadd, 1) := by decide +kernel
theorem dX4_step_105 : decode cX4_step 105 = .ok (.iastore, 1) := by decide +kernel
theorem dX4_step_106 : decode cX4_step 106 = .ok (.aload_n 0, 1) := by decide +kernel
theorem dX4_step_107 : decode cX4_step 107 = .ok (.iconst 1, 1) := by decide +kernel
theorem dX4_step_108 : decode cX4_step 108 = .ok (.invokevirtual 199, 3) := by decide +kernel
theorem dX4_step_111 : decode cX4_step 111 = .ok (.ifCond .ne 4, 3) := by decide +kernel
theorem dX4_step_114 : decode cX4_step 114 = .ok (.return_, 1) := by decide +kernel
theorem dX4_step_115 : decode cX4_step 115 = .ok (.iload 4, 2) := by decide +kernel
theorem dX4_step_117 : decode cX4_step 117 = .ok (.iconst 4, 1) := by decide +kernel
theorem dX4_step_118 : decode cX4_step 118 = .ok (.if_icmp .le 10, 3) := by decide +kernel
theorem dX4_step_121 : decode cX4_step 121 = .ok (.iload 4, 2) := by decide +kernel
theorem dX4_step_123 : decode cX4_step 123 = .ok (.bipush 45, 2) := by decide +kernel
theorem dX4_step_125 : decode cX4_step 125 = .ok (.if_icmp .ne 21, 3) := by decide +kernel
theorem dX4_step_128 : decode cX4_step 128 = .ok (.aload_n 0, 1) := by decide +kernel
theorem dX4_step_129 : decode cX4_step 129 = .ok (.iload 4, 2) := by decide +kernel
theorem dX4_step_131 : decode cX4_step 131 = .ok (.aload_n 1, 1) := by decide +kernel
theorem dX4_step_132 : decode cX4_step 132 = .ok (.iload_n 3, 1) := by decide +kernel
theorem dX4_step_133 : decode cX4_step 133 = .ok (.iconst 1, 1) := by decide +kernel
theorem dX4_step_134 : decode cX4_step 134 = .ok (.iadd, 1) := by decide +kernel
theorem dX4_step_135 : decode cX4_step 135 = .ok (.iconst 2, 1) := by decide +kernel
theorem dX4_step_136 : decode cX4_step 136 = .ok (.invokevirtual 203, 3) := by decide +kernel
theorem dX4_step_139 : decode cX4_step 139 = .ok (.l2i, 1) := by decide +kernel
theorem dX4_step_140 : decode cX4_step 140 = .ok (.invokevirtual 207, 3) := by decide +kernel
theorem dX4_step_143 : decode cX4_step 143 = .ok (.goto 250, 3) := by decide +kernel
theorem dX4_step_146 : decode cX4_step 146 = .ok (.iload 4, 2) := by decide +kernel
theorem dX4_step_148 : decode cX4_step 148 = .ok (.bipush 10, 2) := by decide +kernel
theorem dX4_step_150 : decode cX4_step 150 = .ok (.if_icmp .le 17, 3) := by decide +kernel
theorem dX4_step_153 : decode cX4_step 153 = .ok (.iload 4, 2) := by decide +kernel
theorem dX4_step_155 : decode cX4_step 155 = .ok (.bipush 35, 2) := by decide +kernel
theorem dX4_step_157 : decode cX4_step 157 = .ok (.if_icmp .eq 10, 3) := by decide +kernel
theorem dX4_step_160 : decode cX4_step 160 = .ok (.iload 4, 2) := by decide +kernel
theorem dX4_step_162 : decode cX4_step 162 = .ok (.bipush 46, 2) := by decide +kernel
theorem dX4_step_164 : decode cX4_step 164 = .ok (.if_icmp .ne 16, 3) := by decide +kernel
theorem dX4_step_167 : decode cX4_step 167 = .ok (.aload_n 0, 1) := by decide +kernel
theorem dX4_step_168 : decode cX4_step 168 = .ok (.iload 4, 2) := by decide +kernel
theorem dX4_step_170 : decode cX4_step 170 = .ok (.aload_n 1, 1) := by decide +kernel
theorem dX4_step_171 : decode cX4_step 171 = .ok (.iload_n 3, 1) := by decide +kernel
theorem dX4_step_172 : decode cX4_step 172 = .ok (.iconst 1, 1) := by decide +kernel
theorem dX4_step_173 : decode cX4_step 173 = .ok (.iadd, 1) := by decide +kernel
theorem dX4_step_174 : decode cX4_step 174 = .ok (.invokevirtual 211, 3) := by decide +kernel
theorem dX4_step_177 : decode cX4_step 177 = .ok (.goto 216, 3) := by decide +kernel
theorem dX4_step_180 : decode cX4_step 180 = .ok (.iload 4, 2) := by decide +kernel
theorem dX4_step_182 : decode cX4_step 182 = .ok (.bipush 15, 2) := by decide +kernel
theorem dX4_step_184 : decode cX4_step 184 = .ok (.if_icmp .gt 27, 3) := by decide +kernel
theorem dX4_step_187 : decode cX4_step 187 = .ok (.aload_n 0, 1) := by decide +kernel
theorem dX4_step_188 : decode cX4_step 188 = .ok (.iload 4, 2) := by decide +kernel
theorem dX4_step_190 : decode cX4_step 190 = .ok (.aload_n 0, 1) := by decide +kernel
theorem dX4_step_191 : decode cX4_step 191 = .ok (.getfield 100, 3) := by decide +kernel
theorem dX4_step_194 : decode cX4_step 194 = .ok (.bipush 40, 2) := by decide +kernel
theorem dX4_step_196 : decode cX4_step 196 = .ok (.imul, 1) := by decide +kernel
theorem dX4_step_197 : decode cX4_step 197 = .ok (.iload 5, 2) := by decide +kernel
theorem dX4_step_199 : decode cX4_step 199 = .ok (.bipush 39, 2) := by decide +kernel
theorem dX4_step_201 : decode cX4_step 201 = .ok (.invokestatic 141, 3) := by decide +kernel
theorem dX4_step_204 : decode cX4_step 204 = .ok (.iadd, 1) := by decide +kernel
theorem dX4_step_205 : decode cX4_step 205 = .ok (.invokevirtual 215, 3) := by decide +kernel
theorem dX4_step_208 : decode cX4_step 208 = .ok (.goto 185, 3) := by decide +kernel
theorem dX4_step_211 : decode cX4_step 211 = .ok (.iload 4, 2) := by decide +kernel
theorem dX4_step_213 : decode cX4_step 213 = .ok (.bipush 20, 2) := by decide +kernel
theorem dX4_step_215 : decode cX4_step 215 = .ok (.if_icmp .gt 19, 3) := by decide +kernel
theorem dX4_step_218 : decode cX4_step 218 = .ok (.aload_n 0, 1) := by decide +kernel
theorem dX4_step_219 : decode cX4_step 219 = .ok (.iload 4, 2) := by decide +kernel
theorem dX4_step_221 : decode cX4_step 221 = .ok (.aload_n 1, 1) := by decide +kernel
theorem dX4_step_222 : decode cX4_step 222 = .ok (.iload_n 3, 1) := by decide +kernel
theorem dX4_step_223 : decode cX4_step 223 = .ok (.iconst 2, 1) := by decide +kernel
theorem dX4_step_224 : decode cX4_step 224 = .ok (.iadd, 1) := by decide +kernel
theorem dX4_step_225 : decode cX4_step 225 = .ok (.invokevirtual 196, 3) := by decide +kernel
theorem dX4_step_228 : decode cX4_step 228 = .ok (.invokevirtual 218, 3) := by decide +kernel
theorem dX4_step_231 : decode cX4_step 231 = .ok (.goto 162, 3) := by decide +kernel
theorem dX4_step_234 : decode cX4_step 234 = .ok (.iload 4, 2) := by decide +kernel
theorem dX4_step_236 : decode cX4_step 236 = .ok (.bipush 21, 2) := by decide +kernel
theorem dX4_step_238 : decode cX4_step 238 = .ok (.if_icmp .ne 18, 3) := by decide +kernel
theorem dX4_step_241 : decode cX4_step 241 = .ok (.aload_n 0, 1) := by decide +kernel
theorem dX4_step_242 : decode cX4_step 242 = .ok (.bipush 6, 2) := by decide +kernel
theorem dX4_step_244 : decode cX4_step 244 = .ok (.aload_n 1, 1) := by decide +kernel
theorem dX4_step_245 : decode cX4_step 245 = .ok (.iload 5, 2) := by decide +kernel
theorem dX4_step_247 : decode cX4_step 247 = .ok (.invokevirtual 221, 3) := by decide +kernel
theorem dX4_step_250 : decode cX4_step 250 = .ok (.invokevirtual 224, 3) := by decide +kernel
theorem dX4_step_253 : decode cX4_step 253 = .ok (.goto 140, 3) := by decide +kernel
theorem dX4_step_256 : decode cX4_step 256 = .ok (.iload 4, 2) := by decide +kernel
theorem dX4_step_258 : decode cX4_step 258 = .ok (.bipush 22, 2) := by decide +kernel
theorem dX4_step_260 : decode cX4_step 260 = .ok (.if_icmp .ne 16, 3) := by decide +kernel
theorem dX4_step_263 : decode cX4_step 263 = .ok (.aload_n 0, 1) := by decide +kernel
theorem dX4_step_264 : decode cX4_step 264 = .ok (.aload_n 1, 1) := by decide +kernel
theorem dX4_step_265 : decode cX4_step 265 = .ok (.iload 5, 2) := by decide +kernel
theorem dX4_step_267 : decode cX4_step 267 = .ok (.invokevirtual 221, 3) := by decide +kernel
theorem dX4_step_270 : decode cX4_step 270 = .ok (.invokevirtual 227, 3) := by decide +kernel
theorem dX4_step_273 : decode cX4_step 273 = .ok (.goto 120, 3) := by decide +kernel
theorem dX4_step_276 : decode cX4_step 276 = .ok (.iload 4, 2) := by decide +kernel
theorem dX4_step_278 : decode cX4_step 278 = .ok (.bipush 23, 2) := by decide +kernel
theorem dX4_step_280 : decode cX4_step 280 = .ok (.if_icmp .ne 48, 3) := by decide +kernel
theorem dX4_step_283 : decode cX4_step 283 = .ok (.aload_n 1, 1) := by decide +kernel
theorem dX4_step_284 : decode cX4_step 284 = .ok (.iload 5, 2) := by decide +kernel
theorem dX4_step_286 : decode cX4_step 286 = .ok (.bipush 7, 2) := by decide +kernel
theorem dX4_step_288 : decode cX4_step 288 = .ok (.invokevirtual 230, 3) := by decide +kernel
theorem dX4_step_291 : decode cX4_step 291 = .ok (.istore 6, 2) := by decide +kernel
theorem dX4_step_293 : decode cX4_step 293 = .ok (.aload_n 1, 1) := by decide +kernel
theorem dX4_step_294 : decode cX4_step 294 = .ok (.iload 5, 2) := by decide +kernel
theorem dX4_step_296 : decode cX4_step 296 = .ok (.bipush 8, 2) := by decide +kernel
theorem dX4_step_298 : decode cX4_step 298 = .ok (.invokevirtual 230, 3) := by decide +kernel
theorem dX4_step_301 : decode cX4_step 301 = .ok (.istore 7, 2) := by decide +kernel
theorem dX4_step_303 : decode cX4_step 303 = .ok (.iload 6, 2) := by decide +kernel
theorem dX4_step_305 : decode cX4_step 305 = .ok (.ifCond .ne 12, 3) := by decide +kernel
theorem dX4_step_308 : decode cX4_step 308 = .ok (.aload_n 0, 1) := by decide +kernel
theorem dX4_step_309 : decode cX4_step 309 = .ok (.iload 7, 2) := by decide +kernel
theorem dX4_step_311 : decode cX4_step 311 = .ok (.invokevirtual 233, 3) := by decide +kernel
theorem dX4_step_314 : decode cX4_step 314 = .ok (.goto 11, 3) := by decide +kernel
theorem dX4_step_317 : decode cX4_step 317 = .ok (.aload_n 0, 1) := by decide +kernel
theorem dX4_step_318 : decode cX4_step 318 = .ok (.iload 6, 2) := by decide +kernel
theorem dX4_step_320 : decode cX4_step 320 = .ok (.iload 7, 2) := by decide +kernel
theorem dX4_step_322 : decode cX4_step 322 = .ok (.invokevirtual 236, 3) := by decide +kernel
theorem dX4_step_325 : decode cX4_step 325 = .ok (.goto 68, 3) := by decide +kernel
theorem dX4_step_328 : decode cX4_step 328 = .ok (.iload 4, 2) := by decide +kernel
theorem dX4_step_330 : decode cX4_step 330 = .ok (.bipush 44, 2) := by decide +kernel
theorem dX4_step_332 : decode cX4_step 332 = .ok (.if_icmp .gt 12, 3) := by decide +kernel
theorem dX4_step_335 : decode cX4_step 335 = .ok (.aload_n 0, 1) := by decide +kernel
theorem dX4_step_336 : decode cX4_step 336 = .ok (.iload 4, 2) := by decide +kernel
theorem dX4_step_338 : decode cX4_step 338 = .ok (.invokevirtual 239, 3) := by decide +kernel
theorem dX4_step_341 : decode cX4_step 341 = .ok (.goto 52, 3) := by decide +kernel
theorem dX4_step_344 : decode cX4_step 344 = .ok (.iload 4, 2) := by decide +kernel
theorem dX4_step_346 : decode cX4_step 346 = .ok (.bipush 51, 2) := by decide +kernel
theorem dX4_step_348 : decode cX4_step 348 = .ok (.if_icmp .gt 18, 3) := by decide +kernel
theorem dX4_step_351 : decode cX4_step 351 = .ok (.aload_n 0, 1) := by decide +kernel
theorem dX4_step_352 : decode cX4_step 352 = .ok (.iload 4, 2) := by decide +kernel
theorem dX4_step_354 : decode cX4_step 354 = .ok (.aload_n 1, 1) := by decide +kernel
theorem dX4_step_355 : decode cX4_step 355 = .ok (.getfield 242, 3) := by decide +kernel
theorem dX4_step_358 : decode cX4_step 358 = .ok (.iload 5, 2) := by decide +kernel
theorem dX4_step_360 : decode cX4_step 360 = .ok (.invokevirtual 245, 3) := by decide +kernel
theorem dX4_step_363 : decode cX4_step 363 = .ok (.goto 30, 3) := by decide +kernel
theorem dX4_step_366 : decode cX4_step 366 = .ok (.iload 4, 2) := by decide +kernel
theorem dX4_step_368 : decode cX4_step 368 = .ok (.bipush 59, 2) := by decide +kernel
theorem dX4_step_370 : decode cX4_step 370 = .ok (.if_icmp .ne 10, 3) := by decide +kernel
theorem dX4_step_373 : decode cX4_step 373 = .ok (.aload_n 0, 1) := by decide +kernel
theorem dX4_step_374 : decode cX4_step 374 = .ok (.invokevirtual 249, 3) := by decide +kernel
theorem dX4_step_377 : decode cX4_step 377 = .ok (.goto 16, 3) := by decide +kernel
theorem dX4_step_380 : decode cX4_step 380 = .ok (.aload_n 0, 1) := by decide +kernel
theorem dX4_step_381 : decode cX4_step 381 = .ok (.iload 4, 2) := by decide +kernel
theorem dX4_step_383 : decode cX4_step 383 = .ok (.aload_n 1, 1) := by decide +kernel
theorem dX4_step_384 : decode cX4_step 384 = .ok (.iload_n 3, 1) := by decide +kernel
theorem dX4_step_385 : decode cX4_step 385 = .ok (.iconst 2, 1) := by decide +kernel
theorem dX4_step_386 : decode cX4_step 386 = .ok (.iadd, 1) := by decide +kernel
theorem dX4_step_387 : decode cX4_step 387 = .ok (.invokevirtual 196, 3) := by decide +kernel
theorem dX4_step_390 : decode cX4_step 390 = .ok (.invokevirtual 252, 3) := by decide +kernel
theorem dX4_step_393 : decode cX4_step 393 = .ok (.return_, 1) := by decide +kernel
theorem dX4_steer_0 : decode cX4_steer 0 = .ok (.iload_n 1, 1) := by decide +kernel
theorem dX4_steer_1 : decode cX4_steer 1 = .ok (.ifCond .ne 11, 3) := by decide +kernel
theorem dX4_steer_4 : decode cX4_steer 4 = .ok (.aload_n 0, 1) := by decide +kernel
theorem dX4_steer_5 : decode cX4_steer 5 = .ok (.invokevirtual 181, 3) := by decide +kernel
theorem dX4_steer_8 : decode cX4_steer 8 = .ok (.pop, 1) := by decide +kernel
theorem dX4_steer_9 : decode cX4_steer 9 = .ok (.goto 93, 3) := by decide +kernel
theorem dX4_steer_12 : decode cX4_steer 12 = .ok (.iload_n 1, 1) := by decide +kernel
theorem dX4_steer_13 : decode cX4_steer 13 = .ok (.iconst 1, 1) := by decide +kernel
theorem dX4_steer_14 : decode cX4_steer 14 = .ok (.if_icmp .ne 10, 3) := by decide +kernel
theorem dX4_steer_17 : decode cX4_steer 17 = .ok (.aload_n 0, 1) := by decide +kernel
theorem dX4_steer_18 : decode cX4_steer 18 = .ok (.invokevirtual 255, 3) := by decide +kernel
theorem dX4_steer_21 : decode cX4_steer 21 = .ok (.goto 81, 3) := by decide +kernel
theorem dX4_steer_24 : decode cX4_steer 24 = .ok (.iload_n 1, 1) := by decide +kernel
theorem dX4_steer_25 : decode cX4_steer 25 = .ok (.bipush 45, 2) := by decide +kernel
theorem dX4_steer_27 : decode cX4_steer 27 = .ok (.if_icmp .ne 24, 3) := by decide +kernel
theorem dX4_steer_30 : decode cX4_steer 30 = .ok (.aload_n 0, 1) := by decide +kernel
theorem dX4_steer_31 : decode cX4_steer 31 = .ok (.iconst 1, 1) := by decide +kernel
theorem dX4_steer_32 : decode cX4_steer 32 = .ok (.aload_n 0, 1) := by decide +kernel
theorem dX4_steer_33 : decode cX4_steer 33 = .ok (.getfield 12, 3) := by decide +kernel
theorem dX4_steer_36 : decode cX4_steer 36 = .ok (.getfield 163, 3) := by decide +kernel
theorem dX4_steer_39 : decode cX4_steer 39 = .ok (.aload_n 0, 1) := by decide +kernel
theorem dX4_steer_40 : decode cX4_steer 40 = .ok (.iconst 3, 1) := by decide +kernel
theorem dX4_steer_41 : decode cX4_steer 41 = .ok (.invokevirtual 258, 3) := by decide +kernel
theorem dX4_steer_44 : decode cX4_steer 44 = .ok (.laload, 1) := by decide +kernel
theorem dX4_steer_45 : decode cX4_steer 45 = .ok (.invokevirtual 153, 3) := by decide +kernel
theorem dX4_steer_48 : decode cX4_steer 48 = .ok (.goto 54, 3) := by decide +kernel
theorem dX4_steer_51 : decode cX4_steer 51 = .ok (.iload_n 1, 1) := by decide +kernel
theorem dX4_steer_52 : decode cX4_steer 52 = .ok (.iconst 2, 1) := by decide +kernel
theorem dX4_steer_53 : decode cX4_steer 53 = .ok (.if_icmp .eq 39, 3) := by decide +kernel
theorem dX4_steer_56 : decode cX4_steer 56 = .ok (.aload_n 0, 1) := by decide +kernel
theorem dX4_steer_57 : decode cX4_steer 57 = .ok (.getfield 12, 3) := by decide +kernel
theorem dX4_steer_60 : decode cX4_steer 60 = .ok (.getfield 163, 3) := by decide +kernel
theorem dX4_steer_63 : decode cX4_steer 63 = .ok (.aload_n 0, 1) := by decide +kernel
theorem dX4_steer_64 : decode cX4_steer 64 = .ok (.iconst 1, 1) := by decide +kernel
theorem dX4_steer_65 : decode cX4_steer 65 = .ok (.invokevirtual 258, 3) := by decide +kernel
theorem dX4_steer_68 : decode cX4_steer 68 = .ok (.laload, 1) := by decide +kernel
theorem dX4_steer_69 : decode cX4_steer 69 = .ok (.lconst 1, 1) := by decide +kernel
theorem dX4_steer_70 : decode cX4_steer 70 = .ok (.lcmp, 1) := by decide +kernel
theorem dX4_steer_71 : decode cX4_steer 71 = .ok (.ifCond .ne 7, 3) := by decide +kernel
theorem dX4_steer_74 : decode cX4_steer 74 = .ok (.iconst 1, 1) := by decide +kernel
theorem dX4_steer_75 : decode cX4_steer 75 = .ok (.goto 4, 3) := by decide +kernel
theorem dX4_steer_78 : decode cX4_steer 78 = .ok (.iconst 0, 1) := by decide +kernel
theorem dX4_steer_79 : decode cX4_steer 79 = .ok (.iload_n 1, 1) := by decide +kernel
theorem dX4_steer_80 : decode cX4_steer 80 = .ok (.iconst 3, 1) := by decide +kernel
theorem dX4_steer_81 : decode cX4_steer 81 = .ok (.if_icmp .ne 7, 3) := by decide +kernel
theorem dX4_steer_84 : decode cX4_steer 84 = .ok (.iconst 1, 1) := by decide +kernel
theorem dX4_steer_85 : decode cX4_steer 85 = .ok (.goto 4, 3) := by decide +kernel
theorem dX4_steer_88 : decode cX4_steer 88 = .ok (.iconst 0, 1) := by decide +kernel
theorem dX4_steer_89 : decode cX4_steer 89 = .ok (.if_icmp .ne 13, 3) := by decide +kernel
theorem dX4_steer_92 : decode cX4_steer 92 = .ok (.aload_n 0, 1) := by decide +kernel
theorem dX4_steer_93 : decode cX4_steer 93 = .ok (.getfield 46, 3) := by decide +kernel
theorem dX4_steer_96 : decode cX4_steer 96 = .ok (.aload_n 0, 1) := by decide +kernel
theorem dX4_steer_97 : decode cX4_steer 97 = .ok (.getfield 100, 3) := by decide +kernel
theorem dX4_steer_100 : decode cX4_steer 100 = .ok (.iload_n 2, 1) := by decide +kernel
theorem dX4_steer_101 : decode cX4_steer 101 = .ok (.iastore, 1) := by decide +kernel
theorem dX4_steer_102 : decode cX4_steer 102 = .ok (.return_, 1) := by decide +kernel
theorem dX4_giveBack_0 : decode cX4_giveBack 0 = .ok (.aload_n 0, 1) := by decide +kernel
theorem dX4_giveBack_1 : decode cX4_giveBack 1 = .ok (.getfield 38, 3) := by decide +kernel
theorem dX4_giveBack_4 : decode cX4_giveBack 4 = .ok (.aload_n 0, 1) := by decide +kernel
theorem dX4_giveBack_5 : decode cX4_giveBack 5 = .ok (.getfield 100, 3) := by decide +kernel
theorem dX4_giveBack_8 : decode cX4_giveBack 8 = .ok (.aaload, 1) := by decide +kernel
theorem dX4_giveBack_9 : decode cX4_giveBack 9 = .ok (.astore_n 1, 1) := by decide +kernel
theorem dX4_giveBack_10 : decode cX4_giveBack 10 = .ok (.aload_n 0, 1) := by decide +kernel
theorem dX4_giveBack_11 : decode cX4_giveBack 11 = .ok (.getfield 42, 3) := by decide +kernel
theorem dX4_giveBack_14 : decode cX4_giveBack 14 = .ok (.aload_n 0, 1) := by decide +kernel
theorem dX4_giveBack_15 : decode cX4_giveBack 15 = .ok (.getfield 100, 3) := by decide +kernel
theorem dX4_giveBack_18 : decode cX4_giveBack 18 = .ok (.iaload, 1) := by decide +kernel
theorem dX4_giveBack_19 : decode cX4_giveBack 19 = .ok (.istore_n 2, 1) := by decide +kernel
theorem dX4_giveBack_20 : decode cX4_giveBack 20 = .ok (.aload_n 0, 1) := by decide +kernel
theorem dX4_giveBack_21 : decode cX4_giveBack 21 = .ok (.getfield 49, 3) := by decide +kernel
theorem dX4_giveBack_24 : decode cX4_giveBack 24 = .ok (.aload_n 0, 1) := by decide +kernel
theorem dX4_giveBack_25 : decode cX4_giveBack 25 = .ok (.getfield 100, 3) := by decide +kernel
theorem dX4_giveBack_28 : decode cX4_giveBack 28 = .ok (.iaload, 1) := by decide +kernel
theorem dX4_giveBack_29 : decode cX4_giveBack 29 = .ok (.aload_n 1, 1) := by decide +kernel
theorem dX4_giveBack_30 : decode cX4_giveBack 30 = .ok (.iload_n 2, 1) := by decide +kernel
theorem dX4_giveBack_31 : decode cX4_giveBack 31 = .ok (.invokevirtual 261, 3) := by decide +kernel
theorem dX4_giveBack_34 : decode cX4_giveBack 34 = .ok (.if_icmp .eq 16, 3) := by decide +kernel
theorem dX4_giveBack_37 : decode cX4_giveBack 37 = .ok (.aload_n 0, 1) := by decide +kernel
theorem dX4_giveBack_38 : decode cX4_giveBack 38 = .ok (.getfield 12, 3) := by decide +kernel
theorem dX4_giveBack_41 : decode cX4_giveBack 41 = .ok (.dup, 1) := by decide +kernel
theorem dX4_giveBack_42 : decode cX4_giveBack 42 = .ok (.getfield 71, 3) := by decide +kernel
theorem dX4_giveBack_45 : decode cX4_giveBack 45 = .ok (.iconst 1, 1) := by decide +kernel
theorem dX4_giveBack_46 : decode cX4_giveBack 46 = .ok (.iadd, 1) := by decide +kernel
theorem dX4_giveBack_47 : decode cX4_giveBack 47 = .ok (.putfield 71, 3) := by decide +kernel
theorem dX4_giveBack_50 : decode cX4_giveBack 50 = .ok (.iconst 0, 1) := by decide +kernel
theorem dX4_giveBack_51 : decode cX4_giveBack 51 = .ok (.istore_n 3, 1) := by decide +kernel
theorem dX4_giveBack_52 : decode cX4_giveBack 52 = .ok (.iload_n 3, 1) := by decide +kernel
theorem dX4_giveBack_53 : decode cX4_giveBack 53 = .ok (.aload_n 1, 1) := by decide +kernel
theorem dX4_giveBack_54 : decode cX4_giveBack 54 = .ok (.iload_n 2, 1) := by decide +kernel
theorem dX4_giveBack_55 : decode cX4_giveBack 55 = .ok (.invokevirtual 264, 3) := by decide +kernel
theorem dX4_giveBack_58 : decode cX4_giveBack 58 = .ok (.if_icmp .ge 54, 3) := by decide +kernel
theorem dX4_giveBack_61 : decode cX4_giveBack 61 = .ok (.aload_n 0, 1) := by decide +kernel
theorem dX4_giveBack_62 : decode cX4_giveBack 62 = .ok (.getfield 52, 3) := by decide +kernel
theorem dX4_giveBack_65 : decode cX4_giveBack 65 = .ok (.aload_n 0, 1) := by decide +kernel
theorem dX4_giveBack_66 : decode cX4_giveBack 66 = .ok (.getfield 100, 3) := by decide +kernel
theorem dX4_giveBack_69 : decode cX4_giveBack 69 = .ok (.bipush 40, 2) := by decide +kernel
theorem dX4_giveBack_71 : decode cX4_giveBack 71 = .ok (.imul, 1) := by decide +kernel
theorem dX4_giveBack_72 : decode cX4_giveBack 72 = .ok (.iload_n 3, 1) := by decide +kernel
theorem dX4_giveBack_73 : decode cX4_giveBack 73 = .ok (.iadd, 1) := by decide +kernel
theorem dX4_giveBack_74 : decode cX4_giveBack 74 = .ok (.iaload, 1) := by decide +kernel
theorem dX4_giveBack_75 : decode cX4_giveBack 75 = .ok (.ifCond .eq 31, 3) := by decide +kernel
theorem dX4_giveBack_78 : decode cX4_giveBack 78 = .ok (.aload_n 1, 1) := by decide +kernel
theorem dX4_giveBack_79 : decode cX4_giveBack 79 = .ok (.aload_n 1, 1) := by decide +kernel
theorem dX4_giveBack_80 : decode cX4_giveBack 80 = .ok (.iload_n 2, 1) := by decide +kernel
theorem dX4_giveBack_81 : decode cX4_giveBack 81 = .ok (.iload_n 3, 1) := by decide +kernel
theorem dX4_giveBack_82 : decode cX4_giveBack 82 = .ok (.invokevirtual 267, 3) := by decide +kernel
theorem dX4_giveBack_85 : decode cX4_giveBack 85 = .ok (.invokevirtual 270, 3) := by decide +kernel
theorem dX4_giveBack_88 : decode cX4_giveBack 88 = .ok (.iconst 2, 1) := by decide +kernel
theorem dX4_giveBack_89 : decode cX4_giveBack 89 = .ok (.iand, 1) := by decide +kernel
theorem dX4_giveBack_90 : decode cX4_giveBack 90 = .ok (.ifCond .ne 16, 3) := by decide +kernel
theorem dX4_giveBack_93 : decode cX4_giveBack 93 = .ok (.aload_n 0, 1) := by decide +kernel
theorem dX4_giveBack_94 : decode cX4_giveBack 94 = .ok (.getfield 12, 3) := by decide +kernel
theorem dX4_giveBack_97 : decode cX4_giveBack 97 = .ok (.dup, 1) := by decide +kernel
theorem dX4_giveBack_98 : decode cX4_giveBack 98 = .ok (.getfield 71, 3) := by decide +kernel
theorem dX4_giveBack_101 : decode cX4_giveBack 101 = .ok (.iconst 1, 1) := by decide +kernel
theorem dX4_giveBack_102 : decode cX4_giveBack 102 = .ok (.iadd, 1) := by decide +kernel
theorem dX4_giveBack_103 : decode cX4_giveBack 103 = .ok (.putfield 71, 3) := by decide +kernel
theorem dX4_giveBack_106 : decode cX4_giveBack 106 = .ok (.iinc 3 1, 3) := by decide +kernel
theorem dX4_giveBack_109 : decode cX4_giveBack 109 = .ok (.goto (-57), 3) := by decide +kernel
theorem dX4_giveBack_112 : decode cX4_giveBack 112 = .ok (.aload_n 0, 1) := by decide +kernel
theorem dX4_giveBack_113 : decode cX4_giveBack 113 = .ok (.getfield 100, 3) := by decide +kernel
theorem dX4_giveBack_116 : decode cX4_giveBack 116 = .ok (.ifCond .ne 9, 3) := by decide +kernel
theorem dX4_giveBack_119 : decode cX4_giveBack 119 = .ok (.aload_n 0, 1) := by decide +kernel
theorem dX4_giveBack_120 : decode cX4_giveBack 120 = .ok (.iconst 0, 1) := by decide +kernel
theorem dX4_giveBack_121 : decode cX4_giveBack 121 = .ok (.putfield 82, 3) := by decide +kernel
theorem dX4_giveBack_124 : decode cX4_giveBack 124 = .ok (.return_, 1) := by decide +kernel
theorem dX4_giveBack_125 : decode cX4_giveBack 125 = .ok (.aload_n 0, 1) := by decide +kernel
theorem dX4_giveBack_126 : decode cX4_giveBack 126 = .ok (.getfield 49, 3) := by decide +kernel
theorem dX4_giveBack_129 : decode cX4_giveBack 129 = .ok (.aload_n 0, 1) := by decide +kernel
theorem dX4_giveBack_130 : decode cX4_giveBack 130 = .ok (.getfield 100, 3) := by decide +kernel
theorem dX4_giveBack_133 : decode cX4_giveBack 133 = .ok (.iaload, 1) := by decide +kernel
theorem dX4_giveBack_134 : decode cX4_giveBack 134 = .ok (.istore_n 3, 1) := by decide +kernel
theorem dX4_giveBack_135 : decode cX4_giveBack 135 = .ok (.aload_n 0, 1) := by decide +kernel
theorem dX4_giveBack_136 : decode cX4_giveBack 136 = .ok (.getfield 100, 3) := by decide +kernel
theorem dX4_giveBack_139 : decode cX4_giveBack 139 = .ok (.bipush 64, 2) := by decide +kernel
theorem dX4_giveBack_141 : decode cX4_giveBack 141 = .ok (.imul, 1) := by decide +kernel
theorem dX4_giveBack_142 : decode cX4_giveBack 142 = .ok (.istore 4, 2) := by decide +kernel
theorem dX4_giveBack_144 : decode cX4_giveBack 144 = .ok (.aload_n 0, 1) := by decide +kernel
theorem dX4_giveBack_145 : decode cX4_giveBack 145 = .ok (.dup, 1) := by decide +kernel
theorem dX4_giveBack_146 : decode cX4_giveBack 146 = .ok (.getfield 100, 3) := by decide +kernel
theorem dX4_giveBack_149 : decode cX4_giveBack 149 = .ok (.iconst 1, 1) := by decide +kernel
theorem dX4_giveBack_150 : decode cX4_giveBack 150 = .ok (.isub, 1) := by decide +kernel
theorem dX4_giveBack_151 : decode cX4_giveBack 151 = .ok (.putfield 100, 3) := by decide +kernel
theorem dX4_giveBack_154 : decode cX4_giveBack 154 = .ok (.iconst 0, 1) := by decide +kernel
theorem dX4_giveBack_155 : decode cX4_giveBack 155 = .ok (.istore 5, 2) := by decide +kernel
theorem dX4_giveBack_157 : decode cX4_giveBack 157 = .ok (.iload 5, 2) := by decide +kernel
theorem dX4_giveBack_159 : decode cX4_giveBack 159 = .ok (.iload_n 3, 1) := by decide +kernel
theorem dX4_giveBack_160 : decode cX4_giveBack 160 = .ok (.if_icmp .ge 23, 3) := by decide +kernel
theorem dX4_giveBack_163 : decode cX4_giveBack 163 = .ok (.aload_n 0, 1) := by decide +kernel
theorem dX4_giveBack_164 : decode cX4_giveBack 164 = .ok (.aload_n 0, 1) := by decide +kernel
theorem dX4_giveBack_165 : decode cX4_giveBack 165 = .ok (.getfield 55, 3) := by decide +kernel
theorem dX4_giveBack_168 : decode cX4_giveBack 168 = .ok (.iload 4, 2) := by decide +kernel
theorem dX4_giveBack_170 : decode cX4_giveBack 170 = .ok (.iload 5, 2) := by decide +kernel
theorem dX4_giveBack_172 : decode cX4_giveBack 172 = .ok (.iadd, 1) := by decide +kernel
theorem dX4_giveBack_173 : decode cX4_giveBack 173 = .ok (.iaload, 1) := by decide +kernel
theorem dX4_giveBack_174 : decode cX4_giveBack 174 = .ok (.invokevirtual 185, 3) := by decide +kernel
theorem dX4_giveBack_177 : decode cX4_giveBack 177 = .ok (.iinc 5 1, 3) := by decide +kernel
theorem dX4_giveBack_180 : decode cX4_giveBack 180 = .ok (.goto (-23), 3) := by decide +kernel
theorem dX4_giveBack_183 : decode cX4_giveBack 183 = .ok (.return_, 1) := by decide +kernel
theorem dX4_set_0 : decode cX4_set 0 = .ok (.iload_n 1, 1) := by decide +kernel
theorem dX4_set_1 : decode cX4_set 1 = .ok (.lookupswitch 169 #[(5, 67), (6, 82), (7, 98), (8, 123), (9, 123), (10, 137), (46, 153)], 67) := by decide +kernel
theorem dX4_set_68 : decode cX4_set 68 = .ok (.aload_n 0, 1) := by decide +kernel
theorem dX4_set_69 : decode cX4_set 69 = .ok (.iconst 2, 1) := by decide +kernel
theorem dX4_set_70 : decode cX4_set 70 = .ok (.lconst 0, 1) := by decide +kernel
theorem dX4_set_71 : decode cX4_set 71 = .ok (.aload_n 2, 1) := by decide +kernel
theorem dX4_set_72 : decode cX4_set 72 = .ok (.iload_n 3, 1) := by decide +kernel
theorem dX4_set_73 : decode cX4_set 73 = .ok (.invokevirtual 196, 3) := by decide +kernel
theorem dX4_set_76 : decode cX4_set 76 = .ok (.i2l, 1) := by decide +kernel
theorem dX4_set_77 : decode cX4_set 77 = .ok (.invokevirtual 274, 3) := by decide +kernel
theorem dX4_set_80 : decode cX4_set 80 = .ok (.goto 90, 3) := by decide +kernel
theorem dX4_set_83 : decode cX4_set 83 = .ok (.aload_n 0, 1) := by decide +kernel
theorem dX4_set_84 : decode cX4_set 84 = .ok (.iconst 3, 1) := by decide +kernel
theorem dX4_set_85 : decode cX4_set 85 = .ok (.lconst 0, 1) := by decide +kernel
theorem dX4_set_86 : decode cX4_set 86 = .ok (.aload_n 2, 1) := by decide +kernel
theorem dX4_set_87 : decode cX4_set 87 = .ok (.iload_n 3, 1) := by decide +kernel
theorem dX4_set_88 : decode cX4_set 88 = .ok (.bipush 8, 2) := by decide +kernel
theorem dX4_set_90 : decode cX4_set 90 = .ok (.invokevirtual 203, 3) := by decide +kernel
theorem dX4_set_93 : decode cX4_set 93 = .ok (.invokevirtual 274, 3) := by decide +kernel
theorem dX4_set_96 : decode cX4_set 96 = .ok (.goto 74, 3) := by decide +kernel
theorem dX4_set_99 : decode cX4_set 99 = .ok (.aload_n 0, 1) := by decide +kernel
theorem dX4_set_100 : decode cX4_set 100 = .ok (.iconst 4, 1) := by decide +kernel
theorem dX4_set_101 : decode cX4_set 101 = .ok (.aload_n 2, 1) := by decide +kernel
theorem dX4_set_102 : decode cX4_set 102 = .ok (.iload_n 3, 1) := by decide +kernel
theorem dX4_set_103 : decode cX4_set 103 = .ok (.bipush 8, 2) := by decide +kernel
theorem dX4_set_105 : decode cX4_set 105 = .ok (.invokevirtual 203, 3) := by decide +kernel
theorem dX4_set_108 : decode cX4_set 108 = .ok (.aload_n 2, 1) := by decide +kernel
theorem dX4_set_109 : decode cX4_set 109 = .ok (.iload_n 3, 1) := by decide +kernel
theorem dX4_set_110 : decode cX4_set 110 = .ok (.bipush 8, 2) := by decide +kernel
theorem dX4_set_112 : decode cX4_set 112 = .ok (.iadd, 1) := by decide +kernel
theorem dX4_set_113 : decode cX4_set 113 = .ok (.bipush 8, 2) := by decide +kernel
theorem dX4_set_115 : decode cX4_set 115 = .ok (.invokevirtual 203, 3) := by decide +kernel
theorem dX4_set_118 : decode cX4_set 118 = .ok (.invokevirtual 274, 3) := by decide +kernel
theorem dX4_set_121 : decode cX4_set 121 = .ok (.goto 49, 3) := by decide +kernel
theorem dX4_set_124 : decode cX4_set 124 = .ok (.aload_n 0, 1) := by decide +kernel
theorem dX4_set_125 : decode cX4_set 125 = .ok (.iconst 1, 1) := by decide +kernel
theorem dX4_set_126 : decode cX4_set 126 = .ok (.lconst 0, 1) := by decide +kernel
theorem dX4_set_127 : decode cX4_set 127 = .ok (.bipush 9, 2) := by decide +kernel
theorem dX4_set_129 : decode cX4_set 129 = .ok (.iload_n 1, 1) := by decide +kernel
theorem dX4_set_130 : decode cX4_set 130 = .ok (.isub, 1) := by decide +kernel
theorem dX4_set_131 : decode cX4_set 131 = .ok (.i2l, 1) := by decide +kernel
theorem dX4_set_132 : decode cX4_set 132 = .ok (.invokevirtual 274, 3) := by decide +kernel
theorem dX4_set_135 : decode cX4_set 135 = .ok (.goto 35, 3) := by decide +kernel
theorem dX4_set_138 : decode cX4_set 138 = .ok (.aload_n 0, 1) := by decide +kernel
theorem dX4_set_139 : decode cX4_set 139 = .ok (.iconst 5, 1) := by decide +kernel
theorem dX4_set_140 : decode cX4_set 140 = .ok (.lconst 0, 1) := by decide +kernel
theorem dX4_set_141 : decode cX4_set 141 = .ok (.aload_n 2, 1) := by decide +kernel
theorem dX4_set_142 : decode cX4_set 142 = .ok (.iload_n 3, 1) := by decide +kernel
theorem dX4_set_143 : decode cX4_set 143 = .ok (.bipush 8, 2) := by decide +kernel
theorem dX4_set_145 : decode cX4_set 145 = .ok (.invokevirtual 203, 3) := by decide +kernel
theorem dX4_set_148 : decode cX4_set 148 = .ok (.invokevirtual 274, 3) := by decide +kernel
theorem dX4_set_151 : decode cX4_set 151 = .ok (.goto 19, 3) := by decide +kernel
theorem dX4_set_154 : decode cX4_set 154 = .ok (.aload_n 0, 1) := by decide +kernel
theorem dX4_set_155 : decode cX4_set 155 = .ok (.iconst 5, 1) := by decide +kernel
theorem dX4_set_156 : decode cX4_set 156 = .ok (.lconst 0, 1) := by decide +kernel
theorem dX4_set_157 : decode cX4_set 157 = .ok (.aload_n 0, 1) := by decide +kernel
theorem dX4_set_158 : decode cX4_set 158 = .ok (.getfield 75, 3) := by decide +kernel
theorem dX4_set_161 : decode cX4_set 161 = .ok (.getfield 277, 3) := by decide +kernel
theorem dX4_set_164 : decode cX4_set 164 = .ok (.invokevirtual 274, 3) := by decide +kernel
theorem dX4_set_167 : decode cX4_set 167 = .ok (.goto 3, 3) := by decide +kernel
theorem dX4_set_170 : decode cX4_set 170 = .ok (.return_, 1) := by decide +kernel
theorem dX4_useLocal_0 : decode cX4_useLocal 0 = .ok (.iload_n 1, 1) := by decide +kernel
theorem dX4_useLocal_1 : decode cX4_useLocal 1 = .ok (.bipush 13, 2) := by decide +kernel
theorem dX4_useLocal_3 : decode cX4_useLocal 3 = .ok (.if_icmp .ne 14, 3) := by decide +kernel
theorem dX4_useLocal_6 : decode cX4_useLocal 6 = .ok (.aload_n 0, 1) := by decide +kernel
theorem dX4_useLocal_7 : decode cX4_useLocal 7 = .ok (.getfield 52, 3) := by decide +kernel
theorem dX4_useLocal_10 : decode cX4_useLocal 10 = .ok (.iload_n 2, 1) := by decide +kernel
theorem dX4_useLocal_11 : decode cX4_useLocal 11 = .ok (.aload_n 0, 1) := by decide +kernel
theorem dX4_useLocal_12 : decode cX4_useLocal 12 = .ok (.invokevirtual 181, 3) := by decide +kernel
theorem dX4_useLocal_15 : decode cX4_useLocal 15 = .ok (.iastore, 1) := by decide +kernel
theorem dX4_useLocal_16 : decode cX4_useLocal 16 = .ok (.return_, 1) := by decide +kernel
theorem dX4_useLocal_17 : decode cX4_useLocal 17 = .ok (.aload_n 0, 1) := by decide +kernel
theorem dX4_useLocal_18 : decode cX4_useLocal 18 = .ok (.getfield 52, 3) := by decide +kernel
theorem dX4_useLocal_21 : decode cX4_useLocal 21 = .ok (.iload_n 2, 1) := by decide +kernel
theorem dX4_useLocal_22 : decode cX4_useLocal 22 = .ok (.iaload, 1) := by decide +kernel
theorem dX4_useLocal_23 : decode cX4_useLocal 23 = .ok (.istore_n 3, 1) := by decide +kernel
theorem dX4_useLocal_24 : decode cX4_useLocal 24 = .ok (.iload_n 3, 1) := by decide +kernel
theorem dX4_useLocal_25 : decode cX4_useLocal 25 = .ok (.ifCond .ne 16, 3) := by decide +kernel
theorem dX4_useLocal_28 : decode cX4_useLocal 28 = .ok (.aload_n 0, 1) := by decide +kernel
theorem dX4_useLocal_29 : decode cX4_useLocal 29 = .ok (.getfield 12, 3) := by decide +kernel
theorem dX4_useLocal_32 : decode cX4_useLocal 32 = .ok (.dup, 1) := by decide +kernel
theorem dX4_useLocal_33 : decode cX4_useLocal 33 = .ok (.getfield 71, 3) := by decide +kernel
theorem dX4_useLocal_36 : decode cX4_useLocal 36 = .ok (.iconst 1, 1) := by decide +kernel
theorem dX4_useLocal_37 : decode cX4_useLocal 37 = .ok (.iadd, 1) := by decide +kernel
theorem dX4_useLocal_38 : decode cX4_useLocal 38 = .ok (.putfield 71, 3) := by decide +kernel
theorem dX4_useLocal_41 : decode cX4_useLocal 41 = .ok (.iload_n 1, 1) := by decide +kernel
theorem dX4_useLocal_42 : decode cX4_useLocal 42 = .ok (.bipush 11, 2) := by decide +kernel
theorem dX4_useLocal_44 : decode cX4_useLocal 44 = .ok (.if_icmp .ne 11, 3) := by decide +kernel
theorem dX4_useLocal_47 : decode cX4_useLocal 47 = .ok (.aload_n 0, 1) := by decide +kernel
theorem dX4_useLocal_48 : decode cX4_useLocal 48 = .ok (.iload_n 3, 1) := by decide +kernel
theorem dX4_useLocal_49 : decode cX4_useLocal 49 = .ok (.invokevirtual 280, 3) := by decide +kernel
theorem dX4_useLocal_52 : decode cX4_useLocal 52 = .ok (.goto 33, 3) := by decide +kernel
theorem dX4_useLocal_55 : decode cX4_useLocal 55 = .ok (.iload_n 1, 1) := by decide +kernel
theorem dX4_useLocal_56 : decode cX4_useLocal 56 = .ok (.bipush 12, 2) := by decide +kernel
theorem dX4_useLocal_58 : decode cX4_useLocal 58 = .ok (.if_icmp .ne 18, 3) := by decide +kernel
theorem dX4_useLocal_61 : decode cX4_useLocal 61 = .ok (.aload_n 0, 1) := by decide +kernel
theorem dX4_useLocal_62 : decode cX4_useLocal 62 = .ok (.getfield 52, 3) := by decide +kernel
theorem dX4_useLocal_65 : decode cX4_useLocal 65 = .ok (.iload_n 2, 1) := by decide +kernel
theorem dX4_useLocal_66 : decode cX4_useLocal 66 = .ok (.iconst 0, 1) := by decide +kernel
theorem dX4_useLocal_67 : decode cX4_useLocal 67 = .ok (.iastore, 1) := by decide +kernel
theorem dX4_useLocal_68 : decode cX4_useLocal 68 = .ok (.aload_n 0, 1) := by decide +kernel
theorem dX4_useLocal_69 : decode cX4_useLocal 69 = .ok (.iload_n 3, 1) := by decide +kernel
theorem dX4_useLocal_70 : decode cX4_useLocal 70 = .ok (.invokevirtual 185, 3) := by decide +kernel
theorem dX4_useLocal_73 : decode cX4_useLocal 73 = .ok (.goto 12, 3) := by decide +kernel
theorem dX4_useLocal_76 : decode cX4_useLocal 76 = .ok (.aload_n 0, 1) := by decide +kernel
theorem dX4_useLocal_77 : decode cX4_useLocal 77 = .ok (.bipush 8, 2) := by decide +kernel
theorem dX4_useLocal_79 : decode cX4_useLocal 79 = .ok (.lconst 0, 1) := by decide +kernel
theorem dX4_useLocal_80 : decode cX4_useLocal 80 = .ok (.iload_n 3, 1) := by decide +kernel
theorem dX4_useLocal_81 : decode cX4_useLocal 81 = .ok (.i2l, 1) := by decide +kernel
theorem dX4_useLocal_82 : decode cX4_useLocal 82 = .ok (.invokevirtual 274, 3) := by decide +kernel
theorem dX4_useLocal_85 : decode cX4_useLocal 85 = .ok (.return_, 1) := by decide +kernel
theorem dX4_pushCopy_0 : decode cX4_pushCopy 0 = .ok (.aload_n 0, 1) := by decide +kernel
theorem dX4_pushCopy_1 : decode cX4_pushCopy 1 = .ok (.aload_n 0, 1) := by decide +kernel
theorem dX4_pushCopy_2 : decode cX4_pushCopy 2 = .ok (.getfield 12, 3) := by decide +kernel
theorem dX4_pushCopy_5 : decode cX4_pushCopy 5 = .ok (.iload_n 1, 1) := by decide +kernel
theorem dX4_pushCopy_6 : decode cX4_pushCopy 6 = .ok (.invokevirtual 283, 3) := by decide +kernel
theorem dX4_pushCopy_9 : decode cX4_pushCopy 9 = .ok (.invokevirtual 199, 3) := by decide +kernel
theorem dX4_pushCopy_12 : decode cX4_pushCopy 12 = .ok (.ifCond .eq 15, 3) := by decide +kernel
theorem dX4_pushCopy_15 : decode cX4_pushCopy 15 = .ok (.aload_n 0, 1) := by decide +kernel
theorem dX4_pushCopy_16 : decode cX4_pushCopy 16 = .ok (.aload_n 0, 1) := by decide +kernel
theorem dX4_pushCopy_17 : decode cX4_pushCopy 17 = .ok (.getfield 12, 3) := by decide +kernel
theorem dX4_pushCopy_20 : decode cX4_pushCopy 20 = .ok (.iload_n 1, 1) := by decide +kernel
theorem dX4_pushCopy_21 : decode cX4_pushCopy 21 = .ok (.invokevirtual 286, 3) := by decide +kernel
theorem dX4_pushCopy_24 : decode cX4_pushCopy 24 = .ok (.invokevirtual 185, 3) := by decide +kernel
theorem dX4_pushCopy_27 : decode cX4_pushCopy 27 = .ok (.return_, 1) := by decide +kernel
theorem dX4_refer_0 : decode cX4_refer 0 = .ok (.iload_n 1, 1) := by decide +kernel
theorem dX4_refer_1 : decode cX4_refer 1 = .ok (.bipush 20, 2) := by decide +kernel
theorem dX4_refer_3 : decode cX4_refer 3 = .ok (.if_icmp .ne 4, 3) := by decide +kernel
theorem dX4_refer_6 : decode cX4_refer 6 = .ok (.return_, 1) := by decide +kernel
theorem dX4_refer_7 : decode cX4_refer 7 = .ok (.aload_n 0, 1) := by decide +kernel
theorem dX4_refer_8 : decode cX4_refer 8 = .ok (.invokevirtual 181, 3) := by decide +kernel
theorem dX4_refer_11 : decode cX4_refer 11 = .ok (.istore_n 3, 1) := by decide +kernel
theorem dX4_refer_12 : decode cX4_refer 12 = .ok (.aload_n 0, 1) := by decide +kernel
theorem dX4_refer_13 : decode cX4_refer 13 = .ok (.iload_n 3, 1) := by decide +kernel
theorem dX4_refer_14 : decode cX4_refer 14 = .ok (.invokevirtual 289, 3) := by decide +kernel
theorem dX4_refer_17 : decode cX4_refer 17 = .ok (.istore 4, 2) := by decide +kernel
theorem dX4_refer_19 : decode cX4_refer 19 = .ok (.iload_n 1, 1) := by decide +kernel
theorem dX4_refer_20 : decode cX4_refer 20 = .ok (.bipush 17, 2) := by decide +kernel
theorem dX4_refer_22 : decode cX4_refer 22 = .ok (.if_icmp .gt 32, 3) := by decide +kernel
theorem dX4_refer_25 : decode cX4_refer 25 = .ok (.aload_n 0, 1) := by decide +kernel
theorem dX4_refer_26 : decode cX4_refer 26 = .ok (.getfield 12, 3) := by decide +kernel
theorem dX4_refer_29 : decode cX4_refer 29 = .ok (.getfield 163, 3) := by decide +kernel
theorem dX4_refer_32 : decode cX4_refer 32 = .ok (.iload_n 3, 1) := by decide +kernel
theorem dX4_refer_33 : decode cX4_refer 33 = .ok (.aload_n 0, 1) := by decide +kernel
theorem dX4_refer_34 : decode cX4_refer 34 = .ok (.getfield 12, 3) := by decide +kernel
theorem dX4_refer_37 : decode cX4_refer 37 = .ok (.iload 4, 2) := by decide +kernel
theorem dX4_refer_39 : decode cX4_refer 39 = .ok (.iload_n 2, 1) := by decide +kernel
theorem dX4_refer_40 : decode cX4_refer 40 = .ok (.i2l, 1) := by decide +kernel
theorem dX4_refer_41 : decode cX4_refer 41 = .ok (.invokevirtual 292, 3) := by decide +kernel
theorem dX4_refer_44 : decode cX4_refer 44 = .ok (.i2l, 1) := by decide +kernel
theorem dX4_refer_45 : decode cX4_refer 45 = .ok (.lastore, 1) := by decide +kernel
theorem dX4_refer_46 : decode cX4_refer 46 = .ok (.aload_n 0, 1) := by decide +kernel
theorem dX4_refer_47 : decode cX4_refer 47 = .ok (.iload_n 3, 1) := by decide +kernel
theorem dX4_refer_48 : decode cX4_refer 48 = .ok (.invokevirtual 185, 3) := by decide +kernel
theorem dX4_refer_51 : decode cX4_refer 51 = .ok (.goto 31, 3) := by decide +kernel
theorem dX4_refer_54 : decode cX4_refer 54 = .ok (.iload_n 1, 1) := by decide +kernel
theorem dX4_refer_55 : decode cX4_refer 55 = .ok (.bipush 18, 2) := by decide +kernel
theorem dX4_refer_57 : decode cX4_refer 57 = .ok (.if_icmp .ne 12, 3) := by decide +kernel
theorem dX4_refer_60 : decode cX4_refer 60 = .ok (.aload_n 0, 1) := by decide +kernel
theorem dX4_refer_61 : decode cX4_refer 61 = .ok (.iload 4, 2) := by decide +kernel
theorem dX4_refer_63 : decode cX4_refer 63 = .ok (.invokevirtual 280, 3) := by decide +kernel
theorem dX4_refer_66 : decode cX4_refer 66 = .ok (.goto 16, 3) := by decide +kernel
theorem dX4_refer_69 : decode cX4_refer 69 = .ok (.aload_n 0, 1) := by decide +kernel
theorem dX4_refer_70 : decode cX4_refer 70 = .ok (.getfield 12, 3) := by decide +kernel
theorem dX4_refer_73 : decode cX4_refer 73 = .ok (.iload 4, 2) := by decide +kernel
theorem dX4_refer_75 : decode cX4_refer 75 = .ok (.aload_n 0, 1) := by decide +kernel
theorem dX4_refer_76 : decode cX4_refer 76 = .ok (.invokevirtual 181, 3) := by decide +kernel
theorem dX4_refer_79 : decode cX4_refer 79 = .ok (.invokevirtual 296, 3) := by decide +kernel
theorem dX4_refer_82 : decode cX4_refer 82 = .ok (.return_, 1) := by decide +kernel
theorem dX4_gather_0 : decode cX4_gather 0 = .ok (.aload_n 0, 1) := by decide +kernel
theorem dX4_gather_1 : decode cX4_gather 1 = .ok (.getfield 49, 3) := by decide +kernel
theorem dX4_gather_4 : decode cX4_gather 4 = .ok (.aload_n 0, 1) := by decide +kernel
theorem dX4_gather_5 : decode cX4_gather 5 = .ok (.getfield 100, 3) := by decide +kernel
theorem dX4_gather_8 : decode cX4_gather 8 = .ok (.iaload, 1) := by decide +kernel
theorem dX4_gather_9 : decode cX4_gather 9 = .ok (.iload_n 2, 1) := by decide +kernel
theorem dX4_gather_10 : decode cX4_gather 10 = .ok (.isub, 1) := by decide +kernel
theorem dX4_gather_11 : decode cX4_gather 11 = .ok (.istore_n 3, 1) := by decide +kernel
theorem dX4_gather_12 : decode cX4_gather 12 = .ok (.iload_n 3, 1) := by decide +kernel
theorem dX4_gather_13 : decode cX4_gather 13 = .ok (.ifCond .ge 17, 3) := by decide +kernel
theorem dX4_gather_16 : decode cX4_gather 16 = .ok (.aload_n 0, 1) := by decide +kernel
theorem dX4_gather_17 : decode cX4_gather 17 = .ok (.getfield 12, 3) := by decide +kernel
theorem dX4_gather_20 : decode cX4_gather 20 = .ok (.dup, 1) := by decide +kernel
theorem dX4_gather_21 : decode cX4_gather 21 = .ok (.getfield 71, 3) := by decide +kernel
theorem dX4_gather_24 : decode cX4_gather 24 = .ok (.iconst 1, 1) := by decide +kernel
theorem dX4_gather_25 : decode cX4_gather 25 = .ok (.iadd, 1) := by decide +kernel
theorem dX4_gather_26 : decode cX4_gather 26 = .ok (.putfield 71, 3) := by decide +kernel
theorem dX4_gather_29 : decode cX4_gather 29 = .ok (.return_, 1) := by decide +kernel
theorem dX4_gather_30 : decode cX4_gather 30 = .ok (.aload_n 0, 1) := by decide +kernel
theorem dX4_gather_31 : decode cX4_gather 31 = .ok (.getfield 12, 3) := by decide +kernel
theorem dX4_gather_34 : decode cX4_gather 34 = .ok (.iload_n 1, 1) := by decide +kernel
theorem dX4_gather_35 : decode cX4_gather 35 = .ok (.lconst 0, 1) := by decide +kernel
theorem dX4_gather_36 : decode cX4_gather 36 = .ok (.lconst 0, 1) := by decide +kernel
theorem dX4_gather_37 : decode cX4_gather 37 = .ok (.invokevirtual 134, 3) := by decide +kernel
theorem dX4_gather_40 : decode cX4_gather 40 = .ok (.istore 4, 2) := by decide +kernel
theorem dX4_gather_42 : decode cX4_gather 42 = .ok (.iload_n 3, 1) := by decide +kernel
theorem dX4_gather_43 : decode cX4_gather 43 = .ok (.istore 5, 2) := by decide +kernel
theorem dX4_gather_45 : decode cX4_gather 45 = .ok (.iload 5, 2) := by decide +kernel
theorem dX4_gather_47 : decode cX4_gather 47 = .ok (.iload_n 3, 1) := by decide +kernel
theorem dX4_gather_48 : decode cX4_gather 48 = .ok (.iload_n 2, 1) := by decide +kernel
theorem dX4_gather_49 : decode cX4_gather 49 = .ok (.iadd, 1) := by decide +kernel
theorem dX4_gather_50 : decode cX4_gather 50 = .ok (.if_icmp .ge 33, 3) := by decide +kernel
theorem dX4_gather_53 : decode cX4_gather 53 = .ok (.aload_n 0, 1) := by decide +kernel
theorem dX4_gather_54 : decode cX4_gather 54 = .ok (.getfield 12, 3) := by decide +kernel
theorem dX4_gather_57 : decode cX4_gather 57 = .ok (.iload 4, 2) := by decide +kernel
theorem dX4_gather_59 : decode cX4_gather 59 = .ok (.aload_n 0, 1) := by decide +kernel
theorem dX4_gather_60 : decode cX4_gather 60 = .ok (.getfield 55, 3) := by decide +kernel
theorem dX4_gather_63 : decode cX4_gather 63 = .ok (.aload_n 0, 1) := by decide +kernel
theorem dX4_gather_64 : decode cX4_gather 64 = .ok (.getfield 100, 3) := by decide +kernel
theorem dX4_gather_67 : decode cX4_gather 67 = .ok (.bipush 64, 2) := by decide +kernel
theorem dX4_gather_69 : decode cX4_gather 69 = .ok (.imul, 1) := by decide +kernel
theorem dX4_gather_70 : decode cX4_gather 70 = .ok (.iload 5, 2) := by decide +kernel
theorem dX4_gather_72 : decode cX4_gather 72 = .ok (.iadd, 1) := by decide +kernel
theorem dX4_gather_73 : decode cX4_gather 73 = .ok (.iaload, 1) := by decide +kernel
theorem dX4_gather_74 : decode cX4_gather 74 = .ok (.invokevirtual 299, 3) := by decide +kernel
theorem dX4_gather_77 : decode cX4_gather 77 = .ok (.iinc 5 1, 3) := by decide +kernel
theorem dX4_gather_80 : decode cX4_gather 80 = .ok (.goto (-35), 3) := by decide +kernel
theorem dX4_gather_83 : decode cX4_gather 83 = .ok (.aload_n 0, 1) := by decide +kernel
theorem dX4_gather_84 : decode cX4_gather 84 = .ok (.getfield 49, 3) := by decide +kernel
theorem dX4_gather_87 : decode cX4_gather 87 = .ok (.aload_n 0, 1) := by decide +kernel
theorem dX4_gather_88 : decode cX4_gather 88 = .ok (.getfield 100, 3) := by decide +kernel
theorem dX4_gather_91 : decode cX4_gather 91 = .ok (.iload_n 3, 1) := by decide +kernel
theorem dX4_gather_92 : decode cX4_gather 92 = .ok (.iastore, 1) := by decide +kernel
theorem dX4_gather_93 : decode cX4_gather 93 = .ok (.aload_n 0, 1) := by decide +kernel
theorem dX4_gather_94 : decode cX4_gather 94 = .ok (.iload 4, 2) := by decide +kernel
theorem dX4_gather_96 : decode cX4_gather 96 = .ok (.invokevirtual 185, 3) := by decide +kernel
theorem dX4_gather_99 : decode cX4_gather 99 = .ok (.return_, 1) := by decide +kernel
theorem dX4_scatter_0 : decode cX4_scatter 0 = .ok (.aload_n 0, 1) := by decide +kernel
theorem dX4_scatter_1 : decode cX4_scatter 1 = .ok (.bipush 6, 2) := by decide +kernel
theorem dX4_scatter_3 : decode cX4_scatter 3 = .ok (.invokevirtual 258, 3) := by decide +kernel
theorem dX4_scatter_6 : decode cX4_scatter 6 = .ok (.istore_n 2, 1) := by decide +kernel
theorem dX4_scatter_7 : decode cX4_scatter 7 = .ok (.aload_n 0, 1) := by decide +kernel
theorem dX4_scatter_8 : decode cX4_scatter 8 = .ok (.getfield 49, 3) := by decide +kernel
theorem dX4_scatter_11 : decode cX4_scatter 11 = .ok (.aload_n 0, 1) := by decide +kernel
theorem dX4_scatter_12 : decode cX4_scatter 12 = .ok (.getfield 100, 3) := by decide +kernel
theorem dX4_scatter_15 : decode cX4_scatter 15 = .ok (.iaload, 1) := by decide +kernel
theorem dX4_scatter_16 : decode cX4_scatter 16 = .ok (.istore_n 3, 1) := by decide +kernel
theorem dX4_scatter_17 : decode cX4_scatter 17 = .ok (.iload_n 3, 1) := by decide +kernel
theorem dX4_scatter_18 : decode cX4_scatter 18 = .ok (.iload_n 1, 1) := by decide +kernel
theorem dX4_scatter_19 : decode cX4_scatter 19 = .ok (.iadd, 1) := by decide +kernel
theorem dX4_scatter_20 : decode cX4_scatter 20 = .ok (.bipush 64, 2) := by decide +kernel
theorem dX4_scatter_22 : decode cX4_scatter 22 = .ok (.if_icmp .gt 18, 3) := by decide +kernel
theorem dX4_scatter_25 : decode cX4_scatter 25 = .ok (.aload_n 0, 1) := by decide +kernel
theorem dX4_scatter_26 : decode cX4_scatter 26 = .ok (.getfield 12, 3) := by decide +kernel
theorem dX4_scatter_29 : decode cX4_scatter 29 = .ok (.getfield 160, 3) := by decide +kernel
theorem dX4_scatter_32 : decode cX4_scatter 32 = .ok (.iload_n 2, 1) := by decide +kernel
theorem dX4_scatter_33 : decode cX4_scatter 33 = .ok (.laload, 1) := by decide +kernel
theorem dX4_scatter_34 : decode cX4_scatter 34 = .ok (.iload_n 1, 1) := by decide +kernel
theorem dX4_scatter_35 : decode cX4_scatter 35 = .ok (.i2l, 1) := by decide +kernel
theorem dX4_scatter_36 : decode cX4_scatter 36 = .ok (.lcmp, 1) := by decide +kernel
theorem dX4_scatter_37 : decode cX4_scatter 37 = .ok (.ifCond .eq 17, 3) := by decide +kernel
theorem dX4_scatter_40 : decode cX4_scatter 40 = .ok (.aload_n 0, 1) := by decide +kernel
theorem dX4_scatter_41 : decode cX4_scatter 41 = .ok (.getfield 12, 3) := by decide +kernel
theorem dX4_scatter_44 : decode cX4_scatter 44 = .ok (.dup, 1) := by decide +kernel
theorem dX4_scatter_45 : decode cX4_scatter 45 = .ok (.getfield 71, 3) := by decide +kernel
theorem dX4_scatter_48 : decode cX4_scatter 48 = .ok (.iconst 1, 1) := by decide +kernel
theorem dX4_scatter_49 : decode cX4_scatter 49 = .ok (.iadd, 1) := by decide +kernel
theorem dX4_scatter_50 : decode cX4_scatter 50 = .ok (.putfield 71, 3) := by decide +kernel
theorem dX4_scatter_53 : decode cX4_scatter 53 = .ok (.return_, 1) := by decide +kernel
theorem dX4_scatter_54 : decode cX4_scatter 54 = .ok (.iload_n 1, 1) := by decide +kernel
theorem dX4_scatter_55 : decode cX4_scatter 55 = .ok (.iconst 1, 1) := by decide +kernel
theorem dX4_scatter_56 : decode cX4_scatter 56 = .ok (.isub, 1) := by decide +kernel
theorem dX4_scatter_57 : decode cX4_scatter 57 = .ok (.istore 4, 2) := by decide +kernel
theorem dX4_scatter_59 : decode cX4_scatter 59 = .ok (.iload 4, 2) := by decide +kernel
theorem dX4_scatter_61 : decode cX4_scatter 61 = .ok (.ifCond .lt 34, 3) := by decide +kernel
theorem dX4_scatter_64 : decode cX4_scatter 64 = .ok (.aload_n 0, 1) := by decide +kernel
theorem dX4_scatter_65 : decode cX4_scatter 65 = .ok (.getfield 55, 3) := by decide +kernel
theorem dX4_scatter_68 : decode cX4_scatter 68 = .ok (.aload_n 0, 1) := by decide +kernel
theorem dX4_scatter_69 : decode cX4_scatter 69 = .ok (.getfield 100, 3) := by decide +kernel
theorem dX4_scatter_72 : decode cX4_scatter 72 = .ok (.bipush 64, 2) := by decide +kernel
theorem dX4_scatter_74 : decode cX4_scatter 74 = .ok (.imul, 1) := by decide +kernel
theorem dX4_scatter_75 : decode cX4_scatter 75 = .ok (.iload_n 3, 1) := by decide +kernel
theorem dX4_scatter_76 : decode cX4_scatter 76 = .ok (.iadd, 1) := by decide +kernel
theorem dX4_scatter_77 : decode cX4_scatter 77 = .ok (.iload 4, 2) := by decide +kernel
theorem dX4_scatter_79 : decode cX4_scatter 79 = .ok (.iadd, 1) := by decide +kernel
theorem dX4_scatter_80 : decode cX4_scatter 80 = .ok (.aload_n 0, 1) := by decide +kernel
theorem dX4_scatter_81 : decode cX4_scatter 81 = .ok (.getfield 12, 3) := by decide +kernel
theorem dX4_scatter_84 : decode cX4_scatter 84 = .ok (.iload_n 2, 1) := by decide +kernel
theorem dX4_scatter_85 : decode cX4_scatter 85 = .ok (.invokevirtual 302, 3) := by decide +kernel
theorem dX4_scatter_88 : decode cX4_scatter 88 = .ok (.iastore, 1) := by decide +kernel
theorem dX4_scatter_89 : decode cX4_scatter 89 = .ok (.iinc 4 (-1), 3) := by decide +kernel
theorem dX4_scatter_92 : decode cX4_scatter 92 = .ok (.goto (-33), 3) := by decide +kernel
theorem dX4_scatter_95 : decode cX4_scatter 95 = .ok (.aload_n 0, 1) := by decide +kernel
theorem dX4_scatter_96 : decode cX4_scatter 96 = .ok (.getfield 49, 3) := by decide +kernel
theorem dX4_scatter_99 : decode cX4_scatter 99 = .ok (.aload_n 0, 1) := by decide +kernel
theorem dX4_scatter_100 : decode cX4_scatter 100 = .ok (.getfield 100, 3) := by decide +kernel
theorem dX4_scatter_103 : decode cX4_scatter 103 = .ok (.iload_n 3, 1) := by decide +kernel
theorem dX4_scatter_104 : decode cX4_scatter 104 = .ok (.iload_n 1, 1) := by decide +kernel
theorem dX4_scatter_105 : decode cX4_scatter 105 = .ok (.iadd, 1) := by decide +kernel
theorem dX4_scatter_106 : decode cX4_scatter 106 = .ok (.iastore, 1) := by decide +kernel
theorem dX4_scatter_107 : decode cX4_scatter 107 = .ok (.return_, 1) := by decide +kernel
theorem dX4_enter_0 : decode cX4_enter 0 = .ok (.aload_n 0, 1) := by decide +kernel
theorem dX4_enter_1 : decode cX4_enter 1 = .ok (.getfield 58, 3) := by decide +kernel
theorem dX4_enter_4 : decode cX4_enter 4 = .ok (.iload_n 1, 1) := by decide +kernel
theorem dX4_enter_5 : decode cX4_enter 5 = .ok (.invokevirtual 108, 3) := by decide +kernel
theorem dX4_enter_8 : decode cX4_enter 8 = .ok (.astore_n 3, 1) := by decide +kernel
theorem dX4_enter_9 : decode cX4_enter 9 = .ok (.aload_n 3, 1) := by decide +kernel
theorem dX4_enter_10 : decode cX4_enter 10 = .ok (.ifnull 28, 3) := by decide +kernel
theorem dX4_enter_13 : decode cX4_enter 13 = .ok (.aload_n 0, 1) := by decide +kernel
theorem dX4_enter_14 : decode cX4_enter 14 = .ok (.getfield 100, 3) := by decide +kernel
theorem dX4_enter_17 : decode cX4_enter 17 = .ok (.iconst 1, 1) := by decide +kernel
theorem dX4_enter_18 : decode cX4_enter 18 = .ok (.iadd, 1) := by decide +kernel
theorem dX4_enter_19 : decode cX4_enter 19 = .ok (.bipush 32, 2) := by decide +kernel
theorem dX4_enter_21 : decode cX4_enter 21 = .ok (.if_icmp .ge 17, 3) := by decide +kernel
theorem dX4_enter_24 : decode cX4_enter 24 = .ok (.aload_n 0, 1) := by decide +kernel
theorem dX4_enter_25 : decode cX4_enter 25 = .ok (.getfield 67, 3) := by decide +kernel
theorem dX4_enter_28 : decode cX4_enter 28 = .ok (.iconst 2, 1) := by decide +kernel
theorem dX4_enter_29 : decode cX4_enter 29 = .ok (.lconst 0, 1) := by decide +kernel
theorem dX4_enter_30 : decode cX4_enter 30 = .ok (.iload_n 1, 1) := by decide +kernel
theorem dX4_enter_31 : decode cX4_enter 31 = .ok (.iconst 0, 1) := by decide +kernel
theorem dX4_enter_32 : decode cX4_enter 32 = .ok (.invokevirtual 305, 3) := by decide +kernel
theorem dX4_enter_35 : decode cX4_enter 35 = .ok (.ifCond .ge 12, 3) := by decide +kernel
theorem dX4_enter_38 : decode cX4_enter 38 = .ok (.aload_n 0, 1) := by decide +kernel
theorem dX4_enter_39 : decode cX4_enter 39 = .ok (.iconst 2, 1) := by decide +kernel
theorem dX4_enter_40 : decode cX4_enter 40 = .ok (.ldc2_w 151, 3) := by decide +kernel
theorem dX4_enter_43 : decode cX4_enter 43 = .ok (.invokevirtual 153, 3) := by decide +kernel
theorem dX4_enter_46 : decode cX4_enter 46 = .ok (.return_, 1) := by decide +kernel
theorem dX4_enter_47 : decode cX4_enter 47 = .ok (.aload_n 0, 1) := by decide +kernel
theorem dX4_enter_48 : decode cX4_enter 48 = .ok (.iconst 5, 1) := by decide +kernel
theorem dX4_enter_49 : decode cX4_enter 49 = .ok (.invokevirtual 199, 3) := by decide +kernel
theorem dX4_enter_52 : decode cX4_enter 52 = .ok (.ifCond .ne 4, 3) := by decide +kernel
theorem dX4_enter_55 : decode cX4_enter 55 = .ok (.return_, 1) := by decide +kernel
theorem dX4_enter_56 : decode cX4_enter 56 = .ok (.aload_n 3, 1) := by decide +kernel
theorem dX4_enter_57 : decode cX4_enter 57 = .ok (.iload_n 2, 1) := by decide +kernel
theorem dX4_enter_58 : decode cX4_enter 58 = .ok (.invokevirtual 309, 3) := by decide +kernel
theorem dX4_enter_61 : decode cX4_enter 61 = .ok (.aload_n 0, 1) := by decide +kernel
theorem dX4_enter_62 : decode cX4_enter 62 = .ok (.getfield 49, 3) := by decide +kernel
theorem dX4_enter_65 : decode cX4_enter 65 = .ok (.aload_n 0, 1) := by decide +kernel
theorem dX4_enter_66 : decode cX4_enter 66 = .ok (.getfield 100, 3) := by decide +kernel
theorem dX4_enter_69 : decode cX4_enter 69 = .ok (.iaload, 1) := by decide +kernel
theorem dX4_enter_70 : decode cX4_enter 70 = .ok (.if_icmp .le 16, 3) := by decide +kernel
theorem dX4_enter_73 : decode cX4_enter 73 = .ok (.aload_n 0, 1) := by decide +kernel
theorem dX4_enter_74 : decode cX4_enter 74 = .ok (.getfield 12, 3) := by decide +kernel
theorem dX4_enter_77 : decode cX4_enter 77 = .ok (.dup, 1) := by decide +kernel
theorem dX4_enter_78 : decode cX4_enter 78 = .ok (.getfield 71, 3) := by decide +kernel
theorem dX4_enter_81 : decode cX4_enter 81 = .ok (.iconst 1, 1) := by decide +kernel
theorem dX4_enter_82 : decode cX4_enter 82 = .ok (.iadd, 1) := by decide +kernel
theorem dX4_enter_83 : decode cX4_enter 83 = .ok (.putfield 71, 3) := by decide +kernel
theorem dX4_enter_86 : decode cX4_enter 86 = .ok (.aload_n 3, 1) := by decide +kernel
theorem dX4_enter_87 : decode cX4_enter 87 = .ok (.iload_n 2, 1) := by decide +kernel
theorem dX4_enter_88 : decode cX4_enter 88 = .ok (.invokevirtual 309, 3) := by decide +kernel
theorem dX4_enter_91 : decode cX4_enter 91 = .ok (.aload_n 0, 1) := by decide +kernel
theorem dX4_enter_92 : decode cX4_enter 92 = .ok (.getfield 49, 3) := by decide +kernel
theorem dX4_enter_95 : decode cX4_enter 95 = .ok (.aload_n 0, 1) := by decide +kernel
theorem dX4_enter_96 : decode cX4_enter 96 = .ok (.getfield 100, 3) := by decide +kernel
theorem dX4_enter_99 : decode cX4_enter 99 = .ok (.iaload, 1) := by decide +kernel
theorem dX4_enter_100 : decode cX4_enter 100 = .ok (.invokestatic 141, 3) := by decide +kernel
theorem dX4_enter_103 : decode cX4_enter 103 = .ok (.istore 4, 2) := by decide +kernel
theorem dX4_enter_105 : decode cX4_enter 105 = .ok (.aload_n 0, 1) := by decide +kernel
theorem dX4_enter_106 : decode cX4_enter 106 = .ok (.getfield 100, 3) := by decide +kernel
theorem dX4_enter_109 : decode cX4_enter 109 = .ok (.bipush 64, 2) := by decide +kernel
theorem dX4_enter_111 : decode cX4_enter 111 = .ok (.imul, 1) := by decide +kernel
theorem dX4_enter_112 : decode cX4_enter 112 = .ok (.aload_n 0, 1) := by decide +kernel
theorem dX4_enter_113 : decode cX4_enter 113 = .ok (.getfield 49, 3) := by decide +kernel
theorem dX4_enter_116 : decode cX4_enter 116 = .ok (.aload_n 0, 1) := by decide +kernel
theorem dX4_enter_117 : decode cX4_enter 117 = .ok (.getfield 100, 3) := by decide +kernel
theorem dX4_enter_120 : decode cX4_enter 120 = .ok (.iaload, 1) := by decide +kernel
theorem dX4_enter_121 : decode cX4_enter 121 = .ok (.iadd, 1) := by decide +kernel
theorem dX4_enter_122 : decode cX4_enter 122 = .ok (.iload 4, 2) := by decide +kernel
theorem dX4_enter_124 : decode cX4_enter 124 = .ok (.isub, 1) := by decide +kernel
theorem dX4_enter_125 : decode cX4_enter 125 = .ok (.istore 5, 2) := by decide +kernel
theorem dX4_enter_127 : decode cX4_enter 127 = .ok (.aload_n 0, 1) := by decide +kernel
theorem dX4_enter_128 : decode cX4_enter 128 = .ok (.getfield 49, 3) := by decide +kernel
theorem dX4_enter_131 : decode cX4_enter 131 = .ok (.aload_n 0, 1) := by decide +kernel
theorem dX4_enter_132 : decode cX4_enter 132 = .ok (.getfield 100, 3) := by decide +kernel
theorem dX4_enter_135 : decode cX4_enter 135 = .ok (.dup2, 1) := by decide +kernel
theorem dX4_enter_136 : decode cX4_enter 136 = .ok (.iaload, 1) := by decide +kernel
theorem dX4_enter_137 : decode cX4_enter 137 = .ok (.iload 4, 2) := by decide +kernel
theorem dX4_enter_139 : decode cX4_enter 139 = .ok (.isub, 1) := by decide +kernel
theorem dX4_enter_140 : decode cX4_enter 140 = .ok (.iastore, 1) := by decide +kernel
theorem dX4_enter_141 : decode cX4_enter 141 = .ok (.aload_n 0, 1) := by decide +kernel
theorem dX4_enter_142 : decode cX4_enter 142 = .ok (.aload_n 3, 1) := by decide +kernel
theorem dX4_enter_143 : decode cX4_enter 143 = .ok (.iload_n 2, 1) := by decide +kernel
theorem dX4_enter_144 : decode cX4_enter 144 = .ok (.invokevirtual 117, 3) := by decide +kernel
theorem dX4_enter_147 : decode cX4_enter 147 = .ok (.aload_n 0, 1) := by decide +kernel
theorem dX4_enter_148 : decode cX4_enter 148 = .ok (.getfield 55, 3) := by decide +kernel
theorem dX4_enter_151 : decode cX4_enter 151 = .ok (.iload 5, 2) := by decide +kernel
theorem dX4_enter_153 : decode cX4_enter 153 = .ok (.aload_n 0, 1) := by decide +kernel
theorem dX4_enter_154 : decode cX4_enter 154 = .ok (.getfield 52, 3) := by decide +kernel
theorem dX4_enter_157 : decode cX4_enter 157 = .ok (.aload_n 0, 1) := by decide +kernel
theorem dX4_enter_158 : decode cX4_enter 158 = .ok (.getfield 100, 3) := by decide +kernel
theorem dX4_enter_161 : decode cX4_enter 161 = .ok (.bipush 40, 2) := by decide +kernel
theorem dX4_enter_163 : decode cX4_enter 163 = .ok (.imul, 1) := by decide +kernel
theorem dX4_enter_164 : decode cX4_enter 164 = .ok (.iload 4, 2) := by decide +kernel
theorem dX4_enter_166 : decode cX4_enter 166 = .ok (.invokestatic 312, 3) := by decide +kernel
theorem dX4_enter_169 : decode cX4_enter 169 = .ok (.return_, 1) := by decide +kernel
theorem dX4_useCoin_0 : decode cX4_useCoin 0 = .ok (.iconst 0, 1) := by decide +kernel
theorem dX4_useCoin_1 : decode cX4_useCoin 1 = .ok (.istore_n 2, 1) := by decide +kernel
theorem dX4_useCoin_2 : decode cX4_useCoin 2 = .ok (.iload_n 1, 1) := by decide +kernel
theorem dX4_useCoin_3 : decode cX4_useCoin 3 = .ok (.iconst 1, 1) := by decide +kernel
theorem dX4_useCoin_4 : decode cX4_useCoin 4 = .ok (.if_icmp .eq 8, 3) := by decide +kernel
theorem dX4_useCoin_7 : decode cX4_useCoin 7 = .ok (.iload_n 1, 1) := by decide +kernel
theorem dX4_useCoin_8 : decode cX4_useCoin 8 = .ok (.iconst 5, 1) := by decide +kernel
theorem dX4_useCoin_9 : decode cX4_useCoin 9 = .ok (.if_icmp .ne 36, 3) := by decide +kernel
theorem dX4_useCoin_12 : decode cX4_useCoin 12 = .ok (.aload_n 0, 1) := by decide +kernel
theorem dX4_useCoin_13 : decode cX4_useCoin 13 = .ok (.getfield 67, 3) := by decide +kernel
theorem dX4_useCoin_16 : decode cX4_useCoin 16 = .ok (.iconst 1, 1) := by decide +kernel
theorem dX4_useCoin_17 : decode cX4_useCoin 17 = .ok (.aload_n 0, 1) := by decide +kernel
theorem dX4_useCoin_18 : decode cX4_useCoin 18 = .ok (.getfield 12, 3) := by decide +kernel
theorem dX4_useCoin_21 : decode cX4_useCoin 21 = .ok (.getfield 163, 3) := by decide +kernel
theorem dX4_useCoin_24 : decode cX4_useCoin 24 = .ok (.aload_n 0, 1) := by decide +kernel
theorem dX4_useCoin_25 : decode cX4_useCoin 25 = .ok (.iload_n 1, 1) := by decide +kernel
theorem dX4_useCoin_26 : decode cX4_useCoin 26 = .ok (.iconst 1, 1) := by decide +kernel
theorem dX4_useCoin_27 : decode cX4_useCoin 27 = .ok (.if_icmp .ne 7, 3) := by decide +kernel
theorem dX4_useCoin_30 : decode cX4_useCoin 30 = .ok (.iconst 1, 1) := by decide +kernel
theorem dX4_useCoin_31 : decode cX4_useCoin 31 = .ok (.goto 4, 3) := by decide +kernel
theorem dX4_useCoin_34 : decode cX4_useCoin 34 = .ok (.iconst 0, 1) := by decide +kernel
theorem dX4_useCoin_35 : decode cX4_useCoin 35 = .ok (.invokevirtual 318, 3) := by decide +kernel
theorem dX4_useCoin_38 : decode cX4_useCoin 38 = .ok (.laload, 1) := by decide +kernel
theorem dX4_useCoin_39 : decode cX4_useCoin 39 = .ok (.iconst 0, 1) := by decide +kernel
theorem dX4_useCoin_40 : decode cX4_useCoin 40 = .ok (.iconst 0, 1) := by decide +kernel
theorem dX4_useCoin_41 : decode cX4_useCoin 41 = .ok (.invokevirtual 305, 3) := by decide +kernel
theorem dX4_useCoin_44 : decode cX4_useCoin 44 = .ok (.istore_n 2, 1) := by decide +kernel
theorem dX4_useCoin_45 : decode cX4_useCoin 45 = .ok (.iload_n 2, 1) := by decide +kernel
theorem dX4_useCoin_46 : decode cX4_useCoin 46 = .ok (.ifCond .ge 12, 3) := by decide +kernel
theorem dX4_useCoin_49 : decode cX4_useCoin 49 = .ok (.aload_n 0, 1) := by decide +kernel
theorem dX4_useCoin_50 : decode cX4_useCoin 50 = .ok (.iconst 2, 1) := by decide +kernel
theorem dX4_useCoin_51 : decode cX4_useCoin 51 = .ok (.ldc2_w 151, 3) := by decide +kernel
theorem dX4_useCoin_54 : decode cX4_useCoin 54 = .ok (.invokevirtual 153, 3) := by decide +kernel
theorem dX4_useCoin_57 : decode cX4_useCoin 57 = .ok (.return_, 1) := by decide +kernel
theorem dX4_useCoin_58 : decode cX4_useCoin 58 = .ok (.aload_n 0, 1) := by decide +kernel
theorem dX4_useCoin_59 : decode cX4_useCoin 59 = .ok (.iconst 5, 1) := by decide +kernel
theorem dX4_useCoin_60 : decode cX4_useCoin 60 = .ok (.invokevirtual 199, 3) := by decide +kernel
theorem dX4_useCoin_63 : decode cX4_useCoin 63 = .ok (.ifCond .ne 4, 3) := by decide +kernel
theorem dX4_useCoin_66 : decode cX4_useCoin 66 = .ok (.return_, 1) := by decide +kernel
theorem dX4_useCoin_67 : decode cX4_useCoin 67 = .ok (.aload_n 0, 1) := by decide +kernel
theorem dX4_useCoin_68 : decode cX4_useCoin 68 = .ok (.getfield 12, 3) := by decide +kernel
theorem dX4_useCoin_71 : decode cX4_useCoin 71 = .ok (.getfield 163, 3) := by decide +kernel
theorem dX4_useCoin_74 : decode cX4_useCoin 74 = .ok (.aload_n 0, 1) := by decide +kernel
theorem dX4_useCoin_75 : decode cX4_useCoin 75 = .ok (.iconst 0, 1) := by decide +kernel
theorem dX4_useCoin_76 : decode cX4_useCoin 76 = .ok (.invokevirtual 318, 3) := by decide +kernel
theorem dX4_useCoin_79 : decode cX4_useCoin 79 = .ok (.laload, 1) := by decide +kernel
theorem dX4_useCoin_80 : decode cX4_useCoin 80 = .ok (.lstore_n 3, 1) := by decide +kernel
theorem dX4_useCoin_81 : decode cX4_useCoin 81 = .ok (.iload_n 1, 1) := by decide +kernel
theorem dX4_useCoin_82 : decode cX4_useCoin 82 = .ok (.ifCond .ne 11, 3) := by decide +kernel
theorem dX4_useCoin_85 : decode cX4_useCoin 85 = .ok (.aload_n 0, 1) := by decide +kernel
theorem dX4_useCoin_86 : decode cX4_useCoin 86 = .ok (.lload_n 3, 1) := by decide +kernel
theorem dX4_useCoin_87 : decode cX4_useCoin 87 = .ok (.invokevirtual 321, 3) := by decide +kernel
theorem dX4_useCoin_90 : decode cX4_useCoin 90 = .ok (.goto 149, 3) := by decide +kernel
theorem dX4_useCoin_93 : decode cX4_useCoin 93 = .ok (.iload_n 1, 1) := by decide +kernel
theorem dX4_useCoin_94 : decode cX4_useCoin 94 = .ok (.iconst 1, 1) := by decide +kernel
theorem dX4_useCoin_95 : decode cX4_useCoin 95 = .ok (.if_icmp .ne 42, 3) := by decide +kernel
theorem dX4_useCoin_98 : decode cX4_useCoin 98 = .ok (.aload_n 0, 1) := by decide +kernel
theorem dX4_useCoin_99 : decode cX4_useCoin 99 = .ok (.bipush 10, 2) := by decide +kernel
theorem dX4_useCoin_101 : decode cX4_useCoin 101 = .ok (.invokevirtual 258, 3) := by decide +kernel
theorem dX4_useCoin_104 : decode cX4_useCoin 104 = .ok (.pop, 1) := by decide +kernel
theorem dX4_useCoin_105 : decode cX4_useCoin 105 = .ok (.aload_n 0, 1) := by decide +kernel
theorem dX4_useCoin_106 : decode cX4_useCoin 106 = .ok (.iconst 5, 1) := by decide +kernel
theorem dX4_useCoin_107 : decode cX4_useCoin 107 = .ok (.invokevirtual 258, 3) := by decide +kernel
theorem dX4_useCoin_110 : decode cX4_useCoin 110 = .ok (.pop, 1) := by decide +kernel
theorem dX4_useCoin_111 : decode cX4_useCoin 111 = .ok (.aload_n 0, 1) := by decide +kernel
theorem dX4_useCoin_112 : decode cX4_useCoin 112 = .ok (.getfield 67, 3) := by decide +kernel
theorem dX4_useCoin_115 : decode cX4_useCoin 115 = .ok (.getfield 325, 3) := by decide +kernel
theorem dX4_useCoin_118 : decode cX4_useCoin 118 = .ok (.iload_n 2, 1) := by decide +kernel
theorem dX4_useCoin_119 : decode cX4_useCoin 119 = .ok (.iconst 1, 1) := by decide +kernel
theorem dX4_useCoin_120 : decode cX4_useCoin 120 = .ok (.bastore, 1) := by decide +kernel
theorem dX4_useCoin_121 : decode cX4_useCoin 121 = .ok (.aload_n 0, 1) := by decide +kernel
theorem dX4_useCoin_122 : decode cX4_useCoin 122 = .ok (.getfield 67, 3) := by decide +kernel
theorem dX4_useCoin_125 : decode cX4_useCoin 125 = .ok (.getfield 329, 3) := by decide +kernel
theorem dX4_useCoin_128 : decode cX4_useCoin 128 = .ok (.iload_n 2, 1) := by decide +kernel
theorem dX4_useCoin_129 : decode cX4_useCoin 129 = .ok (.dup2, 1) := by decide +kernel
theorem dX4_useCoin_130 : decode cX4_useCoin 130 = .ok (.laload, 1) := by decide +kernel
theorem dX4_useCoin_131 : decode cX4_useCoin 131 = .ok (.lload_n 3, 1) := by decide +kernel
theorem dX4_useCoin_132 : decode cX4_useCoin 132 = .ok (.ladd, 1) := by decide +kernel
theorem dX4_useCoin_133 : decode cX4_useCoin 133 = .ok (.lastore, 1) := by decide +kernel
theorem dX4_useCoin_134 : decode cX4_useCoin 134 = .ok (.goto 105, 3) := by decide +kernel
theorem dX4_useCoin_137 : decode cX4_useCoin 137 = .ok (.iload_n 1, 1) := by decide +kernel
theorem dX4_useCoin_138 : decode cX4_useCoin 138 = .ok (.iconst 2, 1) := by decide +kernel
theorem dX4_useCoin_139 : decode cX4_useCoin 139 = .ok (.if_icmp .ne 28, 3) := by decide +kernel
theorem dX4_useCoin_142 : decode cX4_useCoin 142 = .ok (.aload_n 0, 1) := by decide +kernel
theorem dX4_useCoin_143 : decode cX4_useCoin 143 = .ok (.iconst 3, 1) := by decide +kernel
theorem dX4_useCoin_144 : decode cX4_useCoin 144 = .ok (.lconst 0, 1) := by decide +kernel
theorem dX4_useCoin_145 : decode cX4_useCoin 145 = .ok (.aload_n 0, 1) := by decide +kernel
theorem dX4_useCoin_146 : decode cX4_useCoin 146 = .ok (.getfield 12, 3) := by decide +kernel
theorem dX4_useCoin_149 : decode cX4_useCoin 149 = .ok (.getfield 163, 3) := by decide +kernel
theorem dX4_useCoin_152 : decode cX4_useCoin 152 = .ok (.aload_n 0, 1) := by decide +kernel
theorem dX4_useCoin_153 : decode cX4_useCoin 153 = .ok (.aload_n 0, 1) := by decide +kernel
theorem dX4_useCoin_154 : decode cX4_useCoin 154 = .ok (.invokevirtual 181, 3) := by decide +kernel
theorem dX4_useCoin_157 : decode cX4_useCoin 157 = .ok (.invokevirtual 289, 3) := by decide +kernel
theorem dX4_useCoin_160 : decode cX4_useCoin 160 = .ok (.laload, 1) := by decide +kernel
theorem dX4_useCoin_161 : decode cX4_useCoin 161 = .ok (.invokevirtual 274, 3) := by decide +kernel
theorem dX4_useCoin_164 : decode cX4_useCoin 164 = .ok (.goto 75, 3) := by decide +kernel
theorem dX4_useCoin_167 : decode cX4_useCoin 167 = .ok (.iload_n 1, 1) := by decide +kernel
theorem dX4_useCoin_168 : decode cX4_useCoin 168 = .ok (.iconst 3, 1) := by decide +kernel
theorem dX4_useCoin_169 : decode cX4_useCoin 169 = .ok (.if_icmp .ne 36, 3) := by decide +kernel
theorem dX4_useCoin_172 : decode cX4_useCoin 172 = .ok (.aload_n 0, 1) := by decide +kernel
theorem dX4_useCoin_173 : decode cX4_useCoin 173 = .ok (.bipush 10, 2) := by decide +kernel
theorem dX4_useCoin_175 : decode cX4_useCoin 175 = .ok (.invokevirtual 258, 3) := by decide +kernel
theorem dX4_useCoin_178 : decode cX4_useCoin 178 = .ok (.pop, 1) := by decide +kernel
theorem dX4_useCoin_179 : decode cX4_useCoin 179 = .ok (.aload_n 0, 1) := by decide +kernel
theorem dX4_useCoin_180 : decode cX4_useCoin 180 = .ok (.bipush 10, 2) := by decide +kernel
theorem dX4_useCoin_182 : decode cX4_useCoin 182 = .ok (.lconst 0, 1) := by decide +kernel
theorem dX4_useCoin_183 : decode cX4_useCoin 183 = .ok (.aload_n 0, 1) := by decide +kernel
theorem dX4_useCoin_184 : decode cX4_useCoin 184 = .ok (.getfield 12, 3) := by decide +kernel
theorem dX4_useCoin_187 : decode cX4_useCoin 187 = .ok (.getfield 163, 3) := by decide +kernel
theorem dX4_useCoin_190 : decode cX4_useCoin 190 = .ok (.aload_n 0, 1) := by decide +kernel
theorem dX4_useCoin_191 : decode cX4_useCoin 191 = .ok (.bipush 10, 2) := by decide +kernel
theorem dX4_useCoin_193 : decode cX4_useCoin 193 = .ok (.invokevirtual 258, 3) := by decide +kernel
theorem dX4_useCoin_196 : decode cX4_useCoin 196 = .ok (.laload, 1) := by decide +kernel
theorem dX4_useCoin_197 : decode cX4_useCoin 197 = .ok (.lload_n 3, 1) := by decide +kernel
theorem dX4_useCoin_198 : decode cX4_useCoin 198 = .ok (.ladd, 1) := by decide +kernel
theorem dX4_useCoin_199 : decode cX4_useCoin 199 = .ok (.invokevirtual 274, 3) := by decide +kernel
theorem dX4_useCoin_202 : decode cX4_useCoin 202 = .ok (.goto 37, 3) := by decide +kernel
theorem dX4_useCoin_205 : decode cX4_useCoin 205 = .ok (.iload_n 1, 1) := by decide +kernel
theorem dX4_useCoin_206 : decode cX4_useCoin 206 = .ok (.iconst 4, 1) := by decide +kernel
theorem dX4_useCoin_207 : decode cX4_useCoin 207 = .ok (.if_icmp .ne 11, 3) := by decide +kernel
theorem dX4_useCoin_210 : decode cX4_useCoin 210 = .ok (.aload_n 0, 1) := by decide +kernel
theorem dX4_useCoin_211 : decode cX4_useCoin 211 = .ok (.lload_n 3, 1) := by decide +kernel
theorem dX4_useCoin_212 : decode cX4_useCoin 212 = .ok (.invokevirtual 332, 3) := by decide +kernel
theorem dX4_useCoin_215 : decode cX4_useCoin 215 = .ok (.goto 24, 3) := by decide +kernel
theorem dX4_useCoin_218 : decode cX4_useCoin 218 = .ok (.aload_n 0, 1) := by decide +kernel
theorem dX4_useCoin_219 : decode cX4_useCoin 219 = .ok (.iconst 5, 1) := by decide +kernel
theorem dX4_useCoin_220 : decode cX4_useCoin 220 = .ok (.invokevirtual 258, 3) := by decide +kernel
theorem dX4_useCoin_223 : decode cX4_useCoin 223 = .ok (.pop, 1) := by decide +kernel
theorem dX4_useCoin_224 : decode cX4_useCoin 224 = .ok (.aload_n 0, 1) := by decide +kernel
theorem dX4_useCoin_225 : decode cX4_useCoin 225 = .ok (.iconst 3, 1) := by decide +kernel
theorem dX4_useCoin_226 : decode cX4_useCoin 226 = .ok (.lconst 0, 1) := by decide +kernel
theorem dX4_useCoin_227 : decode cX4_useCoin 227 = .ok (.aload_n 0, 1) := by decide +kernel
theorem dX4_useCoin_228 : decode cX4_useCoin 228 = .ok (.getfield 67, 3) := by decide +kernel
theorem dX4_useCoin_231 : decode cX4_useCoin 231 = .ok (.getfield 329, 3) := by decide +kernel
theorem dX4_useCoin_234 : decode cX4_useCoin 234 = .ok (.iload_n 2, 1) := by decide +kernel
theorem dX4_useCoin_235 : decode cX4_useCoin 235 = .ok (.laload, 1) := by decide +kernel
theorem dX4_useCoin_236 : decode cX4_useCoin 236 = .ok (.invokevirtual 274, 3) := by decide +kernel
theorem dX4_useCoin_239 : decode cX4_useCoin 239 = .ok (.return_, 1) := by decide +kernel
theorem dX4_withdraw_0 : decode cX4_withdraw 0 = .ok (.aload_n 0, 1) := by decide +kernel
theorem dX4_withdraw_1 : decode cX4_withdraw 1 = .ok (.getfield 67, 3) := by decide +kernel
theorem dX4_withdraw_4 : decode cX4_withdraw 4 = .ok (.getfield 329, 3) := by decide +kernel
theorem dX4_withdraw_7 : decode cX4_withdraw 7 = .ok (.iconst 0, 1) := by decide +kernel
theorem dX4_withdraw_8 : decode cX4_withdraw 8 = .ok (.laload, 1) := by decide +kernel
theorem dX4_withdraw_9 : decode cX4_withdraw 9 = .ok (.lload_n 1, 1) := by decide +kernel
theorem dX4_withdraw_10 : decode cX4_withdraw 10 = .ok (.invokestatic 335, 3) := by decide +kernel
theorem dX4_withdraw_13 : decode cX4_withdraw 13 = .ok (.ifCond .eq 10, 3) := by decide +kernel
theorem dX4_withdraw_16 : decode cX4_withdraw 16 = .ok (.aload_n 0, 1) := by decide +kernel
theorem dX4_withdraw_17 : decode cX4_withdraw 17 = .ok (.iconst 1, 1) := by decide +kernel
theorem dX4_withdraw_18 : decode cX4_withdraw 18 = .ok (.lconst 1, 1) := by decide +kernel
theorem dX4_withdraw_19 : decode cX4_withdraw 19 = .ok (.invokevirtual 153, 3) := by decide +kernel
theorem dX4_withdraw_22 : decode cX4_withdraw 22 = .ok (.return_, 1) := by decide +kernel
theorem dX4_withdraw_23 : decode cX4_withdraw 23 = .ok (.aload_n 0, 1) := by decide +kernel
theorem dX4_withdraw_24 : decode cX4_withdraw 24 = .ok (.iconst 3, 1) := by decide +kernel
theorem dX4_withdraw_25 : decode cX4_withdraw 25 = .ok (.invokevirtual 258, 3) := by decide +kernel
theorem dX4_withdraw_28 : decode cX4_withdraw 28 = .ok (.pop, 1) := by decide +kernel
theorem dX4_withdraw_29 : decode cX4_withdraw 29 = .ok (.aload_n 0, 1) := by decide +kernel
theorem dX4_withdraw_30 : decode cX4_withdraw 30 = .ok (.getfield 67, 3) := by decide +kernel
theorem dX4_withdraw_33 : decode cX4_withdraw 33 = .ok (.getfield 329, 3) := by decide +kernel
theorem dX4_withdraw_36 : decode cX4_withdraw 36 = .ok (.iconst 0, 1) := by decide +kernel
theorem dX4_withdraw_37 : decode cX4_withdraw 37 = .ok (.dup2, 1) := by decide +kernel
theorem dX4_withdraw_38 : decode cX4_withdraw 38 = .ok (.laload, 1) := by decide +kernel
theorem dX4_withdraw_39 : decode cX4_withdraw 39 = .ok (.lload_n 1, 1) := by decide +kernel
theorem dX4_withdraw_40 : decode cX4_withdraw 40 = .ok (.lsub, 1) := by decide +kernel
theorem dX4_withdraw_41 : decode cX4_withdraw 41 = .ok (.lastore, 1) := by decide +kernel
theorem dX4_withdraw_42 : decode cX4_withdraw 42 = .ok (.aload_n 0, 1) := by decide +kernel
theorem dX4_withdraw_43 : decode cX4_withdraw 43 = .ok (.bipush 10, 2) := by decide +kernel
theorem dX4_withdraw_45 : decode cX4_withdraw 45 = .ok (.lconst 0, 1) := by decide +kernel
theorem dX4_withdraw_46 : decode cX4_withdraw 46 = .ok (.lload_n 1, 1) := by decide +kernel
theorem dX4_withdraw_47 : decode cX4_withdraw 47 = .ok (.invokevirtual 274, 3) := by decide +kernel
theorem dX4_withdraw_50 : decode cX4_withdraw 50 = .ok (.return_, 1) := by decide +kernel
theorem dX4_split_0 : decode cX4_split 0 = .ok (.aload_n 0, 1) := by decide +kernel
theorem dX4_split_1 : decode cX4_split 1 = .ok (.iconst 3, 1) := by decide +kernel
theorem dX4_split_2 : decode cX4_split 2 = .ok (.invokevirtual 258, 3) := by decide +kernel
theorem dX4_split_5 : decode cX4_split 5 = .ok (.pop, 1) := by decide +kernel
theorem dX4_split_6 : decode cX4_split 6 = .ok (.aload_n 0, 1) := by decide +kernel
theorem dX4_split_7 : decode cX4_split 7 = .ok (.getfield 12, 3) := by decide +kernel
theorem dX4_split_10 : decode cX4_split 10 = .ok (.getfield 163, 3) := by decide +kernel
theorem dX4_split_13 : decode cX4_split 13 = .ok (.aload_n 0, 1) := by decide +kernel
theorem dX4_split_14 : decode cX4_split 14 = .ok (.bipush 10, 2) := by decide +kernel
theorem dX4_split_16 : decode cX4_split 16 = .ok (.invokevirtual 258, 3) := by decide +kernel
theorem dX4_split_19 : decode cX4_split 19 = .ok (.laload, 1) := by decide +kernel
theorem dX4_split_20 : decode cX4_split 20 = .ok (.lstore_n 3, 1) := by decide +kernel
theorem dX4_split_21 : decode cX4_split 21 = .ok (.lload_n 3, 1) := by decide +kernel
theorem dX4_split_22 : decode cX4_split 22 = .ok (.lload_n 1, 1) := by decide +kernel
theorem dX4_split_23 : decode cX4_split 23 = .ok (.invokestatic 335, 3) := by decide +kernel
theorem dX4_split_26 : decode cX4_split 26 = .ok (.ifCond .eq 12, 3) := by decide +kernel
theorem dX4_split_29 : decode cX4_split 29 = .ok (.aload_n 0, 1) := by decide +kernel
theorem dX4_split_30 : decode cX4_split 30 = .ok (.iconst 1, 1) := by decide +kernel
theorem dX4_split_31 : decode cX4_split 31 = .ok (.ldc2_w 339, 3) := by decide +kernel
theorem dX4_split_34 : decode cX4_split 34 = .ok (.invokevirtual 153, 3) := by decide +kernel
theorem dX4_split_37 : decode cX4_split 37 = .ok (.return_, 1) := by decide +kernel
theorem dX4_split_38 : decode cX4_split 38 = .ok (.aload_n 0, 1) := by decide +kernel
theorem dX4_split_39 : decode cX4_split 39 = .ok (.bipush 10, 2) := by decide +kernel
theorem dX4_split_41 : decode cX4_split 41 = .ok (.lconst 0, 1) := by decide +kernel
theorem dX4_split_42 : decode cX4_split 42 = .ok (.lload_n 3, 1) := by decide +kernel
theorem dX4_split_43 : decode cX4_split 43 = .ok (.lload_n 1, 1) := by decide +kernel
theorem dX4_split_44 : decode cX4_split 44 = .ok (.lsub, 1) := by decide +kernel
theorem dX4_split_45 : decode cX4_split 45 = .ok (.invokevirtual 274, 3) := by decide +kernel
theorem dX4_split_48 : decode cX4_split 48 = .ok (.aload_n 0, 1) := by decide +kernel
theorem dX4_split_49 : decode cX4_split 49 = .ok (.bipush 10, 2) := by decide +kernel
theorem dX4_split_51 : decode cX4_split 51 = .ok (.lconst 0, 1) := by decide +kernel
theorem dX4_split_52 : decode cX4_split 52 = .ok (.lload_n 1, 1) := by decide +kernel
theorem dX4_split_53 : decode cX4_split 53 = .ok (.invokevirtual 274, 3) := by decide +kernel
theorem dX4_split_56 : decode cX4_split 56 = .ok (.return_, 1) := by decide +kernel
theorem dX4_reckon_0 : decode cX4_reckon 0 = .ok (.iload_n 1, 1) := by decide +kernel
theorem dX4_reckon_1 : decode cX4_reckon 1 = .ok (.bipush 34, 2) := by decide +kernel
theorem dX4_reckon_3 : decode cX4_reckon 3 = .ok (.if_icmp .ne 25, 3) := by decide +kernel
theorem dX4_reckon_6 : decode cX4_reckon 6 = .ok (.aload_n 0, 1) := by decide +kernel
theorem dX4_reckon_7 : decode cX4_reckon 7 = .ok (.iconst 1, 1) := by decide +kernel
theorem dX4_reckon_8 : decode cX4_reckon 8 = .ok (.lconst 0, 1) := by decide +kernel
theorem dX4_reckon_9 : decode cX4_reckon 9 = .ok (.lconst 1, 1) := by decide +kernel
theorem dX4_reckon_10 : decode cX4_reckon 10 = .ok (.aload_n 0, 1) := by decide +kernel
theorem dX4_reckon_11 : decode cX4_reckon 11 = .ok (.getfield 12, 3) := by decide +kernel
theorem dX4_reckon_14 : decode cX4_reckon 14 = .ok (.getfield 163, 3) := by decide +kernel
theorem dX4_reckon_17 : decode cX4_reckon 17 = .ok (.aload_n 0, 1) := by decide +kernel
theorem dX4_reckon_18 : decode cX4_reckon 18 = .ok (.iconst 1, 1) := by decide +kernel
theorem dX4_reckon_19 : decode cX4_reckon 19 = .ok (.invokevirtual 258, 3) := by decide +kernel
theorem dX4_reckon_22 : decode cX4_reckon 22 = .ok (.laload, 1) := by decide +kernel
theorem dX4_reckon_23 : decode cX4_reckon 23 = .ok (.lsub, 1) := by decide +kernel
theorem dX4_reckon_24 : decode cX4_reckon 24 = .ok (.invokevirtual 274, 3) := by decide +kernel
theorem dX4_reckon_27 : decode cX4_reckon 27 = .ok (.return_, 1) := by decide +kernel
theorem dX4_reckon_28 : decode cX4_reckon 28 = .ok (.iload_n 1, 1) := by decide +kernel
theorem dX4_reckon_29 : decode cX4_reckon 29 = .ok (.bipush 32, 2) := by decide +kernel
theorem dX4_reckon_31 : decode cX4_reckon 31 = .ok (.if_icmp .eq 9, 3) := by decide +kernel
theorem dX4_reckon_34 : decode cX4_reckon 34 = .ok (.iload_n 1, 1) := by decide +kernel
theorem dX4_reckon_35 : decode cX4_reckon 35 = .ok (.bipush 33, 2) := by decide +kernel
theorem dX4_reckon_37 : decode cX4_reckon 37 = .ok (.if_icmp .ne 11, 3) := by decide +kernel
theorem dX4_reckon_40 : decode cX4_reckon 40 = .ok (.aload_n 0, 1) := by decide +kernel
theorem dX4_reckon_41 : decode cX4_reckon 41 = .ok (.iconst 2, 1) := by decide +kernel
theorem dX4_reckon_42 : decode cX4_reckon 42 = .ok (.invokevirtual 258, 3) := by decide +kernel
theorem dX4_reckon_45 : decode cX4_reckon 45 = .ok (.goto 7, 3) := by decide +kernel
theorem dX4_reckon_48 : decode cX4_reckon 48 = .ok (.aload_n 0, 1) := by decide +kernel
theorem dX4_reckon_49 : decode cX4_reckon 49 = .ok (.invokevirtual 181, 3) := by decide +kernel
theorem dX4_reckon_52 : decode cX4_reckon 52 = .ok (.istore_n 2, 1) := by decide +kernel
theorem dX4_reckon_53 : decode cX4_reckon 53 = .ok (.iload_n 1, 1) := by decide +kernel
theorem dX4_reckon_54 : decode cX4_reckon 54 = .ok (.bipush 42, 2) := by decide +kernel
theorem dX4_reckon_56 : decode cX4_reckon 56 = .ok (.if_icmp .lt 37, 3) := by decide +kernel
theorem dX4_reckon_59 : decode cX4_reckon 59 = .ok (.aload_n 0, 1) := by decide +kernel
theorem dX4_reckon_60 : decode cX4_reckon 60 = .ok (.getfield 21, 3) := by decide +kernel
theorem dX4_reckon_63 : decode cX4_reckon 63 = .ok (.aload_n 0, 1) := by decide +kernel
theorem dX4_reckon_64 : decode cX4_reckon 64 = .ok (.getfield 12, 3) := by decide +kernel
theorem dX4_reckon_67 : decode cX4_reckon 67 = .ok (.getfield 160, 3) := by decide +kernel
theorem dX4_reckon_70 : decode cX4_reckon 70 = .ok (.iload_n 2, 1) := by decide +kernel
theorem dX4_reckon_71 : decode cX4_reckon 71 = .ok (.laload, 1) := by decide +kernel
theorem dX4_reckon_72 : decode cX4_reckon 72 = .ok (.aload_n 0, 1) := by decide +kernel
theorem dX4_reckon_73 : decode cX4_reckon 73 = .ok (.getfield 12, 3) := by decide +kernel
theorem dX4_reckon_76 : decode cX4_reckon 76 = .ok (.getfield 163, 3) := by decide +kernel
theorem dX4_reckon_79 : decode cX4_reckon 79 = .ok (.iload_n 2, 1) := by decide +kernel
theorem dX4_reckon_80 : decode cX4_reckon 80 = .ok (.laload, 1) := by decide +kernel
theorem dX4_reckon_81 : decode cX4_reckon 81 = .ok (.invokevirtual 341, 3) := by decide +kernel
theorem dX4_reckon_84 : decode cX4_reckon 84 = .ok (.aload_n 0, 1) := by decide +kernel
theorem dX4_reckon_85 : decode cX4_reckon 85 = .ok (.iload_n 1, 1) := by decide +kernel
theorem dX4_reckon_86 : decode cX4_reckon 86 = .ok (.bipush 40, 2) := by decide +kernel
theorem dX4_reckon_88 : decode cX4_reckon 88 = .ok (.isub, 1) := by decide +kernel
theorem dX4_reckon_89 : decode cX4_reckon 89 = .ok (.invokevirtual 344, 3) := by decide +kernel
theorem dX4_reckon_92 : decode cX4_reckon 92 = .ok (.return_, 1) := by decide +kernel
theorem dX4_reckon_93 : decode cX4_reckon 93 = .ok (.iload_n 1, 1) := by decide +kernel
theorem dX4_reckon_94 : decode cX4_reckon 94 = .ok (.bipush 32, 2) := by decide +kernel
theorem dX4_reckon_96 : decode cX4_reckon 96 = .ok (.if_icmp .eq 9, 3) := by decide +kernel
theorem dX4_reckon_99 : decode cX4_reckon 99 = .ok (.iload_n 1, 1) := by decide +kernel
theorem dX4_reckon_100 : decode cX4_reckon 100 = .ok (.bipush 33, 2) := by decide +kernel
theorem dX4_reckon_102 : decode cX4_reckon 102 = .ok (.if_icmp .ne 10, 3) := by decide +kernel
theorem dX4_reckon_105 : decode cX4_reckon 105 = .ok (.aload_n 0, 1) := by decide +kernel
theorem dX4_reckon_106 : decode cX4_reckon 106 = .ok (.invokevirtual 181, 3) := by decide +kernel
theorem dX4_reckon_109 : decode cX4_reckon 109 = .ok (.goto 16, 3) := by decide +kernel
theorem dX4_reckon_112 : decode cX4_reckon 112 = .ok (.aload_n 0, 1) := by decide +kernel
theorem dX4_reckon_113 : decode cX4_reckon 113 = .ok (.aload_n 0, 1) := by decide +kernel
theorem dX4_reckon_114 : decode cX4_reckon 114 = .ok (.getfield 12, 3) := by decide +kernel
theorem dX4_reckon_117 : decode cX4_reckon 117 = .ok (.getfield 157, 3) := by decide +kernel
theorem dX4_reckon_120 : decode cX4_reckon 120 = .ok (.iload_n 2, 1) := by decide +kernel
theorem dX4_reckon_121 : decode cX4_reckon 121 = .ok (.baload, 1) := by decide +kernel
theorem dX4_reckon_122 : decode cX4_reckon 122 = .ok (.invokevirtual 258, 3) := by decide +kernel
theorem dX4_reckon_125 : decode cX4_reckon 125 = .ok (.istore_n 3, 1) := by decide +kernel
theorem dX4_reckon_126 : decode cX4_reckon 126 = .ok (.aload_n 0, 1) := by decide +kernel
theorem dX4_reckon_127 : decode cX4_reckon 127 = .ok (.getfield 21, 3) := by decide +kernel
theorem dX4_reckon_130 : decode cX4_reckon 130 = .ok (.aload_n 0, 1) := by decide +kernel
theorem dX4_reckon_131 : decode cX4_reckon 131 = .ok (.getfield 12, 3) := by decide +kernel
theorem dX4_reckon_134 : decode cX4_reckon 134 = .ok (.getfield 160, 3) := by decide +kernel
theorem dX4_reckon_137 : decode cX4_reckon 137 = .ok (.iload_n 3, 1) := by decide +kernel
theorem dX4_reckon_138 : decode cX4_reckon 138 = .ok (.laload, 1) := by decide +kernel
theorem dX4_reckon_139 : decode cX4_reckon 139 = .ok (.aload_n 0, 1) := by decide +kernel
theorem dX4_reckon_140 : decode cX4_reckon 140 = .ok (.getfield 12, 3) := by decide +kernel
theorem dX4_reckon_143 : decode cX4_reckon 143 = .ok (.getfield 163, 3) := by decide +kernel
theorem dX4_reckon_146 : decode cX4_reckon 146 = .ok (.iload_n 3, 1) := by decide +kernel
theorem dX4_reckon_147 : decode cX4_reckon 147 = .ok (.laload, 1) := by decide +kernel
theorem dX4_reckon_148 : decode cX4_reckon 148 = .ok (.invokevirtual 341, 3) := by decide +kernel
theorem dX4_reckon_151 : decode cX4_reckon 151 = .ok (.iload_n 1, 1) := by decide +kernel
theorem dX4_reckon_152 : decode cX4_reckon 152 = .ok (.bipush 36, 2) := by decide +kernel
theorem dX4_reckon_154 : decode cX4_reckon 154 = .ok (.if_icmp .lt 13, 3) := by decide +kernel
theorem dX4_reckon_157 : decode cX4_reckon 157 = .ok (.aload_n 0, 1) := by decide +kernel
theorem dX4_reckon_158 : decode cX4_reckon 158 = .ok (.iload_n 1, 1) := by decide +kernel
theorem dX4_reckon_159 : decode cX4_reckon 159 = .ok (.iload_n 3, 1) := by decide +kernel
theorem dX4_reckon_160 : decode cX4_reckon 160 = .ok (.iload_n 2, 1) := by decide +kernel
theorem dX4_reckon_161 : decode cX4_reckon 161 = .ok (.invokevirtual 347, 3) := by decide +kernel
theorem dX4_reckon_164 : decode cX4_reckon 164 = .ok (.goto 81, 3) := by decide +kernel
theorem dX4_reckon_167 : decode cX4_reckon 167 = .ok (.iload_n 1, 1) := by decide +kernel
theorem dX4_reckon_168 : decode cX4_reckon 168 = .ok (.bipush 32, 2) := by decide +kernel
theorem dX4_reckon_170 : decode cX4_reckon 170 = .ok (.if_icmp .lt 39, 3) := by decide +kernel
theorem dX4_reckon_173 : decode cX4_reckon 173 = .ok (.aload_n 0, 1) := by decide +kernel
theorem dX4_reckon_174 : decode cX4_reckon 174 = .ok (.iload_n 1, 1) := by decide +kernel
theorem dX4_reckon_175 : decode cX4_reckon 175 = .ok (.bipush 32, 2) := by decide +kernel
theorem dX4_reckon_177 : decode cX4_reckon 177 = .ok (.if_icmp .ne 7, 3) := by decide +kernel
theorem dX4_reckon_180 : decode cX4_reckon 180 = .ok (.iconst 1, 1) := by decide +kernel
theorem dX4_reckon_181 : decode cX4_reckon 181 = .ok (.goto 4, 3) := by decide +kernel
theorem dX4_reckon_184 : decode cX4_reckon 184 = .ok (.iconst 0, 1) := by decide +kernel
theorem dX4_reckon_185 : decode cX4_reckon 185 = .ok (.aload_n 0, 1) := by decide +kernel
theorem dX4_reckon_186 : decode cX4_reckon 186 = .ok (.getfield 12, 3) := by decide +kernel
theorem dX4_reckon_189 : decode cX4_reckon 189 = .ok (.getfield 163, 3) := by decide +kernel
theorem dX4_reckon_192 : decode cX4_reckon 192 = .ok (.iload_n 2, 1) := by decide +kernel
theorem dX4_reckon_193 : decode cX4_reckon 193 = .ok (.laload, 1) := by decide +kernel
theorem dX4_reckon_194 : decode cX4_reckon 194 = .ok (.aload_n 0, 1) := by decide +kernel
theorem dX4_reckon_195 : decode cX4_reckon 195 = .ok (.getfield 12, 3) := by decide +kernel
theorem dX4_reckon_198 : decode cX4_reckon 198 = .ok (.getfield 157, 3) := by decide +kernel
theorem dX4_reckon_201 : decode cX4_reckon 201 = .ok (.iload_n 3, 1) := by decide +kernel
theorem dX4_reckon_202 : decode cX4_reckon 202 = .ok (.baload, 1) := by decide +kernel
theorem dX4_reckon_203 : decode cX4_reckon 203 = .ok (.invokevirtual 350, 3) := by decide +kernel
theorem dX4_reckon_206 : decode cX4_reckon 206 = .ok (.goto 39, 3) := by decide +kernel
theorem dX4_reckon_209 : decode cX4_reckon 209 = .ok (.aload_n 0, 1) := by decide +kernel
theorem dX4_reckon_210 : decode cX4_reckon 210 = .ok (.iload_n 1, 1) := by decide +kernel
theorem dX4_reckon_211 : decode cX4_reckon 211 = .ok (.aload_n 0, 1) := by decide +kernel
theorem dX4_reckon_212 : decode cX4_reckon 212 = .ok (.getfield 12, 3) := by decide +kernel
theorem dX4_reckon_215 : decode cX4_reckon 215 = .ok (.getfield 160, 3) := by decide +kernel
theorem dX4_reckon_218 : decode cX4_reckon 218 = .ok (.iload_n 2, 1) := by decide +kernel
theorem dX4_reckon_219 : decode cX4_reckon 219 = .ok (.laload, 1) := by decide +kernel
theorem dX4_reckon_220 : decode cX4_reckon 220 = .ok (.aload_n 0, 1) := by decide +kernel
theorem dX4_reckon_221 : decode cX4_reckon 221 = .ok (.getfield 12, 3) := by decide +kernel
theorem dX4_reckon_224 : decode cX4_reckon 224 = .ok (.getfield 163, 3) := by decide +kernel
theorem dX4_reckon_227 : decode cX4_reckon 227 = .ok (.iload_n 2, 1) := by decide +kernel
theorem dX4_reckon_228 : decode cX4_reckon 228 = .ok (.laload, 1) := by decide +kernel
theorem dX4_reckon_229 : decode cX4_reckon 229 = .ok (.invokevirtual 354, 3) := by decide +kernel
theorem dX4_reckon_232 : decode cX4_reckon 232 = .ok (.aload_n 0, 1) := by decide +kernel
theorem dX4_reckon_233 : decode cX4_reckon 233 = .ok (.aload_n 0, 1) := by decide +kernel
theorem dX4_reckon_234 : decode cX4_reckon 234 = .ok (.getfield 12, 3) := by decide +kernel
theorem dX4_reckon_237 : decode cX4_reckon 237 = .ok (.getfield 157, 3) := by decide +kernel
