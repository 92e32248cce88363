theorem dX18_takeModule_237 : decode cX18_takeModule 237 = .ok (.ifCond .ne 12, 3) := by decide +kernel
theorem dX18_takeModule_240 : decode cX18_takeModule 240 = .ok (.aload_n 0, 1) := by decide +kernel
theorem dX18_takeModule_241 : decode cX18_takeModule 241 = .ok (.bipush 24, 2) := by decide +kernel
theorem dX18_takeModule_243 : decode cX18_takeModule 243 = .ok (.iload 7, 2) := by decide +kernel
theorem dX18_takeModule_245 : decode cX18_takeModule 245 = .ok (.invokevirtual 218, 3) := by decide +kernel
theorem dX18_takeModule_248 : decode cX18_takeModule 248 = .ok (.ireturn, 1) := by decide +kernel
theorem dX18_takeModule_249 : decode cX18_takeModule 249 = .ok (.iinc 7 1, 3) := by decide +kernel
theorem dX18_takeModule_252 : decode cX18_takeModule 252 = .ok (.goto (-36), 3) := by decide +kernel
theorem dX18_takeModule_255 : decode cX18_takeModule 255 = .ok (.aload_n 0, 1) := by decide +kernel
theorem dX18_takeModule_256 : decode cX18_takeModule 256 = .ok (.iload 4, 2) := by decide +kernel
theorem dX18_takeModule_258 : decode cX18_takeModule 258 = .ok (.invokevirtual 240, 3) := by decide +kernel
theorem dX18_takeModule_261 : decode cX18_takeModule 261 = .ok (.iconst 0, 1) := by decide +kernel
theorem dX18_takeModule_262 : decode cX18_takeModule 262 = .ok (.istore 7, 2) := by decide +kernel
theorem dX18_takeModule_264 : decode cX18_takeModule 264 = .ok (.iload 7, 2) := by decide +kernel
theorem dX18_takeModule_266 : decode cX18_takeModule 266 = .ok (.aload 5, 2) := by decide +kernel
theorem dX18_takeModule_268 : decode cX18_takeModule 268 = .ok (.getfield 109, 3) := by decide +kernel
theorem dX18_takeModule_271 : decode cX18_takeModule 271 = .ok (.if_icmp .ge 36, 3) := by decide +kernel
theorem dX18_takeModule_274 : decode cX18_takeModule 274 = .ok (.aload_n 0, 1) := by decide +kernel
theorem dX18_takeModule_275 : decode cX18_takeModule 275 = .ok (.getfield 189, 3) := by decide +kernel
theorem dX18_takeModule_278 : decode cX18_takeModule 278 = .ok (.bipush 64, 2) := by decide +kernel
theorem dX18_takeModule_280 : decode cX18_takeModule 280 = .ok (.iload 4, 2) := by decide +kernel
theorem dX18_takeModule_282 : decode cX18_takeModule 282 = .ok (.imul, 1) := by decide +kernel
theorem dX18_takeModule_283 : decode cX18_takeModule 283 = .ok (.iload 7, 2) := by decide +kernel
theorem dX18_takeModule_285 : decode cX18_takeModule 285 = .ok (.iadd, 1) := by decide +kernel
theorem dX18_takeModule_286 : decode cX18_takeModule 286 = .ok (.iaload, 1) := by decide +kernel
theorem dX18_takeModule_287 : decode cX18_takeModule 287 = .ok (.bipush 24, 2) := by decide +kernel
theorem dX18_takeModule_289 : decode cX18_takeModule 289 = .ok (.if_icmp .le 12, 3) := by decide +kernel
theorem dX18_takeModule_292 : decode cX18_takeModule 292 = .ok (.aload_n 0, 1) := by decide +kernel
theorem dX18_takeModule_293 : decode cX18_takeModule 293 = .ok (.bipush 25, 2) := by decide +kernel
theorem dX18_takeModule_295 : decode cX18_takeModule 295 = .ok (.iload 7, 2) := by decide +kernel
theorem dX18_takeModule_297 : decode cX18_takeModule 297 = .ok (.invokevirtual 218, 3) := by decide +kernel
theorem dX18_takeModule_300 : decode cX18_takeModule 300 = .ok (.ireturn, 1) := by decide +kernel
theorem dX18_takeModule_301 : decode cX18_takeModule 301 = .ok (.iinc 7 1, 3) := by decide +kernel
theorem dX18_takeModule_304 : decode cX18_takeModule 304 = .ok (.goto (-40), 3) := by decide +kernel
theorem dX18_takeModule_307 : decode cX18_takeModule 307 = .ok (.iconst 0, 1) := by decide +kernel
theorem dX18_takeModule_308 : decode cX18_takeModule 308 = .ok (.istore 7, 2) := by decide +kernel
theorem dX18_takeModule_310 : decode cX18_takeModule 310 = .ok (.iload 7, 2) := by decide +kernel
theorem dX18_takeModule_312 : decode cX18_takeModule 312 = .ok (.aload 5, 2) := by decide +kernel
theorem dX18_takeModule_314 : decode cX18_takeModule 314 = .ok (.getfield 112, 3) := by decide +kernel
theorem dX18_takeModule_317 : decode cX18_takeModule 317 = .ok (.if_icmp .ge 51, 3) := by decide +kernel
theorem dX18_takeModule_320 : decode cX18_takeModule 320 = .ok (.aload_n 0, 1) := by decide +kernel
theorem dX18_takeModule_321 : decode cX18_takeModule 321 = .ok (.getfield 231, 3) := by decide +kernel
theorem dX18_takeModule_324 : decode cX18_takeModule 324 = .ok (.aload 5, 2) := by decide +kernel
theorem dX18_takeModule_326 : decode cX18_takeModule 326 = .ok (.iload 7, 2) := by decide +kernel
theorem dX18_takeModule_328 : decode cX18_takeModule 328 = .ok (.invokevirtual 243, 3) := by decide +kernel
theorem dX18_takeModule_331 : decode cX18_takeModule 331 = .ok (.istore 8, 2) := by decide +kernel
theorem dX18_takeModule_333 : decode cX18_takeModule 333 = .ok (.iload 8, 2) := by decide +kernel
theorem dX18_takeModule_335 : decode cX18_takeModule 335 = .ok (.ifCond .eq 27, 3) := by decide +kernel
theorem dX18_takeModule_338 : decode cX18_takeModule 338 = .ok (.aload_n 0, 1) := by decide +kernel
theorem dX18_takeModule_339 : decode cX18_takeModule 339 = .ok (.bipush 30, 2) := by decide +kernel
theorem dX18_takeModule_341 : decode cX18_takeModule 341 = .ok (.iload 8, 2) := by decide +kernel
theorem dX18_takeModule_343 : decode cX18_takeModule 343 = .ok (.iadd, 1) := by decide +kernel
theorem dX18_takeModule_344 : decode cX18_takeModule 344 = .ok (.sipush 1024, 3) := by decide +kernel
theorem dX18_takeModule_347 : decode cX18_takeModule 347 = .ok (.iload 7, 2) := by decide +kernel
theorem dX18_takeModule_349 : decode cX18_takeModule 349 = .ok (.imul, 1) := by decide +kernel
theorem dX18_takeModule_350 : decode cX18_takeModule 350 = .ok (.aload_n 0, 1) := by decide +kernel
theorem dX18_takeModule_351 : decode cX18_takeModule 351 = .ok (.getfield 231, 3) := by decide +kernel
theorem dX18_takeModule_354 : decode cX18_takeModule 354 = .ok (.getfield 247, 3) := by decide +kernel
theorem dX18_takeModule_357 : decode cX18_takeModule 357 = .ok (.iadd, 1) := by decide +kernel
theorem dX18_takeModule_358 : decode cX18_takeModule 358 = .ok (.invokevirtual 218, 3) := by decide +kernel
theorem dX18_takeModule_361 : decode cX18_takeModule 361 = .ok (.ireturn, 1) := by decide +kernel
theorem dX18_takeModule_362 : decode cX18_takeModule 362 = .ok (.iinc 7 1, 3) := by decide +kernel
theorem dX18_takeModule_365 : decode cX18_takeModule 365 = .ok (.goto (-55), 3) := by decide +kernel
theorem dX18_takeModule_368 : decode cX18_takeModule 368 = .ok (.iconst 0, 1) := by decide +kernel
theorem dX18_takeModule_369 : decode cX18_takeModule 369 = .ok (.ireturn, 1) := by decide +kernel
theorem dX18_tell_0 : decode cX18_tell 0 = .ok (.aload_n 0, 1) := by decide +kernel
theorem dX18_tell_1 : decode cX18_tell 1 = .ok (.iload_n 2, 1) := by decide +kernel
theorem dX18_tell_2 : decode cX18_tell 2 = .ok (.putfield 215, 3) := by decide +kernel
theorem dX18_tell_5 : decode cX18_tell 5 = .ok (.iload_n 1, 1) := by decide +kernel
theorem dX18_tell_6 : decode cX18_tell 6 = .ok (.ireturn, 1) := by decide +kernel
theorem dX18_goesOn_0 : decode cX18_goesOn 0 = .ok (.aload_n 0, 1) := by decide +kernel
theorem dX18_goesOn_1 : decode cX18_goesOn 1 = .ok (.getfield 250, 3) := by decide +kernel
theorem dX18_goesOn_4 : decode cX18_goesOn 4 = .ok (.ifCond .ge 7, 3) := by decide +kernel
theorem dX18_goesOn_7 : decode cX18_goesOn 7 = .ok (.iconst 1, 1) := by decide +kernel
theorem dX18_goesOn_8 : decode cX18_goesOn 8 = .ok (.goto 4, 3) := by decide +kernel
theorem dX18_goesOn_11 : decode cX18_goesOn 11 = .ok (.iconst 0, 1) := by decide +kernel
theorem dX18_goesOn_12 : decode cX18_goesOn 12 = .ok (.ireturn, 1) := by decide +kernel
theorem dX18_end_0 : decode cX18_end 0 = .ok (.aload_n 0, 1) := by decide +kernel
theorem dX18_end_1 : decode cX18_end 1 = .ok (.getfield 250, 3) := by decide +kernel
theorem dX18_end_4 : decode cX18_end 4 = .ok (.ifCond .lt 4, 3) := by decide +kernel
theorem dX18_end_7 : decode cX18_end 7 = .ok (.return_, 1) := by decide +kernel
theorem dX18_end_8 : decode cX18_end 8 = .ok (.aload_n 0, 1) := by decide +kernel
theorem dX18_end_9 : decode cX18_end 9 = .ok (.iload_n 1, 1) := by decide +kernel
theorem dX18_end_10 : decode cX18_end 10 = .ok (.putfield 250, 3) := by decide +kernel
theorem dX18_end_13 : decode cX18_end 13 = .ok (.aload_n 0, 1) := by decide +kernel
theorem dX18_end_14 : decode cX18_end 14 = .ok (.lload_n 2, 1) := by decide +kernel
theorem dX18_end_15 : decode cX18_end 15 = .ok (.putfield 253, 3) := by decide +kernel
theorem dX18_end_18 : decode cX18_end 18 = .ok (.return_, 1) := by decide +kernel
theorem dX18_spend_0 : decode cX18_spend 0 = .ok (.aload_n 0, 1) := by decide +kernel
theorem dX18_spend_1 : decode cX18_spend 1 = .ok (.invokevirtual 257, 3) := by decide +kernel
theorem dX18_spend_4 : decode cX18_spend 4 = .ok (.ifCond .ne 5, 3) := by decide +kernel
theorem dX18_spend_7 : decode cX18_spend 7 = .ok (.iconst 0, 1) := by decide +kernel
theorem dX18_spend_8 : decode cX18_spend 8 = .ok (.ireturn, 1) := by decide +kernel
theorem dX18_spend_9 : decode cX18_spend 9 = .ok (.aload_n 0, 1) := by decide +kernel
theorem dX18_spend_10 : decode cX18_spend 10 = .ok (.getfield 261, 3) := by decide +kernel
theorem dX18_spend_13 : decode cX18_spend 13 = .ok (.iload_n 1, 1) := by decide +kernel
theorem dX18_spend_14 : decode cX18_spend 14 = .ok (.iadd, 1) := by decide +kernel
theorem dX18_spend_15 : decode cX18_spend 15 = .ok (.aload_n 0, 1) := by decide +kernel
theorem dX18_spend_16 : decode cX18_spend 16 = .ok (.getfield 264, 3) := by decide +kernel
theorem dX18_spend_19 : decode cX18_spend 19 = .ok (.if_icmp .le 21, 3) := by decide +kernel
theorem dX18_spend_22 : decode cX18_spend 22 = .ok (.aload_n 0, 1) := by decide +kernel
theorem dX18_spend_23 : decode cX18_spend 23 = .ok (.aload_n 0, 1) := by decide +kernel
theorem dX18_spend_24 : decode cX18_spend 24 = .ok (.getfield 264, 3) := by decide +kernel
theorem dX18_spend_27 : decode cX18_spend 27 = .ok (.putfield 261, 3) := by decide +kernel
theorem dX18_spend_30 : decode cX18_spend 30 = .ok (.aload_n 0, 1) := by decide +kernel
theorem dX18_spend_31 : decode cX18_spend 31 = .ok (.iconst 2, 1) := by decide +kernel
theorem dX18_spend_32 : decode cX18_spend 32 = .ok (.ldc2_w 122, 3) := by decide +kernel
theorem dX18_spend_35 : decode cX18_spend 35 = .ok (.invokevirtual 267, 3) := by decide +kernel
theorem dX18_spend_38 : decode cX18_spend 38 = .ok (.iconst 0, 1) := by decide +kernel
theorem dX18_spend_39 : decode cX18_spend 39 = .ok (.ireturn, 1) := by decide +kernel
theorem dX18_spend_40 : decode cX18_spend 40 = .ok (.aload_n 0, 1) := by decide +kernel
theorem dX18_spend_41 : decode cX18_spend 41 = .ok (.dup, 1) := by decide +kernel
theorem dX18_spend_42 : decode cX18_spend 42 = .ok (.getfield 261, 3) := by decide +kernel
theorem dX18_spend_45 : decode cX18_spend 45 = .ok (.iload_n 1, 1) := by decide +kernel
theorem dX18_spend_46 : decode cX18_spend 46 = .ok (.iadd, 1) := by decide +kernel
theorem dX18_spend_47 : decode cX18_spend 47 = .ok (.putfield 261, 3) := by decide +kernel
theorem dX18_spend_50 : decode cX18_spend 50 = .ok (.iconst 1, 1) := by decide +kernel
theorem dX18_spend_51 : decode cX18_spend 51 = .ok (.ireturn, 1) := by decide +kernel
theorem dX18_ask_0 : decode cX18_ask 0 = .ok (.iconst 0, 1) := by decide +kernel
theorem dX18_ask_1 : decode cX18_ask 1 = .ok (.istore 5, 2) := by decide +kernel
theorem dX18_ask_3 : decode cX18_ask 3 = .ok (.iload 5, 2) := by decide +kernel
theorem dX18_ask_5 : decode cX18_ask 5 = .ok (.aload_n 0, 1) := by decide +kernel
theorem dX18_ask_6 : decode cX18_ask 6 = .ok (.getfield 271, 3) := by decide +kernel
theorem dX18_ask_9 : decode cX18_ask 9 = .ok (.if_icmp .ge 47, 3) := by decide +kernel
theorem dX18_ask_12 : decode cX18_ask 12 = .ok (.aload_n 0, 1) := by decide +kernel
theorem dX18_ask_13 : decode cX18_ask 13 = .ok (.getfield 274, 3) := by decide +kernel
theorem dX18_ask_16 : decode cX18_ask 16 = .ok (.iload 5, 2) := by decide +kernel
theorem dX18_ask_18 : decode cX18_ask 18 = .ok (.iaload, 1) := by decide +kernel
theorem dX18_ask_19 : decode cX18_ask 19 = .ok (.iload_n 1, 1) := by decide +kernel
theorem dX18_ask_20 : decode cX18_ask 20 = .ok (.if_icmp .ne 30, 3) := by decide +kernel
theorem dX18_ask_23 : decode cX18_ask 23 = .ok (.aload_n 0, 1) := by decide +kernel
theorem dX18_ask_24 : decode cX18_ask 24 = .ok (.getfield 277, 3) := by decide +kernel
theorem dX18_ask_27 : decode cX18_ask 27 = .ok (.iload 5, 2) := by decide +kernel
theorem dX18_ask_29 : decode cX18_ask 29 = .ok (.laload, 1) := by decide +kernel
theorem dX18_ask_30 : decode cX18_ask 30 = .ok (.lload_n 2, 1) := by decide +kernel
theorem dX18_ask_31 : decode cX18_ask 31 = .ok (.lcmp, 1) := by decide +kernel
theorem dX18_ask_32 : decode cX18_ask 32 = .ok (.ifCond .ne 18, 3) := by decide +kernel
theorem dX18_ask_35 : decode cX18_ask 35 = .ok (.aload_n 0, 1) := by decide +kernel
theorem dX18_ask_36 : decode cX18_ask 36 = .ok (.getfield 280, 3) := by decide +kernel
theorem dX18_ask_39 : decode cX18_ask 39 = .ok (.iload 5, 2) := by decide +kernel
theorem dX18_ask_41 : decode cX18_ask 41 = .ok (.iaload, 1) := by decide +kernel
theorem dX18_ask_42 : decode cX18_ask 42 = .ok (.iload 4, 2) := by decide +kernel
theorem dX18_ask_44 : decode cX18_ask 44 = .ok (.if_icmp .ne 6, 3) := by decide +kernel
theorem dX18_ask_47 : decode cX18_ask 47 = .ok (.iload 5, 2) := by decide +kernel
theorem dX18_ask_49 : decode cX18_ask 49 = .ok (.ireturn, 1) := by decide +kernel
theorem dX18_ask_50 : decode cX18_ask 50 = .ok (.iinc 5 1, 3) := by decide +kernel
theorem dX18_ask_53 : decode cX18_ask 53 = .ok (.goto (-50), 3) := by decide +kernel
theorem dX18_ask_56 : decode cX18_ask 56 = .ok (.aload_n 0, 1) := by decide +kernel
theorem dX18_ask_57 : decode cX18_ask 57 = .ok (.getfield 271, 3) := by decide +kernel
theorem dX18_ask_60 : decode cX18_ask 60 = .ok (.bipush 24, 2) := by decide +kernel
theorem dX18_ask_62 : decode cX18_ask 62 = .ok (.if_icmp .ne 13, 3) := by decide +kernel
theorem dX18_ask_65 : decode cX18_ask 65 = .ok (.aload_n 0, 1) := by decide +kernel
theorem dX18_ask_66 : decode cX18_ask 66 = .ok (.iconst 2, 1) := by decide +kernel
theorem dX18_ask_67 : decode cX18_ask 67 = .ok (.ldc2_w 283, 3) := by decide +kernel
theorem dX18_ask_70 : decode cX18_ask 70 = .ok (.invokevirtual 267, 3) := by decide +kernel
theorem dX18_ask_73 : decode cX18_ask 73 = .ok (.iconst (-1), 1) := by decide +kernel
theorem dX18_ask_74 : decode cX18_ask 74 = .ok (.ireturn, 1) := by decide +kernel
theorem dX18_ask_75 : decode cX18_ask 75 = .ok (.aload_n 0, 1) := by decide +kernel
theorem dX18_ask_76 : decode cX18_ask 76 = .ok (.getfield 271, 3) := by decide +kernel
theorem dX18_ask_79 : decode cX18_ask 79 = .ok (.istore 5, 2) := by decide +kernel
theorem dX18_ask_81 : decode cX18_ask 81 = .ok (.aload_n 0, 1) := by decide +kernel
theorem dX18_ask_82 : decode cX18_ask 82 = .ok (.dup, 1) := by decide +kernel
theorem dX18_ask_83 : decode cX18_ask 83 = .ok (.getfield 271, 3) := by decide +kernel
theorem dX18_ask_86 : decode cX18_ask 86 = .ok (.iconst 1, 1) := by decide +kernel
theorem dX18_ask_87 : decode cX18_ask 87 = .ok (.iadd, 1) := by decide +kernel
theorem dX18_ask_88 : decode cX18_ask 88 = .ok (.putfield 271, 3) := by decide +kernel
theorem dX18_ask_91 : decode cX18_ask 91 = .ok (.aload_n 0, 1) := by decide +kernel
theorem dX18_ask_92 : decode cX18_ask 92 = .ok (.getfield 274, 3) := by decide +kernel
theorem dX18_ask_95 : decode cX18_ask 95 = .ok (.iload 5, 2) := by decide +kernel
theorem dX18_ask_97 : decode cX18_ask 97 = .ok (.iload_n 1, 1) := by decide +kernel
theorem dX18_ask_98 : decode cX18_ask 98 = .ok (.iastore, 1) := by decide +kernel
theorem dX18_ask_99 : decode cX18_ask 99 = .ok (.aload_n 0, 1) := by decide +kernel
theorem dX18_ask_100 : decode cX18_ask 100 = .ok (.getfield 277, 3) := by decide +kernel
theorem dX18_ask_103 : decode cX18_ask 103 = .ok (.iload 5, 2) := by decide +kernel
theorem dX18_ask_105 : decode cX18_ask 105 = .ok (.lload_n 2, 1) := by decide +kernel
theorem dX18_ask_106 : decode cX18_ask 106 = .ok (.lastore, 1) := by decide +kernel
theorem dX18_ask_107 : decode cX18_ask 107 = .ok (.aload_n 0, 1) := by decide +kernel
theorem dX18_ask_108 : decode cX18_ask 108 = .ok (.getfield 280, 3) := by decide +kernel
theorem dX18_ask_111 : decode cX18_ask 111 = .ok (.iload 5, 2) := by decide +kernel
theorem dX18_ask_113 : decode cX18_ask 113 = .ok (.iload 4, 2) := by decide +kernel
theorem dX18_ask_115 : decode cX18_ask 115 = .ok (.iastore, 1) := by decide +kernel
theorem dX18_ask_116 : decode cX18_ask 116 = .ok (.aload_n 0, 1) := by decide +kernel
theorem dX18_ask_117 : decode cX18_ask 117 = .ok (.getfield 285, 3) := by decide +kernel
theorem dX18_ask_120 : decode cX18_ask 120 = .ok (.iload 5, 2) := by decide +kernel
theorem dX18_ask_122 : decode cX18_ask 122 = .ok (.iconst (-1), 1) := by decide +kernel
theorem dX18_ask_123 : decode cX18_ask 123 = .ok (.iastore, 1) := by decide +kernel
theorem dX18_ask_124 : decode cX18_ask 124 = .ok (.iload_n 1, 1) := by decide +kernel
theorem dX18_ask_125 : decode cX18_ask 125 = .ok (.iconst 1, 1) := by decide +kernel
theorem dX18_ask_126 : decode cX18_ask 126 = .ok (.if_icmp .ne 11, 3) := by decide +kernel
theorem dX18_ask_129 : decode cX18_ask 129 = .ok (.aload_n 0, 1) := by decide +kernel
theorem dX18_ask_130 : decode cX18_ask 130 = .ok (.lload_n 2, 1) := by decide +kernel
theorem dX18_ask_131 : decode cX18_ask 131 = .ok (.invokevirtual 288, 3) := by decide +kernel
theorem dX18_ask_134 : decode cX18_ask 134 = .ok (.goto 4, 3) := by decide +kernel
theorem dX18_ask_137 : decode cX18_ask 137 = .ok (.iconst (-1), 1) := by decide +kernel
theorem dX18_ask_138 : decode cX18_ask 138 = .ok (.istore 6, 2) := by decide +kernel
theorem dX18_ask_140 : decode cX18_ask 140 = .ok (.iload_n 1, 1) := by decide +kernel
theorem dX18_ask_141 : decode cX18_ask 141 = .ok (.iconst 3, 1) := by decide +kernel
theorem dX18_ask_142 : decode cX18_ask 142 = .ok (.if_icmp .ne 13, 3) := by decide +kernel
theorem dX18_ask_145 : decode cX18_ask 145 = .ok (.aload_n 0, 1) := by decide +kernel
theorem dX18_ask_146 : decode cX18_ask 146 = .ok (.lload_n 2, 1) := by decide +kernel
theorem dX18_ask_147 : decode cX18_ask 147 = .ok (.iload 4, 2) := by decide +kernel
theorem dX18_ask_149 : decode cX18_ask 149 = .ok (.invokevirtual 292, 3) := by decide +kernel
theorem dX18_ask_152 : decode cX18_ask 152 = .ok (.goto 4, 3) := by decide +kernel
theorem dX18_ask_155 : decode cX18_ask 155 = .ok (.iconst (-1), 1) := by decide +kernel
theorem dX18_ask_156 : decode cX18_ask 156 = .ok (.istore 7, 2) := by decide +kernel
theorem dX18_ask_158 : decode cX18_ask 158 = .ok (.aload_n 0, 1) := by decide +kernel
theorem dX18_ask_159 : decode cX18_ask 159 = .ok (.getfield 296, 3) := by decide +kernel
theorem dX18_ask_162 : decode cX18_ask 162 = .ok (.iload 5, 2) := by decide +kernel
theorem dX18_ask_164 : decode cX18_ask 164 = .ok (.iload 6, 2) := by decide +kernel
theorem dX18_ask_166 : decode cX18_ask 166 = .ok (.ifCond .ge 8, 3) := by decide +kernel
theorem dX18_ask_169 : decode cX18_ask 169 = .ok (.iload 7, 2) := by decide +kernel
theorem dX18_ask_171 : decode cX18_ask 171 = .ok (.ifCond .lt 7, 3) := by decide +kernel
theorem dX18_ask_174 : decode cX18_ask 174 = .ok (.iconst 1, 1) := by decide +kernel
theorem dX18_ask_175 : decode cX18_ask 175 = .ok (.goto 4, 3) := by decide +kernel
theorem dX18_ask_178 : decode cX18_ask 178 = .ok (.iconst 0, 1) := by decide +kernel
theorem dX18_ask_179 : decode cX18_ask 179 = .ok (.bastore, 1) := by decide +kernel
theorem dX18_ask_180 : decode cX18_ask 180 = .ok (.aload_n 0, 1) := by decide +kernel
theorem dX18_ask_181 : decode cX18_ask 181 = .ok (.getfield 300, 3) := by decide +kernel
theorem dX18_ask_184 : decode cX18_ask 184 = .ok (.iload 5, 2) := by decide +kernel
theorem dX18_ask_186 : decode cX18_ask 186 = .ok (.iload 6, 2) := by decide +kernel
theorem dX18_ask_188 : decode cX18_ask 188 = .ok (.ifCond .lt 13, 3) := by decide +kernel
theorem dX18_ask_191 : decode cX18_ask 191 = .ok (.aload_n 0, 1) := by decide +kernel
theorem dX18_ask_192 : decode cX18_ask 192 = .ok (.getfield 303, 3) := by decide +kernel
theorem dX18_ask_195 : decode cX18_ask 195 = .ok (.iload 6, 2) := by decide +kernel
theorem dX18_ask_197 : decode cX18_ask 197 = .ok (.laload, 1) := by decide +kernel
theorem dX18_ask_198 : decode cX18_ask 198 = .ok (.goto 4, 3) := by decide +kernel
theorem dX18_ask_201 : decode cX18_ask 201 = .ok (.lconst 0, 1) := by decide +kernel
theorem dX18_ask_202 : decode cX18_ask 202 = .ok (.lastore, 1) := by decide +kernel
theorem dX18_ask_203 : decode cX18_ask 203 = .ok (.iload 7, 2) := by decide +kernel
theorem dX18_ask_205 : decode cX18_ask 205 = .ok (.ifCond .lt 16, 3) := by decide +kernel
theorem dX18_ask_208 : decode cX18_ask 208 = .ok (.aload_n 0, 1) := by decide +kernel
theorem dX18_ask_209 : decode cX18_ask 209 = .ok (.getfield 285, 3) := by decide +kernel
theorem dX18_ask_212 : decode cX18_ask 212 = .ok (.iload 5, 2) := by decide +kernel
theorem dX18_ask_214 : decode cX18_ask 214 = .ok (.aload_n 0, 1) := by decide +kernel
theorem dX18_ask_215 : decode cX18_ask 215 = .ok (.iload 7, 2) := by decide +kernel
theorem dX18_ask_217 : decode cX18_ask 217 = .ok (.invokevirtual 306, 3) := by decide +kernel
theorem dX18_ask_220 : decode cX18_ask 220 = .ok (.iastore, 1) := by decide +kernel
theorem dX18_ask_221 : decode cX18_ask 221 = .ok (.iload 5, 2) := by decide +kernel
theorem dX18_ask_223 : decode cX18_ask 223 = .ok (.ireturn, 1) := by decide +kernel
theorem dX18_push_0 : decode cX18_push 0 = .ok (.aload_n 0, 1) := by decide +kernel
theorem dX18_push_1 : decode cX18_push 1 = .ok (.invokevirtual 257, 3) := by decide +kernel
theorem dX18_push_4 : decode cX18_push 4 = .ok (.ifCond .ne 4, 3) := by decide +kernel
theorem dX18_push_7 : decode cX18_push 7 = .ok (.return_, 1) := by decide +kernel
theorem dX18_push_8 : decode cX18_push 8 = .ok (.aload_n 0, 1) := by decide +kernel
theorem dX18_push_9 : decode cX18_push 9 = .ok (.getfield 309, 3) := by decide +kernel
theorem dX18_push_12 : decode cX18_push 12 = .ok (.aload_n 0, 1) := by decide +kernel
theorem dX18_push_13 : decode cX18_push 13 = .ok (.getfield 312, 3) := by decide +kernel
theorem dX18_push_16 : decode cX18_push 16 = .ok (.iload_n 1, 1) := by decide +kernel
theorem dX18_push_17 : decode cX18_push 17 = .ok (.iastore, 1) := by decide +kernel
theorem dX18_push_18 : decode cX18_push 18 = .ok (.aload_n 0, 1) := by decide +kernel
theorem dX18_push_19 : decode cX18_push 19 = .ok (.getfield 315, 3) := by decide +kernel
theorem dX18_push_22 : decode cX18_push 22 = .ok (.aload_n 0, 1) := by decide +kernel
theorem dX18_push_23 : decode cX18_push 23 = .ok (.getfield 312, 3) := by decide +kernel
theorem dX18_push_26 : decode cX18_push 26 = .ok (.iload_n 2, 1) := by decide +kernel
theorem dX18_push_27 : decode cX18_push 27 = .ok (.bastore, 1) := by decide +kernel
theorem dX18_push_28 : decode cX18_push 28 = .ok (.aload_n 0, 1) := by decide +kernel
theorem dX18_push_29 : decode cX18_push 29 = .ok (.dup, 1) := by decide +kernel
theorem dX18_push_30 : decode cX18_push 30 = .ok (.getfield 312, 3) := by decide +kernel
theorem dX18_push_33 : decode cX18_push 33 = .ok (.iconst 1, 1) := by decide +kernel
theorem dX18_push_34 : decode cX18_push 34 = .ok (.iadd, 1) := by decide +kernel
theorem dX18_push_35 : decode cX18_push 35 = .ok (.putfield 312, 3) := by decide +kernel
theorem dX18_push_38 : decode cX18_push 38 = .ok (.return_, 1) := by decide +kernel
theorem dX18_make_0 : decode cX18_make 0 = .ok (.aload_n 0, 1) := by decide +kernel
theorem dX18_make_1 : decode cX18_make 1 = .ok (.invokevirtual 257, 3) := by decide +kernel
theorem dX18_make_4 : decode cX18_make 4 = .ok (.ifCond .eq 19, 3) := by decide +kernel
theorem dX18_make_7 : decode cX18_make 7 = .ok (.aload_n 0, 1) := by decide +kernel
theorem dX18_make_8 : decode cX18_make 8 = .ok (.aload_n 0, 1) := by decide +kernel
theorem dX18_make_9 : decode cX18_make 9 = .ok (.getfield 40, 3) := by decide +kernel
theorem dX18_make_12 : decode cX18_make 12 = .ok (.iload_n 1, 1) := by decide +kernel
theorem dX18_make_13 : decode cX18_make 13 = .ok (.lload_n 2, 1) := by decide +kernel
theorem dX18_make_14 : decode cX18_make 14 = .ok (.lload 4, 2) := by decide +kernel
theorem dX18_make_16 : decode cX18_make 16 = .ok (.invokevirtual 54, 3) := by decide +kernel
theorem dX18_make_19 : decode cX18_make 19 = .ok (.iconst 0, 1) := by decide +kernel
theorem dX18_make_20 : decode cX18_make 20 = .ok (.invokevirtual 318, 3) := by decide +kernel
theorem dX18_make_23 : decode cX18_make 23 = .ok (.return_, 1) := by decide +kernel
theorem dX18_slip_0 : decode cX18_slip 0 = .ok (.aload_n 0, 1) := by decide +kernel
theorem dX18_slip_1 : decode cX18_slip 1 = .ok (.dup, 1) := by decide +kernel
theorem dX18_slip_2 : decode cX18_slip 2 = .ok (.getfield 322, 3) := by decide +kernel
theorem dX18_slip_5 : decode cX18_slip 5 = .ok (.iconst 1, 1) := by decide +kernel
theorem dX18_slip_6 : decode cX18_slip 6 = .ok (.iadd, 1) := by decide +kernel
theorem dX18_slip_7 : decode cX18_slip 7 = .ok (.putfield 322, 3) := by decide +kernel
theorem dX18_slip_10 : decode cX18_slip 10 = .ok (.aload_n 0, 1) := by decide +kernel
theorem dX18_slip_11 : decode cX18_slip 11 = .ok (.iconst 2, 1) := by decide +kernel
theorem dX18_slip_12 : decode cX18_slip 12 = .ok (.lconst 0, 1) := by decide +kernel
theorem dX18_slip_13 : decode cX18_slip 13 = .ok (.invokevirtual 267, 3) := by decide +kernel
theorem dX18_slip_16 : decode cX18_slip 16 = .ok (.return_, 1) := by decide +kernel
theorem dX18_takeAny_0 : decode cX18_takeAny 0 = .ok (.aload_n 0, 1) := by decide +kernel
theorem dX18_takeAny_1 : decode cX18_takeAny 1 = .ok (.invokevirtual 257, 3) := by decide +kernel
theorem dX18_takeAny_4 : decode cX18_takeAny 4 = .ok (.ifCond .eq 40, 3) := by decide +kernel
theorem dX18_takeAny_7 : decode cX18_takeAny 7 = .ok (.aload_n 0, 1) := by decide +kernel
theorem dX18_takeAny_8 : decode cX18_takeAny 8 = .ok (.getfield 312, 3) := by decide +kernel
theorem dX18_takeAny_11 : decode cX18_takeAny 11 = .ok (.aload_n 0, 1) := by decide +kernel
theorem dX18_takeAny_12 : decode cX18_takeAny 12 = .ok (.getfield 325, 3) := by decide +kernel
theorem dX18_takeAny_15 : decode cX18_takeAny 15 = .ok (.aload_n 0, 1) := by decide +kernel
theorem dX18_takeAny_16 : decode cX18_takeAny 16 = .ok (.getfield 328, 3) := by decide +kernel
theorem dX18_takeAny_19 : decode cX18_takeAny 19 = .ok (.iconst 1, 1) := by decide +kernel
theorem dX18_takeAny_20 : decode cX18_takeAny 20 = .ok (.isub, 1) := by decide +kernel
theorem dX18_takeAny_21 : decode cX18_takeAny 21 = .ok (.iaload, 1) := by decide +kernel
theorem dX18_takeAny_22 : decode cX18_takeAny 22 = .ok (.if_icmp .eq 18, 3) := by decide +kernel
theorem dX18_takeAny_25 : decode cX18_takeAny 25 = .ok (.aload_n 0, 1) := by decide +kernel
theorem dX18_takeAny_26 : decode cX18_takeAny 26 = .ok (.getfield 315, 3) := by decide +kernel
theorem dX18_takeAny_29 : decode cX18_takeAny 29 = .ok (.aload_n 0, 1) := by decide +kernel
theorem dX18_takeAny_30 : decode cX18_takeAny 30 = .ok (.getfield 312, 3) := by decide +kernel
theorem dX18_takeAny_33 : decode cX18_takeAny 33 = .ok (.iconst 1, 1) := by decide +kernel
theorem dX18_takeAny_34 : decode cX18_takeAny 34 = .ok (.isub, 1) := by decide +kernel
theorem dX18_takeAny_35 : decode cX18_takeAny 35 = .ok (.baload, 1) := by decide +kernel
theorem dX18_takeAny_36 : decode cX18_takeAny 36 = .ok (.iload_n 1, 1) := by decide +kernel
theorem dX18_takeAny_37 : decode cX18_takeAny 37 = .ok (.if_icmp .eq 7, 3) := by decide +kernel
theorem dX18_takeAny_40 : decode cX18_takeAny 40 = .ok (.aload_n 0, 1) := by decide +kernel
theorem dX18_takeAny_41 : decode cX18_takeAny 41 = .ok (.invokevirtual 331, 3) := by decide +kernel
theorem dX18_takeAny_44 : decode cX18_takeAny 44 = .ok (.aload_n 0, 1) := by decide +kernel
theorem dX18_takeAny_45 : decode cX18_takeAny 45 = .ok (.invokevirtual 257, 3) := by decide +kernel
theorem dX18_takeAny_48 : decode cX18_takeAny 48 = .ok (.ifCond .ne 5, 3) := by decide +kernel
theorem dX18_takeAny_51 : decode cX18_takeAny 51 = .ok (.iconst 0, 1) := by decide +kernel
theorem dX18_takeAny_52 : decode cX18_takeAny 52 = .ok (.ireturn, 1) := by decide +kernel
theorem dX18_takeAny_53 : decode cX18_takeAny 53 = .ok (.aload_n 0, 1) := by decide +kernel
theorem dX18_takeAny_54 : decode cX18_takeAny 54 = .ok (.dup, 1) := by decide +kernel
theorem dX18_takeAny_55 : decode cX18_takeAny 55 = .ok (.getfield 312, 3) := by decide +kernel
theorem dX18_takeAny_58 : decode cX18_takeAny 58 = .ok (.iconst 1, 1) := by decide +kernel
theorem dX18_takeAny_59 : decode cX18_takeAny 59 = .ok (.isub, 1) := by decide +kernel
theorem dX18_takeAny_60 : decode cX18_takeAny 60 = .ok (.putfield 312, 3) := by decide +kernel
theorem dX18_takeAny_63 : decode cX18_takeAny 63 = .ok (.aload_n 0, 1) := by decide +kernel
theorem dX18_takeAny_64 : decode cX18_takeAny 64 = .ok (.aload_n 0, 1) := by decide +kernel
theorem dX18_takeAny_65 : decode cX18_takeAny 65 = .ok (.getfield 309, 3) := by decide +kernel
theorem dX18_takeAny_68 : decode cX18_takeAny 68 = .ok (.aload_n 0, 1) := by decide +kernel
theorem dX18_takeAny_69 : decode cX18_takeAny 69 = .ok (.getfield 312, 3) := by decide +kernel
theorem dX18_takeAny_72 : decode cX18_takeAny 72 = .ok (.iaload, 1) := by decide +kernel
theorem dX18_takeAny_73 : decode cX18_takeAny 73 = .ok (.putfield 334, 3) := by decide +kernel
theorem dX18_takeAny_76 : decode cX18_takeAny 76 = .ok (.aload_n 0, 1) := by decide +kernel
theorem dX18_takeAny_77 : decode cX18_takeAny 77 = .ok (.getfield 334, 3) := by decide +kernel
theorem dX18_takeAny_80 : decode cX18_takeAny 80 = .ok (.ireturn, 1) := by decide +kernel
theorem dX18_take_0 : decode cX18_take 0 = .ok (.aload_n 0, 1) := by decide +kernel
theorem dX18_take_1 : decode cX18_take 1 = .ok (.iconst 0, 1) := by decide +kernel
theorem dX18_take_2 : decode cX18_take 2 = .ok (.invokevirtual 337, 3) := by decide +kernel
theorem dX18_take_5 : decode cX18_take 5 = .ok (.istore_n 2, 1) := by decide +kernel
theorem dX18_take_6 : decode cX18_take 6 = .ok (.aload_n 0, 1) := by decide +kernel
theorem dX18_take_7 : decode cX18_take 7 = .ok (.invokevirtual 257, 3) := by decide +kernel
theorem dX18_take_10 : decode cX18_take 10 = .ok (.ifCond .eq 20, 3) := by decide +kernel
theorem dX18_take_13 : decode cX18_take 13 = .ok (.aload_n 0, 1) := by decide +kernel
theorem dX18_take_14 : decode cX18_take 14 = .ok (.getfield 40, 3) := by decide +kernel
theorem dX18_take_17 : decode cX18_take 17 = .ok (.getfield 71, 3) := by decide +kernel
theorem dX18_take_20 : decode cX18_take 20 = .ok (.iload_n 2, 1) := by decide +kernel
theorem dX18_take_21 : decode cX18_take 21 = .ok (.baload, 1) := by decide +kernel
theorem dX18_take_22 : decode cX18_take 22 = .ok (.iload_n 1, 1) := by decide +kernel
theorem dX18_take_23 : decode cX18_take 23 = .ok (.if_icmp .eq 7, 3) := by decide +kernel
theorem dX18_take_26 : decode cX18_take 26 = .ok (.aload_n 0, 1) := by decide +kernel
theorem dX18_take_27 : decode cX18_take 27 = .ok (.invokevirtual 331, 3) := by decide +kernel
theorem dX18_take_30 : decode cX18_take 30 = .ok (.iload_n 2, 1) := by decide +kernel
theorem dX18_take_31 : decode cX18_take 31 = .ok (.ireturn, 1) := by decide +kernel
theorem dX18_takeLong_0 : decode cX18_takeLong 0 = .ok (.aload_n 0, 1) := by decide +kernel
theorem dX18_takeLong_1 : decode cX18_takeLong 1 = .ok (.iconst 3, 1) := by decide +kernel
theorem dX18_takeLong_2 : decode cX18_takeLong 2 = .ok (.invokevirtual 341, 3) := by decide +kernel
theorem dX18_takeLong_5 : decode cX18_takeLong 5 = .ok (.istore_n 1, 1) := by decide +kernel
theorem dX18_takeLong_6 : decode cX18_takeLong 6 = .ok (.aload_n 0, 1) := by decide +kernel
theorem dX18_takeLong_7 : decode cX18_takeLong 7 = .ok (.getfield 40, 3) := by decide +kernel
theorem dX18_takeLong_10 : decode cX18_takeLong 10 = .ok (.getfield 77, 3) := by decide +kernel
theorem dX18_takeLong_13 : decode cX18_takeLong 13 = .ok (.iload_n 1, 1) := by decide +kernel
theorem dX18_takeLong_14 : decode cX18_takeLong 14 = .ok (.laload, 1) := by decide +kernel
theorem dX18_takeLong_15 : decode cX18_takeLong 15 = .ok (.lreturn, 1) := by decide +kernel
theorem dX18_local_0 : decode cX18_local 0 = .ok (.bipush 40, 2) := by decide +kernel
theorem dX18_local_2 : decode cX18_local 2 = .ok (.aload_n 0, 1) := by decide +kernel
theorem dX18_local_3 : decode cX18_local 3 = .ok (.getfield 328, 3) := by decide +kernel
theorem dX18_local_6 : decode cX18_local 6 = .ok (.iconst 1, 1) := by decide +kernel
theorem dX18_local_7 : decode cX18_local 7 = .ok (.isub, 1) := by decide +kernel
theorem dX18_local_8 : decode cX18_local 8 = .ok (.imul, 1) := by decide +kernel
theorem dX18_local_9 : decode cX18_local 9 = .ok (.iload_n 1, 1) := by decide +kernel
theorem dX18_local_10 : decode cX18_local 10 = .ok (.iadd, 1) := by decide +kernel
theorem dX18_local_11 : decode cX18_local 11 = .ok (.ireturn, 1) := by decide +kernel
theorem dX18_bitsOf_0 : decode cX18_bitsOf 0 = .ok (.iload_n 0, 1) := by decide +kernel
theorem dX18_bitsOf_1 : decode cX18_bitsOf 1 = .ok (.iconst 2, 1) := by decide +kernel
theorem dX18_bitsOf_2 : decode cX18_bitsOf 2 = .ok (.if_icmp .ne 8, 3) := by decide +kernel
theorem dX18_bitsOf_5 : decode cX18_bitsOf 5 = .ok (.bipush 8, 2) := by decide +kernel
theorem dX18_bitsOf_7 : decode cX18_bitsOf 7 = .ok (.goto 16, 3) := by decide +kernel
theorem dX18_bitsOf_10 : decode cX18_bitsOf 10 = .ok (.iload_n 0, 1) := by decide +kernel
theorem dX18_bitsOf_11 : decode cX18_bitsOf 11 = .ok (.iconst 4, 1) := by decide +kernel
theorem dX18_bitsOf_12 : decode cX18_bitsOf 12 = .ok (.if_icmp .ne 9, 3) := by decide +kernel
theorem dX18_bitsOf_15 : decode cX18_bitsOf 15 = .ok (.sipush 128, 3) := by decide +kernel
theorem dX18_bitsOf_18 : decode cX18_bitsOf 18 = .ok (.goto 5, 3) := by decide +kernel
theorem dX18_bitsOf_21 : decode cX18_bitsOf 21 = .ok (.bipush 64, 2) := by decide +kernel
theorem dX18_bitsOf_23 : decode cX18_bitsOf 23 = .ok (.ireturn, 1) := by decide +kernel
theorem dX18_onLocal_0 : decode cX18_onLocal 0 = .ok (.aload_n 0, 1) := by decide +kernel
theorem dX18_onLocal_1 : decode cX18_onLocal 1 = .ok (.iload_n 2, 1) := by decide +kernel
theorem dX18_onLocal_2 : decode cX18_onLocal 2 = .ok (.invokevirtual 344, 3) := by decide +kernel
theorem dX18_onLocal_5 : decode cX18_onLocal 5 = .ok (.istore_n 3, 1) := by decide +kernel
theorem dX18_onLocal_6 : decode cX18_onLocal 6 = .ok (.iload_n 1, 1) := by decide +kernel
theorem dX18_onLocal_7 : decode cX18_onLocal 7 = .ok (.bipush 13, 2) := by decide +kernel
theorem dX18_onLocal_9 : decode cX18_onLocal 9 = .ok (.if_icmp .ne 83, 3) := by decide +kernel
theorem dX18_onLocal_12 : decode cX18_onLocal 12 = .ok (.aload_n 0, 1) := by decide +kernel
theorem dX18_onLocal_13 : decode cX18_onLocal 13 = .ok (.invokevirtual 257, 3) := by decide +kernel
theorem dX18_onLocal_16 : decode cX18_onLocal 16 = .ok (.ifCond .eq 39, 3) := by decide +kernel
theorem dX18_onLocal_19 : decode cX18_onLocal 19 = .ok (.aload_n 0, 1) := by decide +kernel
theorem dX18_onLocal_20 : decode cX18_onLocal 20 = .ok (.getfield 312, 3) := by decide +kernel
theorem dX18_onLocal_23 : decode cX18_onLocal 23 = .ok (.aload_n 0, 1) := by decide +kernel
theorem dX18_onLocal_24 : decode cX18_onLocal 24 = .ok (.getfield 325, 3) := by decide +kernel
theorem dX18_onLocal_27 : decode cX18_onLocal 27 = .ok (.aload_n 0, 1) := by decide +kernel
theorem dX18_onLocal_28 : decode cX18_onLocal 28 = .ok (.getfield 328, 3) := by decide +kernel
theorem dX18_onLocal_31 : decode cX18_onLocal 31 = .ok (.iconst 1, 1) := by decide +kernel
theorem dX18_onLocal_32 : decode cX18_onLocal 32 = .ok (.isub, 1) := by decide +kernel
theorem dX18_onLocal_33 : decode cX18_onLocal 33 = .ok (.iaload, 1) := by decide +kernel
theorem dX18_onLocal_34 : decode cX18_onLocal 34 = .ok (.if_icmp .le 21, 3) := by decide +kernel
theorem dX18_onLocal_37 : decode cX18_onLocal 37 = .ok (.aload_n 0, 1) := by decide +kernel
theorem dX18_onLocal_38 : decode cX18_onLocal 38 = .ok (.getfield 315, 3) := by decide +kernel
theorem dX18_onLocal_41 : decode cX18_onLocal 41 = .ok (.aload_n 0, 1) := by decide +kernel
theorem dX18_onLocal_42 : decode cX18_onLocal 42 = .ok (.getfield 312, 3) := by decide +kernel
theorem dX18_onLocal_45 : decode cX18_onLocal 45 = .ok (.iconst 1, 1) := by decide +kernel
theorem dX18_onLocal_46 : decode cX18_onLocal 46 = .ok (.isub, 1) := by decide +kernel
theorem dX18_onLocal_47 : decode cX18_onLocal 47 = .ok (.baload, 1) := by decide +kernel
theorem dX18_onLocal_48 : decode cX18_onLocal 48 = .ok (.ifCond .eq 7, 3) := by decide +kernel
theorem dX18_onLocal_51 : decode cX18_onLocal 51 = .ok (.iconst 1, 1) := by decide +kernel
theorem dX18_onLocal_52 : decode cX18_onLocal 52 = .ok (.goto 4, 3) := by decide +kernel
theorem dX18_onLocal_55 : decode cX18_onLocal 55 = .ok (.iconst 0, 1) := by decide +kernel
theorem dX18_onLocal_56 : decode cX18_onLocal 56 = .ok (.istore 4, 2) := by decide +kernel
theorem dX18_onLocal_58 : decode cX18_onLocal 58 = .ok (.aload_n 0, 1) := by decide +kernel
theorem dX18_onLocal_59 : decode cX18_onLocal 59 = .ok (.iload 4, 2) := by decide +kernel
theorem dX18_onLocal_61 : decode cX18_onLocal 61 = .ok (.invokevirtual 337, 3) := by decide +kernel
theorem dX18_onLocal_64 : decode cX18_onLocal 64 = .ok (.pop, 1) := by decide +kernel
theorem dX18_onLocal_65 : decode cX18_onLocal 65 = .ok (.aload_n 0, 1) := by decide +kernel
theorem dX18_onLocal_66 : decode cX18_onLocal 66 = .ok (.invokevirtual 257, 3) := by decide +kernel
theorem dX18_onLocal_69 : decode cX18_onLocal 69 = .ok (.ifCond .ne 4, 3) := by decide +kernel
theorem dX18_onLocal_72 : decode cX18_onLocal 72 = .ok (.return_, 1) := by decide +kernel
theorem dX18_onLocal_73 : decode cX18_onLocal 73 = .ok (.aload_n 0, 1) := by decide +kernel
theorem dX18_onLocal_74 : decode cX18_onLocal 74 = .ok (.getfield 347, 3) := by decide +kernel
theorem dX18_onLocal_77 : decode cX18_onLocal 77 = .ok (.iload_n 3, 1) := by decide +kernel
theorem dX18_onLocal_78 : decode cX18_onLocal 78 = .ok (.aload_n 0, 1) := by decide +kernel
theorem dX18_onLocal_79 : decode cX18_onLocal 79 = .ok (.getfield 334, 3) := by decide +kernel
theorem dX18_onLocal_82 : decode cX18_onLocal 82 = .ok (.iastore, 1) := by decide +kernel
theorem dX18_onLocal_83 : decode cX18_onLocal 83 = .ok (.aload_n 0, 1) := by decide +kernel
theorem dX18_onLocal_84 : decode cX18_onLocal 84 = .ok (.getfield 350, 3) := by decide +kernel
theorem dX18_onLocal_87 : decode cX18_onLocal 87 = .ok (.iload_n 3, 1) := by decide +kernel
theorem dX18_onLocal_88 : decode cX18_onLocal 88 = .ok (.iload 4, 2) := by decide +kernel
theorem dX18_onLocal_90 : decode cX18_onLocal 90 = .ok (.bastore, 1) := by decide +kernel
theorem dX18_onLocal_91 : decode cX18_onLocal 91 = .ok (.return_, 1) := by decide +kernel
theorem dX18_onLocal_92 : decode cX18_onLocal 92 = .ok (.aload_n 0, 1) := by decide +kernel
theorem dX18_onLocal_93 : decode cX18_onLocal 93 = .ok (.getfield 347, 3) := by decide +kernel
theorem dX18_onLocal_96 : decode cX18_onLocal 96 = .ok (.iload_n 3, 1) := by decide +kernel
theorem dX18_onLocal_97 : decode cX18_onLocal 97 = .ok (.iaload, 1) := by decide +kernel
theorem dX18_onLocal_98 : decode cX18_onLocal 98 = .ok (.iconst (-1), 1) := by decide +kernel
theorem dX18_onLocal_99 : decode cX18_onLocal 99 = .ok (.if_icmp .ne 7, 3) := by decide +kernel
theorem dX18_onLocal_102 : decode cX18_onLocal 102 = .ok (.aload_n 0, 1) := by decide +kernel
theorem dX18_onLocal_103 : decode cX18_onLocal 103 = .ok (.invokevirtual 331, 3) := by decide +kernel
theorem dX18_onLocal_106 : decode cX18_onLocal 106 = .ok (.aload_n 0, 1) := by decide +kernel
theorem dX18_onLocal_107 : decode cX18_onLocal 107 = .ok (.invokevirtual 257, 3) := by decide +kernel
theorem dX18_onLocal_110 : decode cX18_onLocal 110 = .ok (.ifCond .ne 4, 3) := by decide +kernel
theorem dX18_onLocal_113 : decode cX18_onLocal 113 = .ok (.return_, 1) := by decide +kernel
theorem dX18_onLocal_114 : decode cX18_onLocal 114 = .ok (.iload_n 1, 1) := by decide +kernel
theorem dX18_onLocal_115 : decode cX18_onLocal 115 = .ok (.bipush 11, 2) := by decide +kernel
theorem dX18_onLocal_117 : decode cX18_onLocal 117 = .ok (.if_icmp .ne 75, 3) := by decide +kernel
theorem dX18_onLocal_120 : decode cX18_onLocal 120 = .ok (.aload_n 0, 1) := by decide +kernel
theorem dX18_onLocal_121 : decode cX18_onLocal 121 = .ok (.getfield 350, 3) := by decide +kernel
theorem dX18_onLocal_124 : decode cX18_onLocal 124 = .ok (.iload_n 3, 1) := by decide +kernel
theorem dX18_onLocal_125 : decode cX18_onLocal 125 = .ok (.baload, 1) := by decide +kernel
theorem dX18_onLocal_126 : decode cX18_onLocal 126 = .ok (.ifCond .eq 25, 3) := by decide +kernel
theorem dX18_onLocal_129 : decode cX18_onLocal 129 = .ok (.aload_n 0, 1) := by decide +kernel
theorem dX18_onLocal_130 : decode cX18_onLocal 130 = .ok (.iconst 1, 1) := by decide +kernel
theorem dX18_onLocal_131 : decode cX18_onLocal 131 = .ok (.invokevirtual 353, 3) := by decide +kernel
theorem dX18_onLocal_134 : decode cX18_onLocal 134 = .ok (.ifCond .eq 101, 3) := by decide +kernel
theorem dX18_onLocal_137 : decode cX18_onLocal 137 = .ok (.aload_n 0, 1) := by decide +kernel
theorem dX18_onLocal_138 : decode cX18_onLocal 138 = .ok (.aload_n 0, 1) := by decide +kernel
theorem dX18_onLocal_139 : decode cX18_onLocal 139 = .ok (.getfield 347, 3) := by decide +kernel
theorem dX18_onLocal_142 : decode cX18_onLocal 142 = .ok (.iload_n 3, 1) := by decide +kernel
theorem dX18_onLocal_143 : decode cX18_onLocal 143 = .ok (.iaload, 1) := by decide +kernel
theorem dX18_onLocal_144 : decode cX18_onLocal 144 = .ok (.iconst 1, 1) := by decide +kernel
theorem dX18_onLocal_145 : decode cX18_onLocal 145 = .ok (.invokevirtual 318, 3) := by decide +kernel
theorem dX18_onLocal_148 : decode cX18_onLocal 148 = .ok (.goto 87, 3) := by decide +kernel
theorem dX18_onLocal_151 : decode cX18_onLocal 151 = .ok (.aload_n 0, 1) := by decide +kernel
theorem dX18_onLocal_152 : decode cX18_onLocal 152 = .ok (.aload_n 0, 1) := by decide +kernel
theorem dX18_onLocal_153 : decode cX18_onLocal 153 = .ok (.getfield 40, 3) := by decide +kernel
theorem dX18_onLocal_156 : decode cX18_onLocal 156 = .ok (.aload_n 0, 1) := by decide +kernel
theorem dX18_onLocal_157 : decode cX18_onLocal 157 = .ok (.getfield 347, 3) := by decide +kernel
theorem dX18_onLocal_160 : decode cX18_onLocal 160 = .ok (.iload_n 3, 1) := by decide +kernel
theorem dX18_onLocal_161 : decode cX18_onLocal 161 = .ok (.iaload, 1) := by decide +kernel
theorem dX18_onLocal_162 : decode cX18_onLocal 162 = .ok (.invokevirtual 357, 3) := by decide +kernel
theorem dX18_onLocal_165 : decode cX18_onLocal 165 = .ok (.invokevirtual 353, 3) := by decide +kernel
theorem dX18_onLocal_168 : decode cX18_onLocal 168 = .ok (.ifCond .eq 67, 3) := by decide +kernel
theorem dX18_onLocal_171 : decode cX18_onLocal 171 = .ok (.aload_n 0, 1) := by decide +kernel
theorem dX18_onLocal_172 : decode cX18_onLocal 172 = .ok (.aload_n 0, 1) := by decide +kernel
theorem dX18_onLocal_173 : decode cX18_onLocal 173 = .ok (.getfield 40, 3) := by decide +kernel
theorem dX18_onLocal_176 : decode cX18_onLocal 176 = .ok (.aload_n 0, 1) := by decide +kernel
theorem dX18_onLocal_177 : decode cX18_onLocal 177 = .ok (.getfield 347, 3) := by decide +kernel
theorem dX18_onLocal_180 : decode cX18_onLocal 180 = .ok (.iload_n 3, 1) := by decide +kernel
theorem dX18_onLocal_181 : decode cX18_onLocal 181 = .ok (.iaload, 1) := by decide +kernel
theorem dX18_onLocal_182 : decode cX18_onLocal 182 = .ok (.invokevirtual 360, 3) := by decide +kernel
theorem dX18_onLocal_185 : decode cX18_onLocal 185 = .ok (.iconst 0, 1) := by decide +kernel
theorem dX18_onLocal_186 : decode cX18_onLocal 186 = .ok (.invokevirtual 318, 3) := by decide +kernel
theorem dX18_onLocal_189 : decode cX18_onLocal 189 = .ok (.goto 46, 3) := by decide +kernel
theorem dX18_onLocal_192 : decode cX18_onLocal 192 = .ok (.iload_n 1, 1) := by decide +kernel
theorem dX18_onLocal_193 : decode cX18_onLocal 193 = .ok (.bipush 12, 2) := by decide +kernel
theorem dX18_onLocal_195 : decode cX18_onLocal 195 = .ok (.if_icmp .ne 29, 3) := by decide +kernel
theorem dX18_onLocal_198 : decode cX18_onLocal 198 = .ok (.aload_n 0, 1) := by decide +kernel
theorem dX18_onLocal_199 : decode cX18_onLocal 199 = .ok (.aload_n 0, 1) := by decide +kernel
theorem dX18_onLocal_200 : decode cX18_onLocal 200 = .ok (.getfield 347, 3) := by decide +kernel
theorem dX18_onLocal_203 : decode cX18_onLocal 203 = .ok (.iload_n 3, 1) := by decide +kernel
theorem dX18_onLocal_204 : decode cX18_onLocal 204 = .ok (.iaload, 1) := by decide +kernel
theorem dX18_onLocal_205 : decode cX18_onLocal 205 = .ok (.aload_n 0, 1) := by decide +kernel
theorem dX18_onLocal_206 : decode cX18_onLocal 206 = .ok (.getfield 350, 3) := by decide +kernel
theorem dX18_onLocal_209 : decode cX18_onLocal 209 = .ok (.iload_n 3, 1) := by decide +kernel
theorem dX18_onLocal_210 : decode cX18_onLocal 210 = .ok (.baload, 1) := by decide +kernel
theorem dX18_onLocal_211 : decode cX18_onLocal 211 = .ok (.invokevirtual 318, 3) := by decide +kernel
theorem dX18_onLocal_214 : decode cX18_onLocal 214 = .ok (.aload_n 0, 1) := by decide +kernel
theorem dX18_onLocal_215 : decode cX18_onLocal 215 = .ok (.getfield 347, 3) := by decide +kernel
theorem dX18_onLocal_218 : decode cX18_onLocal 218 = .ok (.iload_n 3, 1) := by decide +kernel
theorem dX18_onLocal_219 : decode cX18_onLocal 219 = .ok (.iconst (-1), 1) := by decide +kernel
theorem dX18_onLocal_220 : decode cX18_onLocal 220 = .ok (.iastore, 1) := by decide +kernel
theorem dX18_onLocal_221 : decode cX18_onLocal 221 = .ok (.goto 14, 3) := by decide +kernel
theorem dX18_onLocal_224 : decode cX18_onLocal 224 = .ok (.aload_n 0, 1) := by decide +kernel
theorem dX18_onLocal_225 : decode cX18_onLocal 225 = .ok (.aload_n 0, 1) := by decide +kernel
theorem dX18_onLocal_226 : decode cX18_onLocal 226 = .ok (.getfield 347, 3) := by decide +kernel
theorem dX18_onLocal_229 : decode cX18_onLocal 229 = .ok (.iload_n 3, 1) := by decide +kernel
theorem dX18_onLocal_230 : decode cX18_onLocal 230 = .ok (.iaload, 1) := by decide +kernel
theorem dX18_onLocal_231 : decode cX18_onLocal 231 = .ok (.iconst 1, 1) := by decide +kernel
theorem dX18_onLocal_232 : decode cX18_onLocal 232 = .ok (.invokevirtual 318, 3) := by decide +kernel
theorem dX18_onLocal_235 : decode cX18_onLocal 235 = .ok (.return_, 1) := by decide +kernel
theorem dX18_onReference_0 : decode cX18_onReference 0 = .ok (.aload_n 0, 1) := by decide +kernel
theorem dX18_onReference_1 : decode cX18_onReference 1 = .ok (.iconst 1, 1) := by decide +kernel
theorem dX18_onReference_2 : decode cX18_onReference 2 = .ok (.invokevirtual 337, 3) := by decide +kernel
theorem dX18_onReference_5 : decode cX18_onReference 5 = .ok (.istore_n 3, 1) := by decide +kernel
theorem dX18_onReference_6 : decode cX18_onReference 6 = .ok (.aload_n 0, 1) := by decide +kernel
theorem dX18_onReference_7 : decode cX18_onReference 7 = .ok (.invokevirtual 257, 3) := by decide +kernel
theorem dX18_onReference_10 : decode cX18_onReference 10 = .ok (.ifCond .ne 4, 3) := by decide +kernel
theorem dX18_onReference_13 : decode cX18_onReference 13 = .ok (.return_, 1) := by decide +kernel
theorem dX18_onReference_14 : decode cX18_onReference 14 = .ok (.iload_n 1, 1) := by decide +kernel
theorem dX18_onReference_15 : decode cX18_onReference 15 = .ok (.bipush 20, 2) := by decide +kernel
theorem dX18_onReference_17 : decode cX18_onReference 17 = .ok (.if_icmp .ne 12, 3) := by decide +kernel
theorem dX18_onReference_20 : decode cX18_onReference 20 = .ok (.aload_n 0, 1) := by decide +kernel
theorem dX18_onReference_21 : decode cX18_onReference 21 = .ok (.iload_n 3, 1) := by decide +kernel
theorem dX18_onReference_22 : decode cX18_onReference 22 = .ok (.iconst 1, 1) := by decide +kernel
theorem dX18_onReference_23 : decode cX18_onReference 23 = .ok (.invokevirtual 318, 3) := by decide +kernel
theorem dX18_onReference_26 : decode cX18_onReference 26 = .ok (.goto 135, 3) := by decide +kernel
theorem dX18_onReference_29 : decode cX18_onReference 29 = .ok (.iload_n 1, 1) := by decide +kernel
theorem dX18_onReference_30 : decode cX18_onReference 30 = .ok (.bipush 18, 2) := by decide +kernel
theorem dX18_onReference_32 : decode cX18_onReference 32 = .ok (.if_icmp .ne 34, 3) := by decide +kernel
theorem dX18_onReference_35 : decode cX18_onReference 35 = .ok (.aload_n 0, 1) := by decide +kernel
theorem dX18_onReference_36 : decode cX18_onReference 36 = .ok (.aload_n 0, 1) := by decide +kernel
theorem dX18_onReference_37 : decode cX18_onReference 37 = .ok (.getfield 40, 3) := by decide +kernel
theorem dX18_onReference_40 : decode cX18_onReference 40 = .ok (.iload_n 3, 1) := by decide +kernel
theorem dX18_onReference_41 : decode cX18_onReference 41 = .ok (.invokevirtual 357, 3) := by decide +kernel
theorem dX18_onReference_44 : decode cX18_onReference 44 = .ok (.invokevirtual 353, 3) := by decide +kernel
theorem dX18_onReference_47 : decode cX18_onReference 47 = .ok (.ifCond .eq 114, 3) := by decide +kernel
theorem dX18_onReference_50 : decode cX18_onReference 50 = .ok (.aload_n 0, 1) := by decide +kernel
theorem dX18_onReference_51 : decode cX18_onReference 51 = .ok (.aload_n 0, 1) := by decide +kernel
theorem dX18_onReference_52 : decode cX18_onReference 52 = .ok (.getfield 40, 3) := by decide +kernel
theorem dX18_onReference_55 : decode cX18_onReference 55 = .ok (.iload_n 3, 1) := by decide +kernel
theorem dX18_onReference_56 : decode cX18_onReference 56 = .ok (.invokevirtual 360, 3) := by decide +kernel
theorem dX18_onReference_59 : decode cX18_onReference 59 = .ok (.iconst 0, 1) := by decide +kernel
theorem dX18_onReference_60 : decode cX18_onReference 60 = .ok (.invokevirtual 318, 3) := by decide +kernel
theorem dX18_onReference_63 : decode cX18_onReference 63 = .ok (.goto 98, 3) := by decide +kernel
theorem dX18_onReference_66 : decode cX18_onReference 66 = .ok (.iload_n 1, 1) := by decide +kernel
theorem dX18_onReference_67 : decode cX18_onReference 67 = .ok (.bipush 19, 2) := by decide +kernel
theorem dX18_onReference_69 : decode cX18_onReference 69 = .ok (.if_icmp .ne 60, 3) := by decide +kernel
theorem dX18_onReference_72 : decode cX18_onReference 72 = .ok (.aload_n 0, 1) := by decide +kernel
theorem dX18_onReference_73 : decode cX18_onReference 73 = .ok (.iconst 0, 1) := by decide +kernel
theorem dX18_onReference_74 : decode cX18_onReference 74 = .ok (.invokevirtual 337, 3) := by decide +kernel
theorem dX18_onReference_77 : decode cX18_onReference 77 = .ok (.istore 4, 2) := by decide +kernel
theorem dX18_onReference_79 : decode cX18_onReference 79 = .ok (.aload_n 0, 1) := by decide +kernel
theorem dX18_onReference_80 : decode cX18_onReference 80 = .ok (.invokevirtual 257, 3) := by decide +kernel
theorem dX18_onReference_83 : decode cX18_onReference 83 = .ok (.ifCond .ne 4, 3) := by decide +kernel
theorem dX18_onReference_86 : decode cX18_onReference 86 = .ok (.return_, 1) := by decide +kernel
theorem dX18_onReference_87 : decode cX18_onReference 87 = .ok (.aload_n 0, 1) := by decide +kernel
theorem dX18_onReference_88 : decode cX18_onReference 88 = .ok (.getfield 40, 3) := by decide +kernel
theorem dX18_onReference_91 : decode cX18_onReference 91 = .ok (.getfield 71, 3) := by decide +kernel
theorem dX18_onReference_94 : decode cX18_onReference 94 = .ok (.iload 4, 2) := by decide +kernel
theorem dX18_onReference_96 : decode cX18_onReference 96 = .ok (.baload, 1) := by decide +kernel
theorem dX18_onReference_97 : decode cX18_onReference 97 = .ok (.aload_n 0, 1) := by decide +kernel
theorem dX18_onReference_98 : decode cX18_onReference 98 = .ok (.getfield 40, 3) := by decide +kernel
theorem dX18_onReference_101 : decode cX18_onReference 101 = .ok (.getfield 71, 3) := by decide +kernel
theorem dX18_onReference_104 : decode cX18_onReference 104 = .ok (.iload_n 3, 1) := by decide +kernel
theorem dX18_onReference_105 : decode cX18_onReference 105 = .ok (.baload, 1) := by decide +kernel
theorem dX18_onReference_106 : decode cX18_onReference 106 = .ok (.if_icmp .eq 10, 3) := by decide +kernel
theorem dX18_onReference_109 : decode cX18_onReference 109 = .ok (.aload_n 0, 1) := by decide +kernel
theorem dX18_onReference_110 : decode cX18_onReference 110 = .ok (.invokevirtual 331, 3) := by decide +kernel
theorem dX18_onReference_113 : decode cX18_onReference 113 = .ok (.goto 13, 3) := by decide +kernel
theorem dX18_onReference_116 : decode cX18_onReference 116 = .ok (.aload_n 0, 1) := by decide +kernel
theorem dX18_onReference_117 : decode cX18_onReference 117 = .ok (.getfield 40, 3) := by decide +kernel
theorem dX18_onReference_120 : decode cX18_onReference 120 = .ok (.iload_n 3, 1) := by decide +kernel
theorem dX18_onReference_121 : decode cX18_onReference 121 = .ok (.iload 4, 2) := by decide +kernel
theorem dX18_onReference_123 : decode cX18_onReference 123 = .ok (.invokevirtual 363, 3) := by decide +kernel
theorem dX18_onReference_126 : decode cX18_onReference 126 = .ok (.goto 35, 3) := by decide +kernel
theorem dX18_onReference_129 : decode cX18_onReference 129 = .ok (.aload_n 0, 1) := by decide +kernel
theorem dX18_onReference_130 : decode cX18_onReference 130 = .ok (.getfield 40, 3) := by decide +kernel
theorem dX18_onReference_133 : decode cX18_onReference 133 = .ok (.iload_n 3, 1) := by decide +kernel
theorem dX18_onReference_134 : decode cX18_onReference 134 = .ok (.iload_n 2, 1) := by decide +kernel
theorem dX18_onReference_135 : decode cX18_onReference 135 = .ok (.i2l, 1) := by decide +kernel
theorem dX18_onReference_136 : decode cX18_onReference 136 = .ok (.invokevirtual 366, 3) := by decide +kernel
theorem dX18_onReference_139 : decode cX18_onReference 139 = .ok (.istore 4, 2) := by decide +kernel
theorem dX18_onReference_141 : decode cX18_onReference 141 = .ok (.iload 4, 2) := by decide +kernel
theorem dX18_onReference_143 : decode cX18_onReference 143 = .ok (.iconst (-1), 1) := by decide +kernel
theorem dX18_onReference_144 : decode cX18_onReference 144 = .ok (.if_icmp .ne 10, 3) := by decide +kernel
theorem dX18_onReference_147 : decode cX18_onReference 147 = .ok (.aload_n 0, 1) := by decide +kernel
theorem dX18_onReference_148 : decode cX18_onReference 148 = .ok (.invokevirtual 331, 3) := by decide +kernel
theorem dX18_onReference_151 : decode cX18_onReference 151 = .ok (.goto 10, 3) := by decide +kernel
theorem dX18_onReference_154 : decode cX18_onReference 154 = .ok (.aload_n 0, 1) := by decide +kernel
theorem dX18_onReference_155 : decode cX18_onReference 155 = .ok (.iload 4, 2) := by decide +kernel
theorem dX18_onReference_157 : decode cX18_onReference 157 = .ok (.iconst 1, 1) := by decide +kernel
theorem dX18_onReference_158 : decode cX18_onReference 158 = .ok (.invokevirtual 318, 3) := by decide +kernel
theorem dX18_onReference_161 : decode cX18_onReference 161 = .ok (.return_, 1) := by decide +kernel
theorem dX18_pack_0 : decode cX18_pack 0 = .ok (.aload_n 0, 1) := by decide +kernel
theorem dX18_pack_1 : decode cX18_pack 1 = .ok (.getfield 369, 3) := by decide +kernel
theorem dX18_pack_4 : decode cX18_pack 4 = .ok (.iload_n 1, 1) := by decide +kernel
theorem dX18_pack_5 : decode cX18_pack 5 = .ok (.invokevirtual 192, 3) := by decide +kernel
theorem dX18_pack_8 : decode cX18_pack 8 = .ok (.istore_n 2, 1) := by decide +kernel
theorem dX18_pack_9 : decode cX18_pack 9 = .ok (.aload_n 0, 1) := by decide +kernel
theorem dX18_pack_10 : decode cX18_pack 10 = .ok (.getfield 312, 3) := by decide +kernel
theorem dX18_pack_13 : decode cX18_pack 13 = .ok (.aload_n 0, 1) := by decide +kernel
theorem dX18_pack_14 : decode cX18_pack 14 = .ok (.getfield 325, 3) := by decide +kernel
theorem dX18_pack_17 : decode cX18_pack 17 = .ok (.aload_n 0, 1) := by decide +kernel
theorem dX18_pack_18 : decode cX18_pack 18 = .ok (.getfield 328, 3) := by decide +kernel
theorem dX18_pack_21 : decode cX18_pack 21 = .ok (.iconst 1, 1) := by decide +kernel
theorem dX18_pack_22 : decode cX18_pack 22 = .ok (.isub, 1) := by decide +kernel
theorem dX18_pack_23 : decode cX18_pack 23 = .ok (.iaload, 1) := by decide +kernel
theorem dX18_pack_24 : decode cX18_pack 24 = .ok (.isub, 1) := by decide +kernel
theorem dX18_pack_25 : decode cX18_pack 25 = .ok (.iload_n 2, 1) := by decide +kernel
theorem dX18_pack_26 : decode cX18_pack 26 = .ok (.if_icmp .ge 7, 3) := by decide +kernel
theorem dX18_pack_29 : decode cX18_pack 29 = .ok (.aload_n 0, 1) := by decide +kernel
theorem dX18_pack_30 : decode cX18_pack 30 = .ok (.invokevirtual 331, 3) := by decide +kernel
theorem dX18_pack_33 : decode cX18_pack 33 = .ok (.aload_n 0, 1) := by decide +kernel
theorem dX18_pack_34 : decode cX18_pack 34 = .ok (.invokevirtual 257, 3) := by decide +kernel
theorem dX18_pack_37 : decode cX18_pack 37 = .ok (.ifCond .ne 4, 3) := by decide +kernel
theorem dX18_pack_40 : decode cX18_pack 40 = .ok (.return_, 1) := by decide +kernel
theorem dX18_pack_41 : decode cX18_pack 41 = .ok (.aload_n 0, 1) := by decide +kernel
theorem dX18_pack_42 : decode cX18_pack 42 = .ok (.getfield 40, 3) := by decide +kernel
theorem dX18_pack_45 : decode cX18_pack 45 = .ok (.bipush 6, 2) := by decide +kernel
theorem dX18_pack_47 : decode cX18_pack 47 = .ok (.lconst 0, 1) := by decide +kernel
theorem dX18_pack_48 : decode cX18_pack 48 = .ok (.aload_n 0, 1) := by decide +kernel
theorem dX18_pack_49 : decode cX18_pack 49 = .ok (.getfield 369, 3) := by decide +kernel
theorem dX18_pack_52 : decode cX18_pack 52 = .ok (.iload_n 1, 1) := by decide +kernel
theorem dX18_pack_53 : decode cX18_pack 53 = .ok (.invokevirtual 143, 3) := by decide +kernel
theorem dX18_pack_56 : decode cX18_pack 56 = .ok (.i2l, 1) := by decide +kernel
theorem dX18_pack_57 : decode cX18_pack 57 = .ok (.invokevirtual 54, 3) := by decide +kernel
theorem dX18_pack_60 : decode cX18_pack 60 = .ok (.istore_n 3, 1) := by decide +kernel
theorem dX18_pack_61 : decode cX18_pack 61 = .ok (.aload_n 0, 1) := by decide +kernel
theorem dX18_pack_62 : decode cX18_pack 62 = .ok (.getfield 312, 3) := by decide +kernel
theorem dX18_pack_65 : decode cX18_pack 65 = .ok (.iload_n 2, 1) := by decide +kernel
theorem dX18_pack_66 : decode cX18_pack 66 = .ok (.isub, 1) := by decide +kernel
theorem dX18_pack_67 : decode cX18_pack 67 = .ok (.istore 4, 2) := by decide +kernel
theorem dX18_pack_69 : decode cX18_pack 69 = .ok (.iload 4, 2) := by decide +kernel
theorem dX18_pack_71 : decode cX18_pack 71 = .ok (.aload_n 0, 1) := by decide +kernel
theorem dX18_pack_72 : decode cX18_pack 72 = .ok (.getfield 312, 3) := by decide +kernel
theorem dX18_pack_75 : decode cX18_pack 75 = .ok (.if_icmp .ge 24, 3) := by decide +kernel
theorem dX18_pack_78 : decode cX18_pack 78 = .ok (.aload_n 0, 1) := by decide +kernel
theorem dX18_pack_79 : decode cX18_pack 79 = .ok (.getfield 40, 3) := by decide +kernel
theorem dX18_pack_82 : decode cX18_pack 82 = .ok (.iload_n 3, 1) := by decide +kernel
theorem dX18_pack_83 : decode cX18_pack 83 = .ok (.aload_n 0, 1) := by decide +kernel
theorem dX18_pack_84 : decode cX18_pack 84 = .ok (.getfield 309, 3) := by decide +kernel
theorem dX18_pack_87 : decode cX18_pack 87 = .ok (.iload 4, 2) := by decide +kernel
theorem dX18_pack_89 : decode cX18_pack 89 = .ok (.iaload, 1) := by decide +kernel
theorem dX18_pack_90 : decode cX18_pack 90 = .ok (.invokevirtual 63, 3) := by decide +kernel
theorem dX18_pack_93 : decode cX18_pack 93 = .ok (.iinc 4 1, 3) := by decide +kernel
theorem dX18_pack_96 : decode cX18_pack 96 = .ok (.goto (-27), 3) := by decide +kernel
theorem dX18_pack_99 : decode cX18_pack 99 = .ok (.aload_n 0, 1) := by decide +kernel
theorem dX18_pack_100 : decode cX18_pack 100 = .ok (.dup, 1) := by decide +kernel
theorem dX18_pack_101 : decode cX18_pack 101 = .ok (.getfield 312, 3) := by decide +kernel
theorem dX18_pack_104 : decode cX18_pack 104 = .ok (.iload_n 2, 1) := by decide +kernel
theorem dX18_pack_105 : decode cX18_pack 105 = .ok (.isub, 1) := by decide +kernel
theorem dX18_pack_106 : decode cX18_pack 106 = .ok (.putfield 312, 3) := by decide +kernel
theorem dX18_pack_109 : decode cX18_pack 109 = .ok (.aload_n 0, 1) := by decide +kernel
theorem dX18_pack_110 : decode cX18_pack 110 = .ok (.iload_n 3, 1) := by decide +kernel
theorem dX18_pack_111 : decode cX18_pack 111 = .ok (.iconst 0, 1) := by decide +kernel
theorem dX18_pack_112 : decode cX18_pack 112 = .ok (.invokevirtual 318, 3) := by decide +kernel
theorem dX18_pack_115 : decode cX18_pack 115 = .ok (.return_, 1) := by decide +kernel
theorem dX18_unpack_0 : decode cX18_unpack 0 = .ok (.aload_n 0, 1) := by decide +kernel
theorem dX18_unpack_1 : decode cX18_unpack 1 = .ok (.bipush 6, 2) := by decide +kernel
theorem dX18_unpack_3 : decode cX18_unpack 3 = .ok (.invokevirtual 341, 3) := by decide +kernel
theorem dX18_unpack_6 : decode cX18_unpack 6 = .ok (.istore_n 2, 1) := by decide +kernel
theorem dX18_unpack_7 : decode cX18_unpack 7 = .ok (.aload_n 0, 1) := by decide +kernel
theorem dX18_unpack_8 : decode cX18_unpack 8 = .ok (.invokevirtual 257, 3) := by decide +kernel
theorem dX18_unpack_11 : decode cX18_unpack 11 = .ok (.ifCond .eq 29, 3) := by decide +kernel
theorem dX18_unpack_14 : decode cX18_unpack 14 = .ok (.aload_n 0, 1) := by decide +kernel
theorem dX18_unpack_15 : decode cX18_unpack 15 = .ok (.getfield 40, 3) := by decide +kernel
theorem dX18_unpack_18 : decode cX18_unpack 18 = .ok (.getfield 77, 3) := by decide +kernel
theorem dX18_unpack_21 : decode cX18_unpack 21 = .ok (.iload_n 2, 1) := by decide +kernel
theorem dX18_unpack_22 : decode cX18_unpack 22 = .ok (.laload, 1) := by decide +kernel
theorem dX18_unpack_23 : decode cX18_unpack 23 = .ok (.aload_n 0, 1) := by decide +kernel
theorem dX18_unpack_24 : decode cX18_unpack 24 = .ok (.getfield 369, 3) := by decide +kernel
theorem dX18_unpack_27 : decode cX18_unpack 27 = .ok (.iload_n 1, 1) := by decide +kernel
theorem dX18_unpack_28 : decode cX18_unpack 28 = .ok (.invokevirtual 143, 3) := by decide +kernel
theorem dX18_unpack_31 : decode cX18_unpack 31 = .ok (.i2l, 1) := by decide +kernel
theorem dX18_unpack_32 : decode cX18_unpack 32 = .ok (.lcmp, 1) := by decide +kernel
theorem dX18_unpack_33 : decode cX18_unpack 33 = .ok (.ifCond .eq 7, 3) := by decide +kernel
theorem dX18_unpack_36 : decode cX18_unpack 36 = .ok (.aload_n 0, 1) := by decide +kernel
theorem dX18_unpack_37 : decode cX18_unpack 37 = .ok (.invokevirtual 331, 3) := by decide +kernel
theorem dX18_unpack_40 : decode cX18_unpack 40 = .ok (.aload_n 0, 1) := by decide +kernel
theorem dX18_unpack_41 : decode cX18_unpack 41 = .ok (.invokevirtual 257, 3) := by decide +kernel
theorem dX18_unpack_44 : decode cX18_unpack 44 = .ok (.ifCond .ne 4, 3) := by decide +kernel
theorem dX18_unpack_47 : decode cX18_unpack 47 = .ok (.return_, 1) := by decide +kernel
theorem dX18_unpack_48 : decode cX18_unpack 48 = .ok (.aload_n 0, 1) := by decide +kernel
theorem dX18_unpack_49 : decode cX18_unpack 49 = .ok (.getfield 40, 3) := by decide +kernel
theorem dX18_unpack_52 : decode cX18_unpack 52 = .ok (.getfield 84, 3) := by decide +kernel
theorem dX18_unpack_55 : decode cX18_unpack 55 = .ok (.iload_n 2, 1) := by decide +kernel
theorem dX18_unpack_56 : decode cX18_unpack 56 = .ok (.iaload, 1) := by decide +kernel
theorem dX18_unpack_57 : decode cX18_unpack 57 = .ok (.istore_n 3, 1) := by decide +kernel
theorem dX18_unpack_58 : decode cX18_unpack 58 = .ok (.iload_n 3, 1) := by decide +kernel
theorem dX18_unpack_59 : decode cX18_unpack 59 = .ok (.iconst (-1), 1) := by decide +kernel
theorem dX18_unpack_60 : decode cX18_unpack 60 = .ok (.if_icmp .eq 36, 3) := by decide +kernel
theorem dX18_unpack_63 : decode cX18_unpack 63 = .ok (.aload_n 0, 1) := by decide +kernel
theorem dX18_unpack_64 : decode cX18_unpack 64 = .ok (.getfield 40, 3) := by decide +kernel
theorem dX18_unpack_67 : decode cX18_unpack 67 = .ok (.getfield 87, 3) := by decide +kernel
theorem dX18_unpack_70 : decode cX18_unpack 70 = .ok (.iload_n 3, 1) := by decide +kernel
theorem dX18_unpack_71 : decode cX18_unpack 71 = .ok (.iaload, 1) := by decide +kernel
theorem dX18_unpack_72 : decode cX18_unpack 72 = .ok (.istore 4, 2) := by decide +kernel
theorem dX18_unpack_74 : decode cX18_unpack 74 = .ok (.aload_n 0, 1) := by decide +kernel
theorem dX18_unpack_75 : decode cX18_unpack 75 = .ok (.getfield 40, 3) := by decide +kernel
theorem dX18_unpack_78 : decode cX18_unpack 78 = .ok (.getfield 87, 3) := by decide +kernel
theorem dX18_unpack_81 : decode cX18_unpack 81 = .ok (.iload_n 3, 1) := by decide +kernel
theorem dX18_unpack_82 : decode cX18_unpack 82 = .ok (.iconst (-1), 1) := by decide +kernel
theorem dX18_unpack_83 : decode cX18_unpack 83 = .ok (.iastore, 1) := by decide +kernel
theorem dX18_unpack_84 : decode cX18_unpack 84 = .ok (.aload_n 0, 1) := by decide +kernel
theorem dX18_unpack_85 : decode cX18_unpack 85 = .ok (.iload_n 3, 1) := by decide +kernel
theorem dX18_unpack_86 : decode cX18_unpack 86 = .ok (.iconst 0, 1) := by decide +kernel
theorem dX18_unpack_87 : decode cX18_unpack 87 = .ok (.invokevirtual 318, 3) := by decide +kernel
theorem dX18_unpack_90 : decode cX18_unpack 90 = .ok (.iload 4, 2) := by decide +kernel
theorem dX18_unpack_92 : decode cX18_unpack 92 = .ok (.istore_n 3, 1) := by decide +kernel
theorem dX18_unpack_93 : decode cX18_unpack 93 = .ok (.goto (-35), 3) := by decide +kernel
theorem dX18_unpack_96 : decode cX18_unpack 96 = .ok (.return_, 1) := by decide +kernel
theorem dX18_reckon_0 : decode cX18_reckon 0 = .ok (.aload_n 0, 1) := by decide +kernel
theorem dX18_reckon_1 : decode cX18_reckon 1 = .ok (.iconst 0, 1) := by decide +kernel
theorem dX18_reckon_2 : decode cX18_reckon 2 = .ok (.invokevirtual 337, 3) := by decide +kernel
theorem dX18_reckon_5 : decode cX18_reckon 5 = .ok (.istore_n 2, 1) := by decide +kernel
theorem dX18_reckon_6 : decode cX18_reckon 6 = .ok (.aload_n 0, 1) := by decide +kernel
theorem dX18_reckon_7 : decode cX18_reckon 7 = .ok (.iconst 0, 1) := by decide +kernel
theorem dX18_reckon_8 : decode cX18_reckon 8 = .ok (.invokevirtual 337, 3) := by decide +kernel
theorem dX18_reckon_11 : decode cX18_reckon 11 = .ok (.istore_n 3, 1) := by decide +kernel
theorem dX18_reckon_12 : decode cX18_reckon 12 = .ok (.aload_n 0, 1) := by decide +kernel
theorem dX18_reckon_13 : decode cX18_reckon 13 = .ok (.invokevirtual 257, 3) := by decide +kernel
theorem dX18_reckon_16 : decode cX18_reckon 16 = .ok (.ifCond .eq 28, 3) := by decide +kernel
theorem dX18_reckon_19 : decode cX18_reckon 19 = .ok (.aload_n 0, 1) := by decide +kernel
theorem dX18_reckon_20 : decode cX18_reckon 20 = .ok (.getfield 40, 3) := by decide +kernel
theorem dX18_reckon_23 : decode cX18_reckon 23 = .ok (.getfield 71, 3) := by decide +kernel
theorem dX18_reckon_26 : decode cX18_reckon 26 = .ok (.iload_n 3, 1) := by decide +kernel
theorem dX18_reckon_27 : decode cX18_reckon 27 = .ok (.baload, 1) := by decide +kernel
theorem dX18_reckon_28 : decode cX18_reckon 28 = .ok (.aload_n 0, 1) := by decide +kernel
theorem dX18_reckon_29 : decode cX18_reckon 29 = .ok (.getfield 40, 3) := by decide +kernel
theorem dX18_reckon_32 : decode cX18_reckon 32 = .ok (.getfield 71, 3) := by decide +kernel
theorem dX18_reckon_35 : decode cX18_reckon 35 = .ok (.iload_n 2, 1) := by decide +kernel
theorem dX18_reckon_36 : decode cX18_reckon 36 = .ok (.baload, 1) := by decide +kernel
theorem dX18_reckon_37 : decode cX18_reckon 37 = .ok (.if_icmp .eq 7, 3) := by decide +kernel
theorem dX18_reckon_40 : decode cX18_reckon 40 = .ok (.aload_n 0, 1) := by decide +kernel
theorem dX18_reckon_41 : decode cX18_reckon 41 = .ok (.invokevirtual 331, 3) := by decide +kernel
theorem dX18_reckon_44 : decode cX18_reckon 44 = .ok (.aload_n 0, 1) := by decide +kernel
theorem dX18_reckon_45 : decode cX18_reckon 45 = .ok (.invokevirtual 257, 3) := by decide +kernel
theorem dX18_reckon_48 : decode cX18_reckon 48 = .ok (.ifCond .ne 4, 3) := by decide +kernel
theorem dX18_reckon_51 : decode cX18_reckon 51 = .ok (.return_, 1) := by decide +kernel
theorem dX18_reckon_52 : decode cX18_reckon 52 = .ok (.aload_n 0, 1) := by decide +kernel
theorem dX18_reckon_53 : decode cX18_reckon 53 = .ok (.getfield 40, 3) := by decide +kernel
theorem dX18_reckon_56 : decode cX18_reckon 56 = .ok (.getfield 71, 3) := by decide +kernel
theorem dX18_reckon_59 : decode cX18_reckon 59 = .ok (.iload_n 3, 1) := by decide +kernel
theorem dX18_reckon_60 : decode cX18_reckon 60 = .ok (.baload, 1) := by decide +kernel
theorem dX18_reckon_61 : decode cX18_reckon 61 = .ok (.istore 4, 2) := by decide +kernel
theorem dX18_reckon_63 : decode cX18_reckon 63 = .ok (.aload_n 0, 1) := by decide +kernel
theorem dX18_reckon_64 : decode cX18_reckon 64 = .ok (.getfield 40, 3) := by decide +kernel
theorem dX18_reckon_67 : decode cX18_reckon 67 = .ok (.getfield 74, 3) := by decide +kernel
theorem dX18_reckon_70 : decode cX18_reckon 70 = .ok (.iload_n 3, 1) := by decide +kernel
theorem dX18_reckon_71 : decode cX18_reckon 71 = .ok (.laload, 1) := by decide +kernel
theorem dX18_reckon_72 : decode cX18_reckon 72 = .ok (.lstore 5, 2) := by decide +kernel
theorem dX18_reckon_74 : decode cX18_reckon 74 = .ok (.aload_n 0, 1) := by decide +kernel
theorem dX18_reckon_75 : decode cX18_reckon 75 = .ok (.getfield 40, 3) := by decide +kernel
theorem dX18_reckon_78 : decode cX18_reckon 78 = .ok (.getfield 77, 3) := by decide +kernel
theorem dX18_reckon_81 : decode cX18_reckon 81 = .ok (.iload_n 3, 1) := by decide +kernel
theorem dX18_reckon_82 : decode cX18_reckon 82 = .ok (.laload, 1) := by decide +kernel
theorem dX18_reckon_83 : decode cX18_reckon 83 = .ok (.lstore 7, 2) := by decide +kernel
theorem dX18_reckon_85 : decode cX18_reckon 85 = .ok (.aload_n 0, 1) := by decide +kernel
theorem dX18_reckon_86 : decode cX18_reckon 86 = .ok (.getfield 40, 3) := by decide +kernel
theorem dX18_reckon_89 : decode cX18_reckon 89 = .ok (.getfield 74, 3) := by decide +kernel
theorem dX18_reckon_92 : decode cX18_reckon 92 = .ok (.iload_n 2, 1) := by decide +kernel
theorem dX18_reckon_93 : decode cX18_reckon 93 = .ok (.laload, 1) := by decide +kernel
theorem dX18_reckon_94 : decode cX18_reckon 94 = .ok (.lstore 9, 2) := by decide +kernel
theorem dX18_reckon_96 : decode cX18_reckon 96 = .ok (.aload_n 0, 1) := by decide +kernel
theorem dX18_reckon_97 : decode cX18_reckon 97 = .ok (.getfield 40, 3) := by decide +kernel
theorem dX18_reckon_100 : decode cX18_reckon 100 = .ok (.getfield 77, 3) := by decide +kernel
theorem dX18_reckon_103 : decode cX18_reckon 103 = .ok (.iload_n 2, 1) := by decide +kernel
theorem dX18_reckon_104 : decode cX18_reckon 104 = .ok (.laload, 1) := by decide +kernel
theorem dX18_reckon_105 : decode cX18_reckon 105 = .ok (.lstore 11, 2) := by decide +kernel
theorem dX18_reckon_107 : decode cX18_reckon 107 = .ok (.iload_n 1, 1) := by decide +kernel
theorem dX18_reckon_108 : decode cX18_reckon 108 = .ok (.bipush 29, 2) := by decide +kernel
theorem dX18_reckon_110 : decode cX18_reckon 110 = .ok (.if_icmp .ge 59, 3) := by decide +kernel
theorem dX18_reckon_113 : decode cX18_reckon 113 = .ok (.aload_n 0, 1) := by decide +kernel
theorem dX18_reckon_114 : decode cX18_reckon 114 = .ok (.getfield 373, 3) := by decide +kernel
theorem dX18_reckon_117 : decode cX18_reckon 117 = .ok (.iload_n 1, 1) := by decide +kernel
theorem dX18_reckon_118 : decode cX18_reckon 118 = .ok (.lload 5, 2) := by decide +kernel
theorem dX18_reckon_120 : decode cX18_reckon 120 = .ok (.lload 7, 2) := by decide +kernel
theorem dX18_reckon_122 : decode cX18_reckon 122 = .ok (.lload 9, 2) := by decide +kernel
theorem dX18_reckon_124 : decode cX18_reckon 124 = .ok (.lload 11, 2) := by decide +kernel
theorem dX18_reckon_126 : decode cX18_reckon 126 = .ok (.iload 4, 2) := by decide +kernel
theorem dX18_reckon_128 : decode cX18_reckon 128 = .ok (.invokestatic 377, 3) := by decide +kernel
theorem dX18_reckon_131 : decode cX18_reckon 131 = .ok (.invokevirtual 380, 3) := by decide +kernel
theorem dX18_reckon_134 : decode cX18_reckon 134 = .ok (.ifCond .eq 26, 3) := by decide +kernel
theorem dX18_reckon_137 : decode cX18_reckon 137 = .ok (.aload_n 0, 1) := by decide +kernel
theorem dX18_reckon_138 : decode cX18_reckon 138 = .ok (.iload 4, 2) := by decide +kernel
theorem dX18_reckon_140 : decode cX18_reckon 140 = .ok (.aload_n 0, 1) := by decide +kernel
theorem dX18_reckon_141 : decode cX18_reckon 141 = .ok (.getfield 373, 3) := by decide +kernel
theorem dX18_reckon_144 : decode cX18_reckon 144 = .ok (.getfield 386, 3) := by decide +kernel
theorem dX18_reckon_147 : decode cX18_reckon 147 = .ok (.aload_n 0, 1) := by decide +kernel
theorem dX18_reckon_148 : decode cX18_reckon 148 = .ok (.getfield 373, 3) := by decide +kernel
theorem dX18_reckon_151 : decode cX18_reckon 151 = .ok (.getfield 389, 3) := by decide +kernel
theorem dX18_reckon_154 : decode cX18_reckon 154 = .ok (.invokevirtual 392, 3) := by decide +kernel
theorem dX18_reckon_157 : decode cX18_reckon 157 = .ok (.goto 258, 3) := by decide +kernel
theorem dX18_reckon_160 : decode cX18_reckon 160 = .ok (.aload_n 0, 1) := by decide +kernel
theorem dX18_reckon_161 : decode cX18_reckon 161 = .ok (.iconst 2, 1) := by decide +kernel
theorem dX18_reckon_162 : decode cX18_reckon 162 = .ok (.lconst 1, 1) := by decide +kernel
theorem dX18_reckon_163 : decode cX18_reckon 163 = .ok (.invokevirtual 267, 3) := by decide +kernel
theorem dX18_reckon_166 : decode cX18_reckon 166 = .ok (.goto 249, 3) := by decide +kernel
theorem dX18_reckon_169 : decode cX18_reckon 169 = .ok (.iload_n 1, 1) := by decide +kernel
theorem dX18_reckon_170 : decode cX18_reckon 170 = .ok (.bipush 32, 2) := by decide +kernel
theorem dX18_reckon_172 : decode cX18_reckon 172 = .ok (.if_icmp .ge 78, 3) := by decide +kernel
theorem dX18_reckon_175 : decode cX18_reckon 175 = .ok (.aload_n 0, 1) := by decide +kernel
theorem dX18_reckon_176 : decode cX18_reckon 176 = .ok (.iload 4, 2) := by decide +kernel
theorem dX18_reckon_178 : decode cX18_reckon 178 = .ok (.iload_n 1, 1) := by decide +kernel
theorem dX18_reckon_179 : decode cX18_reckon 179 = .ok (.bipush 29, 2) := by decide +kernel
theorem dX18_reckon_181 : decode cX18_reckon 181 = .ok (.if_icmp .ne 11, 3) := by decide +kernel
theorem dX18_reckon_184 : decode cX18_reckon 184 = .ok (.lload 5, 2) := by decide +kernel
theorem dX18_reckon_186 : decode cX18_reckon 186 = .ok (.lload 9, 2) := by decide +kernel
theorem dX18_reckon_188 : decode cX18_reckon 188 = .ok (.land, 1) := by decide +kernel
theorem dX18_reckon_189 : decode cX18_reckon 189 = .ok (.goto 22, 3) := by decide +kernel
theorem dX18_reckon_192 : decode cX18_reckon 192 = .ok (.iload_n 1, 1) := by decide +kernel
theorem dX18_reckon_193 : decode cX18_reckon 193 = .ok (.bipush 30, 2) := by decide +kernel
theorem dX18_reckon_195 : decode cX18_reckon 195 = .ok (.if_icmp .ne 11, 3) := by decide +kernel
theorem dX18_reckon_198 : decode cX18_reckon 198 = .ok (.lload 5, 2) := by decide +kernel
theorem dX18_reckon_200 : decode cX18_reckon 200 = .ok (.lload 9, 2) := by decide +kernel
theorem dX18_reckon_202 : decode cX18_reckon 202 = .ok (.lor, 1) := by decide +kernel
theorem dX18_reckon_203 : decode cX18_reckon 203 = .ok (.goto 8, 3) := by decide +kernel
theorem dX18_reckon_206 : decode cX18_reckon 206 = .ok (.lload 5, 2) := by decide +kernel
theorem dX18_reckon_208 : decode cX18_reckon 208 = .ok (.lload 9, 2) := by decide +kernel
theorem dX18_reckon_210 : decode cX18_reckon 210 = .ok (.lxor, 1) := by decide +kernel
theorem dX18_reckon_211 : decode cX18_reckon 211 = .ok (.iload_n 1, 1) := by decide +kernel
theorem dX18_reckon_212 : decode cX18_reckon 212 = .ok (.bipush 29, 2) := by decide +kernel
theorem dX18_reckon_214 : decode cX18_reckon 214 = .ok (.if_icmp .ne 11, 3) := by decide +kernel
theorem dX18_reckon_217 : decode cX18_reckon 217 = .ok (.lload 7, 2) := by decide +kernel
theorem dX18_reckon_219 : decode cX18_reckon 219 = .ok (.lload 11, 2) := by decide +kernel
theorem dX18_reckon_221 : decode cX18_reckon 221 = .ok (.land, 1) := by decide +kernel
theorem dX18_reckon_222 : decode cX18_reckon 222 = .ok (.goto 22, 3) := by decide +kernel
theorem dX18_reckon_225 : decode cX18_reckon 225 = .ok (.iload_n 1, 1) := by decide +kernel
theorem dX18_reckon_226 : decode cX18_reckon 226 = .ok (.bipush 30, 2) := by decide +kernel
theorem dX18_reckon_228 : decode cX18_reckon 228 = .ok (.if_icmp .ne 11, 3) := by decide +kernel
theorem dX18_reckon_231 : decode cX18_reckon 231 = .ok (.lload 7, 2) := by decide +kernel
theorem dX18_reckon_233 : decode cX18_reckon 233 = .ok (.lload 11, 2) := by decide +kernel
theorem dX18_reckon_235 : decode cX18_reckon 235 = .ok (.lor, 1) := by decide +kernel
theorem dX18_reckon_236 : decode cX18_reckon 236 = .ok (.goto 8, 3) := by decide +kernel
theorem dX18_reckon_239 : decode cX18_reckon 239 = .ok (.lload 7, 2) := by decide +kernel
theorem dX18_reckon_241 : decode cX18_reckon 241 = .ok (.lload 11, 2) := by decide +kernel
theorem dX18_reckon_243 : decode cX18_reckon 243 = .ok (.lxor, 1) := by decide +kernel
theorem dX18_reckon_244 : decode cX18_reckon 244 = .ok (.invokevirtual 392, 3) := by decide +kernel
theorem dX18_reckon_247 : decode cX18_reckon 247 = .ok (.goto 168, 3) := by decide +kernel
theorem dX18_reckon_250 : decode cX18_reckon 250 = .ok (.iload_n 1, 1) := by decide +kernel
theorem dX18_reckon_251 : decode cX18_reckon 251 = .ok (.bipush 38, 2) := by decide +kernel
theorem dX18_reckon_253 : decode cX18_reckon 253 = .ok (.if_icmp .ge 64, 3) := by decide +kernel
theorem dX18_reckon_256 : decode cX18_reckon 256 = .ok (.aload_n 0, 1) := by decide +kernel
theorem dX18_reckon_257 : decode cX18_reckon 257 = .ok (.aload_n 0, 1) := by decide +kernel
theorem dX18_reckon_258 : decode cX18_reckon 258 = .ok (.getfield 40, 3) := by decide +kernel
theorem dX18_reckon_261 : decode cX18_reckon 261 = .ok (.iload_n 3, 1) := by decide +kernel
theorem dX18_reckon_262 : decode cX18_reckon 262 = .ok (.invokevirtual 357, 3) := by decide +kernel
theorem dX18_reckon_265 : decode cX18_reckon 265 = .ok (.aload_n 0, 1) := by decide +kernel
theorem dX18_reckon_266 : decode cX18_reckon 266 = .ok (.getfield 40, 3) := by decide +kernel
theorem dX18_reckon_269 : decode cX18_reckon 269 = .ok (.iload_n 2, 1) := by decide +kernel
theorem dX18_reckon_270 : decode cX18_reckon 270 = .ok (.invokevirtual 357, 3) := by decide +kernel
theorem dX18_reckon_273 : decode cX18_reckon 273 = .ok (.iadd, 1) := by decide +kernel
theorem dX18_reckon_274 : decode cX18_reckon 274 = .ok (.invokevirtual 353, 3) := by decide +kernel
theorem dX18_reckon_277 : decode cX18_reckon 277 = .ok (.ifCond .eq 138, 3) := by decide +kernel
theorem dX18_reckon_280 : decode cX18_reckon 280 = .ok (.aload_n 0, 1) := by decide +kernel
theorem dX18_reckon_281 : decode cX18_reckon 281 = .ok (.iconst 1, 1) := by decide +kernel
theorem dX18_reckon_282 : decode cX18_reckon 282 = .ok (.lconst 0, 1) := by decide +kernel
theorem dX18_reckon_283 : decode cX18_reckon 283 = .ok (.aload_n 0, 1) := by decide +kernel
theorem dX18_reckon_284 : decode cX18_reckon 284 = .ok (.getfield 40, 3) := by decide +kernel
theorem dX18_reckon_287 : decode cX18_reckon 287 = .ok (.iload_n 3, 1) := by decide +kernel
theorem dX18_reckon_288 : decode cX18_reckon 288 = .ok (.iload_n 2, 1) := by decide +kernel
theorem dX18_reckon_289 : decode cX18_reckon 289 = .ok (.invokevirtual 395, 3) := by decide +kernel
theorem dX18_reckon_292 : decode cX18_reckon 292 = .ok (.iload_n 1, 1) := by decide +kernel
theorem dX18_reckon_293 : decode cX18_reckon 293 = .ok (.bipush 36, 2) := by decide +kernel
theorem dX18_reckon_295 : decode cX18_reckon 295 = .ok (.if_icmp .ne 7, 3) := by decide +kernel
theorem dX18_reckon_298 : decode cX18_reckon 298 = .ok (.iconst 1, 1) := by decide +kernel
theorem dX18_reckon_299 : decode cX18_reckon 299 = .ok (.goto 4, 3) := by decide +kernel
theorem dX18_reckon_302 : decode cX18_reckon 302 = .ok (.iconst 0, 1) := by decide +kernel
theorem dX18_reckon_303 : decode cX18_reckon 303 = .ok (.if_icmp .ne 7, 3) := by decide +kernel
theorem dX18_reckon_306 : decode cX18_reckon 306 = .ok (.lconst 1, 1) := by decide +kernel
theorem dX18_reckon_307 : decode cX18_reckon 307 = .ok (.goto 4, 3) := by decide +kernel
theorem dX18_reckon_310 : decode cX18_reckon 310 = .ok (.lconst 0, 1) := by decide +kernel
theorem dX18_reckon_311 : decode cX18_reckon 311 = .ok (.invokevirtual 392, 3) := by decide +kernel
theorem dX18_reckon_314 : decode cX18_reckon 314 = .ok (.goto 101, 3) := by decide +kernel
theorem dX18_reckon_317 : decode cX18_reckon 317 = .ok (.lload 5, 2) := by decide +kernel
theorem dX18_reckon_319 : decode cX18_reckon 319 = .ok (.lload 7, 2) := by decide +kernel
theorem dX18_reckon_321 : decode cX18_reckon 321 = .ok (.lload 9, 2) := by decide +kernel
theorem dX18_reckon_323 : decode cX18_reckon 323 = .ok (.lload 11, 2) := by decide +kernel
theorem dX18_reckon_325 : decode cX18_reckon 325 = .ok (.invokestatic 399, 3) := by decide +kernel
theorem dX18_reckon_328 : decode cX18_reckon 328 = .ok (.istore 13, 2) := by decide +kernel
theorem dX18_reckon_330 : decode cX18_reckon 330 = .ok (.iload_n 1, 1) := by decide +kernel
theorem dX18_reckon_331 : decode cX18_reckon 331 = .ok (.bipush 38, 2) := by decide +kernel
theorem dX18_reckon_333 : decode cX18_reckon 333 = .ok (.if_icmp .ne 16, 3) := by decide +kernel
theorem dX18_reckon_336 : decode cX18_reckon 336 = .ok (.iload 13, 2) := by decide +kernel
theorem dX18_reckon_338 : decode cX18_reckon 338 = .ok (.ifCond .ge 7, 3) := by decide +kernel
theorem dX18_reckon_341 : decode cX18_reckon 341 = .ok (.iconst 1, 1) := by decide +kernel
theorem dX18_reckon_342 : decode cX18_reckon 342 = .ok (.goto 55, 3) := by decide +kernel
theorem dX18_reckon_345 : decode cX18_reckon 345 = .ok (.iconst 0, 1) := by decide +kernel
theorem dX18_reckon_346 : decode cX18_reckon 346 = .ok (.goto 51, 3) := by decide +kernel
theorem dX18_reckon_349 : decode cX18_reckon 349 = .ok (.iload_n 1, 1) := by decide +kernel
theorem dX18_reckon_350 : decode cX18_reckon 350 = .ok (.bipush 39, 2) := by decide +kernel
theorem dX18_reckon_352 : decode cX18_reckon 352 = .ok (.if_icmp .ne 16, 3) := by decide +kernel
theorem dX18_reckon_355 : decode cX18_reckon 355 = .ok (.iload 13, 2) := by decide +kernel
theorem dX18_reckon_357 : decode cX18_reckon 357 = .ok (.ifCond .gt 7, 3) := by decide +kernel
theorem dX18_reckon_360 : decode cX18_reckon 360 = .ok (.iconst 1, 1) := by decide +kernel
theorem dX18_reckon_361 : decode cX18_reckon 361 = .ok (.goto 36, 3) := by decide +kernel
theorem dX18_reckon_364 : decode cX18_reckon 364 = .ok (.iconst 0, 1) := by decide +kernel
theorem dX18_reckon_365 : decode cX18_reckon 365 = .ok (.goto 32, 3) := by decide +kernel
theorem dX18_reckon_368 : decode cX18_reckon 368 = .ok (.iload_n 1, 1) := by decide +kernel
theorem dX18_reckon_369 : decode cX18_reckon 369 = .ok (.bipush 40, 2) := by decide +kernel
theorem dX18_reckon_371 : decode cX18_reckon 371 = .ok (.if_icmp .ne 16, 3) := by decide +kernel
theorem dX18_reckon_374 : decode cX18_reckon 374 = .ok (.iload 13, 2) := by decide +kernel
theorem dX18_reckon_376 : decode cX18_reckon 376 = .ok (.ifCond .le 7, 3) := by decide +kernel
theorem dX18_reckon_379 : decode cX18_reckon 379 = .ok (.iconst 1, 1) := by decide +kernel
theorem dX18_reckon_380 : decode cX18_reckon 380 = .ok (.goto 17, 3) := by decide +kernel
theorem dX18_reckon_383 : decode cX18_reckon 383 = .ok (.iconst 0, 1) := by decide +kernel
theorem dX18_reckon_384 : decode cX18_reckon 384 = .ok (.goto 13, 3) := by decide +kernel
theorem dX18_reckon_387 : decode cX18_reckon 387 = .ok (.iload 13, 2) := by decide +kernel
theorem dX18_reckon_389 : decode cX18_reckon 389 = .ok (.ifCond .lt 7, 3) := by decide +kernel
theorem dX18_reckon_392 : decode cX18_reckon 392 = .ok (.iconst 1, 1) := by decide +kernel
theorem dX18_reckon_393 : decode cX18_reckon 393 = .ok (.goto 4, 3) := by decide +kernel
theorem dX18_reckon_396 : decode cX18_reckon 396 = .ok (.iconst 0, 1) := by decide +kernel
theorem dX18_reckon_397 : decode cX18_reckon 397 = .ok (.istore 14, 2) := by decide +kernel
theorem dX18_reckon_399 : decode cX18_reckon 399 = .ok (.aload_n 0, 1) := by decide +kernel
theorem dX18_reckon_400 : decode cX18_reckon 400 = .ok (.iconst 1, 1) := by decide +kernel
theorem dX18_reckon_401 : decode cX18_reckon 401 = .ok (.lconst 0, 1) := by decide +kernel
theorem dX18_reckon_402 : decode cX18_reckon 402 = .ok (.iload 14, 2) := by decide +kernel
theorem dX18_reckon_404 : decode cX18_reckon 404 = .ok (.ifCond .eq 7, 3) := by decide +kernel
theorem dX18_reckon_407 : decode cX18_reckon 407 = .ok (.lconst 1, 1) := by decide +kernel
theorem dX18_reckon_408 : decode cX18_reckon 408 = .ok (.goto 4, 3) := by decide +kernel
theorem dX18_reckon_411 : decode cX18_reckon 411 = .ok (.lconst 0, 1) := by decide +kernel
theorem dX18_reckon_412 : decode cX18_reckon 412 = .ok (.invokevirtual 392, 3) := by decide +kernel
theorem dX18_reckon_415 : decode cX18_reckon 415 = .ok (.return_, 1) := by decide +kernel
theorem dX18_shift_0 : decode cX18_shift 0 = .ok (.aload_n 0, 1) := by decide +kernel
theorem dX18_shift_1 : decode cX18_shift 1 = .ok (.iconst 2, 1) := by decide +kernel
theorem dX18_shift_2 : decode cX18_shift 2 = .ok (.invokevirtual 341, 3) := by decide +kernel
theorem dX18_shift_5 : decode cX18_shift 5 = .ok (.istore_n 2, 1) := by decide +kernel
theorem dX18_shift_6 : decode cX18_shift 6 = .ok (.aload_n 0, 1) := by decide +kernel
theorem dX18_shift_7 : decode cX18_shift 7 = .ok (.iconst 0, 1) := by decide +kernel
theorem dX18_shift_8 : decode cX18_shift 8 = .ok (.invokevirtual 337, 3) := by decide +kernel
theorem dX18_shift_11 : decode cX18_shift 11 = .ok (.istore_n 3, 1) := by decide +kernel
theorem dX18_shift_12 : decode cX18_shift 12 = .ok (.aload_n 0, 1) := by decide +kernel
theorem dX18_shift_13 : decode cX18_shift 13 = .ok (.invokevirtual 257, 3) := by decide +kernel
theorem dX18_shift_16 : decode cX18_shift 16 = .ok (.ifCond .ne 4, 3) := by decide +kernel
theorem dX18_shift_19 : decode cX18_shift 19 = .ok (.return_, 1) := by decide +kernel
theorem dX18_shift_20 : decode cX18_shift 20 = .ok (.aload_n 0, 1) := by decide +kernel
theorem dX18_shift_21 : decode cX18_shift 21 = .ok (.getfield 40, 3) := by decide +kernel
theorem dX18_shift_24 : decode cX18_shift 24 = .ok (.getfield 71, 3) := by decide +kernel
theorem dX18_shift_27 : decode cX18_shift 27 = .ok (.iload_n 3, 1) := by decide +kernel
theorem dX18_shift_28 : decode cX18_shift 28 = .ok (.baload, 1) := by decide +kernel
theorem dX18_shift_29 : decode cX18_shift 29 = .ok (.invokestatic 377, 3) := by decide +kernel
theorem dX18_shift_32 : decode cX18_shift 32 = .ok (.istore 4, 2) := by decide +kernel
theorem dX18_shift_34 : decode cX18_shift 34 = .ok (.aload_n 0, 1) := by decide +kernel
theorem dX18_shift_35 : decode cX18_shift 35 = .ok (.getfield 40, 3) := by decide +kernel
theorem dX18_shift_38 : decode cX18_shift 38 = .ok (.getfield 77, 3) := by decide +kernel
theorem dX18_shift_41 : decode cX18_shift 41 = .ok (.iload_n 2, 1) := by decide +kernel
theorem dX18_shift_42 : decode cX18_shift 42 = .ok (.laload, 1) := by decide +kernel
theorem dX18_shift_43 : decode cX18_shift 43 = .ok (.iload 4, 2) := by decide +kernel
theorem dX18_shift_45 : decode cX18_shift 45 = .ok (.i2l, 1) := by decide +kernel
theorem dX18_shift_46 : decode cX18_shift 46 = .ok (.lcmp, 1) := by decide +kernel
theorem dX18_shift_47 : decode cX18_shift 47 = .ok (.ifCond .lt 10, 3) := by decide +kernel
theorem dX18_shift_50 : decode cX18_shift 50 = .ok (.aload_n 0, 1) := by decide +kernel
theorem dX18_shift_51 : decode cX18_shift 51 = .ok (.iconst 2, 1) := by decide +kernel
theorem dX18_shift_52 : decode cX18_shift 52 = .ok (.lconst 1, 1) := by decide +kernel
theorem dX18_shift_53 : decode cX18_shift 53 = .ok (.invokevirtual 267, 3) := by decide +kernel
theorem dX18_shift_56 : decode cX18_shift 56 = .ok (.return_, 1) := by decide +kernel
theorem dX18_shift_57 : decode cX18_shift 57 = .ok (.aload_n 0, 1) := by decide +kernel
theorem dX18_shift_58 : decode cX18_shift 58 = .ok (.getfield 373, 3) := by decide +kernel
theorem dX18_shift_61 : decode cX18_shift 61 = .ok (.iload_n 1, 1) := by decide +kernel
theorem dX18_shift_62 : decode cX18_shift 62 = .ok (.aload_n 0, 1) := by decide +kernel
theorem dX18_shift_63 : decode cX18_shift 63 = .ok (.getfield 40, 3) := by decide +kernel
theorem dX18_shift_66 : decode cX18_shift 66 = .ok (.getfield 74, 3) := by decide +kernel
theorem dX18_shift_69 : decode cX18_shift 69 = .ok (.iload_n 3, 1) := by decide +kernel
theorem dX18_shift_70 : decode cX18_shift 70 = .ok (.laload, 1) := by decide +kernel
theorem dX18_shift_71 : decode cX18_shift 71 = .ok (.aload_n 0, 1) := by decide +kernel
theorem dX18_shift_72 : decode cX18_shift 72 = .ok (.getfield 40, 3) := by decide +kernel
theorem dX18_shift_75 : decode cX18_shift 75 = .ok (.getfield 77, 3) := by decide +kernel
theorem dX18_shift_78 : decode cX18_shift 78 = .ok (.iload_n 3, 1) := by decide +kernel
theorem dX18_shift_79 : decode cX18_shift 79 = .ok (.laload, 1) := by decide +kernel
theorem dX18_shift_80 : decode cX18_shift 80 = .ok (.aload_n 0, 1) := by decide +kernel
theorem dX18_shift_81 : decode cX18_shift 81 = .ok (.getfield 40, 3) := by decide +kernel
theorem dX18_shift_84 : decode cX18_shift 84 = .ok (.getfield 77, 3) := by decide +kernel
theorem dX18_shift_87 : decode cX18_shift 87 = .ok (.iload_n 2, 1) := by decide +kernel
theorem dX18_shift_88 : decode cX18_shift 88 = .ok (.laload, 1) := by decide +kernel
theorem dX18_shift_89 : decode cX18_shift 89 = .ok (.l2i, 1) := by decide +kernel
theorem dX18_shift_90 : decode cX18_shift 90 = .ok (.iload 4, 2) := by decide +kernel
theorem dX18_shift_92 : decode cX18_shift 92 = .ok (.invokevirtual 403, 3) := by decide +kernel
theorem dX18_shift_95 : decode cX18_shift 95 = .ok (.aload_n 0, 1) := by decide +kernel
theorem dX18_shift_96 : decode cX18_shift 96 = .ok (.aload_n 0, 1) := by decide +kernel
theorem dX18_shift_97 : decode cX18_shift 97 = .ok (.getfield 40, 3) := by decide +kernel
theorem dX18_shift_100 : decode cX18_shift 100 = .ok (.getfield 71, 3) := by decide +kernel
theorem dX18_shift_103 : decode cX18_shift 103 = .ok (.iload_n 3, 1) := by decide +kernel
theorem dX18_shift_104 : decode cX18_shift 104 = .ok (.baload, 1) := by decide +kernel
theorem dX18_shift_105 : decode cX18_shift 105 = .ok (.aload_n 0, 1) := by decide +kernel
theorem dX18_shift_106 : decode cX18_shift 106 = .ok (.getfield 373, 3) := by decide +kernel
theorem dX18_shift_109 : decode cX18_shift 109 = .ok (.getfield 386, 3) := by decide +kernel
theorem dX18_shift_112 : decode cX18_shift 112 = .ok (.aload_n 0, 1) := by decide +kernel
theorem dX18_shift_113 : decode cX18_shift 113 = .ok (.getfield 373, 3) := by decide +kernel
theorem dX18_shift_116 : decode cX18_shift 116 = .ok (.getfield 389, 3) := by decide +kernel
theorem dX18_shift_119 : decode cX18_shift 119 = .ok (.invokevirtual 392, 3) := by decide +kernel
theorem dX18_shift_122 : decode cX18_shift 122 = .ok (.return_, 1) := by decide +kernel
theorem dX18_convert_0 : decode cX18_convert 0 = .ok (.aload_n 0, 1) := by decide +kernel
theorem dX18_convert_1 : decode cX18_convert 1 = .ok (.iconst 0, 1) := by decide +kernel
theorem dX18_convert_2 : decode cX18_convert 2 = .ok (.invokevirtual 337, 3) := by decide +kernel
theorem dX18_convert_5 : decode cX18_convert 5 = .ok (.istore_n 2, 1) := by decide +kernel
theorem dX18_convert_6 : decode cX18_convert 6 = .ok (.aload_n 0, 1) := by decide +kernel
theorem dX18_convert_7 : decode cX18_convert 7 = .ok (.invokevirtual 257, 3) := by decide +kernel
theorem dX18_convert_10 : decode cX18_convert 10 = .ok (.ifCond .ne 4, 3) := by decide +kernel
theorem dX18_convert_13 : decode cX18_convert 13 = .ok (.return_, 1) := by decide +kernel
theorem dX18_convert_14 : decode cX18_convert 14 = .ok (.aload_n 0, 1) := by decide +kernel
theorem dX18_convert_15 : decode cX18_convert 15 = .ok (.getfield 40, 3) := by decide +kernel
theorem dX18_convert_18 : decode cX18_convert 18 = .ok (.getfield 74, 3) := by decide +kernel
theorem dX18_convert_21 : decode cX18_convert 21 = .ok (.iload_n 2, 1) := by decide +kernel
theorem dX18_convert_22 : decode cX18_convert 22 = .ok (.laload, 1) := by decide +kernel
theorem dX18_convert_23 : decode cX18_convert 23 = .ok (.aload_n 0, 1) := by decide +kernel
theorem dX18_convert_24 : decode cX18_convert 24 = .ok (.getfield 40, 3) := by decide +kernel
theorem dX18_convert_27 : decode cX18_convert 27 = .ok (.getfield 77, 3) := by decide +kernel
theorem dX18_convert_30 : decode cX18_convert 30 = .ok (.iload_n 2, 1) := by decide +kernel
theorem dX18_convert_31 : decode cX18_convert 31 = .ok (.laload, 1) := by decide +kernel
theorem dX18_convert_32 : decode cX18_convert 32 = .ok (.iload_n 1, 1) := by decide +kernel
theorem dX18_convert_33 : decode cX18_convert 33 = .ok (.invokestatic 377, 3) := by decide +kernel
theorem dX18_convert_36 : decode cX18_convert 36 = .ok (.invokestatic 407, 3) := by decide +kernel
theorem dX18_convert_39 : decode cX18_convert 39 = .ok (.ifCond .eq 29, 3) := by decide +kernel
theorem dX18_convert_42 : decode cX18_convert 42 = .ok (.aload_n 0, 1) := by decide +kernel
theorem dX18_convert_43 : decode cX18_convert 43 = .ok (.iload_n 1, 1) := by decide +kernel
theorem dX18_convert_44 : decode cX18_convert 44 = .ok (.aload_n 0, 1) := by decide +kernel
theorem dX18_convert_45 : decode cX18_convert 45 = .ok (.getfield 40, 3) := by decide +kernel
theorem dX18_convert_48 : decode cX18_convert 48 = .ok (.getfield 74, 3) := by decide +kernel
theorem dX18_convert_51 : decode cX18_convert 51 = .ok (.iload_n 2, 1) := by decide +kernel
theorem dX18_convert_52 : decode cX18_convert 52 = .ok (.laload, 1) := by decide +kernel
theorem dX18_convert_53 : decode cX18_convert 53 = .ok (.aload_n 0, 1) := by decide +kernel
theorem dX18_convert_54 : decode cX18_convert 54 = .ok (.getfield 40, 3) := by decide +kernel
theorem dX18_convert_57 : decode cX18_convert 57 = .ok (.getfield 77, 3) := by decide +kernel
theorem dX18_convert_60 : decode cX18_convert 60 = .ok (.iload_n 2, 1) := by decide +kernel
theorem dX18_convert_61 : decode cX18_convert 61 = .ok (.laload, 1) := by decide +kernel
theorem dX18_convert_62 : decode cX18_convert 62 = .ok (.invokevirtual 392, 3) := by decide +kernel
theorem dX18_convert_65 : decode cX18_convert 65 = .ok (.goto 9, 3) := by decide +kernel
theorem dX18_convert_68 : decode cX18_convert 68 = .ok (.aload_n 0, 1) := by decide +kernel
theorem dX18_convert_69 : decode cX18_convert 69 = .ok (.iconst 2, 1) := by decide +kernel
theorem dX18_convert_70 : decode cX18_convert 70 = .ok (.lconst 1, 1) := by decide +kernel
theorem dX18_convert_71 : decode cX18_convert 71 = .ok (.invokevirtual 267, 3) := by decide +kernel
theorem dX18_convert_74 : decode cX18_convert 74 = .ok (.return_, 1) := by decide +kernel
theorem dX18_onResource_0 : decode cX18_onResource 0 = .ok (.aload_n 0, 1) := by decide +kernel
theorem dX18_onResource_1 : decode cX18_onResource 1 = .ok (.getfield 369, 3) := by decide +kernel
theorem dX18_onResource_4 : decode cX18_onResource 4 = .ok (.iload_n 2, 1) := by decide +kernel
theorem dX18_onResource_5 : decode cX18_onResource 5 = .ok (.invokevirtual 143, 3) := by decide +kernel
theorem dX18_onResource_8 : decode cX18_onResource 8 = .ok (.istore_n 3, 1) := by decide +kernel
theorem dX18_onResource_9 : decode cX18_onResource 9 = .ok (.iload_n 1, 1) := by decide +kernel
theorem dX18_onResource_10 : decode cX18_onResource 10 = .ok (.bipush 47, 2) := by decide +kernel
theorem dX18_onResource_12 : decode cX18_onResource 12 = .ok (.if_icmp .ne 12, 3) := by decide +kernel
theorem dX18_onResource_15 : decode cX18_onResource 15 = .ok (.aload_n 0, 1) := by decide +kernel
theorem dX18_onResource_16 : decode cX18_onResource 16 = .ok (.bipush 6, 2) := by decide +kernel
theorem dX18_onResource_18 : decode cX18_onResource 18 = .ok (.invokevirtual 341, 3) := by decide +kernel
theorem dX18_onResource_21 : decode cX18_onResource 21 = .ok (.goto 8, 3) := by decide +kernel
theorem dX18_onResource_24 : decode cX18_onResource 24 = .ok (.aload_n 0, 1) := by decide +kernel
theorem dX18_onResource_25 : decode cX18_onResource 25 = .ok (.iconst 5, 1) := by decide +kernel
theorem dX18_onResource_26 : decode cX18_onResource 26 = .ok (.invokevirtual 341, 3) := by decide +kernel
theorem dX18_onResource_29 : decode cX18_onResource 29 = .ok (.istore 4, 2) := by decide +kernel
theorem dX18_onResource_31 : decode cX18_onResource 31 = .ok (.aload_n 0, 1) := by decide +kernel
theorem dX18_onResource_32 : decode cX18_onResource 32 = .ok (.invokevirtual 257, 3) := by decide +kernel
theorem dX18_onResource_35 : decode cX18_onResource 35 = .ok (.ifCond .ne 4, 3) := by decide +kernel
theorem dX18_onResource_38 : decode cX18_onResource 38 = .ok (.return_, 1) := by decide +kernel
theorem dX18_onResource_39 : decode cX18_onResource 39 = .ok (.aload_n 0, 1) := by decide +kernel
theorem dX18_onResource_40 : decode cX18_onResource 40 = .ok (.iconst 3, 1) := by decide +kernel
theorem dX18_onResource_41 : decode cX18_onResource 41 = .ok (.iload_n 1, 1) := by decide +kernel
theorem dX18_onResource_42 : decode cX18_onResource 42 = .ok (.bipush 47, 2) := by decide +kernel
theorem dX18_onResource_44 : decode cX18_onResource 44 = .ok (.if_icmp .ne 10, 3) := by decide +kernel
theorem dX18_onResource_47 : decode cX18_onResource 47 = .ok (.aload_n 0, 1) := by decide +kernel
theorem dX18_onResource_48 : decode cX18_onResource 48 = .ok (.getfield 411, 3) := by decide +kernel
theorem dX18_onResource_51 : decode cX18_onResource 51 = .ok (.goto 13, 3) := by decide +kernel
theorem dX18_onResource_54 : decode cX18_onResource 54 = .ok (.aload_n 0, 1) := by decide +kernel
theorem dX18_onResource_55 : decode cX18_onResource 55 = .ok (.getfield 40, 3) := by decide +kernel
theorem dX18_onResource_58 : decode cX18_onResource 58 = .ok (.getfield 77, 3) := by decide +kernel
theorem dX18_onResource_61 : decode cX18_onResource 61 = .ok (.iload 4, 2) := by decide +kernel
theorem dX18_onResource_63 : decode cX18_onResource 63 = .ok (.laload, 1) := by decide +kernel
theorem dX18_onResource_64 : decode cX18_onResource 64 = .ok (.iload_n 3, 1) := by decide +kernel
theorem dX18_onResource_65 : decode cX18_onResource 65 = .ok (.invokevirtual 414, 3) := by decide +kernel
theorem dX18_onResource_68 : decode cX18_onResource 68 = .ok (.istore 5, 2) := by decide +kernel
theorem dX18_onResource_70 : decode cX18_onResource 70 = .ok (.iload 5, 2) := by decide +kernel
theorem dX18_onResource_72 : decode cX18_onResource 72 = .ok (.ifCond .ge 4, 3) := by decide +kernel
theorem dX18_onResource_75 : decode cX18_onResource 75 = .ok (.return_, 1) := by decide +kernel
theorem dX18_onResource_76 : decode cX18_onResource 76 = .ok (.iload_n 1, 1) := by decide +kernel
theorem dX18_onResource_77 : decode cX18_onResource 77 = .ok (.bipush 49, 2) := by decide +kernel
theorem dX18_onResource_79 : decode cX18_onResource 79 = .ok (.if_icmp .ne 34, 3) := by decide +kernel
theorem dX18_onResource_82 : decode cX18_onResource 82 = .ok (.aload_n 0, 1) := by decide +kernel
theorem dX18_onResource_83 : decode cX18_onResource 83 = .ok (.bipush 10, 2) := by decide +kernel
theorem dX18_onResource_85 : decode cX18_onResource 85 = .ok (.invokevirtual 353, 3) := by decide +kernel
theorem dX18_onResource_88 : decode cX18_onResource 88 = .ok (.ifCond .eq 24, 3) := by decide +kernel
theorem dX18_onResource_91 : decode cX18_onResource 91 = .ok (.aload_n 0, 1) := by decide +kernel
theorem dX18_onResource_92 : decode cX18_onResource 92 = .ok (.iconst 1, 1) := by decide +kernel
theorem dX18_onResource_93 : decode cX18_onResource 93 = .ok (.lconst 0, 1) := by decide +kernel
theorem dX18_onResource_94 : decode cX18_onResource 94 = .ok (.aload_n 0, 1) := by decide +kernel
theorem dX18_onResource_95 : decode cX18_onResource 95 = .ok (.getfield 296, 3) := by decide +kernel
theorem dX18_onResource_98 : decode cX18_onResource 98 = .ok (.iload 5, 2) := by decide +kernel
theorem dX18_onResource_100 : decode cX18_onResource 100 = .ok (.baload, 1) := by decide +kernel
theorem dX18_onResource_101 : decode cX18_onResource 101 = .ok (.ifCond .eq 7, 3) := by decide +kernel
theorem dX18_onResource_104 : decode cX18_onResource 104 = .ok (.lconst 1, 1) := by decide +kernel
theorem dX18_onResource_105 : decode cX18_onResource 105 = .ok (.goto 4, 3) := by decide +kernel
theorem dX18_onResource_108 : decode cX18_onResource 108 = .ok (.lconst 0, 1) := by decide +kernel
theorem dX18_onResource_109 : decode cX18_onResource 109 = .ok (.invokevirtual 392, 3) := by decide +kernel
theorem dX18_onResource_112 : decode cX18_onResource 112 = .ok (.return_, 1) := by decide +kernel
theorem dX18_onResource_113 : decode cX18_onResource 113 = .ok (.aload_n 0, 1) := by decide +kernel
theorem dX18_onResource_114 : decode cX18_onResource 114 = .ok (.getfield 296, 3) := by decide +kernel
theorem dX18_onResource_117 : decode cX18_onResource 117 = .ok (.iload 5, 2) := by decide +kernel
theorem dX18_onResource_119 : decode cX18_onResource 119 = .ok (.baload, 1) := by decide +kernel
theorem dX18_onResource_120 : decode cX18_onResource 120 = .ok (.iload_n 1, 1) := by decide +kernel
theorem dX18_onResource_121 : decode cX18_onResource 121 = .ok (.bipush 47, 2) := by decide +kernel
theorem dX18_onResource_123 : decode cX18_onResource 123 = .ok (.if_icmp .ne 7, 3) := by decide +kernel
theorem dX18_onResource_126 : decode cX18_onResource 126 = .ok (.iconst 1, 1) := by decide +kernel
theorem dX18_onResource_127 : decode cX18_onResource 127 = .ok (.goto 4, 3) := by decide +kernel
theorem dX18_onResource_130 : decode cX18_onResource 130 = .ok (.iconst 0, 1) := by decide +kernel
theorem dX18_onResource_131 : decode cX18_onResource 131 = .ok (.if_icmp .ne 12, 3) := by decide +kernel
theorem dX18_onResource_134 : decode cX18_onResource 134 = .ok (.aload_n 0, 1) := by decide +kernel
theorem dX18_onResource_135 : decode cX18_onResource 135 = .ok (.iconst 2, 1) := by decide +kernel
theorem dX18_onResource_136 : decode cX18_onResource 136 = .ok (.ldc2_w 120, 3) := by decide +kernel
theorem dX18_onResource_139 : decode cX18_onResource 139 = .ok (.invokevirtual 267, 3) := by decide +kernel
theorem dX18_onResource_142 : decode cX18_onResource 142 = .ok (.return_, 1) := by decide +kernel
theorem dX18_onResource_143 : decode cX18_onResource 143 = .ok (.aload_n 0, 1) := by decide +kernel
theorem dX18_onResource_144 : decode cX18_onResource 144 = .ok (.bipush 10, 2) := by decide +kernel
theorem dX18_onResource_146 : decode cX18_onResource 146 = .ok (.iload_n 1, 1) := by decide +kernel
theorem dX18_onResource_147 : decode cX18_onResource 147 = .ok (.bipush 47, 2) := by decide +kernel
theorem dX18_onResource_149 : decode cX18_onResource 149 = .ok (.if_icmp .ne 15, 3) := by decide +kernel
theorem dX18_onResource_152 : decode cX18_onResource 152 = .ok (.aload_n 0, 1) := by decide +kernel
theorem dX18_onResource_153 : decode cX18_onResource 153 = .ok (.getfield 40, 3) := by decide +kernel
theorem dX18_onResource_156 : decode cX18_onResource 156 = .ok (.iload 4, 2) := by decide +kernel
theorem dX18_onResource_158 : decode cX18_onResource 158 = .ok (.invokevirtual 357, 3) := by decide +kernel
theorem dX18_onResource_161 : decode cX18_onResource 161 = .ok (.goto 4, 3) := by decide +kernel
theorem dX18_onResource_164 : decode cX18_onResource 164 = .ok (.iconst 0, 1) := by decide +kernel
theorem dX18_onResource_165 : decode cX18_onResource 165 = .ok (.iadd, 1) := by decide +kernel
theorem dX18_onResource_166 : decode cX18_onResource 166 = .ok (.invokevirtual 353, 3) := by decide +kernel
theorem dX18_onResource_169 : decode cX18_onResource 169 = .ok (.ifCond .ne 4, 3) := by decide +kernel
theorem dX18_onResource_172 : decode cX18_onResource 172 = .ok (.return_, 1) := by decide +kernel
theorem dX18_onResource_173 : decode cX18_onResource 173 = .ok (.iload_n 1, 1) := by decide +kernel
theorem dX18_onResource_174 : decode cX18_onResource 174 = .ok (.bipush 47, 2) := by decide +kernel
theorem dX18_onResource_176 : decode cX18_onResource 176 = .ok (.if_icmp .ne 23, 3) := by decide +kernel
theorem dX18_onResource_179 : decode cX18_onResource 179 = .ok (.aload_n 0, 1) := by decide +kernel
theorem dX18_onResource_180 : decode cX18_onResource 180 = .ok (.getfield 296, 3) := by decide +kernel
theorem dX18_onResource_183 : decode cX18_onResource 183 = .ok (.iload 5, 2) := by decide +kernel
theorem dX18_onResource_185 : decode cX18_onResource 185 = .ok (.iconst 1, 1) := by decide +kernel
theorem dX18_onResource_186 : decode cX18_onResource 186 = .ok (.bastore, 1) := by decide +kernel
theorem dX18_onResource_187 : decode cX18_onResource 187 = .ok (.aload_n 0, 1) := by decide +kernel
theorem dX18_onResource_188 : decode cX18_onResource 188 = .ok (.getfield 285, 3) := by decide +kernel
theorem dX18_onResource_191 : decode cX18_onResource 191 = .ok (.iload 5, 2) := by decide +kernel
theorem dX18_onResource_193 : decode cX18_onResource 193 = .ok (.iload 4, 2) := by decide +kernel
theorem dX18_onResource_195 : decode cX18_onResource 195 = .ok (.iastore, 1) := by decide +kernel
theorem dX18_onResource_196 : decode cX18_onResource 196 = .ok (.goto 52, 3) := by decide +kernel
theorem dX18_onResource_199 : decode cX18_onResource 199 = .ok (.iload_n 1, 1) := by decide +kernel
theorem dX18_onResource_200 : decode cX18_onResource 200 = .ok (.bipush 48, 2) := by decide +kernel
theorem dX18_onResource_202 : decode cX18_onResource 202 = .ok (.if_icmp .ne 34, 3) := by decide +kernel
theorem dX18_onResource_205 : decode cX18_onResource 205 = .ok (.aload_n 0, 1) := by decide +kernel
theorem dX18_onResource_206 : decode cX18_onResource 206 = .ok (.aload_n 0, 1) := by decide +kernel
theorem dX18_onResource_207 : decode cX18_onResource 207 = .ok (.getfield 285, 3) := by decide +kernel
theorem dX18_onResource_210 : decode cX18_onResource 210 = .ok (.iload 5, 2) := by decide +kernel
theorem dX18_onResource_212 : decode cX18_onResource 212 = .ok (.iaload, 1) := by decide +kernel
theorem dX18_onResource_213 : decode cX18_onResource 213 = .ok (.iconst 0, 1) := by decide +kernel
theorem dX18_onResource_214 : decode cX18_onResource 214 = .ok (.invokevirtual 318, 3) := by decide +kernel
theorem dX18_onResource_217 : decode cX18_onResource 217 = .ok (.aload_n 0, 1) := by decide +kernel
theorem dX18_onResource_218 : decode cX18_onResource 218 = .ok (.getfield 296, 3) := by decide +kernel
theorem dX18_onResource_221 : decode cX18_onResource 221 = .ok (.iload 5, 2) := by decide +kernel
theorem dX18_onResource_223 : decode cX18_onResource 223 = .ok (.iconst 0, 1) := by decide +kernel
theorem dX18_onResource_224 : decode cX18_onResource 224 = .ok (.bastore, 1) := by decide +kernel
theorem dX18_onResource_225 : decode cX18_onResource 225 = .ok (.aload_n 0, 1) := by decide +kernel
theorem dX18_onResource_226 : decode cX18_onResource 226 = .ok (.getfield 285, 3) := by decide +kernel
theorem dX18_onResource_229 : decode cX18_onResource 229 = .ok (.iload 5, 2) := by decide +kernel
theorem dX18_onResource_231 : decode cX18_onResource 231 = .ok (.iconst (-1), 1) := by decide +kernel
theorem dX18_onResource_232 : decode cX18_onResource 232 = .ok (.iastore, 1) := by decide +kernel
theorem dX18_onResource_233 : decode cX18_onResource 233 = .ok (.goto 15, 3) := by decide +kernel
theorem dX18_onResource_236 : decode cX18_onResource 236 = .ok (.aload_n 0, 1) := by decide +kernel
theorem dX18_onResource_237 : decode cX18_onResource 237 = .ok (.aload_n 0, 1) := by decide +kernel
theorem dX18_onResource_238 : decode cX18_onResource 238 = .ok (.getfield 285, 3) := by decide +kernel
theorem dX18_onResource_241 : decode cX18_onResource 241 = .ok (.iload 5, 2) := by decide +kernel
theorem dX18_onResource_243 : decode cX18_onResource 243 = .ok (.iaload, 1) := by decide +kernel
theorem dX18_onResource_244 : decode cX18_onResource 244 = .ok (.iconst 1, 1) := by decide +kernel
theorem dX18_onResource_245 : decode cX18_onResource 245 = .ok (.invokevirtual 318, 3) := by decide +kernel
theorem dX18_onResource_248 : decode cX18_onResource 248 = .ok (.return_, 1) := by decide +kernel
theorem dX18_onVector_0 : decode cX18_onVector 0 = .ok (.iload_n 1, 1) := by decide +kernel
theorem dX18_onVector_1 : decode cX18_onVector 1 = .ok (.bipush 52, 2) := by decide +kernel
theorem dX18_onVector_3 : decode cX18_onVector 3 = .ok (.if_icmp .ne 103, 3) := by decide +kernel
theorem dX18_onVector_6 : decode cX18_onVector 6 = .ok (.aload_n 0, 1) := by decide +kernel
theorem dX18_onVector_7 : decode cX18_onVector 7 = .ok (.getfield 312, 3) := by decide +kernel
theorem dX18_onVector_10 : decode cX18_onVector 10 = .ok (.aload_n 0, 1) := by decide +kernel
theorem dX18_onVector_11 : decode cX18_onVector 11 = .ok (.getfield 325, 3) := by decide +kernel
theorem dX18_onVector_14 : decode cX18_onVector 14 = .ok (.aload_n 0, 1) := by decide +kernel
theorem dX18_onVector_15 : decode cX18_onVector 15 = .ok (.getfield 328, 3) := by decide +kernel
theorem dX18_onVector_18 : decode cX18_onVector 18 = .ok (.iconst 1, 1) := by decide +kernel
theorem dX18_onVector_19 : decode cX18_onVector 19 = .ok (.isub, 1) := by decide +kernel
theorem dX18_onVector_20 : decode cX18_onVector 20 = .ok (.iaload, 1) := by decide +kernel
theorem dX18_onVector_21 : decode cX18_onVector 21 = .ok (.isub, 1) := by decide +kernel
theorem dX18_onVector_22 : decode cX18_onVector 22 = .ok (.iload_n 2, 1) := by decide +kernel
theorem dX18_onVector_23 : decode cX18_onVector 23 = .ok (.if_icmp .ge 7, 3) := by decide +kernel
theorem dX18_onVector_26 : decode cX18_onVector 26 = .ok (.aload_n 0, 1) := by decide +kernel
theorem dX18_onVector_27 : decode cX18_onVector 27 = .ok (.invokevirtual 331, 3) := by decide +kernel
theorem dX18_onVector_30 : decode cX18_onVector 30 = .ok (.aload_n 0, 1) := by decide +kernel
theorem dX18_onVector_31 : decode cX18_onVector 31 = .ok (.iload_n 2, 1) := by decide +kernel
theorem dX18_onVector_32 : decode cX18_onVector 32 = .ok (.invokevirtual 353, 3) := by decide +kernel
theorem dX18_onVector_35 : decode cX18_onVector 35 = .ok (.ifCond .ne 4, 3) := by decide +kernel
theorem dX18_onVector_38 : decode cX18_onVector 38 = .ok (.return_, 1) := by decide +kernel
theorem dX18_onVector_39 : decode cX18_onVector 39 = .ok (.aload_n 0, 1) := by decide +kernel
theorem dX18_onVector_40 : decode cX18_onVector 40 = .ok (.getfield 40, 3) := by decide +kernel
theorem dX18_onVector_43 : decode cX18_onVector 43 = .ok (.bipush 7, 2) := by decide +kernel
theorem dX18_onVector_45 : decode cX18_onVector 45 = .ok (.lconst 0, 1) := by decide +kernel
theorem dX18_onVector_46 : decode cX18_onVector 46 = .ok (.lconst 0, 1) := by decide +kernel
theorem dX18_onVector_47 : decode cX18_onVector 47 = .ok (.invokevirtual 54, 3) := by decide +kernel
theorem dX18_onVector_50 : decode cX18_onVector 50 = .ok (.istore_n 3, 1) := by decide +kernel
theorem dX18_onVector_51 : decode cX18_onVector 51 = .ok (.aload_n 0, 1) := by decide +kernel
theorem dX18_onVector_52 : decode cX18_onVector 52 = .ok (.getfield 312, 3) := by decide +kernel
theorem dX18_onVector_55 : decode cX18_onVector 55 = .ok (.iload_n 2, 1) := by decide +kernel
theorem dX18_onVector_56 : decode cX18_onVector 56 = .ok (.isub, 1) := by decide +kernel
theorem dX18_onVector_57 : decode cX18_onVector 57 = .ok (.istore 4, 2) := by decide +kernel
theorem dX18_onVector_59 : decode cX18_onVector 59 = .ok (.iload 4, 2) := by decide +kernel
theorem dX18_onVector_61 : decode cX18_onVector 61 = .ok (.aload_n 0, 1) := by decide +kernel
theorem dX18_onVector_62 : decode cX18_onVector 62 = .ok (.getfield 312, 3) := by decide +kernel
theorem dX18_onVector_65 : decode cX18_onVector 65 = .ok (.if_icmp .ge 24, 3) := by decide +kernel
theorem dX18_onVector_68 : decode cX18_onVector 68 = .ok (.aload_n 0, 1) := by decide +kernel
theorem dX18_onVector_69 : decode cX18_onVector 69 = .ok (.getfield 40, 3) := by decide +kernel
theorem dX18_onVector_72 : decode cX18_onVector 72 = .ok (.iload_n 3, 1) := by decide +kernel
theorem dX18_onVector_73 : decode cX18_onVector 73 = .ok (.aload_n 0, 1) := by decide +kernel
theorem dX18_onVector_74 : decode cX18_onVector 74 = .ok (.getfield 309, 3) := by decide +kernel
theorem dX18_onVector_77 : decode cX18_onVector 77 = .ok (.iload 4, 2) := by decide +kernel
theorem dX18_onVector_79 : decode cX18_onVector 79 = .ok (.iaload, 1) := by decide +kernel
theorem dX18_onVector_80 : decode cX18_onVector 80 = .ok (.invokevirtual 63, 3) := by decide +kernel
theorem dX18_onVector_83 : decode cX18_onVector 83 = .ok (.iinc 4 1, 3) := by decide +kernel
theorem dX18_onVector_86 : decode cX18_onVector 86 = .ok (.goto (-27), 3) := by decide +kernel
theorem dX18_onVector_89 : decode cX18_onVector 89 = .ok (.aload_n 0, 1) := by decide +kernel
theorem dX18_onVector_90 : decode cX18_onVector 90 = .ok (.dup, 1) := by decide +kernel
theorem dX18_onVector_91 : decode cX18_onVector 91 = .ok (.getfield 312, 3) := by decide +kernel
theorem dX18_onVector_94 : decode cX18_onVector 94 = .ok (.iload_n 2, 1) := by decide +kernel
theorem dX18_onVector_95 : decode cX18_onVector 95 = .ok (.isub, 1) := by decide +kernel
theorem dX18_onVector_96 : decode cX18_onVector 96 = .ok (.putfield 312, 3) := by decide +kernel
theorem dX18_onVector_99 : decode cX18_onVector 99 = .ok (.aload_n 0, 1) := by decide +kernel
theorem dX18_onVector_100 : decode cX18_onVector 100 = .ok (.iload_n 3, 1) := by decide +kernel
theorem dX18_onVector_101 : decode cX18_onVector 101 = .ok (.iconst 0, 1) := by decide +kernel
theorem dX18_onVector_102 : decode cX18_onVector 102 = .ok (.invokevirtual 318, 3) := by decide +kernel
theorem dX18_onVector_105 : decode cX18_onVector 105 = .ok (.return_, 1) := by decide +kernel
theorem dX18_onVector_106 : decode cX18_onVector 106 = .ok (.iload_n 1, 1) := by decide +kernel
theorem dX18_onVector_107 : decode cX18_onVector 107 = .ok (.bipush 59, 2) := by decide +kernel
theorem dX18_onVector_109 : decode cX18_onVector 109 = .ok (.if_icmp .ne 8, 3) := by decide +kernel
theorem dX18_onVector_112 : decode cX18_onVector 112 = .ok (.aload_n 0, 1) := by decide +kernel
theorem dX18_onVector_113 : decode cX18_onVector 113 = .ok (.invokevirtual 418, 3) := by decide +kernel
theorem dX18_onVector_116 : decode cX18_onVector 116 = .ok (.return_, 1) := by decide +kernel
theorem dX18_onVector_117 : decode cX18_onVector 117 = .ok (.iload_n 1, 1) := by decide +kernel
theorem dX18_onVector_118 : decode cX18_onVector 118 = .ok (.bipush 58, 2) := by decide +kernel
theorem dX18_onVector_120 : decode cX18_onVector 120 = .ok (.if_icmp .eq 15, 3) := by decide +kernel
theorem dX18_onVector_123 : decode cX18_onVector 123 = .ok (.iload_n 1, 1) := by decide +kernel
theorem dX18_onVector_124 : decode cX18_onVector 124 = .ok (.bipush 54, 2) := by decide +kernel
theorem dX18_onVector_126 : decode cX18_onVector 126 = .ok (.if_icmp .eq 9, 3) := by decide +kernel
theorem dX18_onVector_129 : decode cX18_onVector 129 = .ok (.iload_n 1, 1) := by decide +kernel
theorem dX18_onVector_130 : decode cX18_onVector 130 = .ok (.bipush 55, 2) := by decide +kernel
theorem dX18_onVector_132 : decode cX18_onVector 132 = .ok (.if_icmp .ne 10, 3) := by decide +kernel
theorem dX18_onVector_135 : decode cX18_onVector 135 = .ok (.aload_n 0, 1) := by decide +kernel
theorem dX18_onVector_136 : decode cX18_onVector 136 = .ok (.invokevirtual 421, 3) := by decide +kernel
theorem dX18_onVector_139 : decode cX18_onVector 139 = .ok (.goto 4, 3) := by decide +kernel
theorem dX18_onVector_142 : decode cX18_onVector 142 = .ok (.lconst 0, 1) := by decide +kernel
theorem dX18_onVector_143 : decode cX18_onVector 143 = .ok (.lstore_n 3, 1) := by decide +kernel
theorem dX18_onVector_144 : decode cX18_onVector 144 = .ok (.iload_n 1, 1) := by decide +kernel
theorem dX18_onVector_145 : decode cX18_onVector 145 = .ok (.bipush 58, 2) := by decide +kernel
theorem dX18_onVector_147 : decode cX18_onVector 147 = .ok (.if_icmp .ne 10, 3) := by decide +kernel
theorem dX18_onVector_150 : decode cX18_onVector 150 = .ok (.aload_n 0, 1) := by decide +kernel
theorem dX18_onVector_151 : decode cX18_onVector 151 = .ok (.invokevirtual 421, 3) := by decide +kernel
theorem dX18_onVector_154 : decode cX18_onVector 154 = .ok (.goto 4, 3) := by decide +kernel
theorem dX18_onVector_157 : decode cX18_onVector 157 = .ok (.lconst 0, 1) := by decide +kernel
theorem dX18_onVector_158 : decode cX18_onVector 158 = .ok (.lstore 5, 2) := by decide +kernel
theorem dX18_onVector_160 : decode cX18_onVector 160 = .ok (.iload_n 1, 1) := by decide +kernel
theorem dX18_onVector_161 : decode cX18_onVector 161 = .ok (.bipush 56, 2) := by decide +kernel
theorem dX18_onVector_163 : decode cX18_onVector 163 = .ok (.if_icmp .ne 11, 3) := by decide +kernel
theorem dX18_onVector_166 : decode cX18_onVector 166 = .ok (.aload_n 0, 1) := by decide +kernel
theorem dX18_onVector_167 : decode cX18_onVector 167 = .ok (.iconst 0, 1) := by decide +kernel
theorem dX18_onVector_168 : decode cX18_onVector 168 = .ok (.invokevirtual 337, 3) := by decide +kernel
theorem dX18_onVector_171 : decode cX18_onVector 171 = .ok (.goto 4, 3) := by decide +kernel
theorem dX18_onVector_174 : decode cX18_onVector 174 = .ok (.iconst 0, 1) := by decide +kernel
theorem dX18_onVector_175 : decode cX18_onVector 175 = .ok (.istore 7, 2) := by decide +kernel
theorem dX18_onVector_177 : decode cX18_onVector 177 = .ok (.aload_n 0, 1) := by decide +kernel
theorem dX18_onVector_178 : decode cX18_onVector 178 = .ok (.iconst 1, 1) := by decide +kernel
theorem dX18_onVector_179 : decode cX18_onVector 179 = .ok (.invokevirtual 337, 3) := by decide +kernel
theorem dX18_onVector_182 : decode cX18_onVector 182 = .ok (.istore 8, 2) := by decide +kernel
theorem dX18_onVector_184 : decode cX18_onVector 184 = .ok (.aload_n 0, 1) := by decide +kernel
theorem dX18_onVector_185 : decode cX18_onVector 185 = .ok (.invokevirtual 257, 3) := by decide +kernel
theorem dX18_onVector_188 : decode cX18_onVector 188 = .ok (.ifCond .eq 22, 3) := by decide +kernel
theorem dX18_onVector_191 : decode cX18_onVector 191 = .ok (.aload_n 0, 1) := by decide +kernel
theorem dX18_onVector_192 : decode cX18_onVector 192 = .ok (.getfield 40, 3) := by decide +kernel
theorem dX18_onVector_195 : decode cX18_onVector 195 = .ok (.getfield 71, 3) := by decide +kernel
theorem dX18_onVector_198 : decode cX18_onVector 198 = .ok (.iload 8, 2) := by decide +kernel
theorem dX18_onVector_200 : decode cX18_onVector 200 = .ok (.baload, 1) := by decide +kernel
theorem dX18_onVector_201 : decode cX18_onVector 201 = .ok (.bipush 7, 2) := by decide +kernel
theorem dX18_onVector_203 : decode cX18_onVector 203 = .ok (.if_icmp .eq 7, 3) := by decide +kernel
theorem dX18_onVector_206 : decode cX18_onVector 206 = .ok (.aload_n 0, 1) := by decide +kernel
theorem dX18_onVector_207 : decode cX18_onVector 207 = .ok (.invokevirtual 331, 3) := by decide +kernel
theorem dX18_onVector_210 : decode cX18_onVector 210 = .ok (.aload_n 0, 1) := by decide +kernel
theorem dX18_onVector_211 : decode cX18_onVector 211 = .ok (.invokevirtual 257, 3) := by decide +kernel
theorem dX18_onVector_214 : decode cX18_onVector 214 = .ok (.ifCond .ne 4, 3) := by decide +kernel
theorem dX18_onVector_217 : decode cX18_onVector 217 = .ok (.return_, 1) := by decide +kernel
theorem dX18_onVector_218 : decode cX18_onVector 218 = .ok (.iload_n 1, 1) := by decide +kernel
theorem dX18_onVector_219 : decode cX18_onVector 219 = .ok (.bipush 53, 2) := by decide +kernel
theorem dX18_onVector_221 : decode cX18_onVector 221 = .ok (.if_icmp .ne 22, 3) := by decide +kernel
theorem dX18_onVector_224 : decode cX18_onVector 224 = .ok (.aload_n 0, 1) := by decide +kernel
theorem dX18_onVector_225 : decode cX18_onVector 225 = .ok (.iconst 3, 1) := by decide +kernel
theorem dX18_onVector_226 : decode cX18_onVector 226 = .ok (.lconst 0, 1) := by decide +kernel
theorem dX18_onVector_227 : decode cX18_onVector 227 = .ok (.aload_n 0, 1) := by decide +kernel
theorem dX18_onVector_228 : decode cX18_onVector 228 = .ok (.getfield 40, 3) := by decide +kernel
theorem dX18_onVector_231 : decode cX18_onVector 231 = .ok (.iload 8, 2) := by decide +kernel
theorem dX18_onVector_233 : decode cX18_onVector 233 = .ok (.invokevirtual 80, 3) := by decide +kernel
theorem dX18_onVector_236 : decode cX18_onVector 236 = .ok (.i2l, 1) := by decide +kernel
theorem dX18_onVector_237 : decode cX18_onVector 237 = .ok (.invokevirtual 392, 3) := by decide +kernel
theorem dX18_onVector_240 : decode cX18_onVector 240 = .ok (.goto 183, 3) := by decide +kernel
theorem dX18_onVector_243 : decode cX18_onVector 243 = .ok (.iload_n 1, 1) := by decide +kernel
theorem dX18_onVector_244 : decode cX18_onVector 244 = .ok (.bipush 56, 2) := by decide +kernel
theorem dX18_onVector_246 : decode cX18_onVector 246 = .ok (.if_icmp .ne 43, 3) := by decide +kernel
theorem dX18_onVector_249 : decode cX18_onVector 249 = .ok (.aload_n 0, 1) := by decide +kernel
theorem dX18_onVector_250 : decode cX18_onVector 250 = .ok (.getfield 40, 3) := by decide +kernel
theorem dX18_onVector_253 : decode cX18_onVector 253 = .ok (.iload 8, 2) := by decide +kernel
theorem dX18_onVector_255 : decode cX18_onVector 255 = .ok (.invokevirtual 80, 3) := by decide +kernel
theorem dX18_onVector_258 : decode cX18_onVector 258 = .ok (.sipush 256, 3) := by decide +kernel
theorem dX18_onVector_261 : decode cX18_onVector 261 = .ok (.if_icmp .ne 14, 3) := by decide +kernel
theorem dX18_onVector_264 : decode cX18_onVector 264 = .ok (.aload_n 0, 1) := by decide +kernel
theorem dX18_onVector_265 : decode cX18_onVector 265 = .ok (.iconst 2, 1) := by decide +kernel
theorem dX18_onVector_266 : decode cX18_onVector 266 = .ok (.ldc2_w 283, 3) := by decide +kernel
theorem dX18_onVector_269 : decode cX18_onVector 269 = .ok (.invokevirtual 267, 3) := by decide +kernel
theorem dX18_onVector_272 : decode cX18_onVector 272 = .ok (.goto 151, 3) := by decide +kernel
theorem dX18_onVector_275 : decode cX18_onVector 275 = .ok (.aload_n 0, 1) := by decide +kernel
theorem dX18_onVector_276 : decode cX18_onVector 276 = .ok (.getfield 40, 3) := by decide +kernel
theorem dX18_onVector_279 : decode cX18_onVector 279 = .ok (.iload 8, 2) := by decide +kernel
theorem dX18_onVector_281 : decode cX18_onVector 281 = .ok (.iload 7, 2) := by decide +kernel
theorem dX18_onVector_283 : decode cX18_onVector 283 = .ok (.invokevirtual 63, 3) := by decide +kernel
theorem dX18_onVector_286 : decode cX18_onVector 286 = .ok (.goto 137, 3) := by decide +kernel
theorem dX18_onVector_289 : decode cX18_onVector 289 = .ok (.iload_n 1, 1) := by decide +kernel
theorem dX18_onVector_290 : decode cX18_onVector 290 = .ok (.bipush 57, 2) := by decide +kernel
theorem dX18_onVector_292 : decode cX18_onVector 292 = .ok (.if_icmp .ne 45, 3) := by decide +kernel
theorem dX18_onVector_295 : decode cX18_onVector 295 = .ok (.aload_n 0, 1) := by decide +kernel
theorem dX18_onVector_296 : decode cX18_onVector 296 = .ok (.getfield 40, 3) := by decide +kernel
theorem dX18_onVector_299 : decode cX18_onVector 299 = .ok (.getfield 84, 3) := by decide +kernel
theorem dX18_onVector_302 : decode cX18_onVector 302 = .ok (.iload 8, 2) := by decide +kernel
theorem dX18_onVector_304 : decode cX18_onVector 304 = .ok (.iaload, 1) := by decide +kernel
theorem dX18_onVector_305 : decode cX18_onVector 305 = .ok (.iconst (-1), 1) := by decide +kernel
theorem dX18_onVector_306 : decode cX18_onVector 306 = .ok (.if_icmp .ne 14, 3) := by decide +kernel
theorem dX18_onVector_309 : decode cX18_onVector 309 = .ok (.aload_n 0, 1) := by decide +kernel
theorem dX18_onVector_310 : decode cX18_onVector 310 = .ok (.iconst 2, 1) := by decide +kernel
theorem dX18_onVector_311 : decode cX18_onVector 311 = .ok (.ldc2_w 425, 3) := by decide +kernel
theorem dX18_onVector_314 : decode cX18_onVector 314 = .ok (.invokevirtual 267, 3) := by decide +kernel
theorem dX18_onVector_317 : decode cX18_onVector 317 = .ok (.goto 106, 3) := by decide +kernel
theorem dX18_onVector_320 : decode cX18_onVector 320 = .ok (.aload_n 0, 1) := by decide +kernel
theorem dX18_onVector_321 : decode cX18_onVector 321 = .ok (.aload_n 0, 1) := by decide +kernel
theorem dX18_onVector_322 : decode cX18_onVector 322 = .ok (.getfield 40, 3) := by decide +kernel
theorem dX18_onVector_325 : decode cX18_onVector 325 = .ok (.iload 8, 2) := by decide +kernel
theorem dX18_onVector_327 : decode cX18_onVector 327 = .ok (.invokevirtual 427, 3) := by decide +kernel
theorem dX18_onVector_330 : decode cX18_onVector 330 = .ok (.iconst 0, 1) := by decide +kernel
theorem dX18_onVector_331 : decode cX18_onVector 331 = .ok (.invokevirtual 318, 3) := by decide +kernel
theorem dX18_onVector_334 : decode cX18_onVector 334 = .ok (.goto 89, 3) := by decide +kernel
theorem dX18_onVector_337 : decode cX18_onVector 337 = .ok (.aload_n 0, 1) := by decide +kernel
theorem dX18_onVector_338 : decode cX18_onVector 338 = .ok (.getfield 40, 3) := by decide +kernel
theorem dX18_onVector_341 : decode cX18_onVector 341 = .ok (.iload 8, 2) := by decide +kernel
theorem dX18_onVector_343 : decode cX18_onVector 343 = .ok (.lload_n 3, 1) := by decide +kernel
theorem dX18_onVector_344 : decode cX18_onVector 344 = .ok (.invokevirtual 366, 3) := by decide +kernel
theorem dX18_onVector_347 : decode cX18_onVector 347 = .ok (.istore 9, 2) := by decide +kernel
theorem dX18_onVector_349 : decode cX18_onVector 349 = .ok (.iload_n 1, 1) := by decide +kernel
theorem dX18_onVector_350 : decode cX18_onVector 350 = .ok (.bipush 58, 2) := by decide +kernel
theorem dX18_onVector_352 : decode cX18_onVector 352 = .ok (.if_icmp .ne 17, 3) := by decide +kernel
theorem dX18_onVector_355 : decode cX18_onVector 355 = .ok (.aload_n 0, 1) := by decide +kernel
theorem dX18_onVector_356 : decode cX18_onVector 356 = .ok (.getfield 40, 3) := by decide +kernel
theorem dX18_onVector_359 : decode cX18_onVector 359 = .ok (.iload 8, 2) := by decide +kernel
theorem dX18_onVector_361 : decode cX18_onVector 361 = .ok (.lload 5, 2) := by decide +kernel
theorem dX18_onVector_363 : decode cX18_onVector 363 = .ok (.invokevirtual 366, 3) := by decide +kernel
theorem dX18_onVector_366 : decode cX18_onVector 366 = .ok (.goto 5, 3) := by decide +kernel
theorem dX18_onVector_369 : decode cX18_onVector 369 = .ok (.iload 9, 2) := by decide +kernel
theorem dX18_onVector_371 : decode cX18_onVector 371 = .ok (.istore 10, 2) := by decide +kernel
theorem dX18_onVector_373 : decode cX18_onVector 373 = .ok (.iload 9, 2) := by decide +kernel
theorem dX18_onVector_375 : decode cX18_onVector 375 = .ok (.iconst (-1), 1) := by decide +kernel
theorem dX18_onVector_376 : decode cX18_onVector 376 = .ok (.if_icmp .eq 9, 3) := by decide +kernel
theorem dX18_onVector_379 : decode cX18_onVector 379 = .ok (.iload 10, 2) := by decide +kernel
theorem dX18_onVector_381 : decode cX18_onVector 381 = .ok (.iconst (-1), 1) := by decide +kernel
theorem dX18_onVector_382 : decode cX18_onVector 382 = .ok (.if_icmp .ne 14, 3) := by decide +kernel
theorem dX18_onVector_385 : decode cX18_onVector 385 = .ok (.aload_n 0, 1) := by decide +kernel
theorem dX18_onVector_386 : decode cX18_onVector 386 = .ok (.iconst 2, 1) := by decide +kernel
theorem dX18_onVector_387 : decode cX18_onVector 387 = .ok (.ldc2_w 425, 3) := by decide +kernel
theorem dX18_onVector_390 : decode cX18_onVector 390 = .ok (.invokevirtual 267, 3) := by decide +kernel
theorem dX18_onVector_393 : decode cX18_onVector 393 = .ok (.goto 30, 3) := by decide +kernel
theorem dX18_onVector_396 : decode cX18_onVector 396 = .ok (.iload_n 1, 1) := by decide +kernel
theorem dX18_onVector_397 : decode cX18_onVector 397 = .ok (.bipush 58, 2) := by decide +kernel
theorem dX18_onVector_399 : decode cX18_onVector 399 = .ok (.if_icmp .ne 17, 3) := by decide +kernel
theorem dX18_onVector_402 : decode cX18_onVector 402 = .ok (.aload_n 0, 1) := by decide +kernel
theorem dX18_onVector_403 : decode cX18_onVector 403 = .ok (.getfield 40, 3) := by decide +kernel
theorem dX18_onVector_406 : decode cX18_onVector 406 = .ok (.iload 9, 2) := by decide +kernel
theorem dX18_onVector_408 : decode cX18_onVector 408 = .ok (.iload 10, 2) := by decide +kernel
theorem dX18_onVector_410 : decode cX18_onVector 410 = .ok (.invokevirtual 430, 3) := by decide +kernel
theorem dX18_onVector_413 : decode cX18_onVector 413 = .ok (.goto 10, 3) := by decide +kernel
theorem dX18_onVector_416 : decode cX18_onVector 416 = .ok (.aload_n 0, 1) := by decide +kernel
theorem dX18_onVector_417 : decode cX18_onVector 417 = .ok (.iload 9, 2) := by decide +kernel
theorem dX18_onVector_419 : decode cX18_onVector 419 = .ok (.iconst 1, 1) := by decide +kernel
theorem dX18_onVector_420 : decode cX18_onVector 420 = .ok (.invokevirtual 318, 3) := by decide +kernel
theorem dX18_onVector_423 : decode cX18_onVector 423 = .ok (.return_, 1) := by decide +kernel
theorem dX18_digest_0 : decode cX18_digest 0 = .ok (.aload_n 0, 1) := by decide +kernel
theorem dX18_digest_1 : decode cX18_digest 1 = .ok (.bipush 7, 2) := by decide +kernel
theorem dX18_digest_3 : decode cX18_digest 3 = .ok (.invokevirtual 341, 3) := by decide +kernel
theorem dX18_digest_6 : decode cX18_digest 6 = .ok (.istore_n 1, 1) := by decide +kernel
theorem dX18_digest_7 : decode cX18_digest 7 = .ok (.aload_n 0, 1) := by decide +kernel
theorem dX18_digest_8 : decode cX18_digest 8 = .ok (.invokevirtual 257, 3) := by decide +kernel
theorem dX18_digest_11 : decode cX18_digest 11 = .ok (.ifCond .eq 21, 3) := by decide +kernel
theorem dX18_digest_14 : decode cX18_digest 14 = .ok (.aload_n 0, 1) := by decide +kernel
theorem dX18_digest_15 : decode cX18_digest 15 = .ok (.bipush 32, 2) := by decide +kernel
theorem dX18_digest_17 : decode cX18_digest 17 = .ok (.aload_n 0, 1) := by decide +kernel
theorem dX18_digest_18 : decode cX18_digest 18 = .ok (.getfield 40, 3) := by decide +kernel
theorem dX18_digest_21 : decode cX18_digest 21 = .ok (.iload_n 1, 1) := by decide +kernel
theorem dX18_digest_22 : decode cX18_digest 22 = .ok (.invokevirtual 80, 3) := by decide +kernel
theorem dX18_digest_25 : decode cX18_digest 25 = .ok (.iadd, 1) := by decide +kernel
theorem dX18_digest_26 : decode cX18_digest 26 = .ok (.invokevirtual 353, 3) := by decide +kernel
theorem dX18_digest_29 : decode cX18_digest 29 = .ok (.ifCond .ne 4, 3) := by decide +kernel
theorem dX18_digest_32 : decode cX18_digest 32 = .ok (.return_, 1) := by decide +kernel
theorem dX18_digest_33 : decode cX18_digest 33 = .ok (.aload_n 0, 1) := by decide +kernel
theorem dX18_digest_34 : decode cX18_digest 34 = .ok (.getfield 94, 3) := by decide +kernel
theorem dX18_digest_37 : decode cX18_digest 37 = .ok (.invokevirtual 433, 3) := by decide +kernel
theorem dX18_digest_40 : decode cX18_digest 40 = .ok (.aload_n 0, 1) := by decide +kernel
theorem dX18_digest_41 : decode cX18_digest 41 = .ok (.getfield 40, 3) := by decide +kernel
theorem dX18_digest_44 : decode cX18_digest 44 = .ok (.getfield 84, 3) := by decide +kernel
theorem dX18_digest_47 : decode cX18_digest 47 = .ok (.iload_n 1, 1) := by decide +kernel
theorem dX18_digest_48 : decode cX18_digest 48 = .ok (.iaload, 1) := by decide +kernel
theorem dX18_digest_49 : decode cX18_digest 49 = .ok (.istore_n 2, 1) := by decide +kernel
theorem dX18_digest_50 : decode cX18_digest 50 = .ok (.iload_n 2, 1) := by decide +kernel
theorem dX18_digest_51 : decode cX18_digest 51 = .ok (.iconst (-1), 1) := by decide +kernel
theorem dX18_digest_52 : decode cX18_digest 52 = .ok (.if_icmp .eq 33, 3) := by decide +kernel
theorem dX18_digest_55 : decode cX18_digest 55 = .ok (.aload_n 0, 1) := by decide +kernel
theorem dX18_digest_56 : decode cX18_digest 56 = .ok (.getfield 94, 3) := by decide +kernel
theorem dX18_digest_59 : decode cX18_digest 59 = .ok (.aload_n 0, 1) := by decide +kernel
theorem dX18_digest_60 : decode cX18_digest 60 = .ok (.getfield 40, 3) := by decide +kernel
theorem dX18_digest_63 : decode cX18_digest 63 = .ok (.getfield 77, 3) := by decide +kernel
theorem dX18_digest_66 : decode cX18_digest 66 = .ok (.iload_n 2, 1) := by decide +kernel
theorem dX18_digest_67 : decode cX18_digest 67 = .ok (.laload, 1) := by decide +kernel
theorem dX18_digest_68 : decode cX18_digest 68 = .ok (.l2i, 1) := by decide +kernel
theorem dX18_digest_69 : decode cX18_digest 69 = .ok (.invokevirtual 98, 3) := by decide +kernel
theorem dX18_digest_72 : decode cX18_digest 72 = .ok (.aload_n 0, 1) := by decide +kernel
theorem dX18_digest_73 : decode cX18_digest 73 = .ok (.getfield 40, 3) := by decide +kernel
theorem dX18_digest_76 : decode cX18_digest 76 = .ok (.getfield 87, 3) := by decide +kernel
theorem dX18_digest_79 : decode cX18_digest 79 = .ok (.iload_n 2, 1) := by decide +kernel
theorem dX18_digest_80 : decode cX18_digest 80 = .ok (.iaload, 1) := by decide +kernel
theorem dX18_digest_81 : decode cX18_digest 81 = .ok (.istore_n 2, 1) := by decide +kernel
theorem dX18_digest_82 : decode cX18_digest 82 = .ok (.goto (-32), 3) := by decide +kernel
theorem dX18_digest_85 : decode cX18_digest 85 = .ok (.aload_n 0, 1) := by decide +kernel
theorem dX18_digest_86 : decode cX18_digest 86 = .ok (.getfield 94, 3) := by decide +kernel
theorem dX18_digest_89 : decode cX18_digest 89 = .ok (.invokevirtual 436, 3) := by decide +kernel
theorem dX18_digest_92 : decode cX18_digest 92 = .ok (.aload_n 0, 1) := by decide +kernel
theorem dX18_digest_93 : decode cX18_digest 93 = .ok (.getfield 40, 3) := by decide +kernel
theorem dX18_digest_96 : decode cX18_digest 96 = .ok (.bipush 7, 2) := by decide +kernel
theorem dX18_digest_98 : decode cX18_digest 98 = .ok (.lconst 0, 1) := by decide +kernel
theorem dX18_digest_99 : decode cX18_digest 99 = .ok (.lconst 0, 1) := by decide +kernel
theorem dX18_digest_100 : decode cX18_digest 100 = .ok (.invokevirtual 54, 3) := by decide +kernel
theorem dX18_digest_103 : decode cX18_digest 103 = .ok (.istore_n 2, 1) := by decide +kernel
theorem dX18_digest_104 : decode cX18_digest 104 = .ok (.iconst 0, 1) := by decide +kernel
theorem dX18_digest_105 : decode cX18_digest 105 = .ok (.istore_n 3, 1) := by decide +kernel
theorem dX18_digest_106 : decode cX18_digest 106 = .ok (.iload_n 3, 1) := by decide +kernel
theorem dX18_digest_107 : decode cX18_digest 107 = .ok (.bipush 32, 2) := by decide +kernel
theorem dX18_digest_109 : decode cX18_digest 109 = .ok (.if_icmp .ge 35, 3) := by decide +kernel
theorem dX18_digest_112 : decode cX18_digest 112 = .ok (.aload_n 0, 1) := by decide +kernel
theorem dX18_digest_113 : decode cX18_digest 113 = .ok (.getfield 40, 3) := by decide +kernel
theorem dX18_digest_116 : decode cX18_digest 116 = .ok (.iload_n 2, 1) := by decide +kernel
theorem dX18_digest_117 : decode cX18_digest 117 = .ok (.aload_n 0, 1) := by decide +kernel
theorem dX18_digest_118 : decode cX18_digest 118 = .ok (.getfield 40, 3) := by decide +kernel
theorem dX18_digest_121 : decode cX18_digest 121 = .ok (.iconst 2, 1) := by decide +kernel
theorem dX18_digest_122 : decode cX18_digest 122 = .ok (.lconst 0, 1) := by decide +kernel
theorem dX18_digest_123 : decode cX18_digest 123 = .ok (.aload_n 0, 1) := by decide +kernel
theorem dX18_digest_124 : decode cX18_digest 124 = .ok (.getfield 94, 3) := by decide +kernel
theorem dX18_digest_127 : decode cX18_digest 127 = .ok (.iload_n 3, 1) := by decide +kernel
theorem dX18_digest_128 : decode cX18_digest 128 = .ok (.invokevirtual 438, 3) := by decide +kernel
theorem dX18_digest_131 : decode cX18_digest 131 = .ok (.i2l, 1) := by decide +kernel
theorem dX18_digest_132 : decode cX18_digest 132 = .ok (.invokevirtual 54, 3) := by decide +kernel
theorem dX18_digest_135 : decode cX18_digest 135 = .ok (.invokevirtual 63, 3) := by decide +kernel
theorem dX18_digest_138 : decode cX18_digest 138 = .ok (.iinc 3 1, 3) := by decide +kernel
theorem dX18_digest_141 : decode cX18_digest 141 = .ok (.goto (-35), 3) := by decide +kernel
theorem dX18_digest_144 : decode cX18_digest 144 = .ok (.aload_n 0, 1) := by decide +kernel
theorem dX18_digest_145 : decode cX18_digest 145 = .ok (.iload_n 2, 1) := by decide +kernel
theorem dX18_digest_146 : decode cX18_digest 146 = .ok (.iconst 0, 1) := by decide +kernel
theorem dX18_digest_147 : decode cX18_digest 147 = .ok (.invokevirtual 318, 3) := by decide +kernel
theorem dX18_digest_150 : decode cX18_digest 150 = .ok (.return_, 1) := by decide +kernel
theorem dX18_enter_0 : decode cX18_enter 0 = .ok (.aload_n 0, 1) := by decide +kernel
theorem dX18_enter_1 : decode cX18_enter 1 = .ok (.getfield 328, 3) := by decide +kernel
theorem dX18_enter_4 : decode cX18_enter 4 = .ok (.istore 4, 2) := by decide +kernel
theorem dX18_enter_6 : decode cX18_enter 6 = .ok (.aload_n 0, 1) := by decide +kernel
theorem dX18_enter_7 : decode cX18_enter 7 = .ok (.dup, 1) := by decide +kernel
theorem dX18_enter_8 : decode cX18_enter 8 = .ok (.getfield 328, 3) := by decide +kernel
theorem dX18_enter_11 : decode cX18_enter 11 = .ok (.iconst 1, 1) := by decide +kernel
theorem dX18_enter_12 : decode cX18_enter 12 = .ok (.iadd, 1) := by decide +kernel
theorem dX18_enter_13 : decode cX18_enter 13 = .ok (.putfield 328, 3) := by decide +kernel
theorem dX18_enter_16 : decode cX18_enter 16 = .ok (.aload_n 0, 1) := by decide +kernel
theorem dX18_enter_17 : decode cX18_enter 17 = .ok (.getfield 441, 3) := by decide +kernel
theorem dX18_enter_20 : decode cX18_enter 20 = .ok (.iload 4, 2) := by decide +kernel
theorem dX18_enter_22 : decode cX18_enter 22 = .ok (.iload_n 1, 1) := by decide +kernel
theorem dX18_enter_23 : decode cX18_enter 23 = .ok (.iastore, 1) := by decide +kernel
theorem dX18_enter_24 : decode cX18_enter 24 = .ok (.aload_n 0, 1) := by decide +kernel
theorem dX18_enter_25 : decode cX18_enter 25 = .ok (.getfield 444, 3) := by decide +kernel
theorem dX18_enter_28 : decode cX18_enter 28 = .ok (.iload 4, 2) := by decide +kernel
theorem dX18_enter_30 : decode cX18_enter 30 = .ok (.iload_n 2, 1) := by decide +kernel
theorem dX18_enter_31 : decode cX18_enter 31 = .ok (.iastore, 1) := by decide +kernel
theorem dX18_enter_32 : decode cX18_enter 32 = .ok (.aload_n 0, 1) := by decide +kernel
theorem dX18_enter_33 : decode cX18_enter 33 = .ok (.getfield 447, 3) := by decide +kernel
theorem dX18_enter_36 : decode cX18_enter 36 = .ok (.iload 4, 2) := by decide +kernel
theorem dX18_enter_38 : decode cX18_enter 38 = .ok (.iconst 0, 1) := by decide +kernel
theorem dX18_enter_39 : decode cX18_enter 39 = .ok (.iastore, 1) := by decide +kernel
theorem dX18_enter_40 : decode cX18_enter 40 = .ok (.iconst 0, 1) := by decide +kernel
theorem dX18_enter_41 : decode cX18_enter 41 = .ok (.istore 5, 2) := by decide +kernel
theorem dX18_enter_43 : decode cX18_enter 43 = .ok (.iload 5, 2) := by decide +kernel
theorem dX18_enter_45 : decode cX18_enter 45 = .ok (.bipush 40, 2) := by decide +kernel
theorem dX18_enter_47 : decode cX18_enter 47 = .ok (.if_icmp .ge 21, 3) := by decide +kernel
theorem dX18_enter_50 : decode cX18_enter 50 = .ok (.aload_n 0, 1) := by decide +kernel
theorem dX18_enter_51 : decode cX18_enter 51 = .ok (.getfield 347, 3) := by decide +kernel
theorem dX18_enter_54 : decode cX18_enter 54 = .ok (.aload_n 0, 1) := by decide +kernel
theorem dX18_enter_55 : decode cX18_enter 55 = .ok (.iload 5, 2) := by decide +kernel
theorem dX18_enter_57 : decode cX18_enter 57 = .ok (.invokevirtual 344, 3) := by decide +kernel
theorem dX18_enter_60 : decode cX18_enter 60 = .ok (.iconst (-1), 1) := by decide +kernel
theorem dX18_enter_61 : decode cX18_enter 61 = .ok (.iastore, 1) := by decide +kernel
theorem dX18_enter_62 : decode cX18_enter 62 = .ok (.iinc 5 1, 3) := by decide +kernel
theorem dX18_enter_65 : decode cX18_enter 65 = .ok (.goto (-22), 3) := by decide +kernel
theorem dX18_enter_68 : decode cX18_enter 68 = .ok (.iconst 0, 1) := by decide +kernel
theorem dX18_enter_69 : decode cX18_enter 69 = .ok (.istore 5, 2) := by decide +kernel
theorem dX18_enter_71 : decode cX18_enter 71 = .ok (.iload 5, 2) := by decide +kernel
theorem dX18_enter_73 : decode cX18_enter 73 = .ok (.iload_n 3, 1) := by decide +kernel
theorem dX18_enter_74 : decode cX18_enter 74 = .ok (.if_icmp .ge 59, 3) := by decide +kernel
theorem dX18_enter_77 : decode cX18_enter 77 = .ok (.aload_n 0, 1) := by decide +kernel
theorem dX18_enter_78 : decode cX18_enter 78 = .ok (.getfield 347, 3) := by decide +kernel
theorem dX18_enter_81 : decode cX18_enter 81 = .ok (.aload_n 0, 1) := by decide +kernel
theorem dX18_enter_82 : decode cX18_enter 82 = .ok (.iload 5, 2) := by decide +kernel
theorem dX18_enter_84 : decode cX18_enter 84 = .ok (.invokevirtual 344, 3) := by decide +kernel
theorem dX18_enter_87 : decode cX18_enter 87 = .ok (.aload_n 0, 1) := by decide +kernel
theorem dX18_enter_88 : decode cX18_enter 88 = .ok (.getfield 309, 3) := by decide +kernel
theorem dX18_enter_91 : decode cX18_enter 91 = .ok (.aload_n 0, 1) := by decide +kernel
theorem dX18_enter_92 : decode cX18_enter 92 = .ok (.getfield 312, 3) := by decide +kernel
theorem dX18_enter_95 : decode cX18_enter 95 = .ok (.iload_n 3, 1) := by decide +kernel
theorem dX18_enter_96 : decode cX18_enter 96 = .ok (.isub, 1) := by decide +kernel
theorem dX18_enter_97 : decode cX18_enter 97 = .ok (.iload 5, 2) := by decide +kernel
theorem dX18_enter_99 : decode cX18_enter 99 = .ok (.iadd, 1) := by decide +kernel
theorem dX18_enter_100 : decode cX18_enter 100 = .ok (.iaload, 1) := by decide +kernel
theorem dX18_enter_101 : decode cX18_enter 101 = .ok (.iastore, 1) := by decide +kernel
theorem dX18_enter_102 : decode cX18_enter 102 = .ok (.aload_n 0, 1) := by decide +kernel
theorem dX18_enter_103 : decode cX18_enter 103 = .ok (.getfield 350, 3) := by decide +kernel
theorem dX18_enter_106 : decode cX18_enter 106 = .ok (.aload_n 0, 1) := by decide +kernel
theorem dX18_enter_107 : decode cX18_enter 107 = .ok (.iload 5, 2) := by decide +kernel
theorem dX18_enter_109 : decode cX18_enter 109 = .ok (.invokevirtual 344, 3) := by decide +kernel
theorem dX18_enter_112 : decode cX18_enter 112 = .ok (.aload_n 0, 1) := by decide +kernel
theorem dX18_enter_113 : decode cX18_enter 113 = .ok (.getfield 315, 3) := by decide +kernel
theorem dX18_enter_116 : decode cX18_enter 116 = .ok (.aload_n 0, 1) := by decide +kernel
theorem dX18_enter_117 : decode cX18_enter 117 = .ok (.getfield 312, 3) := by decide +kernel
theorem dX18_enter_120 : decode cX18_enter 120 = .ok (.iload_n 3, 1) := by decide +kernel
theorem dX18_enter_121 : decode cX18_enter 121 = .ok (.isub, 1) := by decide +kernel
theorem dX18_enter_122 : decode cX18_enter 122 = .ok (.iload 5, 2) := by decide +kernel
theorem dX18_enter_124 : decode cX18_enter 124 = .ok (.iadd, 1) := by decide +kernel
theorem dX18_enter_125 : decode cX18_enter 125 = .ok (.baload, 1) := by decide +kernel
theorem dX18_enter_126 : decode cX18_enter 126 = .ok (.bastore, 1) := by decide +kernel
theorem dX18_enter_127 : decode cX18_enter 127 = .ok (.iinc 5 1, 3) := by decide +kernel
theorem dX18_enter_130 : decode cX18_enter 130 = .ok (.goto (-59), 3) := by decide +kernel
theorem dX18_enter_133 : decode cX18_enter 133 = .ok (.aload_n 0, 1) := by decide +kernel
theorem dX18_enter_134 : decode cX18_enter 134 = .ok (.dup, 1) := by decide +kernel
theorem dX18_enter_135 : decode cX18_enter 135 = .ok (.getfield 312, 3) := by decide +kernel
theorem dX18_enter_138 : decode cX18_enter 138 = .ok (.iload_n 3, 1) := by decide +kernel
theorem dX18_enter_139 : decode cX18_enter 139 = .ok (.isub, 1) := by decide +kernel
theorem dX18_enter_140 : decode cX18_enter 140 = .ok (.putfield 312, 3) := by decide +kernel
theorem dX18_enter_143 : decode cX18_enter 143 = .ok (.aload_n 0, 1) := by decide +kernel
theorem dX18_enter_144 : decode cX18_enter 144 = .ok (.getfield 325, 3) := by decide +kernel
theorem dX18_enter_147 : decode cX18_enter 147 = .ok (.iload 4, 2) := by decide +kernel
theorem dX18_enter_149 : decode cX18_enter 149 = .ok (.aload_n 0, 1) := by decide +kernel
theorem dX18_enter_150 : decode cX18_enter 150 = .ok (.getfield 312, 3) := by decide +kernel
theorem dX18_enter_153 : decode cX18_enter 153 = .ok (.iastore, 1) := by decide +kernel
theorem dX18_enter_154 : decode cX18_enter 154 = .ok (.return_, 1) := by decide +kernel
theorem dX18_enterCall_0 : decode cX18_enterCall 0 = .ok (.aload_n 0, 1) := by decide +kernel
theorem dX18_enterCall_1 : decode cX18_enterCall 1 = .ok (.getfield 441, 3) := by decide +kernel
theorem dX18_enterCall_4 : decode cX18_enterCall 4 = .ok (.aload_n 0, 1) := by decide +kernel
theorem dX18_enterCall_5 : decode cX18_enterCall 5 = .ok (.getfield 328, 3) := by decide +kernel
theorem dX18_enterCall_8 : decode cX18_enterCall 8 = .ok (.iconst 1, 1) := by decide +kernel
theorem dX18_enterCall_9 : decode cX18_enterCall 9 = .ok (.isub, 1) := by decide +kernel
theorem dX18_enterCall_10 : decode cX18_enterCall 10 = .ok (.iaload, 1) := by decide +kernel
theorem dX18_enterCall_11 : decode cX18_enterCall 11 = .ok (.istore_n 2, 1) := by decide +kernel
theorem dX18_enterCall_12 : decode cX18_enterCall 12 = .ok (.iload_n 1, 1) := by decide +kernel
theorem dX18_enterCall_13 : decode cX18_enterCall 13 = .ok (.istore_n 3, 1) := by decide +kernel
theorem dX18_enterCall_14 : decode cX18_enterCall 14 = .ok (.aload_n 0, 1) := by decide +kernel
theorem dX18_enterCall_15 : decode cX18_enterCall 15 = .ok (.getfield 369, 3) := by decide +kernel
theorem dX18_enterCall_18 : decode cX18_enterCall 18 = .ok (.iload_n 1, 1) := by decide +kernel
theorem dX18_enterCall_19 : decode cX18_enterCall 19 = .ok (.iconst 0, 1) := by decide +kernel
theorem dX18_enterCall_20 : decode cX18_enterCall 20 = .ok (.invokevirtual 133, 3) := by decide +kernel
theorem dX18_enterCall_23 : decode cX18_enterCall 23 = .ok (.istore 4, 2) := by decide +kernel
theorem dX18_enterCall_25 : decode cX18_enterCall 25 = .ok (.aload_n 0, 1) := by decide +kernel
theorem dX18_enterCall_26 : decode cX18_enterCall 26 = .ok (.getfield 312, 3) := by decide +kernel
theorem dX18_enterCall_29 : decode cX18_enterCall 29 = .ok (.aload_n 0, 1) := by decide +kernel
theorem dX18_enterCall_30 : decode cX18_enterCall 30 = .ok (.getfield 325, 3) := by decide +kernel
theorem dX18_enterCall_33 : decode cX18_enterCall 33 = .ok (.aload_n 0, 1) := by decide +kernel
theorem dX18_enterCall_34 : decode cX18_enterCall 34 = .ok (.getfield 328, 3) := by decide +kernel
theorem dX18_enterCall_37 : decode cX18_enterCall 37 = .ok (.iconst 1, 1) := by decide +kernel
theorem dX18_enterCall_38 : decode cX18_enterCall 38 = .ok (.isub, 1) := by decide +kernel
theorem dX18_enterCall_39 : decode cX18_enterCall 39 = .ok (.iaload, 1) := by decide +kernel
theorem dX18_enterCall_40 : decode cX18_enterCall 40 = .ok (.isub, 1) := by decide +kernel
theorem dX18_enterCall_41 : decode cX18_enterCall 41 = .ok (.iload 4, 2) := by decide +kernel
theorem dX18_enterCall_43 : decode cX18_enterCall 43 = .ok (.if_icmp .ge 7, 3) := by decide +kernel
theorem dX18_enterCall_46 : decode cX18_enterCall 46 = .ok (.aload_n 0, 1) := by decide +kernel
theorem dX18_enterCall_47 : decode cX18_enterCall 47 = .ok (.invokevirtual 331, 3) := by decide +kernel
theorem dX18_enterCall_50 : decode cX18_enterCall 50 = .ok (.iload_n 1, 1) := by decide +kernel
theorem dX18_enterCall_51 : decode cX18_enterCall 51 = .ok (.aload_n 0, 1) := by decide +kernel
theorem dX18_enterCall_52 : decode cX18_enterCall 52 = .ok (.getfield 369, 3) := by decide +kernel
theorem dX18_enterCall_55 : decode cX18_enterCall 55 = .ok (.getfield 112, 3) := by decide +kernel
theorem dX18_enterCall_58 : decode cX18_enterCall 58 = .ok (.if_icmp .lt 53, 3) := by decide +kernel
theorem dX18_enterCall_61 : decode cX18_enterCall 61 = .ok (.aload_n 0, 1) := by decide +kernel
theorem dX18_enterCall_62 : decode cX18_enterCall 62 = .ok (.getfield 369, 3) := by decide +kernel
theorem dX18_enterCall_65 : decode cX18_enterCall 65 = .ok (.iload_n 1, 1) := by decide +kernel
theorem dX18_enterCall_66 : decode cX18_enterCall 66 = .ok (.invokevirtual 172, 3) := by decide +kernel
theorem dX18_enterCall_69 : decode cX18_enterCall 69 = .ok (.istore_n 3, 1) := by decide +kernel
theorem dX18_enterCall_70 : decode cX18_enterCall 70 = .ok (.aload_n 0, 1) := by decide +kernel
theorem dX18_enterCall_71 : decode cX18_enterCall 71 = .ok (.getfield 369, 3) := by decide +kernel
theorem dX18_enterCall_74 : decode cX18_enterCall 74 = .ok (.iload_n 1, 1) := by decide +kernel
theorem dX18_enterCall_75 : decode cX18_enterCall 75 = .ok (.invokevirtual 169, 3) := by decide +kernel
theorem dX18_enterCall_78 : decode cX18_enterCall 78 = .ok (.istore 5, 2) := by decide +kernel
theorem dX18_enterCall_80 : decode cX18_enterCall 80 = .ok (.iload 5, 2) := by decide +kernel
theorem dX18_enterCall_82 : decode cX18_enterCall 82 = .ok (.ifCond .ne 9, 3) := by decide +kernel
theorem dX18_enterCall_85 : decode cX18_enterCall 85 = .ok (.aload_n 0, 1) := by decide +kernel
theorem dX18_enterCall_86 : decode cX18_enterCall 86 = .ok (.iload_n 3, 1) := by decide +kernel
theorem dX18_enterCall_87 : decode cX18_enterCall 87 = .ok (.invokevirtual 448, 3) := by decide +kernel
theorem dX18_enterCall_90 : decode cX18_enterCall 90 = .ok (.return_, 1) := by decide +kernel
theorem dX18_enterCall_91 : decode cX18_enterCall 91 = .ok (.aload_n 0, 1) := by decide +kernel
theorem dX18_enterCall_92 : decode cX18_enterCall 92 = .ok (.iconst 2, 1) := by decide +kernel
theorem dX18_enterCall_93 : decode cX18_enterCall 93 = .ok (.iload 5, 2) := by decide +kernel
theorem dX18_enterCall_95 : decode cX18_enterCall 95 = .ok (.i2l, 1) := by decide +kernel
theorem dX18_enterCall_96 : decode cX18_enterCall 96 = .ok (.iconst 0, 1) := by decide +kernel
theorem dX18_enterCall_97 : decode cX18_enterCall 97 = .ok (.invokevirtual 414, 3) := by decide +kernel
theorem dX18_enterCall_100 : decode cX18_enterCall 100 = .ok (.ifCond .ge 4, 3) := by decide +kernel
theorem dX18_enterCall_103 : decode cX18_enterCall 103 = .ok (.return_, 1) := by decide +kernel
theorem dX18_enterCall_104 : decode cX18_enterCall 104 = .ok (.aload_n 0, 1) := by decide +kernel
theorem dX18_enterCall_105 : decode cX18_enterCall 105 = .ok (.iload 5, 2) := by decide +kernel
theorem dX18_enterCall_107 : decode cX18_enterCall 107 = .ok (.invokevirtual 106, 3) := by decide +kernel
theorem dX18_enterCall_110 : decode cX18_enterCall 110 = .ok (.istore_n 2, 1) := by decide +kernel
theorem dX18_enterCall_111 : decode cX18_enterCall 111 = .ok (.aload_n 0, 1) := by decide +kernel
theorem dX18_enterCall_112 : decode cX18_enterCall 112 = .ok (.getfield 328, 3) := by decide +kernel
theorem dX18_enterCall_115 : decode cX18_enterCall 115 = .ok (.bipush 32, 2) := by decide +kernel
theorem dX18_enterCall_117 : decode cX18_enterCall 117 = .ok (.if_icmp .ne 11, 3) := by decide +kernel
theorem dX18_enterCall_120 : decode cX18_enterCall 120 = .ok (.aload_n 0, 1) := by decide +kernel
theorem dX18_enterCall_121 : decode cX18_enterCall 121 = .ok (.iconst 2, 1) := by decide +kernel
theorem dX18_enterCall_122 : decode cX18_enterCall 122 = .ok (.ldc2_w 283, 3) := by decide +kernel
theorem dX18_enterCall_125 : decode cX18_enterCall 125 = .ok (.invokevirtual 267, 3) := by decide +kernel
theorem dX18_enterCall_128 : decode cX18_enterCall 128 = .ok (.aload_n 0, 1) := by decide +kernel
theorem dX18_enterCall_129 : decode cX18_enterCall 129 = .ok (.iconst 5, 1) := by decide +kernel
theorem dX18_enterCall_130 : decode cX18_enterCall 130 = .ok (.invokevirtual 353, 3) := by decide +kernel
theorem dX18_enterCall_133 : decode cX18_enterCall 133 = .ok (.ifCond .eq 11, 3) := by decide +kernel
theorem dX18_enterCall_136 : decode cX18_enterCall 136 = .ok (.aload_n 0, 1) := by decide +kernel
theorem dX18_enterCall_137 : decode cX18_enterCall 137 = .ok (.iload_n 2, 1) := by decide +kernel
theorem dX18_enterCall_138 : decode cX18_enterCall 138 = .ok (.iload_n 3, 1) := by decide +kernel
theorem dX18_enterCall_139 : decode cX18_enterCall 139 = .ok (.iload 4, 2) := by decide +kernel
theorem dX18_enterCall_141 : decode cX18_enterCall 141 = .ok (.invokevirtual 451, 3) := by decide +kernel
theorem dX18_enterCall_144 : decode cX18_enterCall 144 = .ok (.return_, 1) := by decide +kernel
theorem dX18_makeCoin_0 : decode cX18_makeCoin 0 = .ok (.aload_n 0, 1) := by decide +kernel
theorem dX18_makeCoin_1 : decode cX18_makeCoin 1 = .ok (.getfield 40, 3) := by decide +kernel
theorem dX18_makeCoin_4 : decode cX18_makeCoin 4 = .ok (.bipush 6, 2) := by decide +kernel
theorem dX18_makeCoin_6 : decode cX18_makeCoin 6 = .ok (.lconst 0, 1) := by decide +kernel
theorem dX18_makeCoin_7 : decode cX18_makeCoin 7 = .ok (.lconst 0, 1) := by decide +kernel
theorem dX18_makeCoin_8 : decode cX18_makeCoin 8 = .ok (.invokevirtual 54, 3) := by decide +kernel
theorem dX18_makeCoin_11 : decode cX18_makeCoin 11 = .ok (.istore_n 3, 1) := by decide +kernel
theorem dX18_makeCoin_12 : decode cX18_makeCoin 12 = .ok (.aload_n 0, 1) := by decide +kernel
theorem dX18_makeCoin_13 : decode cX18_makeCoin 13 = .ok (.getfield 40, 3) := by decide +kernel
theorem dX18_makeCoin_16 : decode cX18_makeCoin 16 = .ok (.iload_n 3, 1) := by decide +kernel
theorem dX18_makeCoin_17 : decode cX18_makeCoin 17 = .ok (.aload_n 0, 1) := by decide +kernel
theorem dX18_makeCoin_18 : decode cX18_makeCoin 18 = .ok (.getfield 40, 3) := by decide +kernel
theorem dX18_makeCoin_21 : decode cX18_makeCoin 21 = .ok (.iconst 3, 1) := by decide +kernel
theorem dX18_makeCoin_22 : decode cX18_makeCoin 22 = .ok (.lconst 0, 1) := by decide +kernel
theorem dX18_makeCoin_23 : decode cX18_makeCoin 23 = .ok (.lload_n 1, 1) := by decide +kernel
theorem dX18_makeCoin_24 : decode cX18_makeCoin 24 = .ok (.invokevirtual 54, 3) := by decide +kernel
theorem dX18_makeCoin_27 : decode cX18_makeCoin 27 = .ok (.invokevirtual 63, 3) := by decide +kernel
theorem dX18_makeCoin_30 : decode cX18_makeCoin 30 = .ok (.aload_n 0, 1) := by decide +kernel
theorem dX18_makeCoin_31 : decode cX18_makeCoin 31 = .ok (.iload_n 3, 1) := by decide +kernel
theorem dX18_makeCoin_32 : decode cX18_makeCoin 32 = .ok (.iconst 0, 1) := by decide +kernel
theorem dX18_makeCoin_33 : decode cX18_makeCoin 33 = .ok (.invokevirtual 318, 3) := by decide +kernel
theorem dX18_makeCoin_36 : decode cX18_makeCoin 36 = .ok (.return_, 1) := by decide +kernel
theorem dX18_isBelow_0 : decode cX18_isBelow 0 = .ok (.lload_n 0, 1) := by decide +kernel
theorem dX18_isBelow_1 : decode cX18_isBelow 1 = .ok (.ldc2_w 457, 3) := by decide +kernel
theorem dX18_isBelow_4 : decode cX18_isBelow 4 = .ok (.ladd, 1) := by decide +kernel
theorem dX18_isBelow_5 : decode cX18_isBelow 5 = .ok (.lload_n 2, 1) := by decide +kernel
theorem dX18_isBelow_6 : decode cX18_isBelow 6 = .ok (.ldc2_w 457, 3) := by decide +kernel
theorem dX18_isBelow_9 : decode cX18_isBelow 9 = .ok (.ladd, 1) := by decide +kernel
theorem dX18_isBelow_10 : decode cX18_isBelow 10 = .ok (.lcmp, 1) := by decide +kernel
theorem dX18_isBelow_11 : decode cX18_isBelow 11 = .ok (.ifCond .ge 7, 3) := by decide +kernel
theorem dX18_isBelow_14 : decode cX18_isBelow 14 = .ok (.iconst 1, 1) := by decide +kernel
theorem dX18_isBelow_15 : decode cX18_isBelow 15 = .ok (.goto 4, 3) := by decide +kernel
theorem dX18_isBelow_18 : decode cX18_isBelow 18 = .ok (.iconst 0, 1) := by decide +kernel
theorem dX18_isBelow_19 : decode cX18_isBelow 19 = .ok (.ireturn, 1) := by decide +kernel
theorem dX18_coin_0 : decode cX18_coin 0 = .ok (.iload_n 1, 1) := by decide +kernel
theorem dX18_coin_1 : decode cX18_coin 1 = .ok (.ifCond .ne 55, 3) := by decide +kernel
theorem dX18_coin_4 : decode cX18_coin 4 = .ok (.aload_n 0, 1) := by decide +kernel
theorem dX18_coin_5 : decode cX18_coin 5 = .ok (.invokevirtual 421, 3) := by decide +kernel
theorem dX18_coin_8 : decode cX18_coin 8 = .ok (.lstore_n 2, 1) := by decide +kernel
theorem dX18_coin_9 : decode cX18_coin 9 = .ok (.aload_n 0, 1) := by decide +kernel
theorem dX18_coin_10 : decode cX18_coin 10 = .ok (.iconst 5, 1) := by decide +kernel
theorem dX18_coin_11 : decode cX18_coin 11 = .ok (.invokevirtual 353, 3) := by decide +kernel
theorem dX18_coin_14 : decode cX18_coin 14 = .ok (.ifCond .ne 4, 3) := by decide +kernel
theorem dX18_coin_17 : decode cX18_coin 17 = .ok (.return_, 1) := by decide +kernel
theorem dX18_coin_18 : decode cX18_coin 18 = .ok (.aload_n 0, 1) := by decide +kernel
theorem dX18_coin_19 : decode cX18_coin 19 = .ok (.getfield 300, 3) := by decide +kernel
theorem dX18_coin_22 : decode cX18_coin 22 = .ok (.iconst 0, 1) := by decide +kernel
theorem dX18_coin_23 : decode cX18_coin 23 = .ok (.laload, 1) := by decide +kernel
theorem dX18_coin_24 : decode cX18_coin 24 = .ok (.lload_n 2, 1) := by decide +kernel
theorem dX18_coin_25 : decode cX18_coin 25 = .ok (.invokestatic 459, 3) := by decide +kernel
theorem dX18_coin_28 : decode cX18_coin 28 = .ok (.ifCond .eq 10, 3) := by decide +kernel
theorem dX18_coin_31 : decode cX18_coin 31 = .ok (.aload_n 0, 1) := by decide +kernel
theorem dX18_coin_32 : decode cX18_coin 32 = .ok (.iconst 1, 1) := by decide +kernel
theorem dX18_coin_33 : decode cX18_coin 33 = .ok (.lconst 1, 1) := by decide +kernel
theorem dX18_coin_34 : decode cX18_coin 34 = .ok (.invokevirtual 267, 3) := by decide +kernel
theorem dX18_coin_37 : decode cX18_coin 37 = .ok (.return_, 1) := by decide +kernel
theorem dX18_coin_38 : decode cX18_coin 38 = .ok (.aload_n 0, 1) := by decide +kernel
theorem dX18_coin_39 : decode cX18_coin 39 = .ok (.getfield 300, 3) := by decide +kernel
theorem dX18_coin_42 : decode cX18_coin 42 = .ok (.iconst 0, 1) := by decide +kernel
theorem dX18_coin_43 : decode cX18_coin 43 = .ok (.dup2, 1) := by decide +kernel
theorem dX18_coin_44 : decode cX18_coin 44 = .ok (.laload, 1) := by decide +kernel
theorem dX18_coin_45 : decode cX18_coin 45 = .ok (.lload_n 2, 1) := by decide +kernel
theorem dX18_coin_46 : decode cX18_coin 46 = .ok (.lsub, 1) := by decide +kernel
theorem dX18_coin_47 : decode cX18_coin 47 = .ok (.lastore, 1) := by decide +kernel
theorem dX18_coin_48 : decode cX18_coin 48 = .ok (.aload_n 0, 1) := by decide +kernel
theorem dX18_coin_49 : decode cX18_coin 49 = .ok (.lload_n 2, 1) := by decide +kernel
theorem dX18_coin_50 : decode cX18_coin 50 = .ok (.invokevirtual 463, 3) := by decide +kernel
theorem dX18_coin_53 : decode cX18_coin 53 = .ok (.goto 353, 3) := by decide +kernel
theorem dX18_coin_56 : decode cX18_coin 56 = .ok (.iload_n 1, 1) := by decide +kernel
theorem dX18_coin_57 : decode cX18_coin 57 = .ok (.iconst 1, 1) := by decide +kernel
theorem dX18_coin_58 : decode cX18_coin 58 = .ok (.if_icmp .ne 96, 3) := by decide +kernel
theorem dX18_coin_61 : decode cX18_coin 61 = .ok (.aload_n 0, 1) := by decide +kernel
theorem dX18_coin_62 : decode cX18_coin 62 = .ok (.bipush 6, 2) := by decide +kernel
theorem dX18_coin_64 : decode cX18_coin 64 = .ok (.invokevirtual 341, 3) := by decide +kernel
theorem dX18_coin_67 : decode cX18_coin 67 = .ok (.istore_n 2, 1) := by decide +kernel
theorem dX18_coin_68 : decode cX18_coin 68 = .ok (.aload_n 0, 1) := by decide +kernel
theorem dX18_coin_69 : decode cX18_coin 69 = .ok (.iconst 5, 1) := by decide +kernel
theorem dX18_coin_70 : decode cX18_coin 70 = .ok (.invokevirtual 341, 3) := by decide +kernel
theorem dX18_coin_73 : decode cX18_coin 73 = .ok (.istore_n 3, 1) := by decide +kernel
theorem dX18_coin_74 : decode cX18_coin 74 = .ok (.aload_n 0, 1) := by decide +kernel
theorem dX18_coin_75 : decode cX18_coin 75 = .ok (.invokevirtual 257, 3) := by decide +kernel
theorem dX18_coin_78 : decode cX18_coin 78 = .ok (.ifCond .eq 21, 3) := by decide +kernel
theorem dX18_coin_81 : decode cX18_coin 81 = .ok (.aload_n 0, 1) := by decide +kernel
theorem dX18_coin_82 : decode cX18_coin 82 = .ok (.iconst 1, 1) := by decide +kernel
theorem dX18_coin_83 : decode cX18_coin 83 = .ok (.aload_n 0, 1) := by decide +kernel
theorem dX18_coin_84 : decode cX18_coin 84 = .ok (.getfield 40, 3) := by decide +kernel
theorem dX18_coin_87 : decode cX18_coin 87 = .ok (.getfield 77, 3) := by decide +kernel
theorem dX18_coin_90 : decode cX18_coin 90 = .ok (.iload_n 3, 1) := by decide +kernel
theorem dX18_coin_91 : decode cX18_coin 91 = .ok (.laload, 1) := by decide +kernel
theorem dX18_coin_92 : decode cX18_coin 92 = .ok (.iconst 0, 1) := by decide +kernel
theorem dX18_coin_93 : decode cX18_coin 93 = .ok (.invokevirtual 414, 3) := by decide +kernel
theorem dX18_coin_96 : decode cX18_coin 96 = .ok (.goto 4, 3) := by decide +kernel
theorem dX18_coin_99 : decode cX18_coin 99 = .ok (.iconst (-1), 1) := by decide +kernel
theorem dX18_coin_100 : decode cX18_coin 100 = .ok (.istore 4, 2) := by decide +kernel
theorem dX18_coin_102 : decode cX18_coin 102 = .ok (.iload 4, 2) := by decide +kernel
theorem dX18_coin_104 : decode cX18_coin 104 = .ok (.ifCond .lt 11, 3) := by decide +kernel
theorem dX18_coin_107 : decode cX18_coin 107 = .ok (.aload_n 0, 1) := by decide +kernel
theorem dX18_coin_108 : decode cX18_coin 108 = .ok (.iconst 5, 1) := by decide +kernel
theorem dX18_coin_109 : decode cX18_coin 109 = .ok (.invokevirtual 353, 3) := by decide +kernel
theorem dX18_coin_112 : decode cX18_coin 112 = .ok (.ifCond .ne 4, 3) := by decide +kernel
theorem dX18_coin_115 : decode cX18_coin 115 = .ok (.return_, 1) := by decide +kernel
theorem dX18_coin_116 : decode cX18_coin 116 = .ok (.aload_n 0, 1) := by decide +kernel
theorem dX18_coin_117 : decode cX18_coin 117 = .ok (.getfield 300, 3) := by decide +kernel
theorem dX18_coin_120 : decode cX18_coin 120 = .ok (.iload 4, 2) := by decide +kernel
theorem dX18_coin_122 : decode cX18_coin 122 = .ok (.dup2, 1) := by decide +kernel
theorem dX18_coin_123 : decode cX18_coin 123 = .ok (.laload, 1) := by decide +kernel
theorem dX18_coin_124 : decode cX18_coin 124 = .ok (.aload_n 0, 1) := by decide +kernel
theorem dX18_coin_125 : decode cX18_coin 125 = .ok (.getfield 40, 3) := by decide +kernel
theorem dX18_coin_128 : decode cX18_coin 128 = .ok (.getfield 77, 3) := by decide +kernel
theorem dX18_coin_131 : decode cX18_coin 131 = .ok (.aload_n 0, 1) := by decide +kernel
theorem dX18_coin_132 : decode cX18_coin 132 = .ok (.getfield 40, 3) := by decide +kernel
theorem dX18_coin_135 : decode cX18_coin 135 = .ok (.getfield 84, 3) := by decide +kernel
theorem dX18_coin_138 : decode cX18_coin 138 = .ok (.iload_n 2, 1) := by decide +kernel
theorem dX18_coin_139 : decode cX18_coin 139 = .ok (.iaload, 1) := by decide +kernel
theorem dX18_coin_140 : decode cX18_coin 140 = .ok (.laload, 1) := by decide +kernel
theorem dX18_coin_141 : decode cX18_coin 141 = .ok (.ladd, 1) := by decide +kernel
theorem dX18_coin_142 : decode cX18_coin 142 = .ok (.lastore, 1) := by decide +kernel
theorem dX18_coin_143 : decode cX18_coin 143 = .ok (.aload_n 0, 1) := by decide +kernel
theorem dX18_coin_144 : decode cX18_coin 144 = .ok (.getfield 296, 3) := by decide +kernel
theorem dX18_coin_147 : decode cX18_coin 147 = .ok (.iload 4, 2) := by decide +kernel
theorem dX18_coin_149 : decode cX18_coin 149 = .ok (.iconst 1, 1) := by decide +kernel
theorem dX18_coin_150 : decode cX18_coin 150 = .ok (.bastore, 1) := by decide +kernel
theorem dX18_coin_151 : decode cX18_coin 151 = .ok (.goto 255, 3) := by decide +kernel
theorem dX18_coin_154 : decode cX18_coin 154 = .ok (.iload_n 1, 1) := by decide +kernel
theorem dX18_coin_155 : decode cX18_coin 155 = .ok (.iconst 2, 1) := by decide +kernel
theorem dX18_coin_156 : decode cX18_coin 156 = .ok (.if_icmp .ne 43, 3) := by decide +kernel
theorem dX18_coin_159 : decode cX18_coin 159 = .ok (.aload_n 0, 1) := by decide +kernel
theorem dX18_coin_160 : decode cX18_coin 160 = .ok (.iconst 1, 1) := by decide +kernel
theorem dX18_coin_161 : decode cX18_coin 161 = .ok (.invokevirtual 337, 3) := by decide +kernel
theorem dX18_coin_164 : decode cX18_coin 164 = .ok (.istore_n 2, 1) := by decide +kernel
theorem dX18_coin_165 : decode cX18_coin 165 = .ok (.aload_n 0, 1) := by decide +kernel
theorem dX18_coin_166 : decode cX18_coin 166 = .ok (.iconst 5, 1) := by decide +kernel
theorem dX18_coin_167 : decode cX18_coin 167 = .ok (.invokevirtual 353, 3) := by decide +kernel
theorem dX18_coin_170 : decode cX18_coin 170 = .ok (.ifCond .eq 26, 3) := by decide +kernel
theorem dX18_coin_173 : decode cX18_coin 173 = .ok (.aload_n 0, 1) := by decide +kernel
theorem dX18_coin_174 : decode cX18_coin 174 = .ok (.iconst 3, 1) := by decide +kernel
theorem dX18_coin_175 : decode cX18_coin 175 = .ok (.lconst 0, 1) := by decide +kernel
theorem dX18_coin_176 : decode cX18_coin 176 = .ok (.aload_n 0, 1) := by decide +kernel
theorem dX18_coin_177 : decode cX18_coin 177 = .ok (.getfield 40, 3) := by decide +kernel
theorem dX18_coin_180 : decode cX18_coin 180 = .ok (.getfield 77, 3) := by decide +kernel
theorem dX18_coin_183 : decode cX18_coin 183 = .ok (.aload_n 0, 1) := by decide +kernel
theorem dX18_coin_184 : decode cX18_coin 184 = .ok (.getfield 40, 3) := by decide +kernel
theorem dX18_coin_187 : decode cX18_coin 187 = .ok (.getfield 84, 3) := by decide +kernel
theorem dX18_coin_190 : decode cX18_coin 190 = .ok (.iload_n 2, 1) := by decide +kernel
theorem dX18_coin_191 : decode cX18_coin 191 = .ok (.iaload, 1) := by decide +kernel
theorem dX18_coin_192 : decode cX18_coin 192 = .ok (.laload, 1) := by decide +kernel
theorem dX18_coin_193 : decode cX18_coin 193 = .ok (.invokevirtual 392, 3) := by decide +kernel
theorem dX18_coin_196 : decode cX18_coin 196 = .ok (.goto 210, 3) := by decide +kernel
theorem dX18_coin_199 : decode cX18_coin 199 = .ok (.iload_n 1, 1) := by decide +kernel
theorem dX18_coin_200 : decode cX18_coin 200 = .ok (.iconst 3, 1) := by decide +kernel
theorem dX18_coin_201 : decode cX18_coin 201 = .ok (.if_icmp .ne 67, 3) := by decide +kernel
theorem dX18_coin_204 : decode cX18_coin 204 = .ok (.aload_n 0, 1) := by decide +kernel
theorem dX18_coin_205 : decode cX18_coin 205 = .ok (.bipush 6, 2) := by decide +kernel
theorem dX18_coin_207 : decode cX18_coin 207 = .ok (.invokevirtual 341, 3) := by decide +kernel
theorem dX18_coin_210 : decode cX18_coin 210 = .ok (.istore_n 2, 1) := by decide +kernel
theorem dX18_coin_211 : decode cX18_coin 211 = .ok (.aload_n 0, 1) := by decide +kernel
theorem dX18_coin_212 : decode cX18_coin 212 = .ok (.bipush 6, 2) := by decide +kernel
theorem dX18_coin_214 : decode cX18_coin 214 = .ok (.invokevirtual 341, 3) := by decide +kernel
theorem dX18_coin_217 : decode cX18_coin 217 = .ok (.istore_n 3, 1) := by decide +kernel
theorem dX18_coin_218 : decode cX18_coin 218 = .ok (.aload_n 0, 1) := by decide +kernel
theorem dX18_coin_219 : decode cX18_coin 219 = .ok (.iconst 5, 1) := by decide +kernel
theorem dX18_coin_220 : decode cX18_coin 220 = .ok (.invokevirtual 353, 3) := by decide +kernel
theorem dX18_coin_223 : decode cX18_coin 223 = .ok (.ifCond .eq 42, 3) := by decide +kernel
theorem dX18_coin_226 : decode cX18_coin 226 = .ok (.aload_n 0, 1) := by decide +kernel
theorem dX18_coin_227 : decode cX18_coin 227 = .ok (.aload_n 0, 1) := by decide +kernel
theorem dX18_coin_228 : decode cX18_coin 228 = .ok (.getfield 40, 3) := by decide +kernel
theorem dX18_coin_231 : decode cX18_coin 231 = .ok (.getfield 77, 3) := by decide +kernel
theorem dX18_coin_234 : decode cX18_coin 234 = .ok (.aload_n 0, 1) := by decide +kernel
theorem dX18_coin_235 : decode cX18_coin 235 = .ok (.getfield 40, 3) := by decide +kernel
theorem dX18_coin_238 : decode cX18_coin 238 = .ok (.getfield 84, 3) := by decide +kernel
theorem dX18_coin_241 : decode cX18_coin 241 = .ok (.iload_n 3, 1) := by decide +kernel
theorem dX18_coin_242 : decode cX18_coin 242 = .ok (.iaload, 1) := by decide +kernel
theorem dX18_coin_243 : decode cX18_coin 243 = .ok (.laload, 1) := by decide +kernel
theorem dX18_coin_244 : decode cX18_coin 244 = .ok (.aload_n 0, 1) := by decide +kernel
theorem dX18_coin_245 : decode cX18_coin 245 = .ok (.getfield 40, 3) := by decide +kernel
theorem dX18_coin_248 : decode cX18_coin 248 = .ok (.getfield 77, 3) := by decide +kernel
theorem dX18_coin_251 : decode cX18_coin 251 = .ok (.aload_n 0, 1) := by decide +kernel
theorem dX18_coin_252 : decode cX18_coin 252 = .ok (.getfield 40, 3) := by decide +kernel
theorem dX18_coin_255 : decode cX18_coin 255 = .ok (.getfield 84, 3) := by decide +kernel
theorem dX18_coin_258 : decode cX18_coin 258 = .ok (.iload_n 2, 1) := by decide +kernel
theorem dX18_coin_259 : decode cX18_coin 259 = .ok (.iaload, 1) := by decide +kernel
theorem dX18_coin_260 : decode cX18_coin 260 = .ok (.laload, 1) := by decide +kernel
theorem dX18_coin_261 : decode cX18_coin 261 = .ok (.ladd, 1) := by decide +kernel
theorem dX18_coin_262 : decode cX18_coin 262 = .ok (.invokevirtual 463, 3) := by decide +kernel
theorem dX18_coin_265 : decode cX18_coin 265 = .ok (.goto 141, 3) := by decide +kernel
theorem dX18_coin_268 : decode cX18_coin 268 = .ok (.iload_n 1, 1) := by decide +kernel
theorem dX18_coin_269 : decode cX18_coin 269 = .ok (.iconst 4, 1) := by decide +kernel
theorem dX18_coin_270 : decode cX18_coin 270 = .ok (.if_icmp .ne 79, 3) := by decide +kernel
theorem dX18_coin_273 : decode cX18_coin 273 = .ok (.aload_n 0, 1) := by decide +kernel
theorem dX18_coin_274 : decode cX18_coin 274 = .ok (.invokevirtual 421, 3) := by decide +kernel
theorem dX18_coin_277 : decode cX18_coin 277 = .ok (.lstore_n 2, 1) := by decide +kernel
theorem dX18_coin_278 : decode cX18_coin 278 = .ok (.aload_n 0, 1) := by decide +kernel
theorem dX18_coin_279 : decode cX18_coin 279 = .ok (.bipush 6, 2) := by decide +kernel
theorem dX18_coin_281 : decode cX18_coin 281 = .ok (.invokevirtual 341, 3) := by decide +kernel
theorem dX18_coin_284 : decode cX18_coin 284 = .ok (.istore 4, 2) := by decide +kernel
theorem dX18_coin_286 : decode cX18_coin 286 = .ok (.aload_n 0, 1) := by decide +kernel
theorem dX18_coin_287 : decode cX18_coin 287 = .ok (.iconst 5, 1) := by decide +kernel
theorem dX18_coin_288 : decode cX18_coin 288 = .ok (.invokevirtual 353, 3) := by decide +kernel
theorem dX18_coin_291 : decode cX18_coin 291 = .ok (.ifCond .ne 4, 3) := by decide +kernel
theorem dX18_coin_294 : decode cX18_coin 294 = .ok (.return_, 1) := by decide +kernel
theorem dX18_coin_295 : decode cX18_coin 295 = .ok (.aload_n 0, 1) := by decide +kernel
theorem dX18_coin_296 : decode cX18_coin 296 = .ok (.getfield 40, 3) := by decide +kernel
theorem dX18_coin_299 : decode cX18_coin 299 = .ok (.getfield 77, 3) := by decide +kernel
theorem dX18_coin_302 : decode cX18_coin 302 = .ok (.aload_n 0, 1) := by decide +kernel
theorem dX18_coin_303 : decode cX18_coin 303 = .ok (.getfield 40, 3) := by decide +kernel
theorem dX18_coin_306 : decode cX18_coin 306 = .ok (.getfield 84, 3) := by decide +kernel
theorem dX18_coin_309 : decode cX18_coin 309 = .ok (.iload 4, 2) := by decide +kernel
theorem dX18_coin_311 : decode cX18_coin 311 = .ok (.iaload, 1) := by decide +kernel
theorem dX18_coin_312 : decode cX18_coin 312 = .ok (.laload, 1) := by decide +kernel
theorem dX18_coin_313 : decode cX18_coin 313 = .ok (.lstore 5, 2) := by decide +kernel
theorem dX18_coin_315 : decode cX18_coin 315 = .ok (.lload 5, 2) := by decide +kernel
theorem dX18_coin_317 : decode cX18_coin 317 = .ok (.lload_n 2, 1) := by decide +kernel
theorem dX18_coin_318 : decode cX18_coin 318 = .ok (.invokestatic 459, 3) := by decide +kernel
theorem dX18_coin_321 : decode cX18_coin 321 = .ok (.ifCond .eq 12, 3) := by decide +kernel
theorem dX18_coin_324 : decode cX18_coin 324 = .ok (.aload_n 0, 1) := by decide +kernel
theorem dX18_coin_325 : decode cX18_coin 325 = .ok (.iconst 1, 1) := by decide +kernel
theorem dX18_coin_326 : decode cX18_coin 326 = .ok (.ldc2_w 425, 3) := by decide +kernel
theorem dX18_coin_329 : decode cX18_coin 329 = .ok (.invokevirtual 267, 3) := by decide +kernel
theorem dX18_coin_332 : decode cX18_coin 332 = .ok (.return_, 1) := by decide +kernel
theorem dX18_coin_333 : decode cX18_coin 333 = .ok (.aload_n 0, 1) := by decide +kernel
theorem dX18_coin_334 : decode cX18_coin 334 = .ok (.lload 5, 2) := by decide +kernel
theorem dX18_coin_336 : decode cX18_coin 336 = .ok (.lload_n 2, 1) := by decide +kernel
theorem dX18_coin_337 : decode cX18_coin 337 = .ok (.lsub, 1) := by decide +kernel
theorem dX18_coin_338 : decode cX18_coin 338 = .ok (.invokevirtual 463, 3) := by decide +kernel
theorem dX18_coin_341 : decode cX18_coin 341 = .ok (.aload_n 0, 1) := by decide +kernel
theorem dX18_coin_342 : decode cX18_coin 342 = .ok (.lload_n 2, 1) := by decide +kernel
theorem dX18_coin_343 : decode cX18_coin 343 = .ok (.invokevirtual 463, 3) := by decide +kernel
theorem dX18_coin_346 : decode cX18_coin 346 = .ok (.goto 60, 3) := by decide +kernel
theorem dX18_coin_349 : decode cX18_coin 349 = .ok (.aload_n 0, 1) := by decide +kernel
theorem dX18_coin_350 : decode cX18_coin 350 = .ok (.iconst 5, 1) := by decide +kernel
theorem dX18_coin_351 : decode cX18_coin 351 = .ok (.invokevirtual 341, 3) := by decide +kernel
theorem dX18_coin_354 : decode cX18_coin 354 = .ok (.istore_n 2, 1) := by decide +kernel
theorem dX18_coin_355 : decode cX18_coin 355 = .ok (.aload_n 0, 1) := by decide +kernel
theorem dX18_coin_356 : decode cX18_coin 356 = .ok (.invokevirtual 257, 3) := by decide +kernel
theorem dX18_coin_359 : decode cX18_coin 359 = .ok (.ifCond .eq 21, 3) := by decide +kernel
theorem dX18_coin_362 : decode cX18_coin 362 = .ok (.aload_n 0, 1) := by decide +kernel
theorem dX18_coin_363 : decode cX18_coin 363 = .ok (.iconst 1, 1) := by decide +kernel
theorem dX18_coin_364 : decode cX18_coin 364 = .ok (.aload_n 0, 1) := by decide +kernel
theorem dX18_coin_365 : decode cX18_coin 365 = .ok (.getfield 40, 3) := by decide +kernel
theorem dX18_coin_368 : decode cX18_coin 368 = .ok (.getfield 77, 3) := by decide +kernel
theorem dX18_coin_371 : decode cX18_coin 371 = .ok (.iload_n 2, 1) := by decide +kernel
theorem dX18_coin_372 : decode cX18_coin 372 = .ok (.laload, 1) := by decide +kernel
theorem dX18_coin_373 : decode cX18_coin 373 = .ok (.iconst 0, 1) := by decide +kernel
theorem dX18_coin_374 : decode cX18_coin 374 = .ok (.invokevirtual 414, 3) := by decide +kernel
theorem dX18_coin_377 : decode cX18_coin 377 = .ok (.goto 4, 3) := by decide +kernel
theorem dX18_coin_380 : decode cX18_coin 380 = .ok (.iconst (-1), 1) := by decide +kernel
theorem dX18_coin_381 : decode cX18_coin 381 = .ok (.istore_n 3, 1) := by decide +kernel
theorem dX18_coin_382 : decode cX18_coin 382 = .ok (.iload_n 3, 1) := by decide +kernel
theorem dX18_coin_383 : decode cX18_coin 383 = .ok (.ifCond .lt 23, 3) := by decide +kernel
theorem dX18_coin_386 : decode cX18_coin 386 = .ok (.aload_n 0, 1) := by decide +kernel
theorem dX18_coin_387 : decode cX18_coin 387 = .ok (.iconst 5, 1) := by decide +kernel
theorem dX18_coin_388 : decode cX18_coin 388 = .ok (.invokevirtual 353, 3) := by decide +kernel
theorem dX18_coin_391 : decode cX18_coin 391 = .ok (.ifCond .eq 15, 3) := by decide +kernel
theorem dX18_coin_394 : decode cX18_coin 394 = .ok (.aload_n 0, 1) := by decide +kernel
theorem dX18_coin_395 : decode cX18_coin 395 = .ok (.iconst 3, 1) := by decide +kernel
theorem dX18_coin_396 : decode cX18_coin 396 = .ok (.lconst 0, 1) := by decide +kernel
theorem dX18_coin_397 : decode cX18_coin 397 = .ok (.aload_n 0, 1) := by decide +kernel
theorem dX18_coin_398 : decode cX18_coin 398 = .ok (.getfield 300, 3) := by decide +kernel
theorem dX18_coin_401 : decode cX18_coin 401 = .ok (.iload_n 3, 1) := by decide +kernel
theorem dX18_coin_402 : decode cX18_coin 402 = .ok (.laload, 1) := by decide +kernel
theorem dX18_coin_403 : decode cX18_coin 403 = .ok (.invokevirtual 392, 3) := by decide +kernel
theorem dX18_coin_406 : decode cX18_coin 406 = .ok (.return_, 1) := by decide +kernel
theorem dX18_giveBack_0 : decode cX18_giveBack 0 = .ok (.aload_n 0, 1) := by decide +kernel
theorem dX18_giveBack_1 : decode cX18_giveBack 1 = .ok (.getfield 369, 3) := by decide +kernel
theorem dX18_giveBack_4 : decode cX18_giveBack 4 = .ok (.aload_n 0, 1) := by decide +kernel
theorem dX18_giveBack_5 : decode cX18_giveBack 5 = .ok (.getfield 444, 3) := by decide +kernel
theorem dX18_giveBack_8 : decode cX18_giveBack 8 = .ok (.aload_n 0, 1) := by decide +kernel
theorem dX18_giveBack_9 : decode cX18_giveBack 9 = .ok (.getfield 328, 3) := by decide +kernel
theorem dX18_giveBack_12 : decode cX18_giveBack 12 = .ok (.iconst 1, 1) := by decide +kernel
theorem dX18_giveBack_13 : decode cX18_giveBack 13 = .ok (.isub, 1) := by decide +kernel
theorem dX18_giveBack_14 : decode cX18_giveBack 14 = .ok (.iaload, 1) := by decide +kernel
theorem dX18_giveBack_15 : decode cX18_giveBack 15 = .ok (.iconst 1, 1) := by decide +kernel
theorem dX18_giveBack_16 : decode cX18_giveBack 16 = .ok (.invokevirtual 133, 3) := by decide +kernel
theorem dX18_giveBack_19 : decode cX18_giveBack 19 = .ok (.istore_n 1, 1) := by decide +kernel
theorem dX18_giveBack_20 : decode cX18_giveBack 20 = .ok (.aload_n 0, 1) := by decide +kernel
theorem dX18_giveBack_21 : decode cX18_giveBack 21 = .ok (.getfield 312, 3) := by decide +kernel
theorem dX18_giveBack_24 : decode cX18_giveBack 24 = .ok (.aload_n 0, 1) := by decide +kernel
theorem dX18_giveBack_25 : decode cX18_giveBack 25 = .ok (.getfield 325, 3) := by decide +kernel
theorem dX18_giveBack_28 : decode cX18_giveBack 28 = .ok (.aload_n 0, 1) := by decide +kernel
theorem dX18_giveBack_29 : decode cX18_giveBack 29 = .ok (.getfield 328, 3) := by decide +kernel
theorem dX18_giveBack_32 : decode cX18_giveBack 32 = .ok (.iconst 1, 1) := by decide +kernel
theorem dX18_giveBack_33 : decode cX18_giveBack 33 = .ok (.isub, 1) := by decide +kernel
theorem dX18_giveBack_34 : decode cX18_giveBack 34 = .ok (.iaload, 1) := by decide +kernel
theorem dX18_giveBack_35 : decode cX18_giveBack 35 = .ok (.isub, 1) := by decide +kernel
theorem dX18_giveBack_36 : decode cX18_giveBack 36 = .ok (.iload_n 1, 1) := by decide +kernel
theorem dX18_giveBack_37 : decode cX18_giveBack 37 = .ok (.if_icmp .eq 7, 3) := by decide +kernel
theorem dX18_giveBack_40 : decode cX18_giveBack 40 = .ok (.aload_n 0, 1) := by decide +kernel
theorem dX18_giveBack_41 : decode cX18_giveBack 41 = .ok (.invokevirtual 331, 3) := by decide +kernel
theorem dX18_giveBack_44 : decode cX18_giveBack 44 = .ok (.aload_n 0, 1) := by decide +kernel
theorem dX18_giveBack_45 : decode cX18_giveBack 45 = .ok (.dup, 1) := by decide +kernel
theorem dX18_giveBack_46 : decode cX18_giveBack 46 = .ok (.getfield 328, 3) := by decide +kernel
theorem dX18_giveBack_49 : decode cX18_giveBack 49 = .ok (.iconst 1, 1) := by decide +kernel
theorem dX18_giveBack_50 : decode cX18_giveBack 50 = .ok (.isub, 1) := by decide +kernel
theorem dX18_giveBack_51 : decode cX18_giveBack 51 = .ok (.putfield 328, 3) := by decide +kernel
theorem dX18_giveBack_54 : decode cX18_giveBack 54 = .ok (.aload_n 0, 1) := by decide +kernel
theorem dX18_giveBack_55 : decode cX18_giveBack 55 = .ok (.getfield 328, 3) := by decide +kernel
theorem dX18_giveBack_58 : decode cX18_giveBack 58 = .ok (.ifCond .ne 9, 3) := by decide +kernel
theorem dX18_giveBack_61 : decode cX18_giveBack 61 = .ok (.aload_n 0, 1) := by decide +kernel
theorem dX18_giveBack_62 : decode cX18_giveBack 62 = .ok (.iconst 0, 1) := by decide +kernel
theorem dX18_giveBack_63 : decode cX18_giveBack 63 = .ok (.lconst 0, 1) := by decide +kernel
theorem dX18_giveBack_64 : decode cX18_giveBack 64 = .ok (.invokevirtual 267, 3) := by decide +kernel
theorem dX18_giveBack_67 : decode cX18_giveBack 67 = .ok (.return_, 1) := by decide +kernel
theorem dX18_branch_0 : decode cX18_branch 0 = .ok (.iload_n 1, 1) := by decide +kernel
theorem dX18_branch_1 : decode cX18_branch 1 = .ok (.iconst 2, 1) := by decide +kernel
theorem dX18_branch_2 : decode cX18_branch 2 = .ok (.if_icmp .ne 7, 3) := by decide +kernel
theorem dX18_branch_5 : decode cX18_branch 5 = .ok (.iconst 1, 1) := by decide +kernel
theorem dX18_branch_6 : decode cX18_branch 6 = .ok (.goto 4, 3) := by decide +kernel
theorem dX18_branch_9 : decode cX18_branch 9 = .ok (.iconst 0, 1) := by decide +kernel
theorem dX18_branch_10 : decode cX18_branch 10 = .ok (.istore_n 3, 1) := by decide +kernel
theorem dX18_branch_11 : decode cX18_branch 11 = .ok (.iload_n 1, 1) := by decide +kernel
theorem dX18_branch_12 : decode cX18_branch 12 = .ok (.iconst 2, 1) := by decide +kernel
theorem dX18_branch_13 : decode cX18_branch 13 = .ok (.if_icmp .le 56, 3) := by decide +kernel
theorem dX18_branch_16 : decode cX18_branch 16 = .ok (.aload_n 0, 1) := by decide +kernel
theorem dX18_branch_17 : decode cX18_branch 17 = .ok (.iconst 1, 1) := by decide +kernel
theorem dX18_branch_18 : decode cX18_branch 18 = .ok (.invokevirtual 341, 3) := by decide +kernel
theorem dX18_branch_21 : decode cX18_branch 21 = .ok (.istore 4, 2) := by decide +kernel
theorem dX18_branch_23 : decode cX18_branch 23 = .ok (.aload_n 0, 1) := by decide +kernel
theorem dX18_branch_24 : decode cX18_branch 24 = .ok (.invokevirtual 257, 3) := by decide +kernel
theorem dX18_branch_27 : decode cX18_branch 27 = .ok (.ifCond .eq 40, 3) := by decide +kernel
theorem dX18_branch_30 : decode cX18_branch 30 = .ok (.aload_n 0, 1) := by decide +kernel
theorem dX18_branch_31 : decode cX18_branch 31 = .ok (.getfield 40, 3) := by decide +kernel
theorem dX18_branch_34 : decode cX18_branch 34 = .ok (.getfield 77, 3) := by decide +kernel
theorem dX18_branch_37 : decode cX18_branch 37 = .ok (.iload 4, 2) := by decide +kernel
theorem dX18_branch_39 : decode cX18_branch 39 = .ok (.laload, 1) := by decide +kernel
theorem dX18_branch_40 : decode cX18_branch 40 = .ok (.lconst 1, 1) := by decide +kernel
theorem dX18_branch_41 : decode cX18_branch 41 = .ok (.lcmp, 1) := by decide +kernel
theorem dX18_branch_42 : decode cX18_branch 42 = .ok (.ifCond .ne 7, 3) := by decide +kernel
theorem dX18_branch_45 : decode cX18_branch 45 = .ok (.iconst 1, 1) := by decide +kernel
theorem dX18_branch_46 : decode cX18_branch 46 = .ok (.goto 4, 3) := by decide +kernel
theorem dX18_branch_49 : decode cX18_branch 49 = .ok (.iconst 0, 1) := by decide +kernel
theorem dX18_branch_50 : decode cX18_branch 50 = .ok (.iload_n 1, 1) := by decide +kernel
theorem dX18_branch_51 : decode cX18_branch 51 = .ok (.iconst 3, 1) := by decide +kernel
theorem dX18_branch_52 : decode cX18_branch 52 = .ok (.if_icmp .ne 7, 3) := by decide +kernel
theorem dX18_branch_55 : decode cX18_branch 55 = .ok (.iconst 1, 1) := by decide +kernel
theorem dX18_branch_56 : decode cX18_branch 56 = .ok (.goto 4, 3) := by decide +kernel
theorem dX18_branch_59 : decode cX18_branch 59 = .ok (.iconst 0, 1) := by decide +kernel
theorem dX18_branch_60 : decode cX18_branch 60 = .ok (.if_icmp .ne 7, 3) := by decide +kernel
theorem dX18_branch_63 : decode cX18_branch 63 = .ok (.iconst 1, 1) := by decide +kernel
theorem dX18_branch_64 : decode cX18_branch 64 = .ok (.goto 4, 3) := by decide +kernel
theorem dX18_branch_67 : decode cX18_branch 67 = .ok (.iconst 0, 1) := by decide +kernel
theorem dX18_branch_68 : decode cX18_branch 68 = .ok (.istore_n 3, 1) := by decide +kernel
theorem dX18_branch_69 : decode cX18_branch 69 = .ok (.iload_n 3, 1) := by decide +kernel
theorem dX18_branch_70 : decode cX18_branch 70 = .ok (.ifCond .eq 15, 3) := by decide +kernel
theorem dX18_branch_73 : decode cX18_branch 73 = .ok (.aload_n 0, 1) := by decide +kernel
theorem dX18_branch_74 : decode cX18_branch 74 = .ok (.getfield 447, 3) := by decide +kernel
theorem dX18_branch_77 : decode cX18_branch 77 = .ok (.aload_n 0, 1) := by decide +kernel
theorem dX18_branch_78 : decode cX18_branch 78 = .ok (.getfield 328, 3) := by decide +kernel
theorem dX18_branch_81 : decode cX18_branch 81 = .ok (.iconst 1, 1) := by decide +kernel
theorem dX18_branch_82 : decode cX18_branch 82 = .ok (.isub, 1) := by decide +kernel
theorem dX18_branch_83 : decode cX18_branch 83 = .ok (.iload_n 2, 1) := by decide +kernel
theorem dX18_branch_84 : decode cX18_branch 84 = .ok (.iastore, 1) := by decide +kernel
theorem dX18_branch_85 : decode cX18_branch 85 = .ok (.return_, 1) := by decide +kernel
theorem dX18_constant_0 : decode cX18_constant 0 = .ok (.iload_n 1, 1) := by decide +kernel
theorem dX18_constant_1 : decode cX18_constant 1 = .ok (.iconst 5, 1) := by decide +kernel
theorem dX18_constant_2 : decode cX18_constant 2 = .ok (.if_icmp .ne 13, 3) := by decide +kernel
theorem dX18_constant_5 : decode cX18_constant 5 = .ok (.aload_n 0, 1) := by decide +kernel
theorem dX18_constant_6 : decode cX18_constant 6 = .ok (.iconst 2, 1) := by decide +kernel
theorem dX18_constant_7 : decode cX18_constant 7 = .ok (.lconst 0, 1) := by decide +kernel
theorem dX18_constant_8 : decode cX18_constant 8 = .ok (.lload_n 2, 1) := by decide +kernel
theorem dX18_constant_9 : decode cX18_constant 9 = .ok (.invokevirtual 392, 3) := by decide +kernel
theorem dX18_constant_12 : decode cX18_constant 12 = .ok (.goto 82, 3) := by decide +kernel
theorem dX18_constant_15 : decode cX18_constant 15 = .ok (.iload_n 1, 1) := by decide +kernel
theorem dX18_constant_16 : decode cX18_constant 16 = .ok (.bipush 6, 2) := by decide +kernel
theorem dX18_constant_18 : decode cX18_constant 18 = .ok (.if_icmp .ne 13, 3) := by decide +kernel
theorem dX18_constant_21 : decode cX18_constant 21 = .ok (.aload_n 0, 1) := by decide +kernel
theorem dX18_constant_22 : decode cX18_constant 22 = .ok (.iconst 3, 1) := by decide +kernel
theorem dX18_constant_23 : decode cX18_constant 23 = .ok (.lconst 0, 1) := by decide +kernel
theorem dX18_constant_24 : decode cX18_constant 24 = .ok (.lload_n 2, 1) := by decide +kernel
theorem dX18_constant_25 : decode cX18_constant 25 = .ok (.invokevirtual 392, 3) := by decide +kernel
