theorem dX14_put_43 : decode cX14_put 43 = .ok (.ifCond .eq 35, 3) := by decide +kernel
theorem dX14_put_46 : decode cX14_put 46 = .ok (.aload_n 0, 1) := by decide +kernel
theorem dX14_put_47 : decode cX14_put 47 = .ok (.iload 7, 2) := by decide +kernel
theorem dX14_put_49 : decode cX14_put 49 = .ok (.iconst 1, 1) := by decide +kernel
theorem dX14_put_50 : decode cX14_put 50 = .ok (.isub, 1) := by decide +kernel
theorem dX14_put_51 : decode cX14_put 51 = .ok (.iload_n 3, 1) := by decide +kernel
theorem dX14_put_52 : decode cX14_put 52 = .ok (.lload 4, 2) := by decide +kernel
theorem dX14_put_54 : decode cX14_put 54 = .ok (.iload 6, 2) := by decide +kernel
theorem dX14_put_56 : decode cX14_put 56 = .ok (.invokevirtual 58, 3) := by decide +kernel
theorem dX14_put_59 : decode cX14_put 59 = .ok (.ifCond .ne 18, 3) := by decide +kernel
theorem dX14_put_62 : decode cX14_put 62 = .ok (.aload_n 0, 1) := by decide +kernel
theorem dX14_put_63 : decode cX14_put 63 = .ok (.iload 7, 2) := by decide +kernel
theorem dX14_put_65 : decode cX14_put 65 = .ok (.iconst 1, 1) := by decide +kernel
theorem dX14_put_66 : decode cX14_put 66 = .ok (.isub, 1) := by decide +kernel
theorem dX14_put_67 : decode cX14_put 67 = .ok (.aload_n 1, 1) := by decide +kernel
theorem dX14_put_68 : decode cX14_put 68 = .ok (.aload_n 2, 1) := by decide +kernel
theorem dX14_put_69 : decode cX14_put 69 = .ok (.iload_n 3, 1) := by decide +kernel
theorem dX14_put_70 : decode cX14_put 70 = .ok (.lload 4, 2) := by decide +kernel
theorem dX14_put_72 : decode cX14_put 72 = .ok (.iload 6, 2) := by decide +kernel
theorem dX14_put_74 : decode cX14_put 74 = .ok (.invokevirtual 62, 3) := by decide +kernel
theorem dX14_put_77 : decode cX14_put 77 = .ok (.return_, 1) := by decide +kernel
theorem dX14_put_78 : decode cX14_put 78 = .ok (.aload_n 0, 1) := by decide +kernel
theorem dX14_put_79 : decode cX14_put 79 = .ok (.getfield 39, 3) := by decide +kernel
theorem dX14_put_82 : decode cX14_put 82 = .ok (.istore 8, 2) := by decide +kernel
theorem dX14_put_84 : decode cX14_put 84 = .ok (.iload 8, 2) := by decide +kernel
theorem dX14_put_86 : decode cX14_put 86 = .ok (.iload 7, 2) := by decide +kernel
theorem dX14_put_88 : decode cX14_put 88 = .ok (.if_icmp .le 124, 3) := by decide +kernel
theorem dX14_put_91 : decode cX14_put 91 = .ok (.iconst 0, 1) := by decide +kernel
theorem dX14_put_92 : decode cX14_put 92 = .ok (.istore 9, 2) := by decide +kernel
theorem dX14_put_94 : decode cX14_put 94 = .ok (.iload 9, 2) := by decide +kernel
theorem dX14_put_96 : decode cX14_put 96 = .ok (.iconst 4, 1) := by decide +kernel
theorem dX14_put_97 : decode cX14_put 97 = .ok (.if_icmp .ge 61, 3) := by decide +kernel
theorem dX14_put_100 : decode cX14_put 100 = .ok (.aload_n 0, 1) := by decide +kernel
theorem dX14_put_101 : decode cX14_put 101 = .ok (.getfield 7, 3) := by decide +kernel
theorem dX14_put_104 : decode cX14_put 104 = .ok (.iconst 4, 1) := by decide +kernel
theorem dX14_put_105 : decode cX14_put 105 = .ok (.iload 8, 2) := by decide +kernel
theorem dX14_put_107 : decode cX14_put 107 = .ok (.imul, 1) := by decide +kernel
theorem dX14_put_108 : decode cX14_put 108 = .ok (.iload 9, 2) := by decide +kernel
theorem dX14_put_110 : decode cX14_put 110 = .ok (.iadd, 1) := by decide +kernel
theorem dX14_put_111 : decode cX14_put 111 = .ok (.aload_n 0, 1) := by decide +kernel
theorem dX14_put_112 : decode cX14_put 112 = .ok (.getfield 7, 3) := by decide +kernel
theorem dX14_put_115 : decode cX14_put 115 = .ok (.iconst 4, 1) := by decide +kernel
theorem dX14_put_116 : decode cX14_put 116 = .ok (.iload 8, 2) := by decide +kernel
theorem dX14_put_118 : decode cX14_put 118 = .ok (.imul, 1) := by decide +kernel
theorem dX14_put_119 : decode cX14_put 119 = .ok (.iconst 4, 1) := by decide +kernel
theorem dX14_put_120 : decode cX14_put 120 = .ok (.isub, 1) := by decide +kernel
theorem dX14_put_121 : decode cX14_put 121 = .ok (.iload 9, 2) := by decide +kernel
theorem dX14_put_123 : decode cX14_put 123 = .ok (.iadd, 1) := by decide +kernel
theorem dX14_put_124 : decode cX14_put 124 = .ok (.laload, 1) := by decide +kernel
theorem dX14_put_125 : decode cX14_put 125 = .ok (.lastore, 1) := by decide +kernel
theorem dX14_put_126 : decode cX14_put 126 = .ok (.aload_n 0, 1) := by decide +kernel
theorem dX14_put_127 : decode cX14_put 127 = .ok (.getfield 13, 3) := by decide +kernel
theorem dX14_put_130 : decode cX14_put 130 = .ok (.iconst 4, 1) := by decide +kernel
theorem dX14_put_131 : decode cX14_put 131 = .ok (.iload 8, 2) := by decide +kernel
theorem dX14_put_133 : decode cX14_put 133 = .ok (.imul, 1) := by decide +kernel
theorem dX14_put_134 : decode cX14_put 134 = .ok (.iload 9, 2) := by decide +kernel
theorem dX14_put_136 : decode cX14_put 136 = .ok (.iadd, 1) := by decide +kernel
theorem dX14_put_137 : decode cX14_put 137 = .ok (.aload_n 0, 1) := by decide +kernel
theorem dX14_put_138 : decode cX14_put 138 = .ok (.getfield 13, 3) := by decide +kernel
theorem dX14_put_141 : decode cX14_put 141 = .ok (.iconst 4, 1) := by decide +kernel
theorem dX14_put_142 : decode cX14_put 142 = .ok (.iload 8, 2) := by decide +kernel
theorem dX14_put_144 : decode cX14_put 144 = .ok (.imul, 1) := by decide +kernel
theorem dX14_put_145 : decode cX14_put 145 = .ok (.iconst 4, 1) := by decide +kernel
theorem dX14_put_146 : decode cX14_put 146 = .ok (.isub, 1) := by decide +kernel
theorem dX14_put_147 : decode cX14_put 147 = .ok (.iload 9, 2) := by decide +kernel
theorem dX14_put_149 : decode cX14_put 149 = .ok (.iadd, 1) := by decide +kernel
theorem dX14_put_150 : decode cX14_put 150 = .ok (.laload, 1) := by decide +kernel
theorem dX14_put_151 : decode cX14_put 151 = .ok (.lastore, 1) := by decide +kernel
theorem dX14_put_152 : decode cX14_put 152 = .ok (.iinc 9 1, 3) := by decide +kernel
theorem dX14_put_155 : decode cX14_put 155 = .ok (.goto (-61), 3) := by decide +kernel
theorem dX14_put_158 : decode cX14_put 158 = .ok (.aload_n 0, 1) := by decide +kernel
theorem dX14_put_159 : decode cX14_put 159 = .ok (.getfield 16, 3) := by decide +kernel
theorem dX14_put_162 : decode cX14_put 162 = .ok (.iload 8, 2) := by decide +kernel
theorem dX14_put_164 : decode cX14_put 164 = .ok (.aload_n 0, 1) := by decide +kernel
theorem dX14_put_165 : decode cX14_put 165 = .ok (.getfield 16, 3) := by decide +kernel
theorem dX14_put_168 : decode cX14_put 168 = .ok (.iload 8, 2) := by decide +kernel
theorem dX14_put_170 : decode cX14_put 170 = .ok (.iconst 1, 1) := by decide +kernel
theorem dX14_put_171 : decode cX14_put 171 = .ok (.isub, 1) := by decide +kernel
theorem dX14_put_172 : decode cX14_put 172 = .ok (.iaload, 1) := by decide +kernel
theorem dX14_put_173 : decode cX14_put 173 = .ok (.iastore, 1) := by decide +kernel
theorem dX14_put_174 : decode cX14_put 174 = .ok (.aload_n 0, 1) := by decide +kernel
theorem dX14_put_175 : decode cX14_put 175 = .ok (.getfield 20, 3) := by decide +kernel
theorem dX14_put_178 : decode cX14_put 178 = .ok (.iload 8, 2) := by decide +kernel
theorem dX14_put_180 : decode cX14_put 180 = .ok (.aload_n 0, 1) := by decide +kernel
theorem dX14_put_181 : decode cX14_put 181 = .ok (.getfield 20, 3) := by decide +kernel
theorem dX14_put_184 : decode cX14_put 184 = .ok (.iload 8, 2) := by decide +kernel
theorem dX14_put_186 : decode cX14_put 186 = .ok (.iconst 1, 1) := by decide +kernel
theorem dX14_put_187 : decode cX14_put 187 = .ok (.isub, 1) := by decide +kernel
theorem dX14_put_188 : decode cX14_put 188 = .ok (.laload, 1) := by decide +kernel
theorem dX14_put_189 : decode cX14_put 189 = .ok (.lastore, 1) := by decide +kernel
theorem dX14_put_190 : decode cX14_put 190 = .ok (.aload_n 0, 1) := by decide +kernel
theorem dX14_put_191 : decode cX14_put 191 = .ok (.getfield 23, 3) := by decide +kernel
theorem dX14_put_194 : decode cX14_put 194 = .ok (.iload 8, 2) := by decide +kernel
theorem dX14_put_196 : decode cX14_put 196 = .ok (.aload_n 0, 1) := by decide +kernel
theorem dX14_put_197 : decode cX14_put 197 = .ok (.getfield 23, 3) := by decide +kernel
theorem dX14_put_200 : decode cX14_put 200 = .ok (.iload 8, 2) := by decide +kernel
theorem dX14_put_202 : decode cX14_put 202 = .ok (.iconst 1, 1) := by decide +kernel
theorem dX14_put_203 : decode cX14_put 203 = .ok (.isub, 1) := by decide +kernel
theorem dX14_put_204 : decode cX14_put 204 = .ok (.iaload, 1) := by decide +kernel
theorem dX14_put_205 : decode cX14_put 205 = .ok (.iastore, 1) := by decide +kernel
theorem dX14_put_206 : decode cX14_put 206 = .ok (.iinc 8 (-1), 3) := by decide +kernel
theorem dX14_put_209 : decode cX14_put 209 = .ok (.goto (-125), 3) := by decide +kernel
theorem dX14_put_212 : decode cX14_put 212 = .ok (.aload_n 0, 1) := by decide +kernel
theorem dX14_put_213 : decode cX14_put 213 = .ok (.iload 7, 2) := by decide +kernel
theorem dX14_put_215 : decode cX14_put 215 = .ok (.aload_n 1, 1) := by decide +kernel
theorem dX14_put_216 : decode cX14_put 216 = .ok (.aload_n 2, 1) := by decide +kernel
theorem dX14_put_217 : decode cX14_put 217 = .ok (.iload_n 3, 1) := by decide +kernel
theorem dX14_put_218 : decode cX14_put 218 = .ok (.lload 4, 2) := by decide +kernel
theorem dX14_put_220 : decode cX14_put 220 = .ok (.iload 6, 2) := by decide +kernel
theorem dX14_put_222 : decode cX14_put 222 = .ok (.invokevirtual 62, 3) := by decide +kernel
theorem dX14_put_225 : decode cX14_put 225 = .ok (.aload_n 0, 1) := by decide +kernel
theorem dX14_put_226 : decode cX14_put 226 = .ok (.dup, 1) := by decide +kernel
theorem dX14_put_227 : decode cX14_put 227 = .ok (.getfield 39, 3) := by decide +kernel
theorem dX14_put_230 : decode cX14_put 230 = .ok (.iconst 1, 1) := by decide +kernel
theorem dX14_put_231 : decode cX14_put 231 = .ok (.iadd, 1) := by decide +kernel
theorem dX14_put_232 : decode cX14_put 232 = .ok (.putfield 39, 3) := by decide +kernel
theorem dX14_put_235 : decode cX14_put 235 = .ok (.return_, 1) := by decide +kernel
theorem dX14_keep_0 : decode cX14_keep 0 = .ok (.iconst 0, 1) := by decide +kernel
theorem dX14_keep_1 : decode cX14_keep 1 = .ok (.istore 8, 2) := by decide +kernel
theorem dX14_keep_3 : decode cX14_keep 3 = .ok (.iload 8, 2) := by decide +kernel
theorem dX14_keep_5 : decode cX14_keep 5 = .ok (.iconst 4, 1) := by decide +kernel
theorem dX14_keep_6 : decode cX14_keep 6 = .ok (.if_icmp .ge 39, 3) := by decide +kernel
theorem dX14_keep_9 : decode cX14_keep 9 = .ok (.aload_n 0, 1) := by decide +kernel
theorem dX14_keep_10 : decode cX14_keep 10 = .ok (.getfield 7, 3) := by decide +kernel
theorem dX14_keep_13 : decode cX14_keep 13 = .ok (.iconst 4, 1) := by decide +kernel
theorem dX14_keep_14 : decode cX14_keep 14 = .ok (.iload_n 1, 1) := by decide +kernel
theorem dX14_keep_15 : decode cX14_keep 15 = .ok (.imul, 1) := by decide +kernel
theorem dX14_keep_16 : decode cX14_keep 16 = .ok (.iload 8, 2) := by decide +kernel
theorem dX14_keep_18 : decode cX14_keep 18 = .ok (.iadd, 1) := by decide +kernel
theorem dX14_keep_19 : decode cX14_keep 19 = .ok (.aload_n 2, 1) := by decide +kernel
theorem dX14_keep_20 : decode cX14_keep 20 = .ok (.iload 8, 2) := by decide +kernel
theorem dX14_keep_22 : decode cX14_keep 22 = .ok (.laload, 1) := by decide +kernel
theorem dX14_keep_23 : decode cX14_keep 23 = .ok (.lastore, 1) := by decide +kernel
theorem dX14_keep_24 : decode cX14_keep 24 = .ok (.aload_n 0, 1) := by decide +kernel
theorem dX14_keep_25 : decode cX14_keep 25 = .ok (.getfield 13, 3) := by decide +kernel
theorem dX14_keep_28 : decode cX14_keep 28 = .ok (.iconst 4, 1) := by decide +kernel
theorem dX14_keep_29 : decode cX14_keep 29 = .ok (.iload_n 1, 1) := by decide +kernel
theorem dX14_keep_30 : decode cX14_keep 30 = .ok (.imul, 1) := by decide +kernel
theorem dX14_keep_31 : decode cX14_keep 31 = .ok (.iload 8, 2) := by decide +kernel
theorem dX14_keep_33 : decode cX14_keep 33 = .ok (.iadd, 1) := by decide +kernel
theorem dX14_keep_34 : decode cX14_keep 34 = .ok (.aload_n 3, 1) := by decide +kernel
theorem dX14_keep_35 : decode cX14_keep 35 = .ok (.iload 8, 2) := by decide +kernel
theorem dX14_keep_37 : decode cX14_keep 37 = .ok (.laload, 1) := by decide +kernel
theorem dX14_keep_38 : decode cX14_keep 38 = .ok (.lastore, 1) := by decide +kernel
theorem dX14_keep_39 : decode cX14_keep 39 = .ok (.iinc 8 1, 3) := by decide +kernel
theorem dX14_keep_42 : decode cX14_keep 42 = .ok (.goto (-39), 3) := by decide +kernel
theorem dX14_keep_45 : decode cX14_keep 45 = .ok (.aload_n 0, 1) := by decide +kernel
theorem dX14_keep_46 : decode cX14_keep 46 = .ok (.getfield 16, 3) := by decide +kernel
theorem dX14_keep_49 : decode cX14_keep 49 = .ok (.iload_n 1, 1) := by decide +kernel
theorem dX14_keep_50 : decode cX14_keep 50 = .ok (.iload 4, 2) := by decide +kernel
theorem dX14_keep_52 : decode cX14_keep 52 = .ok (.iastore, 1) := by decide +kernel
theorem dX14_keep_53 : decode cX14_keep 53 = .ok (.aload_n 0, 1) := by decide +kernel
theorem dX14_keep_54 : decode cX14_keep 54 = .ok (.getfield 20, 3) := by decide +kernel
theorem dX14_keep_57 : decode cX14_keep 57 = .ok (.iload_n 1, 1) := by decide +kernel
theorem dX14_keep_58 : decode cX14_keep 58 = .ok (.lload 5, 2) := by decide +kernel
theorem dX14_keep_60 : decode cX14_keep 60 = .ok (.lastore, 1) := by decide +kernel
theorem dX14_keep_61 : decode cX14_keep 61 = .ok (.aload_n 0, 1) := by decide +kernel
theorem dX14_keep_62 : decode cX14_keep 62 = .ok (.getfield 23, 3) := by decide +kernel
theorem dX14_keep_65 : decode cX14_keep 65 = .ok (.iload_n 1, 1) := by decide +kernel
theorem dX14_keep_66 : decode cX14_keep 66 = .ok (.iload 7, 2) := by decide +kernel
theorem dX14_keep_68 : decode cX14_keep 68 = .ok (.iastore, 1) := by decide +kernel
theorem dX14_keep_69 : decode cX14_keep 69 = .ok (.return_, 1) := by decide +kernel
theorem dX14_add_0 : decode cX14_add 0 = .ok (.iconst 0, 1) := by decide +kernel
theorem dX14_add_1 : decode cX14_add 1 = .ok (.istore 4, 2) := by decide +kernel
theorem dX14_add_3 : decode cX14_add 3 = .ok (.iload 4, 2) := by decide +kernel
theorem dX14_add_5 : decode cX14_add 5 = .ok (.iconst 4, 1) := by decide +kernel
theorem dX14_add_6 : decode cX14_add 6 = .ok (.if_icmp .ge 32, 3) := by decide +kernel
theorem dX14_add_9 : decode cX14_add 9 = .ok (.aload_n 0, 1) := by decide +kernel
theorem dX14_add_10 : decode cX14_add 10 = .ok (.getfield 35, 3) := by decide +kernel
theorem dX14_add_13 : decode cX14_add 13 = .ok (.iload_n 3, 1) := by decide +kernel
theorem dX14_add_14 : decode cX14_add 14 = .ok (.ifCond .eq 12, 3) := by decide +kernel
theorem dX14_add_17 : decode cX14_add 17 = .ok (.aload_n 1, 1) := by decide +kernel
theorem dX14_add_18 : decode cX14_add 18 = .ok (.iload_n 2, 1) := by decide +kernel
theorem dX14_add_19 : decode cX14_add 19 = .ok (.iload 4, 2) := by decide +kernel
theorem dX14_add_21 : decode cX14_add 21 = .ok (.iadd, 1) := by decide +kernel
theorem dX14_add_22 : decode cX14_add 22 = .ok (.laload, 1) := by decide +kernel
theorem dX14_add_23 : decode cX14_add 23 = .ok (.goto 4, 3) := by decide +kernel
theorem dX14_add_26 : decode cX14_add 26 = .ok (.lconst 0, 1) := by decide +kernel
theorem dX14_add_27 : decode cX14_add 27 = .ok (.bipush 8, 2) := by decide +kernel
theorem dX14_add_29 : decode cX14_add 29 = .ok (.invokevirtual 66, 3) := by decide +kernel
theorem dX14_add_32 : decode cX14_add 32 = .ok (.iinc 4 1, 3) := by decide +kernel
theorem dX14_add_35 : decode cX14_add 35 = .ok (.goto (-32), 3) := by decide +kernel
theorem dX14_add_38 : decode cX14_add 38 = .ok (.return_, 1) := by decide +kernel
theorem dX14_keepHash_0 : decode cX14_keepHash 0 = .ok (.aload_n 0, 1) := by decide +kernel
theorem dX14_keepHash_1 : decode cX14_keepHash 1 = .ok (.getfield 35, 3) := by decide +kernel
theorem dX14_keepHash_4 : decode cX14_keepHash 4 = .ok (.invokevirtual 72, 3) := by decide +kernel
theorem dX14_keepHash_7 : decode cX14_keepHash 7 = .ok (.iconst 0, 1) := by decide +kernel
theorem dX14_keepHash_8 : decode cX14_keepHash 8 = .ok (.istore_n 2, 1) := by decide +kernel
theorem dX14_keepHash_9 : decode cX14_keepHash 9 = .ok (.iload_n 2, 1) := by decide +kernel
theorem dX14_keepHash_10 : decode cX14_keepHash 10 = .ok (.iconst 4, 1) := by decide +kernel
theorem dX14_keepHash_11 : decode cX14_keepHash 11 = .ok (.if_icmp .ge 27, 3) := by decide +kernel
theorem dX14_keepHash_14 : decode cX14_keepHash 14 = .ok (.aload_n 0, 1) := by decide +kernel
theorem dX14_keepHash_15 : decode cX14_keepHash 15 = .ok (.getfield 26, 3) := by decide +kernel
theorem dX14_keepHash_18 : decode cX14_keepHash 18 = .ok (.iconst 4, 1) := by decide +kernel
theorem dX14_keepHash_19 : decode cX14_keepHash 19 = .ok (.iload_n 1, 1) := by decide +kernel
theorem dX14_keepHash_20 : decode cX14_keepHash 20 = .ok (.imul, 1) := by decide +kernel
theorem dX14_keepHash_21 : decode cX14_keepHash 21 = .ok (.iload_n 2, 1) := by decide +kernel
theorem dX14_keepHash_22 : decode cX14_keepHash 22 = .ok (.iadd, 1) := by decide +kernel
theorem dX14_keepHash_23 : decode cX14_keepHash 23 = .ok (.aload_n 0, 1) := by decide +kernel
theorem dX14_keepHash_24 : decode cX14_keepHash 24 = .ok (.getfield 35, 3) := by decide +kernel
theorem dX14_keepHash_27 : decode cX14_keepHash 27 = .ok (.iload_n 2, 1) := by decide +kernel
theorem dX14_keepHash_28 : decode cX14_keepHash 28 = .ok (.invokevirtual 75, 3) := by decide +kernel
theorem dX14_keepHash_31 : decode cX14_keepHash 31 = .ok (.lastore, 1) := by decide +kernel
theorem dX14_keepHash_32 : decode cX14_keepHash 32 = .ok (.iinc 2 1, 3) := by decide +kernel
theorem dX14_keepHash_35 : decode cX14_keepHash 35 = .ok (.goto (-26), 3) := by decide +kernel
theorem dX14_keepHash_38 : decode cX14_keepHash 38 = .ok (.return_, 1) := by decide +kernel
theorem dX14_agree_0 : decode cX14_agree 0 = .ok (.iconst 0, 1) := by decide +kernel
theorem dX14_agree_1 : decode cX14_agree 1 = .ok (.istore 4, 2) := by decide +kernel
theorem dX14_agree_3 : decode cX14_agree 3 = .ok (.iload 4, 2) := by decide +kernel
theorem dX14_agree_5 : decode cX14_agree 5 = .ok (.iload_n 3, 1) := by decide +kernel
theorem dX14_agree_6 : decode cX14_agree 6 = .ok (.if_icmp .ge 78, 3) := by decide +kernel
theorem dX14_agree_9 : decode cX14_agree 9 = .ok (.aload_n 0, 1) := by decide +kernel
theorem dX14_agree_10 : decode cX14_agree 10 = .ok (.getfield 7, 3) := by decide +kernel
theorem dX14_agree_13 : decode cX14_agree 13 = .ok (.iconst 4, 1) := by decide +kernel
theorem dX14_agree_14 : decode cX14_agree 14 = .ok (.iload_n 1, 1) := by decide +kernel
theorem dX14_agree_15 : decode cX14_agree 15 = .ok (.imul, 1) := by decide +kernel
theorem dX14_agree_16 : decode cX14_agree 16 = .ok (.iload 4, 2) := by decide +kernel
theorem dX14_agree_18 : decode cX14_agree 18 = .ok (.bipush 64, 2) := by decide +kernel
theorem dX14_agree_20 : decode cX14_agree 20 = .ok (.idiv, 1) := by decide +kernel
theorem dX14_agree_21 : decode cX14_agree 21 = .ok (.iadd, 1) := by decide +kernel
theorem dX14_agree_22 : decode cX14_agree 22 = .ok (.laload, 1) := by decide +kernel
theorem dX14_agree_23 : decode cX14_agree 23 = .ok (.aload_n 0, 1) := by decide +kernel
theorem dX14_agree_24 : decode cX14_agree 24 = .ok (.getfield 7, 3) := by decide +kernel
theorem dX14_agree_27 : decode cX14_agree 27 = .ok (.iconst 4, 1) := by decide +kernel
theorem dX14_agree_28 : decode cX14_agree 28 = .ok (.iload_n 2, 1) := by decide +kernel
theorem dX14_agree_29 : decode cX14_agree 29 = .ok (.imul, 1) := by decide +kernel
theorem dX14_agree_30 : decode cX14_agree 30 = .ok (.iload 4, 2) := by decide +kernel
theorem dX14_agree_32 : decode cX14_agree 32 = .ok (.bipush 64, 2) := by decide +kernel
theorem dX14_agree_34 : decode cX14_agree 34 = .ok (.idiv, 1) := by decide +kernel
theorem dX14_agree_35 : decode cX14_agree 35 = .ok (.iadd, 1) := by decide +kernel
theorem dX14_agree_36 : decode cX14_agree 36 = .ok (.laload, 1) := by decide +kernel
theorem dX14_agree_37 : decode cX14_agree 37 = .ok (.lxor, 1) := by decide +kernel
theorem dX14_agree_38 : decode cX14_agree 38 = .ok (.lstore 5, 2) := by decide +kernel
theorem dX14_agree_40 : decode cX14_agree 40 = .ok (.iload_n 3, 1) := by decide +kernel
theorem dX14_agree_41 : decode cX14_agree 41 = .ok (.iload 4, 2) := by decide +kernel
theorem dX14_agree_43 : decode cX14_agree 43 = .ok (.isub, 1) := by decide +kernel
theorem dX14_agree_44 : decode cX14_agree 44 = .ok (.istore 7, 2) := by decide +kernel
theorem dX14_agree_46 : decode cX14_agree 46 = .ok (.iload 7, 2) := by decide +kernel
theorem dX14_agree_48 : decode cX14_agree 48 = .ok (.bipush 64, 2) := by decide +kernel
theorem dX14_agree_50 : decode cX14_agree 50 = .ok (.if_icmp .lt 13, 3) := by decide +kernel
theorem dX14_agree_53 : decode cX14_agree 53 = .ok (.lload 5, 2) := by decide +kernel
theorem dX14_agree_55 : decode cX14_agree 55 = .ok (.lconst 0, 1) := by decide +kernel
theorem dX14_agree_56 : decode cX14_agree 56 = .ok (.lcmp, 1) := by decide +kernel
theorem dX14_agree_57 : decode cX14_agree 57 = .ok (.ifCond .eq 21, 3) := by decide +kernel
theorem dX14_agree_60 : decode cX14_agree 60 = .ok (.goto 16, 3) := by decide +kernel
theorem dX14_agree_63 : decode cX14_agree 63 = .ok (.lload 5, 2) := by decide +kernel
theorem dX14_agree_65 : decode cX14_agree 65 = .ok (.bipush 64, 2) := by decide +kernel
theorem dX14_agree_67 : decode cX14_agree 67 = .ok (.iload 7, 2) := by decide +kernel
theorem dX14_agree_69 : decode cX14_agree 69 = .ok (.isub, 1) := by decide +kernel
theorem dX14_agree_70 : decode cX14_agree 70 = .ok (.lushr, 1) := by decide +kernel
theorem dX14_agree_71 : decode cX14_agree 71 = .ok (.lconst 0, 1) := by decide +kernel
theorem dX14_agree_72 : decode cX14_agree 72 = .ok (.lcmp, 1) := by decide +kernel
theorem dX14_agree_73 : decode cX14_agree 73 = .ok (.ifCond .eq 5, 3) := by decide +kernel
theorem dX14_agree_76 : decode cX14_agree 76 = .ok (.iconst 0, 1) := by decide +kernel
theorem dX14_agree_77 : decode cX14_agree 77 = .ok (.ireturn, 1) := by decide +kernel
theorem dX14_agree_78 : decode cX14_agree 78 = .ok (.iinc 4 64, 3) := by decide +kernel
theorem dX14_agree_81 : decode cX14_agree 81 = .ok (.goto (-78), 3) := by decide +kernel
theorem dX14_agree_84 : decode cX14_agree 84 = .ok (.iconst 1, 1) := by decide +kernel
theorem dX14_agree_85 : decode cX14_agree 85 = .ok (.ireturn, 1) := by decide +kernel
theorem dX14_parting_0 : decode cX14_parting 0 = .ok (.iconst 0, 1) := by decide +kernel
theorem dX14_parting_1 : decode cX14_parting 1 = .ok (.istore_n 2, 1) := by decide +kernel
theorem dX14_parting_2 : decode cX14_parting 2 = .ok (.aload_n 0, 1) := by decide +kernel
theorem dX14_parting_3 : decode cX14_parting 3 = .ok (.getfield 7, 3) := by decide +kernel
theorem dX14_parting_6 : decode cX14_parting 6 = .ok (.iconst 4, 1) := by decide +kernel
theorem dX14_parting_7 : decode cX14_parting 7 = .ok (.iload_n 1, 1) := by decide +kernel
theorem dX14_parting_8 : decode cX14_parting 8 = .ok (.imul, 1) := by decide +kernel
theorem dX14_parting_9 : decode cX14_parting 9 = .ok (.iload_n 2, 1) := by decide +kernel
theorem dX14_parting_10 : decode cX14_parting 10 = .ok (.bipush 64, 2) := by decide +kernel
theorem dX14_parting_12 : decode cX14_parting 12 = .ok (.idiv, 1) := by decide +kernel
theorem dX14_parting_13 : decode cX14_parting 13 = .ok (.iadd, 1) := by decide +kernel
theorem dX14_parting_14 : decode cX14_parting 14 = .ok (.laload, 1) := by decide +kernel
theorem dX14_parting_15 : decode cX14_parting 15 = .ok (.bipush 63, 2) := by decide +kernel
theorem dX14_parting_17 : decode cX14_parting 17 = .ok (.iload_n 2, 1) := by decide +kernel
theorem dX14_parting_18 : decode cX14_parting 18 = .ok (.bipush 64, 2) := by decide +kernel
theorem dX14_parting_20 : decode cX14_parting 20 = .ok (.irem, 1) := by decide +kernel
theorem dX14_parting_21 : decode cX14_parting 21 = .ok (.isub, 1) := by decide +kernel
theorem dX14_parting_22 : decode cX14_parting 22 = .ok (.lshr, 1) := by decide +kernel
theorem dX14_parting_23 : decode cX14_parting 23 = .ok (.lconst 1, 1) := by decide +kernel
theorem dX14_parting_24 : decode cX14_parting 24 = .ok (.land, 1) := by decide +kernel
theorem dX14_parting_25 : decode cX14_parting 25 = .ok (.aload_n 0, 1) := by decide +kernel
theorem dX14_parting_26 : decode cX14_parting 26 = .ok (.getfield 7, 3) := by decide +kernel
theorem dX14_parting_29 : decode cX14_parting 29 = .ok (.iconst 4, 1) := by decide +kernel
theorem dX14_parting_30 : decode cX14_parting 30 = .ok (.iload_n 1, 1) := by decide +kernel
theorem dX14_parting_31 : decode cX14_parting 31 = .ok (.imul, 1) := by decide +kernel
theorem dX14_parting_32 : decode cX14_parting 32 = .ok (.iconst 4, 1) := by decide +kernel
theorem dX14_parting_33 : decode cX14_parting 33 = .ok (.iadd, 1) := by decide +kernel
theorem dX14_parting_34 : decode cX14_parting 34 = .ok (.iload_n 2, 1) := by decide +kernel
theorem dX14_parting_35 : decode cX14_parting 35 = .ok (.bipush 64, 2) := by decide +kernel
theorem dX14_parting_37 : decode cX14_parting 37 = .ok (.idiv, 1) := by decide +kernel
theorem dX14_parting_38 : decode cX14_parting 38 = .ok (.iadd, 1) := by decide +kernel
theorem dX14_parting_39 : decode cX14_parting 39 = .ok (.laload, 1) := by decide +kernel
theorem dX14_parting_40 : decode cX14_parting 40 = .ok (.bipush 63, 2) := by decide +kernel
theorem dX14_parting_42 : decode cX14_parting 42 = .ok (.iload_n 2, 1) := by decide +kernel
theorem dX14_parting_43 : decode cX14_parting 43 = .ok (.bipush 64, 2) := by decide +kernel
theorem dX14_parting_45 : decode cX14_parting 45 = .ok (.irem, 1) := by decide +kernel
theorem dX14_parting_46 : decode cX14_parting 46 = .ok (.isub, 1) := by decide +kernel
theorem dX14_parting_47 : decode cX14_parting 47 = .ok (.lshr, 1) := by decide +kernel
theorem dX14_parting_48 : decode cX14_parting 48 = .ok (.lconst 1, 1) := by decide +kernel
theorem dX14_parting_49 : decode cX14_parting 49 = .ok (.land, 1) := by decide +kernel
theorem dX14_parting_50 : decode cX14_parting 50 = .ok (.lcmp, 1) := by decide +kernel
theorem dX14_parting_51 : decode cX14_parting 51 = .ok (.ifCond .ne 9, 3) := by decide +kernel
theorem dX14_parting_54 : decode cX14_parting 54 = .ok (.iinc 2 1, 3) := by decide +kernel
theorem dX14_parting_57 : decode cX14_parting 57 = .ok (.goto (-55), 3) := by decide +kernel
theorem dX14_parting_60 : decode cX14_parting 60 = .ok (.iload_n 2, 1) := by decide +kernel
theorem dX14_parting_61 : decode cX14_parting 61 = .ok (.ireturn, 1) := by decide +kernel
theorem dX14_level_0 : decode cX14_level 0 = .ok (.iconst 0, 1) := by decide +kernel
theorem dX14_level_1 : decode cX14_level 1 = .ok (.istore_n 2, 1) := by decide +kernel
theorem dX14_level_2 : decode cX14_level 2 = .ok (.iconst 0, 1) := by decide +kernel
theorem dX14_level_3 : decode cX14_level 3 = .ok (.istore_n 3, 1) := by decide +kernel
theorem dX14_level_4 : decode cX14_level 4 = .ok (.iload_n 3, 1) := by decide +kernel
theorem dX14_level_5 : decode cX14_level 5 = .ok (.aload_n 0, 1) := by decide +kernel
theorem dX14_level_6 : decode cX14_level 6 = .ok (.getfield 79, 3) := by decide +kernel
theorem dX14_level_9 : decode cX14_level 9 = .ok (.if_icmp .ge 283, 3) := by decide +kernel
theorem dX14_level_12 : decode cX14_level 12 = .ok (.iload_n 3, 1) := by decide +kernel
theorem dX14_level_13 : decode cX14_level 13 = .ok (.iconst 1, 1) := by decide +kernel
theorem dX14_level_14 : decode cX14_level 14 = .ok (.iadd, 1) := by decide +kernel
theorem dX14_level_15 : decode cX14_level 15 = .ok (.aload_n 0, 1) := by decide +kernel
theorem dX14_level_16 : decode cX14_level 16 = .ok (.getfield 79, 3) := by decide +kernel
theorem dX14_level_19 : decode cX14_level 19 = .ok (.if_icmp .ge 29, 3) := by decide +kernel
theorem dX14_level_22 : decode cX14_level 22 = .ok (.aload_n 0, 1) := by decide +kernel
theorem dX14_level_23 : decode cX14_level 23 = .ok (.aload_n 0, 1) := by decide +kernel
theorem dX14_level_24 : decode cX14_level 24 = .ok (.getfield 29, 3) := by decide +kernel
theorem dX14_level_27 : decode cX14_level 27 = .ok (.iload_n 3, 1) := by decide +kernel
theorem dX14_level_28 : decode cX14_level 28 = .ok (.iaload, 1) := by decide +kernel
theorem dX14_level_29 : decode cX14_level 29 = .ok (.aload_n 0, 1) := by decide +kernel
theorem dX14_level_30 : decode cX14_level 30 = .ok (.getfield 29, 3) := by decide +kernel
theorem dX14_level_33 : decode cX14_level 33 = .ok (.iload_n 3, 1) := by decide +kernel
theorem dX14_level_34 : decode cX14_level 34 = .ok (.iconst 1, 1) := by decide +kernel
theorem dX14_level_35 : decode cX14_level 35 = .ok (.iadd, 1) := by decide +kernel
theorem dX14_level_36 : decode cX14_level 36 = .ok (.iaload, 1) := by decide +kernel
theorem dX14_level_37 : decode cX14_level 37 = .ok (.iload_n 1, 1) := by decide +kernel
theorem dX14_level_38 : decode cX14_level 38 = .ok (.invokevirtual 108, 3) := by decide +kernel
theorem dX14_level_41 : decode cX14_level 41 = .ok (.ifCond .eq 7, 3) := by decide +kernel
theorem dX14_level_44 : decode cX14_level 44 = .ok (.iconst 1, 1) := by decide +kernel
theorem dX14_level_45 : decode cX14_level 45 = .ok (.goto 4, 3) := by decide +kernel
theorem dX14_level_48 : decode cX14_level 48 = .ok (.iconst 0, 1) := by decide +kernel
theorem dX14_level_49 : decode cX14_level 49 = .ok (.istore 4, 2) := by decide +kernel
theorem dX14_level_51 : decode cX14_level 51 = .ok (.aload_n 0, 1) := by decide +kernel
theorem dX14_level_52 : decode cX14_level 52 = .ok (.getfield 29, 3) := by decide +kernel
theorem dX14_level_55 : decode cX14_level 55 = .ok (.iload_n 3, 1) := by decide +kernel
theorem dX14_level_56 : decode cX14_level 56 = .ok (.iaload, 1) := by decide +kernel
theorem dX14_level_57 : decode cX14_level 57 = .ok (.istore 5, 2) := by decide +kernel
theorem dX14_level_59 : decode cX14_level 59 = .ok (.iload 4, 2) := by decide +kernel
theorem dX14_level_61 : decode cX14_level 61 = .ok (.ifCond .eq 21, 3) := by decide +kernel
theorem dX14_level_64 : decode cX14_level 64 = .ok (.aload_n 0, 1) := by decide +kernel
theorem dX14_level_65 : decode cX14_level 65 = .ok (.getfield 32, 3) := by decide +kernel
theorem dX14_level_68 : decode cX14_level 68 = .ok (.iload_n 3, 1) := by decide +kernel
theorem dX14_level_69 : decode cX14_level 69 = .ok (.iaload, 1) := by decide +kernel
theorem dX14_level_70 : decode cX14_level 70 = .ok (.aload_n 0, 1) := by decide +kernel
theorem dX14_level_71 : decode cX14_level 71 = .ok (.getfield 32, 3) := by decide +kernel
theorem dX14_level_74 : decode cX14_level 74 = .ok (.iload_n 3, 1) := by decide +kernel
theorem dX14_level_75 : decode cX14_level 75 = .ok (.iconst 1, 1) := by decide +kernel
theorem dX14_level_76 : decode cX14_level 76 = .ok (.iadd, 1) := by decide +kernel
theorem dX14_level_77 : decode cX14_level 77 = .ok (.iaload, 1) := by decide +kernel
theorem dX14_level_78 : decode cX14_level 78 = .ok (.iadd, 1) := by decide +kernel
theorem dX14_level_79 : decode cX14_level 79 = .ok (.goto 9, 3) := by decide +kernel
theorem dX14_level_82 : decode cX14_level 82 = .ok (.aload_n 0, 1) := by decide +kernel
theorem dX14_level_83 : decode cX14_level 83 = .ok (.getfield 32, 3) := by decide +kernel
theorem dX14_level_86 : decode cX14_level 86 = .ok (.iload_n 3, 1) := by decide +kernel
theorem dX14_level_87 : decode cX14_level 87 = .ok (.iaload, 1) := by decide +kernel
theorem dX14_level_88 : decode cX14_level 88 = .ok (.istore 6, 2) := by decide +kernel
theorem dX14_level_90 : decode cX14_level 90 = .ok (.iload 6, 2) := by decide +kernel
theorem dX14_level_92 : decode cX14_level 92 = .ok (.iconst 1, 1) := by decide +kernel
theorem dX14_level_93 : decode cX14_level 93 = .ok (.if_icmp .le 127, 3) := by decide +kernel
theorem dX14_level_96 : decode cX14_level 96 = .ok (.iload 4, 2) := by decide +kernel
theorem dX14_level_98 : decode cX14_level 98 = .ok (.ifCond .ne 36, 3) := by decide +kernel
theorem dX14_level_101 : decode cX14_level 101 = .ok (.aload_n 0, 1) := by decide +kernel
theorem dX14_level_102 : decode cX14_level 102 = .ok (.getfield 7, 3) := by decide +kernel
theorem dX14_level_105 : decode cX14_level 105 = .ok (.iconst 4, 1) := by decide +kernel
theorem dX14_level_106 : decode cX14_level 106 = .ok (.iload 5, 2) := by decide +kernel
theorem dX14_level_108 : decode cX14_level 108 = .ok (.imul, 1) := by decide +kernel
theorem dX14_level_109 : decode cX14_level 109 = .ok (.iload_n 1, 1) := by decide +kernel
theorem dX14_level_110 : decode cX14_level 110 = .ok (.bipush 64, 2) := by decide +kernel
theorem dX14_level_112 : decode cX14_level 112 = .ok (.idiv, 1) := by decide +kernel
theorem dX14_level_113 : decode cX14_level 113 = .ok (.iadd, 1) := by decide +kernel
theorem dX14_level_114 : decode cX14_level 114 = .ok (.laload, 1) := by decide +kernel
theorem dX14_level_115 : decode cX14_level 115 = .ok (.bipush 63, 2) := by decide +kernel
theorem dX14_level_117 : decode cX14_level 117 = .ok (.iload_n 1, 1) := by decide +kernel
theorem dX14_level_118 : decode cX14_level 118 = .ok (.bipush 64, 2) := by decide +kernel
theorem dX14_level_120 : decode cX14_level 120 = .ok (.irem, 1) := by decide +kernel
theorem dX14_level_121 : decode cX14_level 121 = .ok (.isub, 1) := by decide +kernel
theorem dX14_level_122 : decode cX14_level 122 = .ok (.lshr, 1) := by decide +kernel
theorem dX14_level_123 : decode cX14_level 123 = .ok (.lconst 1, 1) := by decide +kernel
theorem dX14_level_124 : decode cX14_level 124 = .ok (.land, 1) := by decide +kernel
theorem dX14_level_125 : decode cX14_level 125 = .ok (.lconst 1, 1) := by decide +kernel
theorem dX14_level_126 : decode cX14_level 126 = .ok (.lcmp, 1) := by decide +kernel
theorem dX14_level_127 : decode cX14_level 127 = .ok (.ifCond .ne 7, 3) := by decide +kernel
theorem dX14_level_130 : decode cX14_level 130 = .ok (.iconst 1, 1) := by decide +kernel
theorem dX14_level_131 : decode cX14_level 131 = .ok (.goto 4, 3) := by decide +kernel
theorem dX14_level_134 : decode cX14_level 134 = .ok (.iconst 0, 1) := by decide +kernel
theorem dX14_level_135 : decode cX14_level 135 = .ok (.istore 7, 2) := by decide +kernel
theorem dX14_level_137 : decode cX14_level 137 = .ok (.aload_n 0, 1) := by decide +kernel
theorem dX14_level_138 : decode cX14_level 138 = .ok (.getfield 35, 3) := by decide +kernel
theorem dX14_level_141 : decode cX14_level 141 = .ok (.invokevirtual 82, 3) := by decide +kernel
theorem dX14_level_144 : decode cX14_level 144 = .ok (.aload_n 0, 1) := by decide +kernel
theorem dX14_level_145 : decode cX14_level 145 = .ok (.getfield 35, 3) := by decide +kernel
theorem dX14_level_148 : decode cX14_level 148 = .ok (.iconst 1, 1) := by decide +kernel
theorem dX14_level_149 : decode cX14_level 149 = .ok (.invokevirtual 85, 3) := by decide +kernel
theorem dX14_level_152 : decode cX14_level 152 = .ok (.aload_n 0, 1) := by decide +kernel
theorem dX14_level_153 : decode cX14_level 153 = .ok (.aload_n 0, 1) := by decide +kernel
theorem dX14_level_154 : decode cX14_level 154 = .ok (.getfield 26, 3) := by decide +kernel
theorem dX14_level_157 : decode cX14_level 157 = .ok (.iconst 4, 1) := by decide +kernel
theorem dX14_level_158 : decode cX14_level 158 = .ok (.iload_n 3, 1) := by decide +kernel
theorem dX14_level_159 : decode cX14_level 159 = .ok (.imul, 1) := by decide +kernel
theorem dX14_level_160 : decode cX14_level 160 = .ok (.iload 7, 2) := by decide +kernel
theorem dX14_level_162 : decode cX14_level 162 = .ok (.ifCond .ne 7, 3) := by decide +kernel
theorem dX14_level_165 : decode cX14_level 165 = .ok (.iconst 1, 1) := by decide +kernel
theorem dX14_level_166 : decode cX14_level 166 = .ok (.goto 4, 3) := by decide +kernel
theorem dX14_level_169 : decode cX14_level 169 = .ok (.iconst 0, 1) := by decide +kernel
theorem dX14_level_170 : decode cX14_level 170 = .ok (.invokevirtual 89, 3) := by decide +kernel
theorem dX14_level_173 : decode cX14_level 173 = .ok (.aload_n 0, 1) := by decide +kernel
theorem dX14_level_174 : decode cX14_level 174 = .ok (.aload_n 0, 1) := by decide +kernel
theorem dX14_level_175 : decode cX14_level 175 = .ok (.getfield 26, 3) := by decide +kernel
theorem dX14_level_178 : decode cX14_level 178 = .ok (.iload 4, 2) := by decide +kernel
theorem dX14_level_180 : decode cX14_level 180 = .ok (.ifCond .eq 11, 3) := by decide +kernel
theorem dX14_level_183 : decode cX14_level 183 = .ok (.iconst 4, 1) := by decide +kernel
theorem dX14_level_184 : decode cX14_level 184 = .ok (.iload_n 3, 1) := by decide +kernel
theorem dX14_level_185 : decode cX14_level 185 = .ok (.imul, 1) := by decide +kernel
theorem dX14_level_186 : decode cX14_level 186 = .ok (.iconst 4, 1) := by decide +kernel
theorem dX14_level_187 : decode cX14_level 187 = .ok (.iadd, 1) := by decide +kernel
theorem dX14_level_188 : decode cX14_level 188 = .ok (.goto 6, 3) := by decide +kernel
theorem dX14_level_191 : decode cX14_level 191 = .ok (.iconst 4, 1) := by decide +kernel
theorem dX14_level_192 : decode cX14_level 192 = .ok (.iload_n 3, 1) := by decide +kernel
theorem dX14_level_193 : decode cX14_level 193 = .ok (.imul, 1) := by decide +kernel
theorem dX14_level_194 : decode cX14_level 194 = .ok (.iload 4, 2) := by decide +kernel
theorem dX14_level_196 : decode cX14_level 196 = .ok (.ifCond .ne 8, 3) := by decide +kernel
theorem dX14_level_199 : decode cX14_level 199 = .ok (.iload 7, 2) := by decide +kernel
theorem dX14_level_201 : decode cX14_level 201 = .ok (.ifCond .eq 7, 3) := by decide +kernel
theorem dX14_level_204 : decode cX14_level 204 = .ok (.iconst 1, 1) := by decide +kernel
theorem dX14_level_205 : decode cX14_level 205 = .ok (.goto 4, 3) := by decide +kernel
theorem dX14_level_208 : decode cX14_level 208 = .ok (.iconst 0, 1) := by decide +kernel
theorem dX14_level_209 : decode cX14_level 209 = .ok (.invokevirtual 89, 3) := by decide +kernel
theorem dX14_level_212 : decode cX14_level 212 = .ok (.aload_n 0, 1) := by decide +kernel
theorem dX14_level_213 : decode cX14_level 213 = .ok (.iload_n 2, 1) := by decide +kernel
theorem dX14_level_214 : decode cX14_level 214 = .ok (.invokevirtual 92, 3) := by decide +kernel
theorem dX14_level_217 : decode cX14_level 217 = .ok (.goto 40, 3) := by decide +kernel
theorem dX14_level_220 : decode cX14_level 220 = .ok (.iconst 0, 1) := by decide +kernel
theorem dX14_level_221 : decode cX14_level 221 = .ok (.istore 7, 2) := by decide +kernel
theorem dX14_level_223 : decode cX14_level 223 = .ok (.iload 7, 2) := by decide +kernel
theorem dX14_level_225 : decode cX14_level 225 = .ok (.iconst 4, 1) := by decide +kernel
theorem dX14_level_226 : decode cX14_level 226 = .ok (.if_icmp .ge 31, 3) := by decide +kernel
theorem dX14_level_229 : decode cX14_level 229 = .ok (.aload_n 0, 1) := by decide +kernel
theorem dX14_level_230 : decode cX14_level 230 = .ok (.getfield 26, 3) := by decide +kernel
theorem dX14_level_233 : decode cX14_level 233 = .ok (.iconst 4, 1) := by decide +kernel
theorem dX14_level_234 : decode cX14_level 234 = .ok (.iload_n 2, 1) := by decide +kernel
theorem dX14_level_235 : decode cX14_level 235 = .ok (.imul, 1) := by decide +kernel
theorem dX14_level_236 : decode cX14_level 236 = .ok (.iload 7, 2) := by decide +kernel
theorem dX14_level_238 : decode cX14_level 238 = .ok (.iadd, 1) := by decide +kernel
theorem dX14_level_239 : decode cX14_level 239 = .ok (.aload_n 0, 1) := by decide +kernel
theorem dX14_level_240 : decode cX14_level 240 = .ok (.getfield 26, 3) := by decide +kernel
theorem dX14_level_243 : decode cX14_level 243 = .ok (.iconst 4, 1) := by decide +kernel
theorem dX14_level_244 : decode cX14_level 244 = .ok (.iload_n 3, 1) := by decide +kernel
theorem dX14_level_245 : decode cX14_level 245 = .ok (.imul, 1) := by decide +kernel
theorem dX14_level_246 : decode cX14_level 246 = .ok (.iload 7, 2) := by decide +kernel
theorem dX14_level_248 : decode cX14_level 248 = .ok (.iadd, 1) := by decide +kernel
theorem dX14_level_249 : decode cX14_level 249 = .ok (.laload, 1) := by decide +kernel
theorem dX14_level_250 : decode cX14_level 250 = .ok (.lastore, 1) := by decide +kernel
theorem dX14_level_251 : decode cX14_level 251 = .ok (.iinc 7 1, 3) := by decide +kernel
theorem dX14_level_254 : decode cX14_level 254 = .ok (.goto (-31), 3) := by decide +kernel
theorem dX14_level_257 : decode cX14_level 257 = .ok (.aload_n 0, 1) := by decide +kernel
theorem dX14_level_258 : decode cX14_level 258 = .ok (.getfield 29, 3) := by decide +kernel
theorem dX14_level_261 : decode cX14_level 261 = .ok (.iload_n 2, 1) := by decide +kernel
theorem dX14_level_262 : decode cX14_level 262 = .ok (.iload 5, 2) := by decide +kernel
theorem dX14_level_264 : decode cX14_level 264 = .ok (.iastore, 1) := by decide +kernel
theorem dX14_level_265 : decode cX14_level 265 = .ok (.aload_n 0, 1) := by decide +kernel
theorem dX14_level_266 : decode cX14_level 266 = .ok (.getfield 32, 3) := by decide +kernel
theorem dX14_level_269 : decode cX14_level 269 = .ok (.iload_n 2, 1) := by decide +kernel
theorem dX14_level_270 : decode cX14_level 270 = .ok (.iload 6, 2) := by decide +kernel
theorem dX14_level_272 : decode cX14_level 272 = .ok (.iastore, 1) := by decide +kernel
theorem dX14_level_273 : decode cX14_level 273 = .ok (.iinc 2 1, 3) := by decide +kernel
theorem dX14_level_276 : decode cX14_level 276 = .ok (.iload_n 3, 1) := by decide +kernel
theorem dX14_level_277 : decode cX14_level 277 = .ok (.iload 4, 2) := by decide +kernel
theorem dX14_level_279 : decode cX14_level 279 = .ok (.ifCond .eq 7, 3) := by decide +kernel
theorem dX14_level_282 : decode cX14_level 282 = .ok (.iconst 2, 1) := by decide +kernel
theorem dX14_level_283 : decode cX14_level 283 = .ok (.goto 4, 3) := by decide +kernel
theorem dX14_level_286 : decode cX14_level 286 = .ok (.iconst 1, 1) := by decide +kernel
theorem dX14_level_287 : decode cX14_level 287 = .ok (.iadd, 1) := by decide +kernel
theorem dX14_level_288 : decode cX14_level 288 = .ok (.istore_n 3, 1) := by decide +kernel
theorem dX14_level_289 : decode cX14_level 289 = .ok (.goto (-285), 3) := by decide +kernel
theorem dX14_level_292 : decode cX14_level 292 = .ok (.aload_n 0, 1) := by decide +kernel
theorem dX14_level_293 : decode cX14_level 293 = .ok (.iload_n 2, 1) := by decide +kernel
theorem dX14_level_294 : decode cX14_level 294 = .ok (.putfield 79, 3) := by decide +kernel
theorem dX14_level_297 : decode cX14_level 297 = .ok (.return_, 1) := by decide +kernel
theorem dX15_make_0 : decode cX15_make 0 = .ok (.aload_n 0, 1) := by decide +kernel
theorem dX15_make_1 : decode cX15_make 1 = .ok (.getfield 27, 3) := by decide +kernel
theorem dX15_make_4 : decode cX15_make 4 = .ok (.istore 6, 2) := by decide +kernel
theorem dX15_make_6 : decode cX15_make 6 = .ok (.aload_n 0, 1) := by decide +kernel
theorem dX15_make_7 : decode cX15_make 7 = .ok (.dup, 1) := by decide +kernel
theorem dX15_make_8 : decode cX15_make 8 = .ok (.getfield 27, 3) := by decide +kernel
theorem dX15_make_11 : decode cX15_make 11 = .ok (.iconst 1, 1) := by decide +kernel
theorem dX15_make_12 : decode cX15_make 12 = .ok (.iadd, 1) := by decide +kernel
theorem dX15_make_13 : decode cX15_make 13 = .ok (.putfield 27, 3) := by decide +kernel
theorem dX15_make_16 : decode cX15_make 16 = .ok (.aload_n 0, 1) := by decide +kernel
theorem dX15_make_17 : decode cX15_make 17 = .ok (.getfield 7, 3) := by decide +kernel
theorem dX15_make_20 : decode cX15_make 20 = .ok (.iload 6, 2) := by decide +kernel
theorem dX15_make_22 : decode cX15_make 22 = .ok (.iload_n 1, 1) := by decide +kernel
theorem dX15_make_23 : decode cX15_make 23 = .ok (.i2b, 1) := by decide +kernel
theorem dX15_make_24 : decode cX15_make 24 = .ok (.bastore, 1) := by decide +kernel
theorem dX15_make_25 : decode cX15_make 25 = .ok (.aload_n 0, 1) := by decide +kernel
theorem dX15_make_26 : decode cX15_make 26 = .ok (.getfield 13, 3) := by decide +kernel
theorem dX15_make_29 : decode cX15_make 29 = .ok (.iload 6, 2) := by decide +kernel
theorem dX15_make_31 : decode cX15_make 31 = .ok (.lload_n 2, 1) := by decide +kernel
theorem dX15_make_32 : decode cX15_make 32 = .ok (.lastore, 1) := by decide +kernel
theorem dX15_make_33 : decode cX15_make 33 = .ok (.aload_n 0, 1) := by decide +kernel
theorem dX15_make_34 : decode cX15_make 34 = .ok (.getfield 17, 3) := by decide +kernel
theorem dX15_make_37 : decode cX15_make 37 = .ok (.iload 6, 2) := by decide +kernel
theorem dX15_make_39 : decode cX15_make 39 = .ok (.lload 4, 2) := by decide +kernel
theorem dX15_make_41 : decode cX15_make 41 = .ok (.lastore, 1) := by decide +kernel
theorem dX15_make_42 : decode cX15_make 42 = .ok (.aload_n 0, 1) := by decide +kernel
theorem dX15_make_43 : decode cX15_make 43 = .ok (.getfield 20, 3) := by decide +kernel
theorem dX15_make_46 : decode cX15_make 46 = .ok (.iload 6, 2) := by decide +kernel
theorem dX15_make_48 : decode cX15_make 48 = .ok (.iconst (-1), 1) := by decide +kernel
theorem dX15_make_49 : decode cX15_make 49 = .ok (.iastore, 1) := by decide +kernel
theorem dX15_make_50 : decode cX15_make 50 = .ok (.aload_n 0, 1) := by decide +kernel
theorem dX15_make_51 : decode cX15_make 51 = .ok (.getfield 24, 3) := by decide +kernel
theorem dX15_make_54 : decode cX15_make 54 = .ok (.iload 6, 2) := by decide +kernel
theorem dX15_make_56 : decode cX15_make 56 = .ok (.iconst (-1), 1) := by decide +kernel
theorem dX15_make_57 : decode cX15_make 57 = .ok (.iastore, 1) := by decide +kernel
theorem dX15_make_58 : decode cX15_make 58 = .ok (.iload 6, 2) := by decide +kernel
theorem dX15_make_60 : decode cX15_make 60 = .ok (.ireturn, 1) := by decide +kernel
theorem dX15_add_0 : decode cX15_add 0 = .ok (.aload_n 0, 1) := by decide +kernel
theorem dX15_add_1 : decode cX15_add 1 = .ok (.getfield 24, 3) := by decide +kernel
theorem dX15_add_4 : decode cX15_add 4 = .ok (.iload_n 2, 1) := by decide +kernel
theorem dX15_add_5 : decode cX15_add 5 = .ok (.iconst (-1), 1) := by decide +kernel
theorem dX15_add_6 : decode cX15_add 6 = .ok (.iastore, 1) := by decide +kernel
theorem dX15_add_7 : decode cX15_add 7 = .ok (.aload_n 0, 1) := by decide +kernel
theorem dX15_add_8 : decode cX15_add 8 = .ok (.getfield 20, 3) := by decide +kernel
theorem dX15_add_11 : decode cX15_add 11 = .ok (.iload_n 1, 1) := by decide +kernel
theorem dX15_add_12 : decode cX15_add 12 = .ok (.iaload, 1) := by decide +kernel
theorem dX15_add_13 : decode cX15_add 13 = .ok (.iconst (-1), 1) := by decide +kernel
theorem dX15_add_14 : decode cX15_add 14 = .ok (.if_icmp .ne 11, 3) := by decide +kernel
theorem dX15_add_17 : decode cX15_add 17 = .ok (.aload_n 0, 1) := by decide +kernel
theorem dX15_add_18 : decode cX15_add 18 = .ok (.getfield 20, 3) := by decide +kernel
theorem dX15_add_21 : decode cX15_add 21 = .ok (.iload_n 1, 1) := by decide +kernel
theorem dX15_add_22 : decode cX15_add 22 = .ok (.iload_n 2, 1) := by decide +kernel
theorem dX15_add_23 : decode cX15_add 23 = .ok (.iastore, 1) := by decide +kernel
theorem dX15_add_24 : decode cX15_add 24 = .ok (.return_, 1) := by decide +kernel
theorem dX15_add_25 : decode cX15_add 25 = .ok (.aload_n 0, 1) := by decide +kernel
theorem dX15_add_26 : decode cX15_add 26 = .ok (.getfield 20, 3) := by decide +kernel
theorem dX15_add_29 : decode cX15_add 29 = .ok (.iload_n 1, 1) := by decide +kernel
theorem dX15_add_30 : decode cX15_add 30 = .ok (.iaload, 1) := by decide +kernel
theorem dX15_add_31 : decode cX15_add 31 = .ok (.istore_n 3, 1) := by decide +kernel
theorem dX15_add_32 : decode cX15_add 32 = .ok (.aload_n 0, 1) := by decide +kernel
theorem dX15_add_33 : decode cX15_add 33 = .ok (.getfield 24, 3) := by decide +kernel
theorem dX15_add_36 : decode cX15_add 36 = .ok (.iload_n 3, 1) := by decide +kernel
theorem dX15_add_37 : decode cX15_add 37 = .ok (.iaload, 1) := by decide +kernel
theorem dX15_add_38 : decode cX15_add 38 = .ok (.iconst (-1), 1) := by decide +kernel
theorem dX15_add_39 : decode cX15_add 39 = .ok (.if_icmp .eq 13, 3) := by decide +kernel
theorem dX15_add_42 : decode cX15_add 42 = .ok (.aload_n 0, 1) := by decide +kernel
theorem dX15_add_43 : decode cX15_add 43 = .ok (.getfield 24, 3) := by decide +kernel
theorem dX15_add_46 : decode cX15_add 46 = .ok (.iload_n 3, 1) := by decide +kernel
theorem dX15_add_47 : decode cX15_add 47 = .ok (.iaload, 1) := by decide +kernel
theorem dX15_add_48 : decode cX15_add 48 = .ok (.istore_n 3, 1) := by decide +kernel
theorem dX15_add_49 : decode cX15_add 49 = .ok (.goto (-17), 3) := by decide +kernel
theorem dX15_add_52 : decode cX15_add 52 = .ok (.aload_n 0, 1) := by decide +kernel
theorem dX15_add_53 : decode cX15_add 53 = .ok (.getfield 24, 3) := by decide +kernel
theorem dX15_add_56 : decode cX15_add 56 = .ok (.iload_n 3, 1) := by decide +kernel
theorem dX15_add_57 : decode cX15_add 57 = .ok (.iload_n 2, 1) := by decide +kernel
theorem dX15_add_58 : decode cX15_add 58 = .ok (.iastore, 1) := by decide +kernel
theorem dX15_add_59 : decode cX15_add 59 = .ok (.return_, 1) := by decide +kernel
theorem dX15_count_0 : decode cX15_count 0 = .ok (.iconst 0, 1) := by decide +kernel
theorem dX15_count_1 : decode cX15_count 1 = .ok (.istore_n 2, 1) := by decide +kernel
theorem dX15_count_2 : decode cX15_count 2 = .ok (.aload_n 0, 1) := by decide +kernel
theorem dX15_count_3 : decode cX15_count 3 = .ok (.getfield 20, 3) := by decide +kernel
theorem dX15_count_6 : decode cX15_count 6 = .ok (.iload_n 1, 1) := by decide +kernel
theorem dX15_count_7 : decode cX15_count 7 = .ok (.iaload, 1) := by decide +kernel
theorem dX15_count_8 : decode cX15_count 8 = .ok (.istore_n 3, 1) := by decide +kernel
theorem dX15_count_9 : decode cX15_count 9 = .ok (.iload_n 3, 1) := by decide +kernel
theorem dX15_count_10 : decode cX15_count 10 = .ok (.iconst (-1), 1) := by decide +kernel
theorem dX15_count_11 : decode cX15_count 11 = .ok (.if_icmp .eq 16, 3) := by decide +kernel
theorem dX15_count_14 : decode cX15_count 14 = .ok (.iinc 2 1, 3) := by decide +kernel
theorem dX15_count_17 : decode cX15_count 17 = .ok (.aload_n 0, 1) := by decide +kernel
theorem dX15_count_18 : decode cX15_count 18 = .ok (.getfield 24, 3) := by decide +kernel
theorem dX15_count_21 : decode cX15_count 21 = .ok (.iload_n 3, 1) := by decide +kernel
theorem dX15_count_22 : decode cX15_count 22 = .ok (.iaload, 1) := by decide +kernel
theorem dX15_count_23 : decode cX15_count 23 = .ok (.istore_n 3, 1) := by decide +kernel
theorem dX15_count_24 : decode cX15_count 24 = .ok (.goto (-15), 3) := by decide +kernel
theorem dX15_count_27 : decode cX15_count 27 = .ok (.iload_n 2, 1) := by decide +kernel
theorem dX15_count_28 : decode cX15_count 28 = .ok (.ireturn, 1) := by decide +kernel
theorem dX15_part_0 : decode cX15_part 0 = .ok (.lload_n 2, 1) := by decide +kernel
theorem dX15_part_1 : decode cX15_part 1 = .ok (.lconst 0, 1) := by decide +kernel
theorem dX15_part_2 : decode cX15_part 2 = .ok (.lcmp, 1) := by decide +kernel
theorem dX15_part_3 : decode cX15_part 3 = .ok (.ifCond .ge 5, 3) := by decide +kernel
theorem dX15_part_6 : decode cX15_part 6 = .ok (.iconst (-1), 1) := by decide +kernel
theorem dX15_part_7 : decode cX15_part 7 = .ok (.ireturn, 1) := by decide +kernel
theorem dX15_part_8 : decode cX15_part 8 = .ok (.aload_n 0, 1) := by decide +kernel
theorem dX15_part_9 : decode cX15_part 9 = .ok (.getfield 20, 3) := by decide +kernel
theorem dX15_part_12 : decode cX15_part 12 = .ok (.iload_n 1, 1) := by decide +kernel
theorem dX15_part_13 : decode cX15_part 13 = .ok (.iaload, 1) := by decide +kernel
theorem dX15_part_14 : decode cX15_part 14 = .ok (.istore 4, 2) := by decide +kernel
theorem dX15_part_16 : decode cX15_part 16 = .ok (.lconst 0, 1) := by decide +kernel
theorem dX15_part_17 : decode cX15_part 17 = .ok (.lstore 5, 2) := by decide +kernel
theorem dX15_part_19 : decode cX15_part 19 = .ok (.lload 5, 2) := by decide +kernel
theorem dX15_part_21 : decode cX15_part 21 = .ok (.lload_n 2, 1) := by decide +kernel
theorem dX15_part_22 : decode cX15_part 22 = .ok (.lcmp, 1) := by decide +kernel
theorem dX15_part_23 : decode cX15_part 23 = .ok (.ifCond .ge 27, 3) := by decide +kernel
theorem dX15_part_26 : decode cX15_part 26 = .ok (.iload 4, 2) := by decide +kernel
theorem dX15_part_28 : decode cX15_part 28 = .ok (.iconst (-1), 1) := by decide +kernel
theorem dX15_part_29 : decode cX15_part 29 = .ok (.if_icmp .eq 21, 3) := by decide +kernel
theorem dX15_part_32 : decode cX15_part 32 = .ok (.aload_n 0, 1) := by decide +kernel
theorem dX15_part_33 : decode cX15_part 33 = .ok (.getfield 24, 3) := by decide +kernel
theorem dX15_part_36 : decode cX15_part 36 = .ok (.iload 4, 2) := by decide +kernel
theorem dX15_part_38 : decode cX15_part 38 = .ok (.iaload, 1) := by decide +kernel
theorem dX15_part_39 : decode cX15_part 39 = .ok (.istore 4, 2) := by decide +kernel
theorem dX15_part_41 : decode cX15_part 41 = .ok (.lload 5, 2) := by decide +kernel
theorem dX15_part_43 : decode cX15_part 43 = .ok (.lconst 1, 1) := by decide +kernel
theorem dX15_part_44 : decode cX15_part 44 = .ok (.ladd, 1) := by decide +kernel
theorem dX15_part_45 : decode cX15_part 45 = .ok (.lstore 5, 2) := by decide +kernel
theorem dX15_part_47 : decode cX15_part 47 = .ok (.goto (-28), 3) := by decide +kernel
theorem dX15_part_50 : decode cX15_part 50 = .ok (.iload 4, 2) := by decide +kernel
theorem dX15_part_52 : decode cX15_part 52 = .ok (.ireturn, 1) := by decide +kernel
theorem dX15_takeLast_0 : decode cX15_takeLast 0 = .ok (.aload_n 0, 1) := by decide +kernel
theorem dX15_takeLast_1 : decode cX15_takeLast 1 = .ok (.getfield 20, 3) := by decide +kernel
theorem dX15_takeLast_4 : decode cX15_takeLast 4 = .ok (.iload_n 1, 1) := by decide +kernel
theorem dX15_takeLast_5 : decode cX15_takeLast 5 = .ok (.iaload, 1) := by decide +kernel
theorem dX15_takeLast_6 : decode cX15_takeLast 6 = .ok (.istore_n 2, 1) := by decide +kernel
theorem dX15_takeLast_7 : decode cX15_takeLast 7 = .ok (.iconst (-1), 1) := by decide +kernel
theorem dX15_takeLast_8 : decode cX15_takeLast 8 = .ok (.istore_n 3, 1) := by decide +kernel
theorem dX15_takeLast_9 : decode cX15_takeLast 9 = .ok (.aload_n 0, 1) := by decide +kernel
theorem dX15_takeLast_10 : decode cX15_takeLast 10 = .ok (.getfield 24, 3) := by decide +kernel
theorem dX15_takeLast_13 : decode cX15_takeLast 13 = .ok (.iload_n 2, 1) := by decide +kernel
theorem dX15_takeLast_14 : decode cX15_takeLast 14 = .ok (.iaload, 1) := by decide +kernel
theorem dX15_takeLast_15 : decode cX15_takeLast 15 = .ok (.iconst (-1), 1) := by decide +kernel
theorem dX15_takeLast_16 : decode cX15_takeLast 16 = .ok (.if_icmp .eq 15, 3) := by decide +kernel
theorem dX15_takeLast_19 : decode cX15_takeLast 19 = .ok (.iload_n 2, 1) := by decide +kernel
theorem dX15_takeLast_20 : decode cX15_takeLast 20 = .ok (.istore_n 3, 1) := by decide +kernel
theorem dX15_takeLast_21 : decode cX15_takeLast 21 = .ok (.aload_n 0, 1) := by decide +kernel
theorem dX15_takeLast_22 : decode cX15_takeLast 22 = .ok (.getfield 24, 3) := by decide +kernel
theorem dX15_takeLast_25 : decode cX15_takeLast 25 = .ok (.iload_n 2, 1) := by decide +kernel
theorem dX15_takeLast_26 : decode cX15_takeLast 26 = .ok (.iaload, 1) := by decide +kernel
theorem dX15_takeLast_27 : decode cX15_takeLast 27 = .ok (.istore_n 2, 1) := by decide +kernel
theorem dX15_takeLast_28 : decode cX15_takeLast 28 = .ok (.goto (-19), 3) := by decide +kernel
theorem dX15_takeLast_31 : decode cX15_takeLast 31 = .ok (.iload_n 3, 1) := by decide +kernel
theorem dX15_takeLast_32 : decode cX15_takeLast 32 = .ok (.iconst (-1), 1) := by decide +kernel
theorem dX15_takeLast_33 : decode cX15_takeLast 33 = .ok (.if_icmp .ne 13, 3) := by decide +kernel
theorem dX15_takeLast_36 : decode cX15_takeLast 36 = .ok (.aload_n 0, 1) := by decide +kernel
theorem dX15_takeLast_37 : decode cX15_takeLast 37 = .ok (.getfield 20, 3) := by decide +kernel
theorem dX15_takeLast_40 : decode cX15_takeLast 40 = .ok (.iload_n 1, 1) := by decide +kernel
theorem dX15_takeLast_41 : decode cX15_takeLast 41 = .ok (.iconst (-1), 1) := by decide +kernel
theorem dX15_takeLast_42 : decode cX15_takeLast 42 = .ok (.iastore, 1) := by decide +kernel
theorem dX15_takeLast_43 : decode cX15_takeLast 43 = .ok (.goto 10, 3) := by decide +kernel
theorem dX15_takeLast_46 : decode cX15_takeLast 46 = .ok (.aload_n 0, 1) := by decide +kernel
theorem dX15_takeLast_47 : decode cX15_takeLast 47 = .ok (.getfield 24, 3) := by decide +kernel
theorem dX15_takeLast_50 : decode cX15_takeLast 50 = .ok (.iload_n 3, 1) := by decide +kernel
theorem dX15_takeLast_51 : decode cX15_takeLast 51 = .ok (.iconst (-1), 1) := by decide +kernel
theorem dX15_takeLast_52 : decode cX15_takeLast 52 = .ok (.iastore, 1) := by decide +kernel
theorem dX15_takeLast_53 : decode cX15_takeLast 53 = .ok (.iload_n 2, 1) := by decide +kernel
theorem dX15_takeLast_54 : decode cX15_takeLast 54 = .ok (.ireturn, 1) := by decide +kernel
theorem dX15_sizeOf_0 : decode cX15_sizeOf 0 = .ok (.iconst 1, 1) := by decide +kernel
theorem dX15_sizeOf_1 : decode cX15_sizeOf 1 = .ok (.istore_n 2, 1) := by decide +kernel
theorem dX15_sizeOf_2 : decode cX15_sizeOf 2 = .ok (.aload_n 0, 1) := by decide +kernel
theorem dX15_sizeOf_3 : decode cX15_sizeOf 3 = .ok (.getfield 20, 3) := by decide +kernel
theorem dX15_sizeOf_6 : decode cX15_sizeOf 6 = .ok (.iload_n 1, 1) := by decide +kernel
theorem dX15_sizeOf_7 : decode cX15_sizeOf 7 = .ok (.iaload, 1) := by decide +kernel
theorem dX15_sizeOf_8 : decode cX15_sizeOf 8 = .ok (.istore_n 3, 1) := by decide +kernel
theorem dX15_sizeOf_9 : decode cX15_sizeOf 9 = .ok (.iload_n 3, 1) := by decide +kernel
theorem dX15_sizeOf_10 : decode cX15_sizeOf 10 = .ok (.iconst (-1), 1) := by decide +kernel
theorem dX15_sizeOf_11 : decode cX15_sizeOf 11 = .ok (.if_icmp .eq 21, 3) := by decide +kernel
theorem dX15_sizeOf_14 : decode cX15_sizeOf 14 = .ok (.iload_n 2, 1) := by decide +kernel
theorem dX15_sizeOf_15 : decode cX15_sizeOf 15 = .ok (.aload_n 0, 1) := by decide +kernel
theorem dX15_sizeOf_16 : decode cX15_sizeOf 16 = .ok (.iload_n 3, 1) := by decide +kernel
theorem dX15_sizeOf_17 : decode cX15_sizeOf 17 = .ok (.invokevirtual 31, 3) := by decide +kernel
theorem dX15_sizeOf_20 : decode cX15_sizeOf 20 = .ok (.iadd, 1) := by decide +kernel
theorem dX15_sizeOf_21 : decode cX15_sizeOf 21 = .ok (.istore_n 2, 1) := by decide +kernel
theorem dX15_sizeOf_22 : decode cX15_sizeOf 22 = .ok (.aload_n 0, 1) := by decide +kernel
theorem dX15_sizeOf_23 : decode cX15_sizeOf 23 = .ok (.getfield 24, 3) := by decide +kernel
theorem dX15_sizeOf_26 : decode cX15_sizeOf 26 = .ok (.iload_n 3, 1) := by decide +kernel
theorem dX15_sizeOf_27 : decode cX15_sizeOf 27 = .ok (.iaload, 1) := by decide +kernel
theorem dX15_sizeOf_28 : decode cX15_sizeOf 28 = .ok (.istore_n 3, 1) := by decide +kernel
theorem dX15_sizeOf_29 : decode cX15_sizeOf 29 = .ok (.goto (-20), 3) := by decide +kernel
theorem dX15_sizeOf_32 : decode cX15_sizeOf 32 = .ok (.iload_n 2, 1) := by decide +kernel
theorem dX15_sizeOf_33 : decode cX15_sizeOf 33 = .ok (.ireturn, 1) := by decide +kernel
theorem dX15_copy_0 : decode cX15_copy 0 = .ok (.aload_n 0, 1) := by decide +kernel
theorem dX15_copy_1 : decode cX15_copy 1 = .ok (.aload_n 0, 1) := by decide +kernel
theorem dX15_copy_2 : decode cX15_copy 2 = .ok (.getfield 7, 3) := by decide +kernel
theorem dX15_copy_5 : decode cX15_copy 5 = .ok (.iload_n 1, 1) := by decide +kernel
theorem dX15_copy_6 : decode cX15_copy 6 = .ok (.baload, 1) := by decide +kernel
theorem dX15_copy_7 : decode cX15_copy 7 = .ok (.aload_n 0, 1) := by decide +kernel
theorem dX15_copy_8 : decode cX15_copy 8 = .ok (.getfield 13, 3) := by decide +kernel
theorem dX15_copy_11 : decode cX15_copy 11 = .ok (.iload_n 1, 1) := by decide +kernel
theorem dX15_copy_12 : decode cX15_copy 12 = .ok (.laload, 1) := by decide +kernel
theorem dX15_copy_13 : decode cX15_copy 13 = .ok (.aload_n 0, 1) := by decide +kernel
theorem dX15_copy_14 : decode cX15_copy 14 = .ok (.getfield 17, 3) := by decide +kernel
theorem dX15_copy_17 : decode cX15_copy 17 = .ok (.iload_n 1, 1) := by decide +kernel
theorem dX15_copy_18 : decode cX15_copy 18 = .ok (.laload, 1) := by decide +kernel
theorem dX15_copy_19 : decode cX15_copy 19 = .ok (.invokevirtual 35, 3) := by decide +kernel
theorem dX15_copy_22 : decode cX15_copy 22 = .ok (.istore_n 2, 1) := by decide +kernel
theorem dX15_copy_23 : decode cX15_copy 23 = .ok (.aload_n 0, 1) := by decide +kernel
theorem dX15_copy_24 : decode cX15_copy 24 = .ok (.getfield 20, 3) := by decide +kernel
theorem dX15_copy_27 : decode cX15_copy 27 = .ok (.iload_n 1, 1) := by decide +kernel
theorem dX15_copy_28 : decode cX15_copy 28 = .ok (.iaload, 1) := by decide +kernel
theorem dX15_copy_29 : decode cX15_copy 29 = .ok (.istore_n 3, 1) := by decide +kernel
theorem dX15_copy_30 : decode cX15_copy 30 = .ok (.iload_n 3, 1) := by decide +kernel
theorem dX15_copy_31 : decode cX15_copy 31 = .ok (.iconst (-1), 1) := by decide +kernel
theorem dX15_copy_32 : decode cX15_copy 32 = .ok (.if_icmp .eq 23, 3) := by decide +kernel
theorem dX15_copy_35 : decode cX15_copy 35 = .ok (.aload_n 0, 1) := by decide +kernel
theorem dX15_copy_36 : decode cX15_copy 36 = .ok (.iload_n 2, 1) := by decide +kernel
theorem dX15_copy_37 : decode cX15_copy 37 = .ok (.aload_n 0, 1) := by decide +kernel
theorem dX15_copy_38 : decode cX15_copy 38 = .ok (.iload_n 3, 1) := by decide +kernel
theorem dX15_copy_39 : decode cX15_copy 39 = .ok (.invokevirtual 39, 3) := by decide +kernel
theorem dX15_copy_42 : decode cX15_copy 42 = .ok (.invokevirtual 42, 3) := by decide +kernel
theorem dX15_copy_45 : decode cX15_copy 45 = .ok (.aload_n 0, 1) := by decide +kernel
theorem dX15_copy_46 : decode cX15_copy 46 = .ok (.getfield 24, 3) := by decide +kernel
theorem dX15_copy_49 : decode cX15_copy 49 = .ok (.iload_n 3, 1) := by decide +kernel
theorem dX15_copy_50 : decode cX15_copy 50 = .ok (.iaload, 1) := by decide +kernel
theorem dX15_copy_51 : decode cX15_copy 51 = .ok (.istore_n 3, 1) := by decide +kernel
theorem dX15_copy_52 : decode cX15_copy 52 = .ok (.goto (-22), 3) := by decide +kernel
theorem dX15_copy_55 : decode cX15_copy 55 = .ok (.iload_n 2, 1) := by decide +kernel
theorem dX15_copy_56 : decode cX15_copy 56 = .ok (.ireturn, 1) := by decide +kernel
theorem dX15_isAlike_0 : decode cX15_isAlike 0 = .ok (.aload_n 0, 1) := by decide +kernel
theorem dX15_isAlike_1 : decode cX15_isAlike 1 = .ok (.getfield 7, 3) := by decide +kernel
theorem dX15_isAlike_4 : decode cX15_isAlike 4 = .ok (.iload_n 1, 1) := by decide +kernel
theorem dX15_isAlike_5 : decode cX15_isAlike 5 = .ok (.baload, 1) := by decide +kernel
theorem dX15_isAlike_6 : decode cX15_isAlike 6 = .ok (.aload_n 0, 1) := by decide +kernel
theorem dX15_isAlike_7 : decode cX15_isAlike 7 = .ok (.getfield 7, 3) := by decide +kernel
theorem dX15_isAlike_10 : decode cX15_isAlike 10 = .ok (.iload_n 2, 1) := by decide +kernel
theorem dX15_isAlike_11 : decode cX15_isAlike 11 = .ok (.baload, 1) := by decide +kernel
theorem dX15_isAlike_12 : decode cX15_isAlike 12 = .ok (.if_icmp .ne 35, 3) := by decide +kernel
theorem dX15_isAlike_15 : decode cX15_isAlike 15 = .ok (.aload_n 0, 1) := by decide +kernel
theorem dX15_isAlike_16 : decode cX15_isAlike 16 = .ok (.getfield 13, 3) := by decide +kernel
theorem dX15_isAlike_19 : decode cX15_isAlike 19 = .ok (.iload_n 1, 1) := by decide +kernel
theorem dX15_isAlike_20 : decode cX15_isAlike 20 = .ok (.laload, 1) := by decide +kernel
theorem dX15_isAlike_21 : decode cX15_isAlike 21 = .ok (.aload_n 0, 1) := by decide +kernel
theorem dX15_isAlike_22 : decode cX15_isAlike 22 = .ok (.getfield 13, 3) := by decide +kernel
theorem dX15_isAlike_25 : decode cX15_isAlike 25 = .ok (.iload_n 2, 1) := by decide +kernel
theorem dX15_isAlike_26 : decode cX15_isAlike 26 = .ok (.laload, 1) := by decide +kernel
theorem dX15_isAlike_27 : decode cX15_isAlike 27 = .ok (.lcmp, 1) := by decide +kernel
theorem dX15_isAlike_28 : decode cX15_isAlike 28 = .ok (.ifCond .ne 19, 3) := by decide +kernel
theorem dX15_isAlike_31 : decode cX15_isAlike 31 = .ok (.aload_n 0, 1) := by decide +kernel
theorem dX15_isAlike_32 : decode cX15_isAlike 32 = .ok (.getfield 17, 3) := by decide +kernel
theorem dX15_isAlike_35 : decode cX15_isAlike 35 = .ok (.iload_n 1, 1) := by decide +kernel
theorem dX15_isAlike_36 : decode cX15_isAlike 36 = .ok (.laload, 1) := by decide +kernel
theorem dX15_isAlike_37 : decode cX15_isAlike 37 = .ok (.aload_n 0, 1) := by decide +kernel
theorem dX15_isAlike_38 : decode cX15_isAlike 38 = .ok (.getfield 17, 3) := by decide +kernel
theorem dX15_isAlike_41 : decode cX15_isAlike 41 = .ok (.iload_n 2, 1) := by decide +kernel
theorem dX15_isAlike_42 : decode cX15_isAlike 42 = .ok (.laload, 1) := by decide +kernel
theorem dX15_isAlike_43 : decode cX15_isAlike 43 = .ok (.lcmp, 1) := by decide +kernel
theorem dX15_isAlike_44 : decode cX15_isAlike 44 = .ok (.ifCond .eq 5, 3) := by decide +kernel
theorem dX15_isAlike_47 : decode cX15_isAlike 47 = .ok (.iconst 0, 1) := by decide +kernel
theorem dX15_isAlike_48 : decode cX15_isAlike 48 = .ok (.ireturn, 1) := by decide +kernel
theorem dX15_isAlike_49 : decode cX15_isAlike 49 = .ok (.aload_n 0, 1) := by decide +kernel
theorem dX15_isAlike_50 : decode cX15_isAlike 50 = .ok (.getfield 20, 3) := by decide +kernel
theorem dX15_isAlike_53 : decode cX15_isAlike 53 = .ok (.iload_n 1, 1) := by decide +kernel
theorem dX15_isAlike_54 : decode cX15_isAlike 54 = .ok (.iaload, 1) := by decide +kernel
theorem dX15_isAlike_55 : decode cX15_isAlike 55 = .ok (.istore_n 3, 1) := by decide +kernel
theorem dX15_isAlike_56 : decode cX15_isAlike 56 = .ok (.aload_n 0, 1) := by decide +kernel
theorem dX15_isAlike_57 : decode cX15_isAlike 57 = .ok (.getfield 20, 3) := by decide +kernel
theorem dX15_isAlike_60 : decode cX15_isAlike 60 = .ok (.iload_n 2, 1) := by decide +kernel
theorem dX15_isAlike_61 : decode cX15_isAlike 61 = .ok (.iaload, 1) := by decide +kernel
theorem dX15_isAlike_62 : decode cX15_isAlike 62 = .ok (.istore 4, 2) := by decide +kernel
theorem dX15_isAlike_64 : decode cX15_isAlike 64 = .ok (.iload_n 3, 1) := by decide +kernel
theorem dX15_isAlike_65 : decode cX15_isAlike 65 = .ok (.iconst (-1), 1) := by decide +kernel
theorem dX15_isAlike_66 : decode cX15_isAlike 66 = .ok (.if_icmp .eq 38, 3) := by decide +kernel
theorem dX15_isAlike_69 : decode cX15_isAlike 69 = .ok (.iload 4, 2) := by decide +kernel
theorem dX15_isAlike_71 : decode cX15_isAlike 71 = .ok (.iconst (-1), 1) := by decide +kernel
theorem dX15_isAlike_72 : decode cX15_isAlike 72 = .ok (.if_icmp .eq 32, 3) := by decide +kernel
theorem dX15_isAlike_75 : decode cX15_isAlike 75 = .ok (.aload_n 0, 1) := by decide +kernel
theorem dX15_isAlike_76 : decode cX15_isAlike 76 = .ok (.iload_n 3, 1) := by decide +kernel
theorem dX15_isAlike_77 : decode cX15_isAlike 77 = .ok (.iload 4, 2) := by decide +kernel
theorem dX15_isAlike_79 : decode cX15_isAlike 79 = .ok (.invokevirtual 46, 3) := by decide +kernel
theorem dX15_isAlike_82 : decode cX15_isAlike 82 = .ok (.ifCond .eq 22, 3) := by decide +kernel
theorem dX15_isAlike_85 : decode cX15_isAlike 85 = .ok (.aload_n 0, 1) := by decide +kernel
theorem dX15_isAlike_86 : decode cX15_isAlike 86 = .ok (.getfield 24, 3) := by decide +kernel
theorem dX15_isAlike_89 : decode cX15_isAlike 89 = .ok (.iload_n 3, 1) := by decide +kernel
theorem dX15_isAlike_90 : decode cX15_isAlike 90 = .ok (.iaload, 1) := by decide +kernel
theorem dX15_isAlike_91 : decode cX15_isAlike 91 = .ok (.istore_n 3, 1) := by decide +kernel
theorem dX15_isAlike_92 : decode cX15_isAlike 92 = .ok (.aload_n 0, 1) := by decide +kernel
theorem dX15_isAlike_93 : decode cX15_isAlike 93 = .ok (.getfield 24, 3) := by decide +kernel
theorem dX15_isAlike_96 : decode cX15_isAlike 96 = .ok (.iload 4, 2) := by decide +kernel
theorem dX15_isAlike_98 : decode cX15_isAlike 98 = .ok (.iaload, 1) := by decide +kernel
theorem dX15_isAlike_99 : decode cX15_isAlike 99 = .ok (.istore 4, 2) := by decide +kernel
theorem dX15_isAlike_101 : decode cX15_isAlike 101 = .ok (.goto (-37), 3) := by decide +kernel
theorem dX15_isAlike_104 : decode cX15_isAlike 104 = .ok (.iload_n 3, 1) := by decide +kernel
theorem dX15_isAlike_105 : decode cX15_isAlike 105 = .ok (.iconst (-1), 1) := by decide +kernel
theorem dX15_isAlike_106 : decode cX15_isAlike 106 = .ok (.if_icmp .ne 13, 3) := by decide +kernel
theorem dX15_isAlike_109 : decode cX15_isAlike 109 = .ok (.iload 4, 2) := by decide +kernel
theorem dX15_isAlike_111 : decode cX15_isAlike 111 = .ok (.iconst (-1), 1) := by decide +kernel
theorem dX15_isAlike_112 : decode cX15_isAlike 112 = .ok (.if_icmp .ne 7, 3) := by decide +kernel
theorem dX15_isAlike_115 : decode cX15_isAlike 115 = .ok (.iconst 1, 1) := by decide +kernel
theorem dX15_isAlike_116 : decode cX15_isAlike 116 = .ok (.goto 4, 3) := by decide +kernel
theorem dX15_isAlike_119 : decode cX15_isAlike 119 = .ok (.iconst 0, 1) := by decide +kernel
theorem dX15_isAlike_120 : decode cX15_isAlike 120 = .ok (.ireturn, 1) := by decide +kernel
theorem dX15_become_0 : decode cX15_become 0 = .ok (.aload_n 0, 1) := by decide +kernel
theorem dX15_become_1 : decode cX15_become 1 = .ok (.getfield 7, 3) := by decide +kernel
theorem dX15_become_4 : decode cX15_become 4 = .ok (.iload_n 1, 1) := by decide +kernel
theorem dX15_become_5 : decode cX15_become 5 = .ok (.aload_n 0, 1) := by decide +kernel
theorem dX15_become_6 : decode cX15_become 6 = .ok (.getfield 7, 3) := by decide +kernel
theorem dX15_become_9 : decode cX15_become 9 = .ok (.iload_n 2, 1) := by decide +kernel
theorem dX15_become_10 : decode cX15_become 10 = .ok (.baload, 1) := by decide +kernel
theorem dX15_become_11 : decode cX15_become 11 = .ok (.bastore, 1) := by decide +kernel
theorem dX15_become_12 : decode cX15_become 12 = .ok (.aload_n 0, 1) := by decide +kernel
theorem dX15_become_13 : decode cX15_become 13 = .ok (.getfield 13, 3) := by decide +kernel
theorem dX15_become_16 : decode cX15_become 16 = .ok (.iload_n 1, 1) := by decide +kernel
theorem dX15_become_17 : decode cX15_become 17 = .ok (.aload_n 0, 1) := by decide +kernel
theorem dX15_become_18 : decode cX15_become 18 = .ok (.getfield 13, 3) := by decide +kernel
theorem dX15_become_21 : decode cX15_become 21 = .ok (.iload_n 2, 1) := by decide +kernel
theorem dX15_become_22 : decode cX15_become 22 = .ok (.laload, 1) := by decide +kernel
theorem dX15_become_23 : decode cX15_become 23 = .ok (.lastore, 1) := by decide +kernel
theorem dX15_become_24 : decode cX15_become 24 = .ok (.aload_n 0, 1) := by decide +kernel
theorem dX15_become_25 : decode cX15_become 25 = .ok (.getfield 17, 3) := by decide +kernel
theorem dX15_become_28 : decode cX15_become 28 = .ok (.iload_n 1, 1) := by decide +kernel
theorem dX15_become_29 : decode cX15_become 29 = .ok (.aload_n 0, 1) := by decide +kernel
theorem dX15_become_30 : decode cX15_become 30 = .ok (.getfield 17, 3) := by decide +kernel
theorem dX15_become_33 : decode cX15_become 33 = .ok (.iload_n 2, 1) := by decide +kernel
theorem dX15_become_34 : decode cX15_become 34 = .ok (.laload, 1) := by decide +kernel
theorem dX15_become_35 : decode cX15_become 35 = .ok (.lastore, 1) := by decide +kernel
theorem dX15_become_36 : decode cX15_become 36 = .ok (.aload_n 0, 1) := by decide +kernel
theorem dX15_become_37 : decode cX15_become 37 = .ok (.getfield 20, 3) := by decide +kernel
theorem dX15_become_40 : decode cX15_become 40 = .ok (.iload_n 1, 1) := by decide +kernel
theorem dX15_become_41 : decode cX15_become 41 = .ok (.aload_n 0, 1) := by decide +kernel
theorem dX15_become_42 : decode cX15_become 42 = .ok (.getfield 20, 3) := by decide +kernel
theorem dX15_become_45 : decode cX15_become 45 = .ok (.iload_n 2, 1) := by decide +kernel
theorem dX15_become_46 : decode cX15_become 46 = .ok (.iaload, 1) := by decide +kernel
theorem dX15_become_47 : decode cX15_become 47 = .ok (.iastore, 1) := by decide +kernel
theorem dX15_become_48 : decode cX15_become 48 = .ok (.return_, 1) := by decide +kernel
theorem dX15_swap_0 : decode cX15_swap 0 = .ok (.aload_n 0, 1) := by decide +kernel
theorem dX15_swap_1 : decode cX15_swap 1 = .ok (.getfield 7, 3) := by decide +kernel
theorem dX15_swap_4 : decode cX15_swap 4 = .ok (.iload_n 1, 1) := by decide +kernel
theorem dX15_swap_5 : decode cX15_swap 5 = .ok (.baload, 1) := by decide +kernel
theorem dX15_swap_6 : decode cX15_swap 6 = .ok (.istore_n 3, 1) := by decide +kernel
theorem dX15_swap_7 : decode cX15_swap 7 = .ok (.aload_n 0, 1) := by decide +kernel
theorem dX15_swap_8 : decode cX15_swap 8 = .ok (.getfield 13, 3) := by decide +kernel
theorem dX15_swap_11 : decode cX15_swap 11 = .ok (.iload_n 1, 1) := by decide +kernel
theorem dX15_swap_12 : decode cX15_swap 12 = .ok (.laload, 1) := by decide +kernel
theorem dX15_swap_13 : decode cX15_swap 13 = .ok (.lstore 4, 2) := by decide +kernel
theorem dX15_swap_15 : decode cX15_swap 15 = .ok (.aload_n 0, 1) := by decide +kernel
theorem dX15_swap_16 : decode cX15_swap 16 = .ok (.getfield 17, 3) := by decide +kernel
theorem dX15_swap_19 : decode cX15_swap 19 = .ok (.iload_n 1, 1) := by decide +kernel
theorem dX15_swap_20 : decode cX15_swap 20 = .ok (.laload, 1) := by decide +kernel
theorem dX15_swap_21 : decode cX15_swap 21 = .ok (.lstore 6, 2) := by decide +kernel
theorem dX15_swap_23 : decode cX15_swap 23 = .ok (.aload_n 0, 1) := by decide +kernel
theorem dX15_swap_24 : decode cX15_swap 24 = .ok (.getfield 20, 3) := by decide +kernel
theorem dX15_swap_27 : decode cX15_swap 27 = .ok (.iload_n 1, 1) := by decide +kernel
theorem dX15_swap_28 : decode cX15_swap 28 = .ok (.iaload, 1) := by decide +kernel
theorem dX15_swap_29 : decode cX15_swap 29 = .ok (.istore 8, 2) := by decide +kernel
theorem dX15_swap_31 : decode cX15_swap 31 = .ok (.aload_n 0, 1) := by decide +kernel
theorem dX15_swap_32 : decode cX15_swap 32 = .ok (.iload_n 1, 1) := by decide +kernel
theorem dX15_swap_33 : decode cX15_swap 33 = .ok (.iload_n 2, 1) := by decide +kernel
theorem dX15_swap_34 : decode cX15_swap 34 = .ok (.invokevirtual 50, 3) := by decide +kernel
theorem dX15_swap_37 : decode cX15_swap 37 = .ok (.aload_n 0, 1) := by decide +kernel
theorem dX15_swap_38 : decode cX15_swap 38 = .ok (.getfield 7, 3) := by decide +kernel
theorem dX15_swap_41 : decode cX15_swap 41 = .ok (.iload_n 2, 1) := by decide +kernel
theorem dX15_swap_42 : decode cX15_swap 42 = .ok (.iload_n 3, 1) := by decide +kernel
theorem dX15_swap_43 : decode cX15_swap 43 = .ok (.bastore, 1) := by decide +kernel
theorem dX15_swap_44 : decode cX15_swap 44 = .ok (.aload_n 0, 1) := by decide +kernel
theorem dX15_swap_45 : decode cX15_swap 45 = .ok (.getfield 13, 3) := by decide +kernel
theorem dX15_swap_48 : decode cX15_swap 48 = .ok (.iload_n 2, 1) := by decide +kernel
theorem dX15_swap_49 : decode cX15_swap 49 = .ok (.lload 4, 2) := by decide +kernel
theorem dX15_swap_51 : decode cX15_swap 51 = .ok (.lastore, 1) := by decide +kernel
theorem dX15_swap_52 : decode cX15_swap 52 = .ok (.aload_n 0, 1) := by decide +kernel
theorem dX15_swap_53 : decode cX15_swap 53 = .ok (.getfield 17, 3) := by decide +kernel
theorem dX15_swap_56 : decode cX15_swap 56 = .ok (.iload_n 2, 1) := by decide +kernel
theorem dX15_swap_57 : decode cX15_swap 57 = .ok (.lload 6, 2) := by decide +kernel
theorem dX15_swap_59 : decode cX15_swap 59 = .ok (.lastore, 1) := by decide +kernel
theorem dX15_swap_60 : decode cX15_swap 60 = .ok (.aload_n 0, 1) := by decide +kernel
theorem dX15_swap_61 : decode cX15_swap 61 = .ok (.getfield 20, 3) := by decide +kernel
theorem dX15_swap_64 : decode cX15_swap 64 = .ok (.iload_n 2, 1) := by decide +kernel
theorem dX15_swap_65 : decode cX15_swap 65 = .ok (.iload 8, 2) := by decide +kernel
theorem dX15_swap_67 : decode cX15_swap 67 = .ok (.iastore, 1) := by decide +kernel
theorem dX15_swap_68 : decode cX15_swap 68 = .ok (.return_, 1) := by decide +kernel
theorem dX16_fail_0 : decode cX16_fail 0 = .ok (.aload_n 0, 1) := by decide +kernel
theorem dX16_fail_1 : decode cX16_fail 1 = .ok (.getfield 36, 3) := by decide +kernel
theorem dX16_fail_4 : decode cX16_fail 4 = .ok (.ifCond .eq 4, 3) := by decide +kernel
theorem dX16_fail_7 : decode cX16_fail 7 = .ok (.return_, 1) := by decide +kernel
theorem dX16_fail_8 : decode cX16_fail 8 = .ok (.aload_n 0, 1) := by decide +kernel
theorem dX16_fail_9 : decode cX16_fail 9 = .ok (.iload_n 1, 1) := by decide +kernel
theorem dX16_fail_10 : decode cX16_fail 10 = .ok (.putfield 36, 3) := by decide +kernel
theorem dX16_fail_13 : decode cX16_fail 13 = .ok (.aload_n 0, 1) := by decide +kernel
theorem dX16_fail_14 : decode cX16_fail 14 = .ok (.iload_n 2, 1) := by decide +kernel
theorem dX16_fail_15 : decode cX16_fail 15 = .ok (.putfield 40, 3) := by decide +kernel
theorem dX16_fail_18 : decode cX16_fail 18 = .ok (.return_, 1) := by decide +kernel
theorem dX16_isGood_0 : decode cX16_isGood 0 = .ok (.aload_n 0, 1) := by decide +kernel
theorem dX16_isGood_1 : decode cX16_isGood 1 = .ok (.getfield 36, 3) := by decide +kernel
theorem dX16_isGood_4 : decode cX16_isGood 4 = .ok (.ifCond .ne 7, 3) := by decide +kernel
theorem dX16_isGood_7 : decode cX16_isGood 7 = .ok (.iconst 1, 1) := by decide +kernel
theorem dX16_isGood_8 : decode cX16_isGood 8 = .ok (.goto 4, 3) := by decide +kernel
theorem dX16_isGood_11 : decode cX16_isGood 11 = .ok (.iconst 0, 1) := by decide +kernel
theorem dX16_isGood_12 : decode cX16_isGood 12 = .ok (.ireturn, 1) := by decide +kernel
theorem dX16_byteAt_0 : decode cX16_byteAt 0 = .ok (.iload_n 1, 1) := by decide +kernel
theorem dX16_byteAt_1 : decode cX16_byteAt 1 = .ok (.aload_n 0, 1) := by decide +kernel
theorem dX16_byteAt_2 : decode cX16_byteAt 2 = .ok (.getfield 43, 3) := by decide +kernel
theorem dX16_byteAt_5 : decode cX16_byteAt 5 = .ok (.if_icmp .ge 16, 3) := by decide +kernel
theorem dX16_byteAt_8 : decode cX16_byteAt 8 = .ok (.aload_n 0, 1) := by decide +kernel
theorem dX16_byteAt_9 : decode cX16_byteAt 9 = .ok (.getfield 7, 3) := by decide +kernel
theorem dX16_byteAt_12 : decode cX16_byteAt 12 = .ok (.iload_n 1, 1) := by decide +kernel
theorem dX16_byteAt_13 : decode cX16_byteAt 13 = .ok (.baload, 1) := by decide +kernel
theorem dX16_byteAt_14 : decode cX16_byteAt 14 = .ok (.sipush 255, 3) := by decide +kernel
theorem dX16_byteAt_17 : decode cX16_byteAt 17 = .ok (.iand, 1) := by decide +kernel
theorem dX16_byteAt_18 : decode cX16_byteAt 18 = .ok (.goto 4, 3) := by decide +kernel
theorem dX16_byteAt_21 : decode cX16_byteAt 21 = .ok (.iconst 0, 1) := by decide +kernel
theorem dX16_byteAt_22 : decode cX16_byteAt 22 = .ok (.ireturn, 1) := by decide +kernel
theorem dX16_shortAt_0 : decode cX16_shortAt 0 = .ok (.sipush 256, 3) := by decide +kernel
theorem dX16_shortAt_3 : decode cX16_shortAt 3 = .ok (.aload_n 0, 1) := by decide +kernel
theorem dX16_shortAt_4 : decode cX16_shortAt 4 = .ok (.iload_n 1, 1) := by decide +kernel
theorem dX16_shortAt_5 : decode cX16_shortAt 5 = .ok (.invokevirtual 46, 3) := by decide +kernel
theorem dX16_shortAt_8 : decode cX16_shortAt 8 = .ok (.imul, 1) := by decide +kernel
theorem dX16_shortAt_9 : decode cX16_shortAt 9 = .ok (.aload_n 0, 1) := by decide +kernel
theorem dX16_shortAt_10 : decode cX16_shortAt 10 = .ok (.iload_n 1, 1) := by decide +kernel
theorem dX16_shortAt_11 : decode cX16_shortAt 11 = .ok (.iconst 1, 1) := by decide +kernel
theorem dX16_shortAt_12 : decode cX16_shortAt 12 = .ok (.iadd, 1) := by decide +kernel
theorem dX16_shortAt_13 : decode cX16_shortAt 13 = .ok (.invokevirtual 46, 3) := by decide +kernel
theorem dX16_shortAt_16 : decode cX16_shortAt 16 = .ok (.iadd, 1) := by decide +kernel
theorem dX16_shortAt_17 : decode cX16_shortAt 17 = .ok (.ireturn, 1) := by decide +kernel
theorem dX16_over_0 : decode cX16_over 0 = .ok (.aload_n 0, 1) := by decide +kernel
theorem dX16_over_1 : decode cX16_over 1 = .ok (.getfield 50, 3) := by decide +kernel
theorem dX16_over_4 : decode cX16_over 4 = .ok (.istore_n 2, 1) := by decide +kernel
theorem dX16_over_5 : decode cX16_over 5 = .ok (.aload_n 0, 1) := by decide +kernel
theorem dX16_over_6 : decode cX16_over 6 = .ok (.getfield 50, 3) := by decide +kernel
theorem dX16_over_9 : decode cX16_over 9 = .ok (.iload_n 1, 1) := by decide +kernel
theorem dX16_over_10 : decode cX16_over 10 = .ok (.iadd, 1) := by decide +kernel
theorem dX16_over_11 : decode cX16_over 11 = .ok (.aload_n 0, 1) := by decide +kernel
theorem dX16_over_12 : decode cX16_over 12 = .ok (.getfield 43, 3) := by decide +kernel
theorem dX16_over_15 : decode cX16_over 15 = .ok (.if_icmp .le 15, 3) := by decide +kernel
theorem dX16_over_18 : decode cX16_over 18 = .ok (.aload_n 0, 1) := by decide +kernel
theorem dX16_over_19 : decode cX16_over 19 = .ok (.iconst 2, 1) := by decide +kernel
theorem dX16_over_20 : decode cX16_over 20 = .ok (.aload_n 0, 1) := by decide +kernel
theorem dX16_over_21 : decode cX16_over 21 = .ok (.getfield 43, 3) := by decide +kernel
theorem dX16_over_24 : decode cX16_over 24 = .ok (.invokevirtual 53, 3) := by decide +kernel
theorem dX16_over_27 : decode cX16_over 27 = .ok (.goto 13, 3) := by decide +kernel
theorem dX16_over_30 : decode cX16_over 30 = .ok (.aload_n 0, 1) := by decide +kernel
theorem dX16_over_31 : decode cX16_over 31 = .ok (.dup, 1) := by decide +kernel
theorem dX16_over_32 : decode cX16_over 32 = .ok (.getfield 50, 3) := by decide +kernel
theorem dX16_over_35 : decode cX16_over 35 = .ok (.iload_n 1, 1) := by decide +kernel
theorem dX16_over_36 : decode cX16_over 36 = .ok (.iadd, 1) := by decide +kernel
theorem dX16_over_37 : decode cX16_over 37 = .ok (.putfield 50, 3) := by decide +kernel
theorem dX16_over_40 : decode cX16_over 40 = .ok (.iload_n 2, 1) := by decide +kernel
theorem dX16_over_41 : decode cX16_over 41 = .ok (.ireturn, 1) := by decide +kernel
theorem dX16_count_0 : decode cX16_count 0 = .ok (.aload_n 0, 1) := by decide +kernel
theorem dX16_count_1 : decode cX16_count 1 = .ok (.iconst 1, 1) := by decide +kernel
theorem dX16_count_2 : decode cX16_count 2 = .ok (.invokevirtual 57, 3) := by decide +kernel
theorem dX16_count_5 : decode cX16_count 5 = .ok (.istore_n 3, 1) := by decide +kernel
theorem dX16_count_6 : decode cX16_count 6 = .ok (.aload_n 0, 1) := by decide +kernel
theorem dX16_count_7 : decode cX16_count 7 = .ok (.invokevirtual 60, 3) := by decide +kernel
theorem dX16_count_10 : decode cX16_count 10 = .ok (.ifCond .eq 27, 3) := by decide +kernel
theorem dX16_count_13 : decode cX16_count 13 = .ok (.aload_n 0, 1) := by decide +kernel
theorem dX16_count_14 : decode cX16_count 14 = .ok (.iload_n 3, 1) := by decide +kernel
theorem dX16_count_15 : decode cX16_count 15 = .ok (.invokevirtual 46, 3) := by decide +kernel
theorem dX16_count_18 : decode cX16_count 18 = .ok (.iload_n 1, 1) := by decide +kernel
theorem dX16_count_19 : decode cX16_count 19 = .ok (.if_icmp .lt 12, 3) := by decide +kernel
theorem dX16_count_22 : decode cX16_count 22 = .ok (.aload_n 0, 1) := by decide +kernel
theorem dX16_count_23 : decode cX16_count 23 = .ok (.iload_n 3, 1) := by decide +kernel
theorem dX16_count_24 : decode cX16_count 24 = .ok (.invokevirtual 46, 3) := by decide +kernel
theorem dX16_count_27 : decode cX16_count 27 = .ok (.iload_n 2, 1) := by decide +kernel
theorem dX16_count_28 : decode cX16_count 28 = .ok (.if_icmp .le 9, 3) := by decide +kernel
theorem dX16_count_31 : decode cX16_count 31 = .ok (.aload_n 0, 1) := by decide +kernel
theorem dX16_count_32 : decode cX16_count 32 = .ok (.iconst 3, 1) := by decide +kernel
theorem dX16_count_33 : decode cX16_count 33 = .ok (.iload_n 3, 1) := by decide +kernel
theorem dX16_count_34 : decode cX16_count 34 = .ok (.invokevirtual 53, 3) := by decide +kernel
theorem dX16_count_37 : decode cX16_count 37 = .ok (.aload_n 0, 1) := by decide +kernel
theorem dX16_count_38 : decode cX16_count 38 = .ok (.invokevirtual 60, 3) := by decide +kernel
theorem dX16_count_41 : decode cX16_count 41 = .ok (.ifCond .eq 11, 3) := by decide +kernel
theorem dX16_count_44 : decode cX16_count 44 = .ok (.aload_n 0, 1) := by decide +kernel
theorem dX16_count_45 : decode cX16_count 45 = .ok (.iload_n 3, 1) := by decide +kernel
theorem dX16_count_46 : decode cX16_count 46 = .ok (.invokevirtual 46, 3) := by decide +kernel
theorem dX16_count_49 : decode cX16_count 49 = .ok (.goto 4, 3) := by decide +kernel
theorem dX16_count_52 : decode cX16_count 52 = .ok (.iconst 0, 1) := by decide +kernel
theorem dX16_count_53 : decode cX16_count 53 = .ok (.ireturn, 1) := by decide +kernel
theorem dX16_overType_0 : decode cX16_overType 0 = .ok (.aload_n 0, 1) := by decide +kernel
theorem dX16_overType_1 : decode cX16_overType 1 = .ok (.iconst 1, 1) := by decide +kernel
theorem dX16_overType_2 : decode cX16_overType 2 = .ok (.invokevirtual 57, 3) := by decide +kernel
theorem dX16_overType_5 : decode cX16_overType 5 = .ok (.istore_n 2, 1) := by decide +kernel
theorem dX16_overType_6 : decode cX16_overType 6 = .ok (.aload_n 0, 1) := by decide +kernel
theorem dX16_overType_7 : decode cX16_overType 7 = .ok (.invokevirtual 60, 3) := by decide +kernel
theorem dX16_overType_10 : decode cX16_overType 10 = .ok (.ifCond .ne 4, 3) := by decide +kernel
theorem dX16_overType_13 : decode cX16_overType 13 = .ok (.return_, 1) := by decide +kernel
theorem dX16_overType_14 : decode cX16_overType 14 = .ok (.iload_n 1, 1) := by decide +kernel
theorem dX16_overType_15 : decode cX16_overType 15 = .ok (.ifCond .eq 29, 3) := by decide +kernel
theorem dX16_overType_18 : decode cX16_overType 18 = .ok (.aload_n 0, 1) := by decide +kernel
theorem dX16_overType_19 : decode cX16_overType 19 = .ok (.iload_n 2, 1) := by decide +kernel
theorem dX16_overType_20 : decode cX16_overType 20 = .ok (.invokevirtual 46, 3) := by decide +kernel
theorem dX16_overType_23 : decode cX16_overType 23 = .ok (.bipush 8, 2) := by decide +kernel
theorem dX16_overType_25 : decode cX16_overType 25 = .ok (.if_icmp .eq 13, 3) := by decide +kernel
theorem dX16_overType_28 : decode cX16_overType 28 = .ok (.aload_n 0, 1) := by decide +kernel
theorem dX16_overType_29 : decode cX16_overType 29 = .ok (.iload_n 2, 1) := by decide +kernel
theorem dX16_overType_30 : decode cX16_overType 30 = .ok (.invokevirtual 46, 3) := by decide +kernel
theorem dX16_overType_33 : decode cX16_overType 33 = .ok (.bipush 9, 2) := by decide +kernel
theorem dX16_overType_35 : decode cX16_overType 35 = .ok (.if_icmp .ne 9, 3) := by decide +kernel
theorem dX16_overType_38 : decode cX16_overType 38 = .ok (.aload_n 0, 1) := by decide +kernel
theorem dX16_overType_39 : decode cX16_overType 39 = .ok (.iconst 1, 1) := by decide +kernel
theorem dX16_overType_40 : decode cX16_overType 40 = .ok (.invokevirtual 57, 3) := by decide +kernel
theorem dX16_overType_43 : decode cX16_overType 43 = .ok (.istore_n 2, 1) := by decide +kernel
theorem dX16_overType_44 : decode cX16_overType 44 = .ok (.iconst 0, 1) := by decide +kernel
theorem dX16_overType_45 : decode cX16_overType 45 = .ok (.istore_n 3, 1) := by decide +kernel
theorem dX16_overType_46 : decode cX16_overType 46 = .ok (.aload_n 0, 1) := by decide +kernel
theorem dX16_overType_47 : decode cX16_overType 47 = .ok (.invokevirtual 60, 3) := by decide +kernel
theorem dX16_overType_50 : decode cX16_overType 50 = .ok (.ifCond .eq 30, 3) := by decide +kernel
theorem dX16_overType_53 : decode cX16_overType 53 = .ok (.aload_n 0, 1) := by decide +kernel
theorem dX16_overType_54 : decode cX16_overType 54 = .ok (.iload_n 2, 1) := by decide +kernel
theorem dX16_overType_55 : decode cX16_overType 55 = .ok (.invokevirtual 46, 3) := by decide +kernel
theorem dX16_overType_58 : decode cX16_overType 58 = .ok (.bipush 7, 2) := by decide +kernel
theorem dX16_overType_60 : decode cX16_overType 60 = .ok (.if_icmp .ne 20, 3) := by decide +kernel
theorem dX16_overType_63 : decode cX16_overType 63 = .ok (.iload_n 3, 1) := by decide +kernel
theorem dX16_overType_64 : decode cX16_overType 64 = .ok (.iconst 4, 1) := by decide +kernel
theorem dX16_overType_65 : decode cX16_overType 65 = .ok (.if_icmp .ge 15, 3) := by decide +kernel
theorem dX16_overType_68 : decode cX16_overType 68 = .ok (.iinc 3 1, 3) := by decide +kernel
theorem dX16_overType_71 : decode cX16_overType 71 = .ok (.aload_n 0, 1) := by decide +kernel
theorem dX16_overType_72 : decode cX16_overType 72 = .ok (.iconst 1, 1) := by decide +kernel
theorem dX16_overType_73 : decode cX16_overType 73 = .ok (.invokevirtual 57, 3) := by decide +kernel
theorem dX16_overType_76 : decode cX16_overType 76 = .ok (.istore_n 2, 1) := by decide +kernel
theorem dX16_overType_77 : decode cX16_overType 77 = .ok (.goto (-31), 3) := by decide +kernel
theorem dX16_overType_80 : decode cX16_overType 80 = .ok (.aload_n 0, 1) := by decide +kernel
theorem dX16_overType_81 : decode cX16_overType 81 = .ok (.invokevirtual 60, 3) := by decide +kernel
theorem dX16_overType_84 : decode cX16_overType 84 = .ok (.ifCond .ne 4, 3) := by decide +kernel
theorem dX16_overType_87 : decode cX16_overType 87 = .ok (.return_, 1) := by decide +kernel
theorem dX16_overType_88 : decode cX16_overType 88 = .ok (.aload_n 0, 1) := by decide +kernel
theorem dX16_overType_89 : decode cX16_overType 89 = .ok (.iload_n 2, 1) := by decide +kernel
theorem dX16_overType_90 : decode cX16_overType 90 = .ok (.invokevirtual 46, 3) := by decide +kernel
theorem dX16_overType_93 : decode cX16_overType 93 = .ok (.istore 4, 2) := by decide +kernel
theorem dX16_overType_95 : decode cX16_overType 95 = .ok (.iload 4, 2) := by decide +kernel
theorem dX16_overType_97 : decode cX16_overType 97 = .ok (.iconst 1, 1) := by decide +kernel
theorem dX16_overType_98 : decode cX16_overType 98 = .ok (.if_icmp .lt 10, 3) := by decide +kernel
theorem dX16_overType_101 : decode cX16_overType 101 = .ok (.iload 4, 2) := by decide +kernel
theorem dX16_overType_103 : decode cX16_overType 103 = .ok (.bipush 6, 2) := by decide +kernel
theorem dX16_overType_105 : decode cX16_overType 105 = .ok (.if_icmp .le 12, 3) := by decide +kernel
theorem dX16_overType_108 : decode cX16_overType 108 = .ok (.aload_n 0, 1) := by decide +kernel
theorem dX16_overType_109 : decode cX16_overType 109 = .ok (.iconst 4, 1) := by decide +kernel
theorem dX16_overType_110 : decode cX16_overType 110 = .ok (.iload_n 2, 1) := by decide +kernel
theorem dX16_overType_111 : decode cX16_overType 111 = .ok (.invokevirtual 53, 3) := by decide +kernel
theorem dX16_overType_114 : decode cX16_overType 114 = .ok (.goto 16, 3) := by decide +kernel
theorem dX16_overType_117 : decode cX16_overType 117 = .ok (.iload 4, 2) := by decide +kernel
theorem dX16_overType_119 : decode cX16_overType 119 = .ok (.bipush 6, 2) := by decide +kernel
theorem dX16_overType_121 : decode cX16_overType 121 = .ok (.if_icmp .ne 9, 3) := by decide +kernel
theorem dX16_overType_124 : decode cX16_overType 124 = .ok (.aload_n 0, 1) := by decide +kernel
theorem dX16_overType_125 : decode cX16_overType 125 = .ok (.iconst 1, 1) := by decide +kernel
theorem dX16_overType_126 : decode cX16_overType 126 = .ok (.invokevirtual 57, 3) := by decide +kernel
theorem dX16_overType_129 : decode cX16_overType 129 = .ok (.pop, 1) := by decide +kernel
theorem dX16_overType_130 : decode cX16_overType 130 = .ok (.return_, 1) := by decide +kernel
theorem dX16_overList_0 : decode cX16_overList 0 = .ok (.aload_n 0, 1) := by decide +kernel
theorem dX16_overList_1 : decode cX16_overList 1 = .ok (.iconst 0, 1) := by decide +kernel
theorem dX16_overList_2 : decode cX16_overList 2 = .ok (.iload_n 1, 1) := by decide +kernel
theorem dX16_overList_3 : decode cX16_overList 3 = .ok (.invokevirtual 64, 3) := by decide +kernel
theorem dX16_overList_6 : decode cX16_overList 6 = .ok (.istore_n 3, 1) := by decide +kernel
theorem dX16_overList_7 : decode cX16_overList 7 = .ok (.iconst 0, 1) := by decide +kernel
theorem dX16_overList_8 : decode cX16_overList 8 = .ok (.istore 4, 2) := by decide +kernel
theorem dX16_overList_10 : decode cX16_overList 10 = .ok (.iload 4, 2) := by decide +kernel
theorem dX16_overList_12 : decode cX16_overList 12 = .ok (.iload_n 3, 1) := by decide +kernel
theorem dX16_overList_13 : decode cX16_overList 13 = .ok (.if_icmp .ge 21, 3) := by decide +kernel
theorem dX16_overList_16 : decode cX16_overList 16 = .ok (.aload_n 0, 1) := by decide +kernel
theorem dX16_overList_17 : decode cX16_overList 17 = .ok (.invokevirtual 60, 3) := by decide +kernel
theorem dX16_overList_20 : decode cX16_overList 20 = .ok (.ifCond .eq 14, 3) := by decide +kernel
theorem dX16_overList_23 : decode cX16_overList 23 = .ok (.aload_n 0, 1) := by decide +kernel
theorem dX16_overList_24 : decode cX16_overList 24 = .ok (.iload_n 2, 1) := by decide +kernel
theorem dX16_overList_25 : decode cX16_overList 25 = .ok (.invokevirtual 68, 3) := by decide +kernel
theorem dX16_overList_28 : decode cX16_overList 28 = .ok (.iinc 4 1, 3) := by decide +kernel
theorem dX16_overList_31 : decode cX16_overList 31 = .ok (.goto (-21), 3) := by decide +kernel
theorem dX16_overList_34 : decode cX16_overList 34 = .ok (.return_, 1) := by decide +kernel
theorem dX16_operandBytes_0 : decode cX16_operandBytes 0 = .ok (.iload_n 0, 1) := by decide +kernel
theorem dX16_operandBytes_1 : decode cX16_operandBytes 1 = .ok (.iconst 5, 1) := by decide +kernel
theorem dX16_operandBytes_2 : decode cX16_operandBytes 2 = .ok (.if_icmp .eq 51, 3) := by decide +kernel
theorem dX16_operandBytes_5 : decode cX16_operandBytes 5 = .ok (.iload_n 0, 1) := by decide +kernel
theorem dX16_operandBytes_6 : decode cX16_operandBytes 6 = .ok (.bipush 10, 2) := by decide +kernel
theorem dX16_operandBytes_8 : decode cX16_operandBytes 8 = .ok (.if_icmp .le 9, 3) := by decide +kernel
theorem dX16_operandBytes_11 : decode cX16_operandBytes 11 = .ok (.iload_n 0, 1) := by decide +kernel
theorem dX16_operandBytes_12 : decode cX16_operandBytes 12 = .ok (.bipush 16, 2) := by decide +kernel
theorem dX16_operandBytes_14 : decode cX16_operandBytes 14 = .ok (.if_icmp .lt 39, 3) := by decide +kernel
theorem dX16_operandBytes_17 : decode cX16_operandBytes 17 = .ok (.iload_n 0, 1) := by decide +kernel
theorem dX16_operandBytes_18 : decode cX16_operandBytes 18 = .ok (.bipush 20, 2) := by decide +kernel
theorem dX16_operandBytes_20 : decode cX16_operandBytes 20 = .ok (.if_icmp .le 9, 3) := by decide +kernel
theorem dX16_operandBytes_23 : decode cX16_operandBytes 23 = .ok (.iload_n 0, 1) := by decide +kernel
theorem dX16_operandBytes_24 : decode cX16_operandBytes 24 = .ok (.bipush 24, 2) := by decide +kernel
theorem dX16_operandBytes_26 : decode cX16_operandBytes 26 = .ok (.if_icmp .lt 27, 3) := by decide +kernel
theorem dX16_operandBytes_29 : decode cX16_operandBytes 29 = .ok (.iload_n 0, 1) := by decide +kernel
theorem dX16_operandBytes_30 : decode cX16_operandBytes 30 = .ok (.bipush 46, 2) := by decide +kernel
theorem dX16_operandBytes_32 : decode cX16_operandBytes 32 = .ok (.if_icmp .le 9, 3) := by decide +kernel
theorem dX16_operandBytes_35 : decode cX16_operandBytes 35 = .ok (.iload_n 0, 1) := by decide +kernel
theorem dX16_operandBytes_36 : decode cX16_operandBytes 36 = .ok (.bipush 52, 2) := by decide +kernel
theorem dX16_operandBytes_38 : decode cX16_operandBytes 38 = .ok (.if_icmp .lt 15, 3) := by decide +kernel
theorem dX16_operandBytes_41 : decode cX16_operandBytes 41 = .ok (.iload_n 0, 1) := by decide +kernel
theorem dX16_operandBytes_42 : decode cX16_operandBytes 42 = .ok (.bipush 52, 2) := by decide +kernel
theorem dX16_operandBytes_44 : decode cX16_operandBytes 44 = .ok (.if_icmp .le 11, 3) := by decide +kernel
theorem dX16_operandBytes_47 : decode cX16_operandBytes 47 = .ok (.iload_n 0, 1) := by decide +kernel
theorem dX16_operandBytes_48 : decode cX16_operandBytes 48 = .ok (.bipush 59, 2) := by decide +kernel
theorem dX16_operandBytes_50 : decode cX16_operandBytes 50 = .ok (.if_icmp .ge 5, 3) := by decide +kernel
theorem dX16_operandBytes_53 : decode cX16_operandBytes 53 = .ok (.iconst 1, 1) := by decide +kernel
theorem dX16_operandBytes_54 : decode cX16_operandBytes 54 = .ok (.ireturn, 1) := by decide +kernel
theorem dX16_operandBytes_55 : decode cX16_operandBytes 55 = .ok (.iload_n 0, 1) := by decide +kernel
theorem dX16_operandBytes_56 : decode cX16_operandBytes 56 = .ok (.bipush 16, 2) := by decide +kernel
theorem dX16_operandBytes_58 : decode cX16_operandBytes 58 = .ok (.if_icmp .eq 25, 3) := by decide +kernel
theorem dX16_operandBytes_61 : decode cX16_operandBytes 61 = .ok (.iload_n 0, 1) := by decide +kernel
theorem dX16_operandBytes_62 : decode cX16_operandBytes 62 = .ok (.bipush 17, 2) := by decide +kernel
theorem dX16_operandBytes_64 : decode cX16_operandBytes 64 = .ok (.if_icmp .eq 19, 3) := by decide +kernel
theorem dX16_operandBytes_67 : decode cX16_operandBytes 67 = .ok (.iload_n 0, 1) := by decide +kernel
theorem dX16_operandBytes_68 : decode cX16_operandBytes 68 = .ok (.bipush 52, 2) := by decide +kernel
theorem dX16_operandBytes_70 : decode cX16_operandBytes 70 = .ok (.if_icmp .eq 13, 3) := by decide +kernel
theorem dX16_operandBytes_73 : decode cX16_operandBytes 73 = .ok (.iload_n 0, 1) := by decide +kernel
theorem dX16_operandBytes_74 : decode cX16_operandBytes 74 = .ok (.iconst 1, 1) := by decide +kernel
theorem dX16_operandBytes_75 : decode cX16_operandBytes 75 = .ok (.if_icmp .le 10, 3) := by decide +kernel
theorem dX16_operandBytes_78 : decode cX16_operandBytes 78 = .ok (.iload_n 0, 1) := by decide +kernel
theorem dX16_operandBytes_79 : decode cX16_operandBytes 79 = .ok (.iconst 5, 1) := by decide +kernel
theorem dX16_operandBytes_80 : decode cX16_operandBytes 80 = .ok (.if_icmp .ge 5, 3) := by decide +kernel
theorem dX16_operandBytes_83 : decode cX16_operandBytes 83 = .ok (.iconst 2, 1) := by decide +kernel
theorem dX16_operandBytes_84 : decode cX16_operandBytes 84 = .ok (.ireturn, 1) := by decide +kernel
theorem dX16_operandBytes_85 : decode cX16_operandBytes 85 = .ok (.iload_n 0, 1) := by decide +kernel
theorem dX16_operandBytes_86 : decode cX16_operandBytes 86 = .ok (.bipush 6, 2) := by decide +kernel
theorem dX16_operandBytes_88 : decode cX16_operandBytes 88 = .ok (.if_icmp .eq 9, 3) := by decide +kernel
theorem dX16_operandBytes_91 : decode cX16_operandBytes 91 = .ok (.iload_n 0, 1) := by decide +kernel
theorem dX16_operandBytes_92 : decode cX16_operandBytes 92 = .ok (.bipush 10, 2) := by decide +kernel
theorem dX16_operandBytes_94 : decode cX16_operandBytes 94 = .ok (.if_icmp .ne 8, 3) := by decide +kernel
theorem dX16_operandBytes_97 : decode cX16_operandBytes 97 = .ok (.bipush 8, 2) := by decide +kernel
theorem dX16_operandBytes_99 : decode cX16_operandBytes 99 = .ok (.goto 15, 3) := by decide +kernel
theorem dX16_operandBytes_102 : decode cX16_operandBytes 102 = .ok (.iload_n 0, 1) := by decide +kernel
theorem dX16_operandBytes_103 : decode cX16_operandBytes 103 = .ok (.bipush 7, 2) := by decide +kernel
theorem dX16_operandBytes_105 : decode cX16_operandBytes 105 = .ok (.if_icmp .ne 8, 3) := by decide +kernel
theorem dX16_operandBytes_108 : decode cX16_operandBytes 108 = .ok (.bipush 16, 2) := by decide +kernel
theorem dX16_operandBytes_110 : decode cX16_operandBytes 110 = .ok (.goto 4, 3) := by decide +kernel
theorem dX16_operandBytes_113 : decode cX16_operandBytes 113 = .ok (.iconst 0, 1) := by decide +kernel
theorem dX16_operandBytes_114 : decode cX16_operandBytes 114 = .ok (.ireturn, 1) := by decide +kernel
theorem dX16_overInstruction_0 : decode cX16_overInstruction 0 = .ok (.aload_n 0, 1) := by decide +kernel
theorem dX16_overInstruction_1 : decode cX16_overInstruction 1 = .ok (.iconst 1, 1) := by decide +kernel
theorem dX16_overInstruction_2 : decode cX16_overInstruction 2 = .ok (.invokevirtual 57, 3) := by decide +kernel
theorem dX16_overInstruction_5 : decode cX16_overInstruction 5 = .ok (.istore_n 1, 1) := by decide +kernel
theorem dX16_overInstruction_6 : decode cX16_overInstruction 6 = .ok (.aload_n 0, 1) := by decide +kernel
theorem dX16_overInstruction_7 : decode cX16_overInstruction 7 = .ok (.invokevirtual 60, 3) := by decide +kernel
theorem dX16_overInstruction_10 : decode cX16_overInstruction 10 = .ok (.ifCond .ne 4, 3) := by decide +kernel
theorem dX16_overInstruction_13 : decode cX16_overInstruction 13 = .ok (.return_, 1) := by decide +kernel
theorem dX16_overInstruction_14 : decode cX16_overInstruction 14 = .ok (.aload_n 0, 1) := by decide +kernel
theorem dX16_overInstruction_15 : decode cX16_overInstruction 15 = .ok (.getfield 29, 3) := by decide +kernel
theorem dX16_overInstruction_18 : decode cX16_overInstruction 18 = .ok (.aload_n 0, 1) := by decide +kernel
theorem dX16_overInstruction_19 : decode cX16_overInstruction 19 = .ok (.getfield 72, 3) := by decide +kernel
theorem dX16_overInstruction_22 : decode cX16_overInstruction 22 = .ok (.iload_n 1, 1) := by decide +kernel
theorem dX16_overInstruction_23 : decode cX16_overInstruction 23 = .ok (.iastore, 1) := by decide +kernel
theorem dX16_overInstruction_24 : decode cX16_overInstruction 24 = .ok (.aload_n 0, 1) := by decide +kernel
theorem dX16_overInstruction_25 : decode cX16_overInstruction 25 = .ok (.dup, 1) := by decide +kernel
theorem dX16_overInstruction_26 : decode cX16_overInstruction 26 = .ok (.getfield 72, 3) := by decide +kernel
theorem dX16_overInstruction_29 : decode cX16_overInstruction 29 = .ok (.iconst 1, 1) := by decide +kernel
theorem dX16_overInstruction_30 : decode cX16_overInstruction 30 = .ok (.iadd, 1) := by decide +kernel
theorem dX16_overInstruction_31 : decode cX16_overInstruction 31 = .ok (.putfield 72, 3) := by decide +kernel
theorem dX16_overInstruction_34 : decode cX16_overInstruction 34 = .ok (.aload_n 0, 1) := by decide +kernel
theorem dX16_overInstruction_35 : decode cX16_overInstruction 35 = .ok (.iload_n 1, 1) := by decide +kernel
theorem dX16_overInstruction_36 : decode cX16_overInstruction 36 = .ok (.invokevirtual 46, 3) := by decide +kernel
theorem dX16_overInstruction_39 : decode cX16_overInstruction 39 = .ok (.bipush 59, 2) := by decide +kernel
theorem dX16_overInstruction_41 : decode cX16_overInstruction 41 = .ok (.if_icmp .le 12, 3) := by decide +kernel
theorem dX16_overInstruction_44 : decode cX16_overInstruction 44 = .ok (.aload_n 0, 1) := by decide +kernel
theorem dX16_overInstruction_45 : decode cX16_overInstruction 45 = .ok (.iconst 5, 1) := by decide +kernel
theorem dX16_overInstruction_46 : decode cX16_overInstruction 46 = .ok (.iload_n 1, 1) := by decide +kernel
theorem dX16_overInstruction_47 : decode cX16_overInstruction 47 = .ok (.invokevirtual 53, 3) := by decide +kernel
theorem dX16_overInstruction_50 : decode cX16_overInstruction 50 = .ok (.goto 50, 3) := by decide +kernel
theorem dX16_overInstruction_53 : decode cX16_overInstruction 53 = .ok (.aload_n 0, 1) := by decide +kernel
theorem dX16_overInstruction_54 : decode cX16_overInstruction 54 = .ok (.iload_n 1, 1) := by decide +kernel
theorem dX16_overInstruction_55 : decode cX16_overInstruction 55 = .ok (.invokevirtual 46, 3) := by decide +kernel
theorem dX16_overInstruction_58 : decode cX16_overInstruction 58 = .ok (.bipush 52, 2) := by decide +kernel
theorem dX16_overInstruction_60 : decode cX16_overInstruction 60 = .ok (.if_icmp .ne 27, 3) := by decide +kernel
theorem dX16_overInstruction_63 : decode cX16_overInstruction 63 = .ok (.aload_n 0, 1) := by decide +kernel
theorem dX16_overInstruction_64 : decode cX16_overInstruction 64 = .ok (.iconst 1, 1) := by decide +kernel
theorem dX16_overInstruction_65 : decode cX16_overInstruction 65 = .ok (.invokevirtual 57, 3) := by decide +kernel
theorem dX16_overInstruction_68 : decode cX16_overInstruction 68 = .ok (.pop, 1) := by decide +kernel
theorem dX16_overInstruction_69 : decode cX16_overInstruction 69 = .ok (.aload_n 0, 1) := by decide +kernel
theorem dX16_overInstruction_70 : decode cX16_overInstruction 70 = .ok (.invokevirtual 60, 3) := by decide +kernel
theorem dX16_overInstruction_73 : decode cX16_overInstruction 73 = .ok (.ifCond .eq 27, 3) := by decide +kernel
theorem dX16_overInstruction_76 : decode cX16_overInstruction 76 = .ok (.aload_n 0, 1) := by decide +kernel
theorem dX16_overInstruction_77 : decode cX16_overInstruction 77 = .ok (.iconst 0, 1) := by decide +kernel
theorem dX16_overInstruction_78 : decode cX16_overInstruction 78 = .ok (.bipush 64, 2) := by decide +kernel
theorem dX16_overInstruction_80 : decode cX16_overInstruction 80 = .ok (.invokevirtual 64, 3) := by decide +kernel
theorem dX16_overInstruction_83 : decode cX16_overInstruction 83 = .ok (.pop, 1) := by decide +kernel
theorem dX16_overInstruction_84 : decode cX16_overInstruction 84 = .ok (.goto 16, 3) := by decide +kernel
theorem dX16_overInstruction_87 : decode cX16_overInstruction 87 = .ok (.aload_n 0, 1) := by decide +kernel
theorem dX16_overInstruction_88 : decode cX16_overInstruction 88 = .ok (.aload_n 0, 1) := by decide +kernel
theorem dX16_overInstruction_89 : decode cX16_overInstruction 89 = .ok (.iload_n 1, 1) := by decide +kernel
theorem dX16_overInstruction_90 : decode cX16_overInstruction 90 = .ok (.invokevirtual 46, 3) := by decide +kernel
theorem dX16_overInstruction_93 : decode cX16_overInstruction 93 = .ok (.invokestatic 75, 3) := by decide +kernel
theorem dX16_overInstruction_96 : decode cX16_overInstruction 96 = .ok (.invokevirtual 57, 3) := by decide +kernel
theorem dX16_overInstruction_99 : decode cX16_overInstruction 99 = .ok (.pop, 1) := by decide +kernel
theorem dX16_overInstruction_100 : decode cX16_overInstruction 100 = .ok (.return_, 1) := by decide +kernel
theorem dX16_overFunction_0 : decode cX16_overFunction 0 = .ok (.aload_n 0, 1) := by decide +kernel
theorem dX16_overFunction_1 : decode cX16_overFunction 1 = .ok (.getfield 23, 3) := by decide +kernel
theorem dX16_overFunction_4 : decode cX16_overFunction 4 = .ok (.iload_n 1, 1) := by decide +kernel
theorem dX16_overFunction_5 : decode cX16_overFunction 5 = .ok (.aload_n 0, 1) := by decide +kernel
theorem dX16_overFunction_6 : decode cX16_overFunction 6 = .ok (.getfield 50, 3) := by decide +kernel
theorem dX16_overFunction_9 : decode cX16_overFunction 9 = .ok (.iastore, 1) := by decide +kernel
theorem dX16_overFunction_10 : decode cX16_overFunction 10 = .ok (.aload_n 0, 1) := by decide +kernel
theorem dX16_overFunction_11 : decode cX16_overFunction 11 = .ok (.getfield 26, 3) := by decide +kernel
theorem dX16_overFunction_14 : decode cX16_overFunction 14 = .ok (.iload_n 1, 1) := by decide +kernel
theorem dX16_overFunction_15 : decode cX16_overFunction 15 = .ok (.aload_n 0, 1) := by decide +kernel
theorem dX16_overFunction_16 : decode cX16_overFunction 16 = .ok (.getfield 72, 3) := by decide +kernel
theorem dX16_overFunction_19 : decode cX16_overFunction 19 = .ok (.iastore, 1) := by decide +kernel
theorem dX16_overFunction_20 : decode cX16_overFunction 20 = .ok (.aload_n 0, 1) := by decide +kernel
theorem dX16_overFunction_21 : decode cX16_overFunction 21 = .ok (.iconst 0, 1) := by decide +kernel
theorem dX16_overFunction_22 : decode cX16_overFunction 22 = .ok (.bipush 7, 2) := by decide +kernel
theorem dX16_overFunction_24 : decode cX16_overFunction 24 = .ok (.invokevirtual 64, 3) := by decide +kernel
theorem dX16_overFunction_27 : decode cX16_overFunction 27 = .ok (.pop, 1) := by decide +kernel
theorem dX16_overFunction_28 : decode cX16_overFunction 28 = .ok (.aload_n 0, 1) := by decide +kernel
theorem dX16_overFunction_29 : decode cX16_overFunction 29 = .ok (.bipush 8, 2) := by decide +kernel
theorem dX16_overFunction_31 : decode cX16_overFunction 31 = .ok (.invokevirtual 78, 3) := by decide +kernel
theorem dX16_overFunction_34 : decode cX16_overFunction 34 = .ok (.aload_n 0, 1) := by decide +kernel
theorem dX16_overFunction_35 : decode cX16_overFunction 35 = .ok (.invokevirtual 60, 3) := by decide +kernel
theorem dX16_overFunction_38 : decode cX16_overFunction 38 = .ok (.ifCond .ne 4, 3) := by decide +kernel
theorem dX16_overFunction_41 : decode cX16_overFunction 41 = .ok (.return_, 1) := by decide +kernel
theorem dX16_overFunction_42 : decode cX16_overFunction 42 = .ok (.aload_n 0, 1) := by decide +kernel
theorem dX16_overFunction_43 : decode cX16_overFunction 43 = .ok (.iconst 2, 1) := by decide +kernel
theorem dX16_overFunction_44 : decode cX16_overFunction 44 = .ok (.invokevirtual 57, 3) := by decide +kernel
theorem dX16_overFunction_47 : decode cX16_overFunction 47 = .ok (.istore_n 2, 1) := by decide +kernel
theorem dX16_overFunction_48 : decode cX16_overFunction 48 = .ok (.aload_n 0, 1) := by decide +kernel
theorem dX16_overFunction_49 : decode cX16_overFunction 49 = .ok (.invokevirtual 60, 3) := by decide +kernel
theorem dX16_overFunction_52 : decode cX16_overFunction 52 = .ok (.ifCond .ne 4, 3) := by decide +kernel
theorem dX16_overFunction_55 : decode cX16_overFunction 55 = .ok (.return_, 1) := by decide +kernel
theorem dX16_overFunction_56 : decode cX16_overFunction 56 = .ok (.aload_n 0, 1) := by decide +kernel
theorem dX16_overFunction_57 : decode cX16_overFunction 57 = .ok (.iload_n 2, 1) := by decide +kernel
theorem dX16_overFunction_58 : decode cX16_overFunction 58 = .ok (.invokevirtual 82, 3) := by decide +kernel
theorem dX16_overFunction_61 : decode cX16_overFunction 61 = .ok (.istore_n 3, 1) := by decide +kernel
theorem dX16_overFunction_62 : decode cX16_overFunction 62 = .ok (.iload_n 3, 1) := by decide +kernel
theorem dX16_overFunction_63 : decode cX16_overFunction 63 = .ok (.iconst 1, 1) := by decide +kernel
theorem dX16_overFunction_64 : decode cX16_overFunction 64 = .ok (.if_icmp .lt 22, 3) := by decide +kernel
theorem dX16_overFunction_67 : decode cX16_overFunction 67 = .ok (.iload_n 3, 1) := by decide +kernel
theorem dX16_overFunction_68 : decode cX16_overFunction 68 = .ok (.sipush 1024, 3) := by decide +kernel
theorem dX16_overFunction_71 : decode cX16_overFunction 71 = .ok (.if_icmp .gt 15, 3) := by decide +kernel
theorem dX16_overFunction_74 : decode cX16_overFunction 74 = .ok (.aload_n 0, 1) := by decide +kernel
theorem dX16_overFunction_75 : decode cX16_overFunction 75 = .ok (.getfield 72, 3) := by decide +kernel
theorem dX16_overFunction_78 : decode cX16_overFunction 78 = .ok (.iload_n 3, 1) := by decide +kernel
theorem dX16_overFunction_79 : decode cX16_overFunction 79 = .ok (.iadd, 1) := by decide +kernel
theorem dX16_overFunction_80 : decode cX16_overFunction 80 = .ok (.sipush 8192, 3) := by decide +kernel
theorem dX16_overFunction_83 : decode cX16_overFunction 83 = .ok (.if_icmp .le 9, 3) := by decide +kernel
theorem dX16_overFunction_86 : decode cX16_overFunction 86 = .ok (.aload_n 0, 1) := by decide +kernel
theorem dX16_overFunction_87 : decode cX16_overFunction 87 = .ok (.iconst 3, 1) := by decide +kernel
theorem dX16_overFunction_88 : decode cX16_overFunction 88 = .ok (.iload_n 2, 1) := by decide +kernel
theorem dX16_overFunction_89 : decode cX16_overFunction 89 = .ok (.invokevirtual 53, 3) := by decide +kernel
theorem dX16_overFunction_92 : decode cX16_overFunction 92 = .ok (.iconst 0, 1) := by decide +kernel
theorem dX16_overFunction_93 : decode cX16_overFunction 93 = .ok (.istore 4, 2) := by decide +kernel
theorem dX16_overFunction_95 : decode cX16_overFunction 95 = .ok (.iload 4, 2) := by decide +kernel
theorem dX16_overFunction_97 : decode cX16_overFunction 97 = .ok (.iload_n 3, 1) := by decide +kernel
theorem dX16_overFunction_98 : decode cX16_overFunction 98 = .ok (.if_icmp .ge 20, 3) := by decide +kernel
theorem dX16_overFunction_101 : decode cX16_overFunction 101 = .ok (.aload_n 0, 1) := by decide +kernel
theorem dX16_overFunction_102 : decode cX16_overFunction 102 = .ok (.invokevirtual 60, 3) := by decide +kernel
theorem dX16_overFunction_105 : decode cX16_overFunction 105 = .ok (.ifCond .eq 13, 3) := by decide +kernel
theorem dX16_overFunction_108 : decode cX16_overFunction 108 = .ok (.aload_n 0, 1) := by decide +kernel
theorem dX16_overFunction_109 : decode cX16_overFunction 109 = .ok (.invokevirtual 85, 3) := by decide +kernel
theorem dX16_overFunction_112 : decode cX16_overFunction 112 = .ok (.iinc 4 1, 3) := by decide +kernel
theorem dX16_overFunction_115 : decode cX16_overFunction 115 = .ok (.goto (-20), 3) := by decide +kernel
theorem dX16_overFunction_118 : decode cX16_overFunction 118 = .ok (.aload_n 0, 1) := by decide +kernel
theorem dX16_overFunction_119 : decode cX16_overFunction 119 = .ok (.getfield 26, 3) := by decide +kernel
theorem dX16_overFunction_122 : decode cX16_overFunction 122 = .ok (.iload_n 1, 1) := by decide +kernel
theorem dX16_overFunction_123 : decode cX16_overFunction 123 = .ok (.iconst 1, 1) := by decide +kernel
theorem dX16_overFunction_124 : decode cX16_overFunction 124 = .ok (.iadd, 1) := by decide +kernel
theorem dX16_overFunction_125 : decode cX16_overFunction 125 = .ok (.aload_n 0, 1) := by decide +kernel
theorem dX16_overFunction_126 : decode cX16_overFunction 126 = .ok (.getfield 72, 3) := by decide +kernel
theorem dX16_overFunction_129 : decode cX16_overFunction 129 = .ok (.iastore, 1) := by decide +kernel
theorem dX16_overFunction_130 : decode cX16_overFunction 130 = .ok (.return_, 1) := by decide +kernel
theorem dX16_overLists_0 : decode cX16_overLists 0 = .ok (.aload_n 0, 1) := by decide +kernel
theorem dX16_overLists_1 : decode cX16_overLists 1 = .ok (.invokevirtual 60, 3) := by decide +kernel
theorem dX16_overLists_4 : decode cX16_overLists 4 = .ok (.ifCond .eq 9, 3) := by decide +kernel
theorem dX16_overLists_7 : decode cX16_overLists 7 = .ok (.aload_n 0, 1) := by decide +kernel
theorem dX16_overLists_8 : decode cX16_overLists 8 = .ok (.iload_n 1, 1) := by decide +kernel
theorem dX16_overLists_9 : decode cX16_overLists 9 = .ok (.iconst 1, 1) := by decide +kernel
theorem dX16_overLists_10 : decode cX16_overLists 10 = .ok (.invokevirtual 88, 3) := by decide +kernel
theorem dX16_overLists_13 : decode cX16_overLists 13 = .ok (.aload_n 0, 1) := by decide +kernel
theorem dX16_overLists_14 : decode cX16_overLists 14 = .ok (.invokevirtual 60, 3) := by decide +kernel
theorem dX16_overLists_17 : decode cX16_overLists 17 = .ok (.ifCond .eq 9, 3) := by decide +kernel
theorem dX16_overLists_20 : decode cX16_overLists 20 = .ok (.aload_n 0, 1) := by decide +kernel
theorem dX16_overLists_21 : decode cX16_overLists 21 = .ok (.iload_n 1, 1) := by decide +kernel
theorem dX16_overLists_22 : decode cX16_overLists 22 = .ok (.iconst 1, 1) := by decide +kernel
theorem dX16_overLists_23 : decode cX16_overLists 23 = .ok (.invokevirtual 88, 3) := by decide +kernel
theorem dX16_overLists_26 : decode cX16_overLists 26 = .ok (.aload_n 0, 1) := by decide +kernel
theorem dX16_overLists_27 : decode cX16_overLists 27 = .ok (.invokevirtual 60, 3) := by decide +kernel
theorem dX16_overLists_30 : decode cX16_overLists 30 = .ok (.ifCond .eq 10, 3) := by decide +kernel
theorem dX16_overLists_33 : decode cX16_overLists 33 = .ok (.aload_n 0, 1) := by decide +kernel
theorem dX16_overLists_34 : decode cX16_overLists 34 = .ok (.bipush 32, 2) := by decide +kernel
theorem dX16_overLists_36 : decode cX16_overLists 36 = .ok (.iconst 1, 1) := by decide +kernel
theorem dX16_overLists_37 : decode cX16_overLists 37 = .ok (.invokevirtual 88, 3) := by decide +kernel
theorem dX16_overLists_40 : decode cX16_overLists 40 = .ok (.return_, 1) := by decide +kernel
theorem dX16_overAll_0 : decode cX16_overAll 0 = .ok (.iconst 0, 1) := by decide +kernel
theorem dX16_overAll_1 : decode cX16_overAll 1 = .ok (.istore_n 1, 1) := by decide +kernel
theorem dX16_overAll_2 : decode cX16_overAll 2 = .ok (.iload_n 1, 1) := by decide +kernel
theorem dX16_overAll_3 : decode cX16_overAll 3 = .ok (.iconst 4, 1) := by decide +kernel
theorem dX16_overAll_4 : decode cX16_overAll 4 = .ok (.if_icmp .ge 76, 3) := by decide +kernel
theorem dX16_overAll_7 : decode cX16_overAll 7 = .ok (.aload_n 0, 1) := by decide +kernel
theorem dX16_overAll_8 : decode cX16_overAll 8 = .ok (.invokevirtual 60, 3) := by decide +kernel
theorem dX16_overAll_11 : decode cX16_overAll 11 = .ok (.ifCond .eq 69, 3) := by decide +kernel
theorem dX16_overAll_14 : decode cX16_overAll 14 = .ok (.aload_n 0, 1) := by decide +kernel
theorem dX16_overAll_15 : decode cX16_overAll 15 = .ok (.iconst 1, 1) := by decide +kernel
theorem dX16_overAll_16 : decode cX16_overAll 16 = .ok (.invokevirtual 57, 3) := by decide +kernel
theorem dX16_overAll_19 : decode cX16_overAll 19 = .ok (.istore_n 2, 1) := by decide +kernel
theorem dX16_overAll_20 : decode cX16_overAll 20 = .ok (.iload_n 1, 1) := by decide +kernel
theorem dX16_overAll_21 : decode cX16_overAll 21 = .ok (.ifCond .ne 8, 3) := by decide +kernel
theorem dX16_overAll_24 : decode cX16_overAll 24 = .ok (.bipush 82, 2) := by decide +kernel
theorem dX16_overAll_26 : decode cX16_overAll 26 = .ok (.goto 25, 3) := by decide +kernel
theorem dX16_overAll_29 : decode cX16_overAll 29 = .ok (.iload_n 1, 1) := by decide +kernel
theorem dX16_overAll_30 : decode cX16_overAll 30 = .ok (.iconst 1, 1) := by decide +kernel
theorem dX16_overAll_31 : decode cX16_overAll 31 = .ok (.if_icmp .ne 8, 3) := by decide +kernel
theorem dX16_overAll_34 : decode cX16_overAll 34 = .ok (.bipush 76, 2) := by decide +kernel
theorem dX16_overAll_36 : decode cX16_overAll 36 = .ok (.goto 15, 3) := by decide +kernel
theorem dX16_overAll_39 : decode cX16_overAll 39 = .ok (.iload_n 1, 1) := by decide +kernel
theorem dX16_overAll_40 : decode cX16_overAll 40 = .ok (.iconst 2, 1) := by decide +kernel
theorem dX16_overAll_41 : decode cX16_overAll 41 = .ok (.if_icmp .ne 8, 3) := by decide +kernel
theorem dX16_overAll_44 : decode cX16_overAll 44 = .ok (.bipush 77, 2) := by decide +kernel
theorem dX16_overAll_46 : decode cX16_overAll 46 = .ok (.goto 5, 3) := by decide +kernel
theorem dX16_overAll_49 : decode cX16_overAll 49 = .ok (.bipush 49, 2) := by decide +kernel
theorem dX16_overAll_51 : decode cX16_overAll 51 = .ok (.istore_n 3, 1) := by decide +kernel
theorem dX16_overAll_52 : decode cX16_overAll 52 = .ok (.aload_n 0, 1) := by decide +kernel
theorem dX16_overAll_53 : decode cX16_overAll 53 = .ok (.invokevirtual 60, 3) := by decide +kernel
theorem dX16_overAll_56 : decode cX16_overAll 56 = .ok (.ifCond .eq 18, 3) := by decide +kernel
theorem dX16_overAll_59 : decode cX16_overAll 59 = .ok (.aload_n 0, 1) := by decide +kernel
theorem dX16_overAll_60 : decode cX16_overAll 60 = .ok (.iload_n 2, 1) := by decide +kernel
theorem dX16_overAll_61 : decode cX16_overAll 61 = .ok (.invokevirtual 46, 3) := by decide +kernel
theorem dX16_overAll_64 : decode cX16_overAll 64 = .ok (.iload_n 3, 1) := by decide +kernel
theorem dX16_overAll_65 : decode cX16_overAll 65 = .ok (.if_icmp .eq 9, 3) := by decide +kernel
theorem dX16_overAll_68 : decode cX16_overAll 68 = .ok (.aload_n 0, 1) := by decide +kernel
theorem dX16_overAll_69 : decode cX16_overAll 69 = .ok (.iconst 1, 1) := by decide +kernel
theorem dX16_overAll_70 : decode cX16_overAll 70 = .ok (.iload_n 2, 1) := by decide +kernel
theorem dX16_overAll_71 : decode cX16_overAll 71 = .ok (.invokevirtual 53, 3) := by decide +kernel
theorem dX16_overAll_74 : decode cX16_overAll 74 = .ok (.iinc 1 1, 3) := by decide +kernel
theorem dX16_overAll_77 : decode cX16_overAll 77 = .ok (.goto (-75), 3) := by decide +kernel
theorem dX16_overAll_80 : decode cX16_overAll 80 = .ok (.aload_n 0, 1) := by decide +kernel
theorem dX16_overAll_81 : decode cX16_overAll 81 = .ok (.invokevirtual 60, 3) := by decide +kernel
theorem dX16_overAll_84 : decode cX16_overAll 84 = .ok (.ifCond .eq 9, 3) := by decide +kernel
theorem dX16_overAll_87 : decode cX16_overAll 87 = .ok (.aload_n 0, 1) := by decide +kernel
theorem dX16_overAll_88 : decode cX16_overAll 88 = .ok (.iconst 2, 1) := by decide +kernel
theorem dX16_overAll_89 : decode cX16_overAll 89 = .ok (.invokevirtual 57, 3) := by decide +kernel
theorem dX16_overAll_92 : decode cX16_overAll 92 = .ok (.pop, 1) := by decide +kernel
theorem dX16_overAll_93 : decode cX16_overAll 93 = .ok (.aload_n 0, 1) := by decide +kernel
theorem dX16_overAll_94 : decode cX16_overAll 94 = .ok (.aload_n 0, 1) := by decide +kernel
theorem dX16_overAll_95 : decode cX16_overAll 95 = .ok (.invokevirtual 60, 3) := by decide +kernel
theorem dX16_overAll_98 : decode cX16_overAll 98 = .ok (.ifCond .eq 13, 3) := by decide +kernel
theorem dX16_overAll_101 : decode cX16_overAll 101 = .ok (.aload_n 0, 1) := by decide +kernel
theorem dX16_overAll_102 : decode cX16_overAll 102 = .ok (.iconst 0, 1) := by decide +kernel
theorem dX16_overAll_103 : decode cX16_overAll 103 = .ok (.bipush 32, 2) := by decide +kernel
theorem dX16_overAll_105 : decode cX16_overAll 105 = .ok (.invokevirtual 64, 3) := by decide +kernel
theorem dX16_overAll_108 : decode cX16_overAll 108 = .ok (.goto 4, 3) := by decide +kernel
theorem dX16_overAll_111 : decode cX16_overAll 111 = .ok (.iconst 0, 1) := by decide +kernel
theorem dX16_overAll_112 : decode cX16_overAll 112 = .ok (.putfield 92, 3) := by decide +kernel
theorem dX16_overAll_115 : decode cX16_overAll 115 = .ok (.iconst 0, 1) := by decide +kernel
theorem dX16_overAll_116 : decode cX16_overAll 116 = .ok (.istore_n 1, 1) := by decide +kernel
theorem dX16_overAll_117 : decode cX16_overAll 117 = .ok (.iload_n 1, 1) := by decide +kernel
theorem dX16_overAll_118 : decode cX16_overAll 118 = .ok (.aload_n 0, 1) := by decide +kernel
theorem dX16_overAll_119 : decode cX16_overAll 119 = .ok (.getfield 92, 3) := by decide +kernel
theorem dX16_overAll_122 : decode cX16_overAll 122 = .ok (.if_icmp .ge 78, 3) := by decide +kernel
theorem dX16_overAll_125 : decode cX16_overAll 125 = .ok (.aload_n 0, 1) := by decide +kernel
theorem dX16_overAll_126 : decode cX16_overAll 126 = .ok (.invokevirtual 60, 3) := by decide +kernel
theorem dX16_overAll_129 : decode cX16_overAll 129 = .ok (.ifCond .eq 71, 3) := by decide +kernel
theorem dX16_overAll_132 : decode cX16_overAll 132 = .ok (.aload_n 0, 1) := by decide +kernel
theorem dX16_overAll_133 : decode cX16_overAll 133 = .ok (.getfield 13, 3) := by decide +kernel
theorem dX16_overAll_136 : decode cX16_overAll 136 = .ok (.iload_n 1, 1) := by decide +kernel
theorem dX16_overAll_137 : decode cX16_overAll 137 = .ok (.aload_n 0, 1) := by decide +kernel
theorem dX16_overAll_138 : decode cX16_overAll 138 = .ok (.getfield 50, 3) := by decide +kernel
theorem dX16_overAll_141 : decode cX16_overAll 141 = .ok (.iastore, 1) := by decide +kernel
theorem dX16_overAll_142 : decode cX16_overAll 142 = .ok (.aload_n 0, 1) := by decide +kernel
theorem dX16_overAll_143 : decode cX16_overAll 143 = .ok (.iconst 0, 1) := by decide +kernel
theorem dX16_overAll_144 : decode cX16_overAll 144 = .ok (.bipush 15, 2) := by decide +kernel
theorem dX16_overAll_146 : decode cX16_overAll 146 = .ok (.invokevirtual 64, 3) := by decide +kernel
theorem dX16_overAll_149 : decode cX16_overAll 149 = .ok (.pop, 1) := by decide +kernel
theorem dX16_overAll_150 : decode cX16_overAll 150 = .ok (.aload_n 0, 1) := by decide +kernel
theorem dX16_overAll_151 : decode cX16_overAll 151 = .ok (.invokevirtual 60, 3) := by decide +kernel
theorem dX16_overAll_154 : decode cX16_overAll 154 = .ok (.ifCond .eq 13, 3) := by decide +kernel
theorem dX16_overAll_157 : decode cX16_overAll 157 = .ok (.aload_n 0, 1) := by decide +kernel
theorem dX16_overAll_158 : decode cX16_overAll 158 = .ok (.iconst 1, 1) := by decide +kernel
theorem dX16_overAll_159 : decode cX16_overAll 159 = .ok (.bipush 16, 2) := by decide +kernel
theorem dX16_overAll_161 : decode cX16_overAll 161 = .ok (.invokevirtual 64, 3) := by decide +kernel
theorem dX16_overAll_164 : decode cX16_overAll 164 = .ok (.goto 4, 3) := by decide +kernel
theorem dX16_overAll_167 : decode cX16_overAll 167 = .ok (.iconst 0, 1) := by decide +kernel
theorem dX16_overAll_168 : decode cX16_overAll 168 = .ok (.istore_n 2, 1) := by decide +kernel
theorem dX16_overAll_169 : decode cX16_overAll 169 = .ok (.iconst 0, 1) := by decide +kernel
theorem dX16_overAll_170 : decode cX16_overAll 170 = .ok (.istore_n 3, 1) := by decide +kernel
theorem dX16_overAll_171 : decode cX16_overAll 171 = .ok (.iload_n 3, 1) := by decide +kernel
theorem dX16_overAll_172 : decode cX16_overAll 172 = .ok (.iload_n 2, 1) := by decide +kernel
theorem dX16_overAll_173 : decode cX16_overAll 173 = .ok (.if_icmp .ge 21, 3) := by decide +kernel
theorem dX16_overAll_176 : decode cX16_overAll 176 = .ok (.aload_n 0, 1) := by decide +kernel
theorem dX16_overAll_177 : decode cX16_overAll 177 = .ok (.invokevirtual 60, 3) := by decide +kernel
theorem dX16_overAll_180 : decode cX16_overAll 180 = .ok (.ifCond .eq 14, 3) := by decide +kernel
theorem dX16_overAll_183 : decode cX16_overAll 183 = .ok (.aload_n 0, 1) := by decide +kernel
theorem dX16_overAll_184 : decode cX16_overAll 184 = .ok (.iconst 0, 1) := by decide +kernel
theorem dX16_overAll_185 : decode cX16_overAll 185 = .ok (.invokevirtual 68, 3) := by decide +kernel
theorem dX16_overAll_188 : decode cX16_overAll 188 = .ok (.iinc 3 1, 3) := by decide +kernel
theorem dX16_overAll_191 : decode cX16_overAll 191 = .ok (.goto (-20), 3) := by decide +kernel
theorem dX16_overAll_194 : decode cX16_overAll 194 = .ok (.iinc 1 1, 3) := by decide +kernel
theorem dX16_overAll_197 : decode cX16_overAll 197 = .ok (.goto (-80), 3) := by decide +kernel
theorem dX16_overAll_200 : decode cX16_overAll 200 = .ok (.aload_n 0, 1) := by decide +kernel
theorem dX16_overAll_201 : decode cX16_overAll 201 = .ok (.aload_n 0, 1) := by decide +kernel
theorem dX16_overAll_202 : decode cX16_overAll 202 = .ok (.invokevirtual 60, 3) := by decide +kernel
theorem dX16_overAll_205 : decode cX16_overAll 205 = .ok (.ifCond .eq 13, 3) := by decide +kernel
theorem dX16_overAll_208 : decode cX16_overAll 208 = .ok (.aload_n 0, 1) := by decide +kernel
theorem dX16_overAll_209 : decode cX16_overAll 209 = .ok (.iconst 0, 1) := by decide +kernel
theorem dX16_overAll_210 : decode cX16_overAll 210 = .ok (.bipush 32, 2) := by decide +kernel
theorem dX16_overAll_212 : decode cX16_overAll 212 = .ok (.invokevirtual 64, 3) := by decide +kernel
theorem dX16_overAll_215 : decode cX16_overAll 215 = .ok (.goto 4, 3) := by decide +kernel
theorem dX16_overAll_218 : decode cX16_overAll 218 = .ok (.iconst 0, 1) := by decide +kernel
theorem dX16_overAll_219 : decode cX16_overAll 219 = .ok (.putfield 95, 3) := by decide +kernel
theorem dX16_overAll_222 : decode cX16_overAll 222 = .ok (.iconst 0, 1) := by decide +kernel
theorem dX16_overAll_223 : decode cX16_overAll 223 = .ok (.istore_n 1, 1) := by decide +kernel
theorem dX16_overAll_224 : decode cX16_overAll 224 = .ok (.iload_n 1, 1) := by decide +kernel
theorem dX16_overAll_225 : decode cX16_overAll 225 = .ok (.aload_n 0, 1) := by decide +kernel
theorem dX16_overAll_226 : decode cX16_overAll 226 = .ok (.getfield 95, 3) := by decide +kernel
theorem dX16_overAll_229 : decode cX16_overAll 229 = .ok (.if_icmp .ge 52, 3) := by decide +kernel
theorem dX16_overAll_232 : decode cX16_overAll 232 = .ok (.aload_n 0, 1) := by decide +kernel
theorem dX16_overAll_233 : decode cX16_overAll 233 = .ok (.invokevirtual 60, 3) := by decide +kernel
theorem dX16_overAll_236 : decode cX16_overAll 236 = .ok (.ifCond .eq 45, 3) := by decide +kernel
theorem dX16_overAll_239 : decode cX16_overAll 239 = .ok (.aload_n 0, 1) := by decide +kernel
theorem dX16_overAll_240 : decode cX16_overAll 240 = .ok (.getfield 13, 3) := by decide +kernel
theorem dX16_overAll_243 : decode cX16_overAll 243 = .ok (.aload_n 0, 1) := by decide +kernel
theorem dX16_overAll_244 : decode cX16_overAll 244 = .ok (.getfield 92, 3) := by decide +kernel
theorem dX16_overAll_247 : decode cX16_overAll 247 = .ok (.iload_n 1, 1) := by decide +kernel
theorem dX16_overAll_248 : decode cX16_overAll 248 = .ok (.iadd, 1) := by decide +kernel
theorem dX16_overAll_249 : decode cX16_overAll 249 = .ok (.aload_n 0, 1) := by decide +kernel
theorem dX16_overAll_250 : decode cX16_overAll 250 = .ok (.getfield 50, 3) := by decide +kernel
theorem dX16_overAll_253 : decode cX16_overAll 253 = .ok (.iastore, 1) := by decide +kernel
theorem dX16_overAll_254 : decode cX16_overAll 254 = .ok (.aload_n 0, 1) := by decide +kernel
theorem dX16_overAll_255 : decode cX16_overAll 255 = .ok (.iconst 3, 1) := by decide +kernel
theorem dX16_overAll_256 : decode cX16_overAll 256 = .ok (.invokevirtual 57, 3) := by decide +kernel
theorem dX16_overAll_259 : decode cX16_overAll 259 = .ok (.pop, 1) := by decide +kernel
theorem dX16_overAll_260 : decode cX16_overAll 260 = .ok (.aload_n 0, 1) := by decide +kernel
theorem dX16_overAll_261 : decode cX16_overAll 261 = .ok (.invokevirtual 60, 3) := by decide +kernel
theorem dX16_overAll_264 : decode cX16_overAll 264 = .ok (.ifCond .eq 11, 3) := by decide +kernel
theorem dX16_overAll_267 : decode cX16_overAll 267 = .ok (.aload_n 0, 1) := by decide +kernel
theorem dX16_overAll_268 : decode cX16_overAll 268 = .ok (.iconst 0, 1) := by decide +kernel
theorem dX16_overAll_269 : decode cX16_overAll 269 = .ok (.bipush 15, 2) := by decide +kernel
theorem dX16_overAll_271 : decode cX16_overAll 271 = .ok (.invokevirtual 64, 3) := by decide +kernel
theorem dX16_overAll_274 : decode cX16_overAll 274 = .ok (.pop, 1) := by decide +kernel
theorem dX16_overAll_275 : decode cX16_overAll 275 = .ok (.iinc 1 1, 3) := by decide +kernel
theorem dX16_overAll_278 : decode cX16_overAll 278 = .ok (.goto (-54), 3) := by decide +kernel
theorem dX16_overAll_281 : decode cX16_overAll 281 = .ok (.aload_n 0, 1) := by decide +kernel
theorem dX16_overAll_282 : decode cX16_overAll 282 = .ok (.aload_n 0, 1) := by decide +kernel
theorem dX16_overAll_283 : decode cX16_overAll 283 = .ok (.invokevirtual 60, 3) := by decide +kernel
theorem dX16_overAll_286 : decode cX16_overAll 286 = .ok (.ifCond .eq 13, 3) := by decide +kernel
theorem dX16_overAll_289 : decode cX16_overAll 289 = .ok (.aload_n 0, 1) := by decide +kernel
theorem dX16_overAll_290 : decode cX16_overAll 290 = .ok (.iconst 0, 1) := by decide +kernel
theorem dX16_overAll_291 : decode cX16_overAll 291 = .ok (.bipush 32, 2) := by decide +kernel
theorem dX16_overAll_293 : decode cX16_overAll 293 = .ok (.invokevirtual 64, 3) := by decide +kernel
theorem dX16_overAll_296 : decode cX16_overAll 296 = .ok (.goto 4, 3) := by decide +kernel
theorem dX16_overAll_299 : decode cX16_overAll 299 = .ok (.iconst 0, 1) := by decide +kernel
theorem dX16_overAll_300 : decode cX16_overAll 300 = .ok (.putfield 98, 3) := by decide +kernel
theorem dX16_overAll_303 : decode cX16_overAll 303 = .ok (.iconst 0, 1) := by decide +kernel
theorem dX16_overAll_304 : decode cX16_overAll 304 = .ok (.istore_n 1, 1) := by decide +kernel
theorem dX16_overAll_305 : decode cX16_overAll 305 = .ok (.iload_n 1, 1) := by decide +kernel
theorem dX16_overAll_306 : decode cX16_overAll 306 = .ok (.aload_n 0, 1) := by decide +kernel
theorem dX16_overAll_307 : decode cX16_overAll 307 = .ok (.getfield 98, 3) := by decide +kernel
theorem dX16_overAll_310 : decode cX16_overAll 310 = .ok (.if_icmp .ge 75, 3) := by decide +kernel
theorem dX16_overAll_313 : decode cX16_overAll 313 = .ok (.aload_n 0, 1) := by decide +kernel
theorem dX16_overAll_314 : decode cX16_overAll 314 = .ok (.invokevirtual 60, 3) := by decide +kernel
theorem dX16_overAll_317 : decode cX16_overAll 317 = .ok (.ifCond .eq 68, 3) := by decide +kernel
theorem dX16_overAll_320 : decode cX16_overAll 320 = .ok (.aload_n 0, 1) := by decide +kernel
theorem dX16_overAll_321 : decode cX16_overAll 321 = .ok (.getfield 17, 3) := by decide +kernel
theorem dX16_overAll_324 : decode cX16_overAll 324 = .ok (.iload_n 1, 1) := by decide +kernel
theorem dX16_overAll_325 : decode cX16_overAll 325 = .ok (.aload_n 0, 1) := by decide +kernel
theorem dX16_overAll_326 : decode cX16_overAll 326 = .ok (.getfield 50, 3) := by decide +kernel
theorem dX16_overAll_329 : decode cX16_overAll 329 = .ok (.iastore, 1) := by decide +kernel
theorem dX16_overAll_330 : decode cX16_overAll 330 = .ok (.aload_n 0, 1) := by decide +kernel
theorem dX16_overAll_331 : decode cX16_overAll 331 = .ok (.iconst 3, 1) := by decide +kernel
theorem dX16_overAll_332 : decode cX16_overAll 332 = .ok (.invokevirtual 57, 3) := by decide +kernel
theorem dX16_overAll_335 : decode cX16_overAll 335 = .ok (.pop, 1) := by decide +kernel
theorem dX16_overAll_336 : decode cX16_overAll 336 = .ok (.aload_n 0, 1) := by decide +kernel
theorem dX16_overAll_337 : decode cX16_overAll 337 = .ok (.invokevirtual 60, 3) := by decide +kernel
theorem dX16_overAll_340 : decode cX16_overAll 340 = .ok (.ifCond .eq 11, 3) := by decide +kernel
theorem dX16_overAll_343 : decode cX16_overAll 343 = .ok (.aload_n 0, 1) := by decide +kernel
theorem dX16_overAll_344 : decode cX16_overAll 344 = .ok (.iconst 0, 1) := by decide +kernel
theorem dX16_overAll_345 : decode cX16_overAll 345 = .ok (.bipush 7, 2) := by decide +kernel
theorem dX16_overAll_347 : decode cX16_overAll 347 = .ok (.invokevirtual 64, 3) := by decide +kernel
theorem dX16_overAll_350 : decode cX16_overAll 350 = .ok (.pop, 1) := by decide +kernel
theorem dX16_overAll_351 : decode cX16_overAll 351 = .ok (.aload_n 0, 1) := by decide +kernel
theorem dX16_overAll_352 : decode cX16_overAll 352 = .ok (.invokevirtual 60, 3) := by decide +kernel
theorem dX16_overAll_355 : decode cX16_overAll 355 = .ok (.ifCond .eq 10, 3) := by decide +kernel
theorem dX16_overAll_358 : decode cX16_overAll 358 = .ok (.aload_n 0, 1) := by decide +kernel
theorem dX16_overAll_359 : decode cX16_overAll 359 = .ok (.bipush 8, 2) := by decide +kernel
theorem dX16_overAll_361 : decode cX16_overAll 361 = .ok (.iconst 1, 1) := by decide +kernel
theorem dX16_overAll_362 : decode cX16_overAll 362 = .ok (.invokevirtual 88, 3) := by decide +kernel
theorem dX16_overAll_365 : decode cX16_overAll 365 = .ok (.aload_n 0, 1) := by decide +kernel
theorem dX16_overAll_366 : decode cX16_overAll 366 = .ok (.invokevirtual 60, 3) := by decide +kernel
theorem dX16_overAll_369 : decode cX16_overAll 369 = .ok (.ifCond .eq 10, 3) := by decide +kernel
theorem dX16_overAll_372 : decode cX16_overAll 372 = .ok (.aload_n 0, 1) := by decide +kernel
theorem dX16_overAll_373 : decode cX16_overAll 373 = .ok (.bipush 8, 2) := by decide +kernel
theorem dX16_overAll_375 : decode cX16_overAll 375 = .ok (.iconst 1, 1) := by decide +kernel
theorem dX16_overAll_376 : decode cX16_overAll 376 = .ok (.invokevirtual 88, 3) := by decide +kernel
theorem dX16_overAll_379 : decode cX16_overAll 379 = .ok (.iinc 1 1, 3) := by decide +kernel
theorem dX16_overAll_382 : decode cX16_overAll 382 = .ok (.goto (-77), 3) := by decide +kernel
theorem dX16_overAll_385 : decode cX16_overAll 385 = .ok (.aload_n 0, 1) := by decide +kernel
theorem dX16_overAll_386 : decode cX16_overAll 386 = .ok (.aload_n 0, 1) := by decide +kernel
theorem dX16_overAll_387 : decode cX16_overAll 387 = .ok (.invokevirtual 60, 3) := by decide +kernel
theorem dX16_overAll_390 : decode cX16_overAll 390 = .ok (.ifCond .eq 13, 3) := by decide +kernel
theorem dX16_overAll_393 : decode cX16_overAll 393 = .ok (.aload_n 0, 1) := by decide +kernel
theorem dX16_overAll_394 : decode cX16_overAll 394 = .ok (.iconst 0, 1) := by decide +kernel
theorem dX16_overAll_395 : decode cX16_overAll 395 = .ok (.bipush 32, 2) := by decide +kernel
theorem dX16_overAll_397 : decode cX16_overAll 397 = .ok (.invokevirtual 64, 3) := by decide +kernel
theorem dX16_overAll_400 : decode cX16_overAll 400 = .ok (.goto 4, 3) := by decide +kernel
theorem dX16_overAll_403 : decode cX16_overAll 403 = .ok (.iconst 0, 1) := by decide +kernel
theorem dX16_overAll_404 : decode cX16_overAll 404 = .ok (.putfield 101, 3) := by decide +kernel
theorem dX16_overAll_407 : decode cX16_overAll 407 = .ok (.iconst 0, 1) := by decide +kernel
theorem dX16_overAll_408 : decode cX16_overAll 408 = .ok (.istore_n 1, 1) := by decide +kernel
theorem dX16_overAll_409 : decode cX16_overAll 409 = .ok (.iload_n 1, 1) := by decide +kernel
theorem dX16_overAll_410 : decode cX16_overAll 410 = .ok (.aload_n 0, 1) := by decide +kernel
theorem dX16_overAll_411 : decode cX16_overAll 411 = .ok (.getfield 101, 3) := by decide +kernel
theorem dX16_overAll_414 : decode cX16_overAll 414 = .ok (.if_icmp .ge 31, 3) := by decide +kernel
theorem dX16_overAll_417 : decode cX16_overAll 417 = .ok (.aload_n 0, 1) := by decide +kernel
theorem dX16_overAll_418 : decode cX16_overAll 418 = .ok (.invokevirtual 60, 3) := by decide +kernel
theorem dX16_overAll_421 : decode cX16_overAll 421 = .ok (.ifCond .eq 24, 3) := by decide +kernel
theorem dX16_overAll_424 : decode cX16_overAll 424 = .ok (.aload_n 0, 1) := by decide +kernel
theorem dX16_overAll_425 : decode cX16_overAll 425 = .ok (.getfield 20, 3) := by decide +kernel
theorem dX16_overAll_428 : decode cX16_overAll 428 = .ok (.iload_n 1, 1) := by decide +kernel
theorem dX16_overAll_429 : decode cX16_overAll 429 = .ok (.aload_n 0, 1) := by decide +kernel
theorem dX16_overAll_430 : decode cX16_overAll 430 = .ok (.getfield 50, 3) := by decide +kernel
theorem dX16_overAll_433 : decode cX16_overAll 433 = .ok (.iastore, 1) := by decide +kernel
theorem dX16_overAll_434 : decode cX16_overAll 434 = .ok (.aload_n 0, 1) := by decide +kernel
theorem dX16_overAll_435 : decode cX16_overAll 435 = .ok (.iconst 0, 1) := by decide +kernel
theorem dX16_overAll_436 : decode cX16_overAll 436 = .ok (.invokevirtual 68, 3) := by decide +kernel
theorem dX16_overAll_439 : decode cX16_overAll 439 = .ok (.iinc 1 1, 3) := by decide +kernel
theorem dX16_overAll_442 : decode cX16_overAll 442 = .ok (.goto (-33), 3) := by decide +kernel
theorem dX16_overAll_445 : decode cX16_overAll 445 = .ok (.aload_n 0, 1) := by decide +kernel
theorem dX16_overAll_446 : decode cX16_overAll 446 = .ok (.aload_n 0, 1) := by decide +kernel
theorem dX16_overAll_447 : decode cX16_overAll 447 = .ok (.invokevirtual 60, 3) := by decide +kernel
theorem dX16_overAll_450 : decode cX16_overAll 450 = .ok (.ifCond .eq 13, 3) := by decide +kernel
theorem dX16_overAll_453 : decode cX16_overAll 453 = .ok (.aload_n 0, 1) := by decide +kernel
theorem dX16_overAll_454 : decode cX16_overAll 454 = .ok (.iconst 0, 1) := by decide +kernel
theorem dX16_overAll_455 : decode cX16_overAll 455 = .ok (.bipush 64, 2) := by decide +kernel
theorem dX16_overAll_457 : decode cX16_overAll 457 = .ok (.invokevirtual 64, 3) := by decide +kernel
theorem dX16_overAll_460 : decode cX16_overAll 460 = .ok (.goto 4, 3) := by decide +kernel
theorem dX16_overAll_463 : decode cX16_overAll 463 = .ok (.iconst 0, 1) := by decide +kernel
theorem dX16_overAll_464 : decode cX16_overAll 464 = .ok (.putfield 104, 3) := by decide +kernel
theorem dX16_overAll_467 : decode cX16_overAll 467 = .ok (.iconst 0, 1) := by decide +kernel
theorem dX16_overAll_468 : decode cX16_overAll 468 = .ok (.istore_n 1, 1) := by decide +kernel
theorem dX16_overAll_469 : decode cX16_overAll 469 = .ok (.iload_n 1, 1) := by decide +kernel
theorem dX16_overAll_470 : decode cX16_overAll 470 = .ok (.aload_n 0, 1) := by decide +kernel
theorem dX16_overAll_471 : decode cX16_overAll 471 = .ok (.getfield 104, 3) := by decide +kernel
theorem dX16_overAll_474 : decode cX16_overAll 474 = .ok (.if_icmp .ge 21, 3) := by decide +kernel
theorem dX16_overAll_477 : decode cX16_overAll 477 = .ok (.aload_n 0, 1) := by decide +kernel
theorem dX16_overAll_478 : decode cX16_overAll 478 = .ok (.invokevirtual 60, 3) := by decide +kernel
theorem dX16_overAll_481 : decode cX16_overAll 481 = .ok (.ifCond .eq 14, 3) := by decide +kernel
theorem dX16_overAll_484 : decode cX16_overAll 484 = .ok (.aload_n 0, 1) := by decide +kernel
theorem dX16_overAll_485 : decode cX16_overAll 485 = .ok (.iload_n 1, 1) := by decide +kernel
theorem dX16_overAll_486 : decode cX16_overAll 486 = .ok (.invokevirtual 107, 3) := by decide +kernel
theorem dX16_overAll_489 : decode cX16_overAll 489 = .ok (.iinc 1 1, 3) := by decide +kernel
theorem dX16_overAll_492 : decode cX16_overAll 492 = .ok (.goto (-23), 3) := by decide +kernel
theorem dX16_overAll_495 : decode cX16_overAll 495 = .ok (.aload_n 0, 1) := by decide +kernel
theorem dX16_overAll_496 : decode cX16_overAll 496 = .ok (.invokevirtual 60, 3) := by decide +kernel
theorem dX16_overAll_499 : decode cX16_overAll 499 = .ok (.ifCond .eq 24, 3) := by decide +kernel
theorem dX16_overAll_502 : decode cX16_overAll 502 = .ok (.aload_n 0, 1) := by decide +kernel
theorem dX16_overAll_503 : decode cX16_overAll 503 = .ok (.getfield 50, 3) := by decide +kernel
theorem dX16_overAll_506 : decode cX16_overAll 506 = .ok (.aload_n 0, 1) := by decide +kernel
theorem dX16_overAll_507 : decode cX16_overAll 507 = .ok (.getfield 43, 3) := by decide +kernel
theorem dX16_overAll_510 : decode cX16_overAll 510 = .ok (.if_icmp .ge 13, 3) := by decide +kernel
theorem dX16_overAll_513 : decode cX16_overAll 513 = .ok (.aload_n 0, 1) := by decide +kernel
theorem dX16_overAll_514 : decode cX16_overAll 514 = .ok (.bipush 6, 2) := by decide +kernel
theorem dX16_overAll_516 : decode cX16_overAll 516 = .ok (.aload_n 0, 1) := by decide +kernel
theorem dX16_overAll_517 : decode cX16_overAll 517 = .ok (.getfield 50, 3) := by decide +kernel
theorem dX16_overAll_520 : decode cX16_overAll 520 = .ok (.invokevirtual 53, 3) := by decide +kernel
theorem dX16_overAll_523 : decode cX16_overAll 523 = .ok (.return_, 1) := by decide +kernel
theorem dX16_typeEnd_0 : decode cX16_typeEnd 0 = .ok (.iload_n 1, 1) := by decide +kernel
theorem dX16_typeEnd_1 : decode cX16_typeEnd 1 = .ok (.istore_n 2, 1) := by decide +kernel
theorem dX16_typeEnd_2 : decode cX16_typeEnd 2 = .ok (.aload_n 0, 1) := by decide +kernel
theorem dX16_typeEnd_3 : decode cX16_typeEnd 3 = .ok (.iload_n 2, 1) := by decide +kernel
theorem dX16_typeEnd_4 : decode cX16_typeEnd 4 = .ok (.invokevirtual 46, 3) := by decide +kernel
theorem dX16_typeEnd_7 : decode cX16_typeEnd 7 = .ok (.bipush 6, 2) := by decide +kernel
theorem dX16_typeEnd_9 : decode cX16_typeEnd 9 = .ok (.if_icmp .le 9, 3) := by decide +kernel
theorem dX16_typeEnd_12 : decode cX16_typeEnd 12 = .ok (.iinc 2 1, 3) := by decide +kernel
theorem dX16_typeEnd_15 : decode cX16_typeEnd 15 = .ok (.goto (-13), 3) := by decide +kernel
theorem dX16_typeEnd_18 : decode cX16_typeEnd 18 = .ok (.aload_n 0, 1) := by decide +kernel
theorem dX16_typeEnd_19 : decode cX16_typeEnd 19 = .ok (.iload_n 2, 1) := by decide +kernel
theorem dX16_typeEnd_20 : decode cX16_typeEnd 20 = .ok (.invokevirtual 46, 3) := by decide +kernel
theorem dX16_typeEnd_23 : decode cX16_typeEnd 23 = .ok (.bipush 6, 2) := by decide +kernel
theorem dX16_typeEnd_25 : decode cX16_typeEnd 25 = .ok (.if_icmp .ne 9, 3) := by decide +kernel
theorem dX16_typeEnd_28 : decode cX16_typeEnd 28 = .ok (.iload_n 2, 1) := by decide +kernel
theorem dX16_typeEnd_29 : decode cX16_typeEnd 29 = .ok (.iconst 2, 1) := by decide +kernel
theorem dX16_typeEnd_30 : decode cX16_typeEnd 30 = .ok (.iadd, 1) := by decide +kernel
theorem dX16_typeEnd_31 : decode cX16_typeEnd 31 = .ok (.goto 6, 3) := by decide +kernel
theorem dX16_typeEnd_34 : decode cX16_typeEnd 34 = .ok (.iload_n 2, 1) := by decide +kernel
theorem dX16_typeEnd_35 : decode cX16_typeEnd 35 = .ok (.iconst 1, 1) := by decide +kernel
theorem dX16_typeEnd_36 : decode cX16_typeEnd 36 = .ok (.iadd, 1) := by decide +kernel
theorem dX16_typeEnd_37 : decode cX16_typeEnd 37 = .ok (.ireturn, 1) := by decide +kernel
theorem dX16_lookType_0 : decode cX16_lookType 0 = .ok (.aload_n 0, 1) := by decide +kernel
theorem dX16_lookType_1 : decode cX16_lookType 1 = .ok (.iload_n 1, 1) := by decide +kernel
theorem dX16_lookType_2 : decode cX16_lookType 2 = .ok (.invokevirtual 110, 3) := by decide +kernel
theorem dX16_lookType_5 : decode cX16_lookType 5 = .ok (.istore_n 2, 1) := by decide +kernel
theorem dX16_lookType_6 : decode cX16_lookType 6 = .ok (.aload_n 0, 1) := by decide +kernel
theorem dX16_lookType_7 : decode cX16_lookType 7 = .ok (.iload_n 1, 1) := by decide +kernel
theorem dX16_lookType_8 : decode cX16_lookType 8 = .ok (.invokevirtual 113, 3) := by decide +kernel
theorem dX16_lookType_11 : decode cX16_lookType 11 = .ok (.ifCond .eq 31, 3) := by decide +kernel
theorem dX16_lookType_14 : decode cX16_lookType 14 = .ok (.aload_n 0, 1) := by decide +kernel
theorem dX16_lookType_15 : decode cX16_lookType 15 = .ok (.iload_n 2, 1) := by decide +kernel
theorem dX16_lookType_16 : decode cX16_lookType 16 = .ok (.iconst 1, 1) := by decide +kernel
theorem dX16_lookType_17 : decode cX16_lookType 17 = .ok (.isub, 1) := by decide +kernel
theorem dX16_lookType_18 : decode cX16_lookType 18 = .ok (.invokevirtual 46, 3) := by decide +kernel
theorem dX16_lookType_21 : decode cX16_lookType 21 = .ok (.aload_n 0, 1) := by decide +kernel
theorem dX16_lookType_22 : decode cX16_lookType 22 = .ok (.getfield 92, 3) := by decide +kernel
theorem dX16_lookType_25 : decode cX16_lookType 25 = .ok (.aload_n 0, 1) := by decide +kernel
theorem dX16_lookType_26 : decode cX16_lookType 26 = .ok (.getfield 95, 3) := by decide +kernel
theorem dX16_lookType_29 : decode cX16_lookType 29 = .ok (.iadd, 1) := by decide +kernel
theorem dX16_lookType_30 : decode cX16_lookType 30 = .ok (.if_icmp .lt 12, 3) := by decide +kernel
theorem dX16_lookType_33 : decode cX16_lookType 33 = .ok (.aload_n 0, 1) := by decide +kernel
theorem dX16_lookType_34 : decode cX16_lookType 34 = .ok (.bipush 7, 2) := by decide +kernel
theorem dX16_lookType_36 : decode cX16_lookType 36 = .ok (.iload_n 2, 1) := by decide +kernel
theorem dX16_lookType_37 : decode cX16_lookType 37 = .ok (.iconst 1, 1) := by decide +kernel
theorem dX16_lookType_38 : decode cX16_lookType 38 = .ok (.isub, 1) := by decide +kernel
theorem dX16_lookType_39 : decode cX16_lookType 39 = .ok (.invokevirtual 53, 3) := by decide +kernel
theorem dX16_lookType_42 : decode cX16_lookType 42 = .ok (.iload_n 2, 1) := by decide +kernel
theorem dX16_lookType_43 : decode cX16_lookType 43 = .ok (.ireturn, 1) := by decide +kernel
theorem dX16_isStructureType_0 : decode cX16_isStructureType 0 = .ok (.iload_n 1, 1) := by decide +kernel
theorem dX16_isStructureType_1 : decode cX16_isStructureType 1 = .ok (.istore_n 2, 1) := by decide +kernel
theorem dX16_isStructureType_2 : decode cX16_isStructureType 2 = .ok (.aload_n 0, 1) := by decide +kernel
theorem dX16_isStructureType_3 : decode cX16_isStructureType 3 = .ok (.iload_n 2, 1) := by decide +kernel
theorem dX16_isStructureType_4 : decode cX16_isStructureType 4 = .ok (.invokevirtual 46, 3) := by decide +kernel
theorem dX16_isStructureType_7 : decode cX16_isStructureType 7 = .ok (.bipush 6, 2) := by decide +kernel
theorem dX16_isStructureType_9 : decode cX16_isStructureType 9 = .ok (.if_icmp .le 9, 3) := by decide +kernel
theorem dX16_isStructureType_12 : decode cX16_isStructureType 12 = .ok (.iinc 2 1, 3) := by decide +kernel
theorem dX16_isStructureType_15 : decode cX16_isStructureType 15 = .ok (.goto (-13), 3) := by decide +kernel
theorem dX16_isStructureType_18 : decode cX16_isStructureType 18 = .ok (.aload_n 0, 1) := by decide +kernel
theorem dX16_isStructureType_19 : decode cX16_isStructureType 19 = .ok (.iload_n 2, 1) := by decide +kernel
theorem dX16_isStructureType_20 : decode cX16_isStructureType 20 = .ok (.invokevirtual 46, 3) := by decide +kernel
theorem dX16_isStructureType_23 : decode cX16_isStructureType 23 = .ok (.bipush 6, 2) := by decide +kernel
theorem dX16_isStructureType_25 : decode cX16_isStructureType 25 = .ok (.if_icmp .ne 7, 3) := by decide +kernel
theorem dX16_isStructureType_28 : decode cX16_isStructureType 28 = .ok (.iconst 1, 1) := by decide +kernel
theorem dX16_isStructureType_29 : decode cX16_isStructureType 29 = .ok (.goto 4, 3) := by decide +kernel
theorem dX16_isStructureType_32 : decode cX16_isStructureType 32 = .ok (.iconst 0, 1) := by decide +kernel
theorem dX16_isStructureType_33 : decode cX16_isStructureType 33 = .ok (.ireturn, 1) := by decide +kernel
theorem dX16_lookList_0 : decode cX16_lookList 0 = .ok (.aload_n 0, 1) := by decide +kernel
theorem dX16_lookList_1 : decode cX16_lookList 1 = .ok (.iload_n 1, 1) := by decide +kernel
theorem dX16_lookList_2 : decode cX16_lookList 2 = .ok (.invokevirtual 46, 3) := by decide +kernel
theorem dX16_lookList_5 : decode cX16_lookList 5 = .ok (.istore_n 2, 1) := by decide +kernel
theorem dX16_lookList_6 : decode cX16_lookList 6 = .ok (.iload_n 1, 1) := by decide +kernel
theorem dX16_lookList_7 : decode cX16_lookList 7 = .ok (.iconst 1, 1) := by decide +kernel
theorem dX16_lookList_8 : decode cX16_lookList 8 = .ok (.iadd, 1) := by decide +kernel
theorem dX16_lookList_9 : decode cX16_lookList 9 = .ok (.istore_n 3, 1) := by decide +kernel
theorem dX16_lookList_10 : decode cX16_lookList 10 = .ok (.iconst 0, 1) := by decide +kernel
theorem dX16_lookList_11 : decode cX16_lookList 11 = .ok (.istore 4, 2) := by decide +kernel
theorem dX16_lookList_13 : decode cX16_lookList 13 = .ok (.iload 4, 2) := by decide +kernel
theorem dX16_lookList_15 : decode cX16_lookList 15 = .ok (.iload_n 2, 1) := by decide +kernel
theorem dX16_lookList_16 : decode cX16_lookList 16 = .ok (.if_icmp .ge 15, 3) := by decide +kernel
theorem dX16_lookList_19 : decode cX16_lookList 19 = .ok (.aload_n 0, 1) := by decide +kernel
theorem dX16_lookList_20 : decode cX16_lookList 20 = .ok (.iload_n 3, 1) := by decide +kernel
theorem dX16_lookList_21 : decode cX16_lookList 21 = .ok (.invokevirtual 117, 3) := by decide +kernel
theorem dX16_lookList_24 : decode cX16_lookList 24 = .ok (.istore_n 3, 1) := by decide +kernel
theorem dX16_lookList_25 : decode cX16_lookList 25 = .ok (.iinc 4 1, 3) := by decide +kernel
theorem dX16_lookList_28 : decode cX16_lookList 28 = .ok (.goto (-15), 3) := by decide +kernel
theorem dX16_lookList_31 : decode cX16_lookList 31 = .ok (.iload_n 3, 1) := by decide +kernel
theorem dX16_lookList_32 : decode cX16_lookList 32 = .ok (.ireturn, 1) := by decide +kernel
theorem dX16_listEnd_0 : decode cX16_listEnd 0 = .ok (.aload_n 0, 1) := by decide +kernel
theorem dX16_listEnd_1 : decode cX16_listEnd 1 = .ok (.iload_n 1, 1) := by decide +kernel
theorem dX16_listEnd_2 : decode cX16_listEnd 2 = .ok (.invokevirtual 46, 3) := by decide +kernel
theorem dX16_listEnd_5 : decode cX16_listEnd 5 = .ok (.istore_n 2, 1) := by decide +kernel
theorem dX16_listEnd_6 : decode cX16_listEnd 6 = .ok (.iload_n 1, 1) := by decide +kernel
theorem dX16_listEnd_7 : decode cX16_listEnd 7 = .ok (.iconst 1, 1) := by decide +kernel
theorem dX16_listEnd_8 : decode cX16_listEnd 8 = .ok (.iadd, 1) := by decide +kernel
theorem dX16_listEnd_9 : decode cX16_listEnd 9 = .ok (.istore_n 3, 1) := by decide +kernel
theorem dX16_listEnd_10 : decode cX16_listEnd 10 = .ok (.iconst 0, 1) := by decide +kernel
theorem dX16_listEnd_11 : decode cX16_listEnd 11 = .ok (.istore 4, 2) := by decide +kernel
theorem dX16_listEnd_13 : decode cX16_listEnd 13 = .ok (.iload 4, 2) := by decide +kernel
theorem dX16_listEnd_15 : decode cX16_listEnd 15 = .ok (.iload_n 2, 1) := by decide +kernel
theorem dX16_listEnd_16 : decode cX16_listEnd 16 = .ok (.if_icmp .ge 15, 3) := by decide +kernel
theorem dX16_listEnd_19 : decode cX16_listEnd 19 = .ok (.aload_n 0, 1) := by decide +kernel
theorem dX16_listEnd_20 : decode cX16_listEnd 20 = .ok (.iload_n 3, 1) := by decide +kernel
theorem dX16_listEnd_21 : decode cX16_listEnd 21 = .ok (.invokevirtual 110, 3) := by decide +kernel
theorem dX16_listEnd_24 : decode cX16_listEnd 24 = .ok (.istore_n 3, 1) := by decide +kernel
theorem dX16_listEnd_25 : decode cX16_listEnd 25 = .ok (.iinc 4 1, 3) := by decide +kernel
theorem dX16_listEnd_28 : decode cX16_listEnd 28 = .ok (.goto (-15), 3) := by decide +kernel
theorem dX16_listEnd_31 : decode cX16_listEnd 31 = .ok (.iload_n 3, 1) := by decide +kernel
theorem dX16_listEnd_32 : decode cX16_listEnd 32 = .ok (.ireturn, 1) := by decide +kernel
theorem dX16_fieldsOf_0 : decode cX16_fieldsOf 0 = .ok (.aload_n 0, 1) := by decide +kernel
theorem dX16_fieldsOf_1 : decode cX16_fieldsOf 1 = .ok (.aload_n 0, 1) := by decide +kernel
theorem dX16_fieldsOf_2 : decode cX16_fieldsOf 2 = .ok (.getfield 13, 3) := by decide +kernel
theorem dX16_fieldsOf_5 : decode cX16_fieldsOf 5 = .ok (.iload_n 1, 1) := by decide +kernel
theorem dX16_fieldsOf_6 : decode cX16_fieldsOf 6 = .ok (.iaload, 1) := by decide +kernel
theorem dX16_fieldsOf_7 : decode cX16_fieldsOf 7 = .ok (.iconst 1, 1) := by decide +kernel
theorem dX16_fieldsOf_8 : decode cX16_fieldsOf 8 = .ok (.iadd, 1) := by decide +kernel
theorem dX16_fieldsOf_9 : decode cX16_fieldsOf 9 = .ok (.invokevirtual 46, 3) := by decide +kernel
theorem dX16_fieldsOf_12 : decode cX16_fieldsOf 12 = .ok (.ireturn, 1) := by decide +kernel
theorem dX16_lookOwn_0 : decode cX16_lookOwn 0 = .ok (.aload_n 0, 1) := by decide +kernel
theorem dX16_lookOwn_1 : decode cX16_lookOwn 1 = .ok (.iload_n 1, 1) := by decide +kernel
theorem dX16_lookOwn_2 : decode cX16_lookOwn 2 = .ok (.invokevirtual 46, 3) := by decide +kernel
theorem dX16_lookOwn_5 : decode cX16_lookOwn 5 = .ok (.aload_n 0, 1) := by decide +kernel
theorem dX16_lookOwn_6 : decode cX16_lookOwn 6 = .ok (.getfield 92, 3) := by decide +kernel
theorem dX16_lookOwn_9 : decode cX16_lookOwn 9 = .ok (.aload_n 0, 1) := by decide +kernel
theorem dX16_lookOwn_10 : decode cX16_lookOwn 10 = .ok (.getfield 95, 3) := by decide +kernel
theorem dX16_lookOwn_13 : decode cX16_lookOwn 13 = .ok (.iadd, 1) := by decide +kernel
theorem dX16_lookOwn_14 : decode cX16_lookOwn 14 = .ok (.if_icmp .lt 13, 3) := by decide +kernel
theorem dX16_lookOwn_17 : decode cX16_lookOwn 17 = .ok (.aload_n 0, 1) := by decide +kernel
theorem dX16_lookOwn_18 : decode cX16_lookOwn 18 = .ok (.bipush 7, 2) := by decide +kernel
theorem dX16_lookOwn_20 : decode cX16_lookOwn 20 = .ok (.iload_n 1, 1) := by decide +kernel
theorem dX16_lookOwn_21 : decode cX16_lookOwn 21 = .ok (.invokevirtual 53, 3) := by decide +kernel
theorem dX16_lookOwn_24 : decode cX16_lookOwn 24 = .ok (.goto 22, 3) := by decide +kernel
theorem dX16_lookOwn_27 : decode cX16_lookOwn 27 = .ok (.aload_n 0, 1) := by decide +kernel
theorem dX16_lookOwn_28 : decode cX16_lookOwn 28 = .ok (.iload_n 1, 1) := by decide +kernel
theorem dX16_lookOwn_29 : decode cX16_lookOwn 29 = .ok (.invokevirtual 46, 3) := by decide +kernel
theorem dX16_lookOwn_32 : decode cX16_lookOwn 32 = .ok (.aload_n 0, 1) := by decide +kernel
theorem dX16_lookOwn_33 : decode cX16_lookOwn 33 = .ok (.getfield 92, 3) := by decide +kernel
theorem dX16_lookOwn_36 : decode cX16_lookOwn 36 = .ok (.if_icmp .lt 10, 3) := by decide +kernel
theorem dX16_lookOwn_39 : decode cX16_lookOwn 39 = .ok (.aload_n 0, 1) := by decide +kernel
theorem dX16_lookOwn_40 : decode cX16_lookOwn 40 = .ok (.bipush 8, 2) := by decide +kernel
theorem dX16_lookOwn_42 : decode cX16_lookOwn 42 = .ok (.iload_n 1, 1) := by decide +kernel
theorem dX16_lookOwn_43 : decode cX16_lookOwn 43 = .ok (.invokevirtual 53, 3) := by decide +kernel
theorem dX16_lookOwn_46 : decode cX16_lookOwn 46 = .ok (.return_, 1) := by decide +kernel
theorem dX16_lookInstruction_0 : decode cX16_lookInstruction 0 = .ok (.aload_n 0, 1) := by decide +kernel
theorem dX16_lookInstruction_1 : decode cX16_lookInstruction 1 = .ok (.iload_n 1, 1) := by decide +kernel
theorem dX16_lookInstruction_2 : decode cX16_lookInstruction 2 = .ok (.invokevirtual 46, 3) := by decide +kernel
theorem dX16_lookInstruction_5 : decode cX16_lookInstruction 5 = .ok (.istore 4, 2) := by decide +kernel
theorem dX16_lookInstruction_7 : decode cX16_lookInstruction 7 = .ok (.iload 4, 2) := by decide +kernel
theorem dX16_lookInstruction_9 : decode cX16_lookInstruction 9 = .ok (.iconst 1, 1) := by decide +kernel
theorem dX16_lookInstruction_10 : decode cX16_lookInstruction 10 = .ok (.if_icmp .le 32, 3) := by decide +kernel
theorem dX16_lookInstruction_13 : decode cX16_lookInstruction 13 = .ok (.iload 4, 2) := by decide +kernel
theorem dX16_lookInstruction_15 : decode cX16_lookInstruction 15 = .ok (.iconst 5, 1) := by decide +kernel
theorem dX16_lookInstruction_16 : decode cX16_lookInstruction 16 = .ok (.if_icmp .ge 26, 3) := by decide +kernel
theorem dX16_lookInstruction_19 : decode cX16_lookInstruction 19 = .ok (.aload_n 0, 1) := by decide +kernel
theorem dX16_lookInstruction_20 : decode cX16_lookInstruction 20 = .ok (.iload_n 1, 1) := by decide +kernel
theorem dX16_lookInstruction_21 : decode cX16_lookInstruction 21 = .ok (.iconst 1, 1) := by decide +kernel
theorem dX16_lookInstruction_22 : decode cX16_lookInstruction 22 = .ok (.iadd, 1) := by decide +kernel
theorem dX16_lookInstruction_23 : decode cX16_lookInstruction 23 = .ok (.invokevirtual 82, 3) := by decide +kernel
theorem dX16_lookInstruction_26 : decode cX16_lookInstruction 26 = .ok (.iload_n 3, 1) := by decide +kernel
theorem dX16_lookInstruction_27 : decode cX16_lookInstruction 27 = .ok (.if_icmp .lt 226, 3) := by decide +kernel
theorem dX16_lookInstruction_30 : decode cX16_lookInstruction 30 = .ok (.aload_n 0, 1) := by decide +kernel
theorem dX16_lookInstruction_31 : decode cX16_lookInstruction 31 = .ok (.bipush 13, 2) := by decide +kernel
theorem dX16_lookInstruction_33 : decode cX16_lookInstruction 33 = .ok (.iload_n 1, 1) := by decide +kernel
theorem dX16_lookInstruction_34 : decode cX16_lookInstruction 34 = .ok (.iconst 1, 1) := by decide +kernel
theorem dX16_lookInstruction_35 : decode cX16_lookInstruction 35 = .ok (.iadd, 1) := by decide +kernel
theorem dX16_lookInstruction_36 : decode cX16_lookInstruction 36 = .ok (.invokevirtual 53, 3) := by decide +kernel
theorem dX16_lookInstruction_39 : decode cX16_lookInstruction 39 = .ok (.goto 214, 3) := by decide +kernel
theorem dX16_lookInstruction_42 : decode cX16_lookInstruction 42 = .ok (.iload 4, 2) := by decide +kernel
theorem dX16_lookInstruction_44 : decode cX16_lookInstruction 44 = .ok (.bipush 10, 2) := by decide +kernel
theorem dX16_lookInstruction_46 : decode cX16_lookInstruction 46 = .ok (.if_icmp .le 33, 3) := by decide +kernel
theorem dX16_lookInstruction_49 : decode cX16_lookInstruction 49 = .ok (.iload 4, 2) := by decide +kernel
theorem dX16_lookInstruction_51 : decode cX16_lookInstruction 51 = .ok (.bipush 16, 2) := by decide +kernel
theorem dX16_lookInstruction_53 : decode cX16_lookInstruction 53 = .ok (.if_icmp .ge 26, 3) := by decide +kernel
theorem dX16_lookInstruction_56 : decode cX16_lookInstruction 56 = .ok (.aload_n 0, 1) := by decide +kernel
theorem dX16_lookInstruction_57 : decode cX16_lookInstruction 57 = .ok (.iload_n 1, 1) := by decide +kernel
theorem dX16_lookInstruction_58 : decode cX16_lookInstruction 58 = .ok (.iconst 1, 1) := by decide +kernel
theorem dX16_lookInstruction_59 : decode cX16_lookInstruction 59 = .ok (.iadd, 1) := by decide +kernel
theorem dX16_lookInstruction_60 : decode cX16_lookInstruction 60 = .ok (.invokevirtual 46, 3) := by decide +kernel
theorem dX16_lookInstruction_63 : decode cX16_lookInstruction 63 = .ok (.iload_n 2, 1) := by decide +kernel
theorem dX16_lookInstruction_64 : decode cX16_lookInstruction 64 = .ok (.if_icmp .lt 189, 3) := by decide +kernel
theorem dX16_lookInstruction_67 : decode cX16_lookInstruction 67 = .ok (.aload_n 0, 1) := by decide +kernel
theorem dX16_lookInstruction_68 : decode cX16_lookInstruction 68 = .ok (.bipush 10, 2) := by decide +kernel
theorem dX16_lookInstruction_70 : decode cX16_lookInstruction 70 = .ok (.iload_n 1, 1) := by decide +kernel
theorem dX16_lookInstruction_71 : decode cX16_lookInstruction 71 = .ok (.iconst 1, 1) := by decide +kernel
theorem dX16_lookInstruction_72 : decode cX16_lookInstruction 72 = .ok (.iadd, 1) := by decide +kernel
theorem dX16_lookInstruction_73 : decode cX16_lookInstruction 73 = .ok (.invokevirtual 53, 3) := by decide +kernel
theorem dX16_lookInstruction_76 : decode cX16_lookInstruction 76 = .ok (.goto 177, 3) := by decide +kernel
theorem dX16_lookInstruction_79 : decode cX16_lookInstruction 79 = .ok (.iload 4, 2) := by decide +kernel
theorem dX16_lookInstruction_81 : decode cX16_lookInstruction 81 = .ok (.bipush 16, 2) := by decide +kernel
theorem dX16_lookInstruction_83 : decode cX16_lookInstruction 83 = .ok (.if_icmp .eq 10, 3) := by decide +kernel
theorem dX16_lookInstruction_86 : decode cX16_lookInstruction 86 = .ok (.iload 4, 2) := by decide +kernel
theorem dX16_lookInstruction_88 : decode cX16_lookInstruction 88 = .ok (.bipush 17, 2) := by decide +kernel
theorem dX16_lookInstruction_90 : decode cX16_lookInstruction 90 = .ok (.if_icmp .ne 50, 3) := by decide +kernel
theorem dX16_lookInstruction_93 : decode cX16_lookInstruction 93 = .ok (.aload_n 0, 1) := by decide +kernel
theorem dX16_lookInstruction_94 : decode cX16_lookInstruction 94 = .ok (.iload_n 1, 1) := by decide +kernel
theorem dX16_lookInstruction_95 : decode cX16_lookInstruction 95 = .ok (.iconst 1, 1) := by decide +kernel
theorem dX16_lookInstruction_96 : decode cX16_lookInstruction 96 = .ok (.iadd, 1) := by decide +kernel
theorem dX16_lookInstruction_97 : decode cX16_lookInstruction 97 = .ok (.invokevirtual 120, 3) := by decide +kernel
theorem dX16_lookInstruction_100 : decode cX16_lookInstruction 100 = .ok (.aload_n 0, 1) := by decide +kernel
theorem dX16_lookInstruction_101 : decode cX16_lookInstruction 101 = .ok (.invokevirtual 60, 3) := by decide +kernel
theorem dX16_lookInstruction_104 : decode cX16_lookInstruction 104 = .ok (.ifCond .eq 149, 3) := by decide +kernel
theorem dX16_lookInstruction_107 : decode cX16_lookInstruction 107 = .ok (.aload_n 0, 1) := by decide +kernel
theorem dX16_lookInstruction_108 : decode cX16_lookInstruction 108 = .ok (.iload_n 1, 1) := by decide +kernel
theorem dX16_lookInstruction_109 : decode cX16_lookInstruction 109 = .ok (.iconst 2, 1) := by decide +kernel
theorem dX16_lookInstruction_110 : decode cX16_lookInstruction 110 = .ok (.iadd, 1) := by decide +kernel
theorem dX16_lookInstruction_111 : decode cX16_lookInstruction 111 = .ok (.invokevirtual 46, 3) := by decide +kernel
theorem dX16_lookInstruction_114 : decode cX16_lookInstruction 114 = .ok (.aload_n 0, 1) := by decide +kernel
theorem dX16_lookInstruction_115 : decode cX16_lookInstruction 115 = .ok (.aload_n 0, 1) := by decide +kernel
theorem dX16_lookInstruction_116 : decode cX16_lookInstruction 116 = .ok (.iload_n 1, 1) := by decide +kernel
theorem dX16_lookInstruction_117 : decode cX16_lookInstruction 117 = .ok (.iconst 1, 1) := by decide +kernel
theorem dX16_lookInstruction_118 : decode cX16_lookInstruction 118 = .ok (.iadd, 1) := by decide +kernel
theorem dX16_lookInstruction_119 : decode cX16_lookInstruction 119 = .ok (.invokevirtual 46, 3) := by decide +kernel
theorem dX16_lookInstruction_122 : decode cX16_lookInstruction 122 = .ok (.invokevirtual 123, 3) := by decide +kernel
theorem dX16_lookInstruction_125 : decode cX16_lookInstruction 125 = .ok (.if_icmp .lt 128, 3) := by decide +kernel
theorem dX16_lookInstruction_128 : decode cX16_lookInstruction 128 = .ok (.aload_n 0, 1) := by decide +kernel
theorem dX16_lookInstruction_129 : decode cX16_lookInstruction 129 = .ok (.bipush 9, 2) := by decide +kernel
theorem dX16_lookInstruction_131 : decode cX16_lookInstruction 131 = .ok (.iload_n 1, 1) := by decide +kernel
theorem dX16_lookInstruction_132 : decode cX16_lookInstruction 132 = .ok (.iconst 2, 1) := by decide +kernel
theorem dX16_lookInstruction_133 : decode cX16_lookInstruction 133 = .ok (.iadd, 1) := by decide +kernel
theorem dX16_lookInstruction_134 : decode cX16_lookInstruction 134 = .ok (.invokevirtual 53, 3) := by decide +kernel
theorem dX16_lookInstruction_137 : decode cX16_lookInstruction 137 = .ok (.goto 116, 3) := by decide +kernel
theorem dX16_lookInstruction_140 : decode cX16_lookInstruction 140 = .ok (.iload 4, 2) := by decide +kernel
theorem dX16_lookInstruction_142 : decode cX16_lookInstruction 142 = .ok (.bipush 21, 2) := by decide +kernel
theorem dX16_lookInstruction_144 : decode cX16_lookInstruction 144 = .ok (.if_icmp .eq 24, 3) := by decide +kernel
theorem dX16_lookInstruction_147 : decode cX16_lookInstruction 147 = .ok (.iload 4, 2) := by decide +kernel
theorem dX16_lookInstruction_149 : decode cX16_lookInstruction 149 = .ok (.bipush 22, 2) := by decide +kernel
theorem dX16_lookInstruction_151 : decode cX16_lookInstruction 151 = .ok (.if_icmp .eq 17, 3) := by decide +kernel
theorem dX16_lookInstruction_154 : decode cX16_lookInstruction 154 = .ok (.iload 4, 2) := by decide +kernel
theorem dX16_lookInstruction_156 : decode cX16_lookInstruction 156 = .ok (.bipush 46, 2) := by decide +kernel
theorem dX16_lookInstruction_158 : decode cX16_lookInstruction 158 = .ok (.if_icmp .le 20, 3) := by decide +kernel
theorem dX16_lookInstruction_161 : decode cX16_lookInstruction 161 = .ok (.iload 4, 2) := by decide +kernel
theorem dX16_lookInstruction_163 : decode cX16_lookInstruction 163 = .ok (.bipush 52, 2) := by decide +kernel
theorem dX16_lookInstruction_165 : decode cX16_lookInstruction 165 = .ok (.if_icmp .ge 13, 3) := by decide +kernel
theorem dX16_lookInstruction_168 : decode cX16_lookInstruction 168 = .ok (.aload_n 0, 1) := by decide +kernel
theorem dX16_lookInstruction_169 : decode cX16_lookInstruction 169 = .ok (.iload_n 1, 1) := by decide +kernel
theorem dX16_lookInstruction_170 : decode cX16_lookInstruction 170 = .ok (.iconst 1, 1) := by decide +kernel
theorem dX16_lookInstruction_171 : decode cX16_lookInstruction 171 = .ok (.iadd, 1) := by decide +kernel
theorem dX16_lookInstruction_172 : decode cX16_lookInstruction 172 = .ok (.invokevirtual 120, 3) := by decide +kernel
theorem dX16_lookInstruction_175 : decode cX16_lookInstruction 175 = .ok (.goto 78, 3) := by decide +kernel
theorem dX16_lookInstruction_178 : decode cX16_lookInstruction 178 = .ok (.iload 4, 2) := by decide +kernel
theorem dX16_lookInstruction_180 : decode cX16_lookInstruction 180 = .ok (.bipush 23, 2) := by decide +kernel
theorem dX16_lookInstruction_182 : decode cX16_lookInstruction 182 = .ok (.if_icmp .ne 34, 3) := by decide +kernel
theorem dX16_lookInstruction_185 : decode cX16_lookInstruction 185 = .ok (.aload_n 0, 1) := by decide +kernel
theorem dX16_lookInstruction_186 : decode cX16_lookInstruction 186 = .ok (.iload_n 1, 1) := by decide +kernel
theorem dX16_lookInstruction_187 : decode cX16_lookInstruction 187 = .ok (.iconst 1, 1) := by decide +kernel
theorem dX16_lookInstruction_188 : decode cX16_lookInstruction 188 = .ok (.iadd, 1) := by decide +kernel
theorem dX16_lookInstruction_189 : decode cX16_lookInstruction 189 = .ok (.invokevirtual 46, 3) := by decide +kernel
theorem dX16_lookInstruction_192 : decode cX16_lookInstruction 192 = .ok (.aload_n 0, 1) := by decide +kernel
theorem dX16_lookInstruction_193 : decode cX16_lookInstruction 193 = .ok (.getfield 104, 3) := by decide +kernel
theorem dX16_lookInstruction_196 : decode cX16_lookInstruction 196 = .ok (.aload_n 0, 1) := by decide +kernel
theorem dX16_lookInstruction_197 : decode cX16_lookInstruction 197 = .ok (.getfield 98, 3) := by decide +kernel
theorem dX16_lookInstruction_200 : decode cX16_lookInstruction 200 = .ok (.iadd, 1) := by decide +kernel
theorem dX16_lookInstruction_201 : decode cX16_lookInstruction 201 = .ok (.if_icmp .lt 52, 3) := by decide +kernel
theorem dX16_lookInstruction_204 : decode cX16_lookInstruction 204 = .ok (.aload_n 0, 1) := by decide +kernel
theorem dX16_lookInstruction_205 : decode cX16_lookInstruction 205 = .ok (.bipush 11, 2) := by decide +kernel
theorem dX16_lookInstruction_207 : decode cX16_lookInstruction 207 = .ok (.iload_n 1, 1) := by decide +kernel
theorem dX16_lookInstruction_208 : decode cX16_lookInstruction 208 = .ok (.iconst 1, 1) := by decide +kernel
theorem dX16_lookInstruction_209 : decode cX16_lookInstruction 209 = .ok (.iadd, 1) := by decide +kernel
theorem dX16_lookInstruction_210 : decode cX16_lookInstruction 210 = .ok (.invokevirtual 53, 3) := by decide +kernel
theorem dX16_lookInstruction_213 : decode cX16_lookInstruction 213 = .ok (.goto 40, 3) := by decide +kernel
theorem dX16_lookInstruction_216 : decode cX16_lookInstruction 216 = .ok (.iload 4, 2) := by decide +kernel
theorem dX16_lookInstruction_218 : decode cX16_lookInstruction 218 = .ok (.bipush 51, 2) := by decide +kernel
theorem dX16_lookInstruction_220 : decode cX16_lookInstruction 220 = .ok (.if_icmp .le 33, 3) := by decide +kernel
theorem dX16_lookInstruction_223 : decode cX16_lookInstruction 223 = .ok (.iload 4, 2) := by decide +kernel
theorem dX16_lookInstruction_225 : decode cX16_lookInstruction 225 = .ok (.bipush 59, 2) := by decide +kernel
theorem dX16_lookInstruction_227 : decode cX16_lookInstruction 227 = .ok (.if_icmp .ge 26, 3) := by decide +kernel
theorem dX16_lookInstruction_230 : decode cX16_lookInstruction 230 = .ok (.aload_n 0, 1) := by decide +kernel
theorem dX16_lookInstruction_231 : decode cX16_lookInstruction 231 = .ok (.iload_n 1, 1) := by decide +kernel
theorem dX16_lookInstruction_232 : decode cX16_lookInstruction 232 = .ok (.iconst 1, 1) := by decide +kernel
theorem dX16_lookInstruction_233 : decode cX16_lookInstruction 233 = .ok (.iadd, 1) := by decide +kernel
theorem dX16_lookInstruction_234 : decode cX16_lookInstruction 234 = .ok (.invokevirtual 46, 3) := by decide +kernel
theorem dX16_lookInstruction_237 : decode cX16_lookInstruction 237 = .ok (.aload_n 0, 1) := by decide +kernel
theorem dX16_lookInstruction_238 : decode cX16_lookInstruction 238 = .ok (.getfield 101, 3) := by decide +kernel
theorem dX16_lookInstruction_241 : decode cX16_lookInstruction 241 = .ok (.if_icmp .lt 12, 3) := by decide +kernel
theorem dX16_lookInstruction_244 : decode cX16_lookInstruction 244 = .ok (.aload_n 0, 1) := by decide +kernel
theorem dX16_lookInstruction_245 : decode cX16_lookInstruction 245 = .ok (.bipush 12, 2) := by decide +kernel
theorem dX16_lookInstruction_247 : decode cX16_lookInstruction 247 = .ok (.iload_n 1, 1) := by decide +kernel
theorem dX16_lookInstruction_248 : decode cX16_lookInstruction 248 = .ok (.iconst 1, 1) := by decide +kernel
theorem dX16_lookInstruction_249 : decode cX16_lookInstruction 249 = .ok (.iadd, 1) := by decide +kernel
theorem dX16_lookInstruction_250 : decode cX16_lookInstruction 250 = .ok (.invokevirtual 53, 3) := by decide +kernel
theorem dX16_lookInstruction_253 : decode cX16_lookInstruction 253 = .ok (.return_, 1) := by decide +kernel
theorem dX16_lookAll_0 : decode cX16_lookAll 0 = .ok (.iconst 0, 1) := by decide +kernel
theorem dX16_lookAll_1 : decode cX16_lookAll 1 = .ok (.istore_n 1, 1) := by decide +kernel
theorem dX16_lookAll_2 : decode cX16_lookAll 2 = .ok (.iload_n 1, 1) := by decide +kernel
theorem dX16_lookAll_3 : decode cX16_lookAll 3 = .ok (.aload_n 0, 1) := by decide +kernel
theorem dX16_lookAll_4 : decode cX16_lookAll 4 = .ok (.getfield 92, 3) := by decide +kernel
theorem dX16_lookAll_7 : decode cX16_lookAll 7 = .ok (.if_icmp .ge 48, 3) := by decide +kernel
theorem dX16_lookAll_10 : decode cX16_lookAll 10 = .ok (.aload_n 0, 1) := by decide +kernel
theorem dX16_lookAll_11 : decode cX16_lookAll 11 = .ok (.invokevirtual 60, 3) := by decide +kernel
theorem dX16_lookAll_14 : decode cX16_lookAll 14 = .ok (.ifCond .eq 41, 3) := by decide +kernel
theorem dX16_lookAll_17 : decode cX16_lookAll 17 = .ok (.aload_n 0, 1) := by decide +kernel
theorem dX16_lookAll_18 : decode cX16_lookAll 18 = .ok (.getfield 13, 3) := by decide +kernel
theorem dX16_lookAll_21 : decode cX16_lookAll 21 = .ok (.iload_n 1, 1) := by decide +kernel
theorem dX16_lookAll_22 : decode cX16_lookAll 22 = .ok (.iaload, 1) := by decide +kernel
theorem dX16_lookAll_23 : decode cX16_lookAll 23 = .ok (.iconst 2, 1) := by decide +kernel
theorem dX16_lookAll_24 : decode cX16_lookAll 24 = .ok (.iadd, 1) := by decide +kernel
theorem dX16_lookAll_25 : decode cX16_lookAll 25 = .ok (.istore_n 2, 1) := by decide +kernel
theorem dX16_lookAll_26 : decode cX16_lookAll 26 = .ok (.iconst 0, 1) := by decide +kernel
theorem dX16_lookAll_27 : decode cX16_lookAll 27 = .ok (.istore_n 3, 1) := by decide +kernel
theorem dX16_lookAll_28 : decode cX16_lookAll 28 = .ok (.iload_n 3, 1) := by decide +kernel
theorem dX16_lookAll_29 : decode cX16_lookAll 29 = .ok (.aload_n 0, 1) := by decide +kernel
theorem dX16_lookAll_30 : decode cX16_lookAll 30 = .ok (.iload_n 1, 1) := by decide +kernel
theorem dX16_lookAll_31 : decode cX16_lookAll 31 = .ok (.invokevirtual 123, 3) := by decide +kernel
theorem dX16_lookAll_34 : decode cX16_lookAll 34 = .ok (.if_icmp .ge 15, 3) := by decide +kernel
theorem dX16_lookAll_37 : decode cX16_lookAll 37 = .ok (.aload_n 0, 1) := by decide +kernel
theorem dX16_lookAll_38 : decode cX16_lookAll 38 = .ok (.iload_n 2, 1) := by decide +kernel
theorem dX16_lookAll_39 : decode cX16_lookAll 39 = .ok (.invokevirtual 117, 3) := by decide +kernel
theorem dX16_lookAll_42 : decode cX16_lookAll 42 = .ok (.istore_n 2, 1) := by decide +kernel
theorem dX16_lookAll_43 : decode cX16_lookAll 43 = .ok (.iinc 3 1, 3) := by decide +kernel
theorem dX16_lookAll_46 : decode cX16_lookAll 46 = .ok (.goto (-18), 3) := by decide +kernel
theorem dX16_lookAll_49 : decode cX16_lookAll 49 = .ok (.iinc 1 1, 3) := by decide +kernel
theorem dX16_lookAll_52 : decode cX16_lookAll 52 = .ok (.goto (-50), 3) := by decide +kernel
theorem dX16_lookAll_55 : decode cX16_lookAll 55 = .ok (.iconst 0, 1) := by decide +kernel
theorem dX16_lookAll_56 : decode cX16_lookAll 56 = .ok (.istore_n 1, 1) := by decide +kernel
theorem dX16_lookAll_57 : decode cX16_lookAll 57 = .ok (.iload_n 1, 1) := by decide +kernel
theorem dX16_lookAll_58 : decode cX16_lookAll 58 = .ok (.aload_n 0, 1) := by decide +kernel
theorem dX16_lookAll_59 : decode cX16_lookAll 59 = .ok (.getfield 98, 3) := by decide +kernel
theorem dX16_lookAll_62 : decode cX16_lookAll 62 = .ok (.if_icmp .ge 33, 3) := by decide +kernel
theorem dX16_lookAll_65 : decode cX16_lookAll 65 = .ok (.aload_n 0, 1) := by decide +kernel
theorem dX16_lookAll_66 : decode cX16_lookAll 66 = .ok (.invokevirtual 60, 3) := by decide +kernel
theorem dX16_lookAll_69 : decode cX16_lookAll 69 = .ok (.ifCond .eq 26, 3) := by decide +kernel
theorem dX16_lookAll_72 : decode cX16_lookAll 72 = .ok (.aload_n 0, 1) := by decide +kernel
theorem dX16_lookAll_73 : decode cX16_lookAll 73 = .ok (.aload_n 0, 1) := by decide +kernel
theorem dX16_lookAll_74 : decode cX16_lookAll 74 = .ok (.aload_n 0, 1) := by decide +kernel
theorem dX16_lookAll_75 : decode cX16_lookAll 75 = .ok (.getfield 17, 3) := by decide +kernel
theorem dX16_lookAll_78 : decode cX16_lookAll 78 = .ok (.iload_n 1, 1) := by decide +kernel
theorem dX16_lookAll_79 : decode cX16_lookAll 79 = .ok (.iaload, 1) := by decide +kernel
theorem dX16_lookAll_80 : decode cX16_lookAll 80 = .ok (.iconst 4, 1) := by decide +kernel
theorem dX16_lookAll_81 : decode cX16_lookAll 81 = .ok (.iadd, 1) := by decide +kernel
theorem dX16_lookAll_82 : decode cX16_lookAll 82 = .ok (.invokevirtual 126, 3) := by decide +kernel
theorem dX16_lookAll_85 : decode cX16_lookAll 85 = .ok (.invokevirtual 126, 3) := by decide +kernel
theorem dX16_lookAll_88 : decode cX16_lookAll 88 = .ok (.pop, 1) := by decide +kernel
theorem dX16_lookAll_89 : decode cX16_lookAll 89 = .ok (.iinc 1 1, 3) := by decide +kernel
theorem dX16_lookAll_92 : decode cX16_lookAll 92 = .ok (.goto (-35), 3) := by decide +kernel
theorem dX16_lookAll_95 : decode cX16_lookAll 95 = .ok (.iconst 0, 1) := by decide +kernel
theorem dX16_lookAll_96 : decode cX16_lookAll 96 = .ok (.istore_n 1, 1) := by decide +kernel
theorem dX16_lookAll_97 : decode cX16_lookAll 97 = .ok (.iload_n 1, 1) := by decide +kernel
theorem dX16_lookAll_98 : decode cX16_lookAll 98 = .ok (.aload_n 0, 1) := by decide +kernel
theorem dX16_lookAll_99 : decode cX16_lookAll 99 = .ok (.getfield 101, 3) := by decide +kernel
theorem dX16_lookAll_102 : decode cX16_lookAll 102 = .ok (.if_icmp .ge 27, 3) := by decide +kernel
theorem dX16_lookAll_105 : decode cX16_lookAll 105 = .ok (.aload_n 0, 1) := by decide +kernel
theorem dX16_lookAll_106 : decode cX16_lookAll 106 = .ok (.invokevirtual 60, 3) := by decide +kernel
theorem dX16_lookAll_109 : decode cX16_lookAll 109 = .ok (.ifCond .eq 20, 3) := by decide +kernel
theorem dX16_lookAll_112 : decode cX16_lookAll 112 = .ok (.aload_n 0, 1) := by decide +kernel
theorem dX16_lookAll_113 : decode cX16_lookAll 113 = .ok (.aload_n 0, 1) := by decide +kernel
theorem dX16_lookAll_114 : decode cX16_lookAll 114 = .ok (.getfield 20, 3) := by decide +kernel
theorem dX16_lookAll_117 : decode cX16_lookAll 117 = .ok (.iload_n 1, 1) := by decide +kernel
theorem dX16_lookAll_118 : decode cX16_lookAll 118 = .ok (.iaload, 1) := by decide +kernel
theorem dX16_lookAll_119 : decode cX16_lookAll 119 = .ok (.invokevirtual 117, 3) := by decide +kernel
theorem dX16_lookAll_122 : decode cX16_lookAll 122 = .ok (.pop, 1) := by decide +kernel
theorem dX16_lookAll_123 : decode cX16_lookAll 123 = .ok (.iinc 1 1, 3) := by decide +kernel
theorem dX16_lookAll_126 : decode cX16_lookAll 126 = .ok (.goto (-29), 3) := by decide +kernel
theorem dX16_lookAll_129 : decode cX16_lookAll 129 = .ok (.iconst 0, 1) := by decide +kernel
theorem dX16_lookAll_130 : decode cX16_lookAll 130 = .ok (.istore_n 1, 1) := by decide +kernel
theorem dX16_lookAll_131 : decode cX16_lookAll 131 = .ok (.iload_n 1, 1) := by decide +kernel
theorem dX16_lookAll_132 : decode cX16_lookAll 132 = .ok (.aload_n 0, 1) := by decide +kernel
theorem dX16_lookAll_133 : decode cX16_lookAll 133 = .ok (.getfield 104, 3) := by decide +kernel
theorem dX16_lookAll_136 : decode cX16_lookAll 136 = .ok (.if_icmp .ge 109, 3) := by decide +kernel
theorem dX16_lookAll_139 : decode cX16_lookAll 139 = .ok (.aload_n 0, 1) := by decide +kernel
theorem dX16_lookAll_140 : decode cX16_lookAll 140 = .ok (.invokevirtual 60, 3) := by decide +kernel
theorem dX16_lookAll_143 : decode cX16_lookAll 143 = .ok (.ifCond .eq 102, 3) := by decide +kernel
theorem dX16_lookAll_146 : decode cX16_lookAll 146 = .ok (.aload_n 0, 1) := by decide +kernel
theorem dX16_lookAll_147 : decode cX16_lookAll 147 = .ok (.aload_n 0, 1) := by decide +kernel
theorem dX16_lookAll_148 : decode cX16_lookAll 148 = .ok (.aload_n 0, 1) := by decide +kernel
theorem dX16_lookAll_149 : decode cX16_lookAll 149 = .ok (.aload_n 0, 1) := by decide +kernel
theorem dX16_lookAll_150 : decode cX16_lookAll 150 = .ok (.getfield 23, 3) := by decide +kernel
theorem dX16_lookAll_153 : decode cX16_lookAll 153 = .ok (.iload_n 1, 1) := by decide +kernel
theorem dX16_lookAll_154 : decode cX16_lookAll 154 = .ok (.iaload, 1) := by decide +kernel
theorem dX16_lookAll_155 : decode cX16_lookAll 155 = .ok (.iconst 1, 1) := by decide +kernel
theorem dX16_lookAll_156 : decode cX16_lookAll 156 = .ok (.iadd, 1) := by decide +kernel
theorem dX16_lookAll_157 : decode cX16_lookAll 157 = .ok (.invokevirtual 126, 3) := by decide +kernel
theorem dX16_lookAll_160 : decode cX16_lookAll 160 = .ok (.invokevirtual 126, 3) := by decide +kernel
theorem dX16_lookAll_163 : decode cX16_lookAll 163 = .ok (.invokevirtual 126, 3) := by decide +kernel
theorem dX16_lookAll_166 : decode cX16_lookAll 166 = .ok (.pop, 1) := by decide +kernel
theorem dX16_lookAll_167 : decode cX16_lookAll 167 = .ok (.aload_n 0, 1) := by decide +kernel
theorem dX16_lookAll_168 : decode cX16_lookAll 168 = .ok (.iload_n 1, 1) := by decide +kernel
theorem dX16_lookAll_169 : decode cX16_lookAll 169 = .ok (.iconst 0, 1) := by decide +kernel
theorem dX16_lookAll_170 : decode cX16_lookAll 170 = .ok (.invokevirtual 129, 3) := by decide +kernel
theorem dX16_lookAll_173 : decode cX16_lookAll 173 = .ok (.aload_n 0, 1) := by decide +kernel
theorem dX16_lookAll_174 : decode cX16_lookAll 174 = .ok (.iload_n 1, 1) := by decide +kernel
theorem dX16_lookAll_175 : decode cX16_lookAll 175 = .ok (.iconst 2, 1) := by decide +kernel
theorem dX16_lookAll_176 : decode cX16_lookAll 176 = .ok (.invokevirtual 129, 3) := by decide +kernel
theorem dX16_lookAll_179 : decode cX16_lookAll 179 = .ok (.iadd, 1) := by decide +kernel
theorem dX16_lookAll_180 : decode cX16_lookAll 180 = .ok (.istore_n 2, 1) := by decide +kernel
theorem dX16_lookAll_181 : decode cX16_lookAll 181 = .ok (.aload_n 0, 1) := by decide +kernel
theorem dX16_lookAll_182 : decode cX16_lookAll 182 = .ok (.getfield 26, 3) := by decide +kernel
theorem dX16_lookAll_185 : decode cX16_lookAll 185 = .ok (.iload_n 1, 1) := by decide +kernel
theorem dX16_lookAll_186 : decode cX16_lookAll 186 = .ok (.iaload, 1) := by decide +kernel
theorem dX16_lookAll_187 : decode cX16_lookAll 187 = .ok (.istore_n 3, 1) := by decide +kernel
theorem dX16_lookAll_188 : decode cX16_lookAll 188 = .ok (.iload_n 3, 1) := by decide +kernel
theorem dX16_lookAll_189 : decode cX16_lookAll 189 = .ok (.aload_n 0, 1) := by decide +kernel
theorem dX16_lookAll_190 : decode cX16_lookAll 190 = .ok (.getfield 26, 3) := by decide +kernel
theorem dX16_lookAll_193 : decode cX16_lookAll 193 = .ok (.iload_n 1, 1) := by decide +kernel
theorem dX16_lookAll_194 : decode cX16_lookAll 194 = .ok (.iconst 1, 1) := by decide +kernel
theorem dX16_lookAll_195 : decode cX16_lookAll 195 = .ok (.iadd, 1) := by decide +kernel
theorem dX16_lookAll_196 : decode cX16_lookAll 196 = .ok (.iaload, 1) := by decide +kernel
theorem dX16_lookAll_197 : decode cX16_lookAll 197 = .ok (.if_icmp .ge 42, 3) := by decide +kernel
theorem dX16_lookAll_200 : decode cX16_lookAll 200 = .ok (.aload_n 0, 1) := by decide +kernel
theorem dX16_lookAll_201 : decode cX16_lookAll 201 = .ok (.invokevirtual 60, 3) := by decide +kernel
theorem dX16_lookAll_204 : decode cX16_lookAll 204 = .ok (.ifCond .eq 35, 3) := by decide +kernel
theorem dX16_lookAll_207 : decode cX16_lookAll 207 = .ok (.aload_n 0, 1) := by decide +kernel
theorem dX16_lookAll_208 : decode cX16_lookAll 208 = .ok (.aload_n 0, 1) := by decide +kernel
theorem dX16_lookAll_209 : decode cX16_lookAll 209 = .ok (.getfield 29, 3) := by decide +kernel
theorem dX16_lookAll_212 : decode cX16_lookAll 212 = .ok (.iload_n 3, 1) := by decide +kernel
theorem dX16_lookAll_213 : decode cX16_lookAll 213 = .ok (.iaload, 1) := by decide +kernel
theorem dX16_lookAll_214 : decode cX16_lookAll 214 = .ok (.iload_n 2, 1) := by decide +kernel
theorem dX16_lookAll_215 : decode cX16_lookAll 215 = .ok (.aload_n 0, 1) := by decide +kernel
theorem dX16_lookAll_216 : decode cX16_lookAll 216 = .ok (.getfield 26, 3) := by decide +kernel
theorem dX16_lookAll_219 : decode cX16_lookAll 219 = .ok (.iload_n 1, 1) := by decide +kernel
theorem dX16_lookAll_220 : decode cX16_lookAll 220 = .ok (.iconst 1, 1) := by decide +kernel
theorem dX16_lookAll_221 : decode cX16_lookAll 221 = .ok (.iadd, 1) := by decide +kernel
theorem dX16_lookAll_222 : decode cX16_lookAll 222 = .ok (.iaload, 1) := by decide +kernel
theorem dX16_lookAll_223 : decode cX16_lookAll 223 = .ok (.aload_n 0, 1) := by decide +kernel
theorem dX16_lookAll_224 : decode cX16_lookAll 224 = .ok (.getfield 26, 3) := by decide +kernel
theorem dX16_lookAll_227 : decode cX16_lookAll 227 = .ok (.iload_n 1, 1) := by decide +kernel
theorem dX16_lookAll_228 : decode cX16_lookAll 228 = .ok (.iaload, 1) := by decide +kernel
theorem dX16_lookAll_229 : decode cX16_lookAll 229 = .ok (.isub, 1) := by decide +kernel
theorem dX16_lookAll_230 : decode cX16_lookAll 230 = .ok (.invokevirtual 132, 3) := by decide +kernel
theorem dX16_lookAll_233 : decode cX16_lookAll 233 = .ok (.iinc 3 1, 3) := by decide +kernel
theorem dX16_lookAll_236 : decode cX16_lookAll 236 = .ok (.goto (-48), 3) := by decide +kernel
theorem dX16_lookAll_239 : decode cX16_lookAll 239 = .ok (.iinc 1 1, 3) := by decide +kernel
theorem dX16_lookAll_242 : decode cX16_lookAll 242 = .ok (.goto (-111), 3) := by decide +kernel
theorem dX16_lookAll_245 : decode cX16_lookAll 245 = .ok (.return_, 1) := by decide +kernel
theorem dX16_listAt_0 : decode cX16_listAt 0 = .ok (.aload_n 0, 1) := by decide +kernel
theorem dX16_listAt_1 : decode cX16_listAt 1 = .ok (.getfield 23, 3) := by decide +kernel
theorem dX16_listAt_4 : decode cX16_listAt 4 = .ok (.iload_n 1, 1) := by decide +kernel
theorem dX16_listAt_5 : decode cX16_listAt 5 = .ok (.iaload, 1) := by decide +kernel
theorem dX16_listAt_6 : decode cX16_listAt 6 = .ok (.iconst 1, 1) := by decide +kernel
theorem dX16_listAt_7 : decode cX16_listAt 7 = .ok (.iadd, 1) := by decide +kernel
theorem dX16_listAt_8 : decode cX16_listAt 8 = .ok (.istore_n 3, 1) := by decide +kernel
theorem dX16_listAt_9 : decode cX16_listAt 9 = .ok (.iconst 0, 1) := by decide +kernel
theorem dX16_listAt_10 : decode cX16_listAt 10 = .ok (.istore 4, 2) := by decide +kernel
theorem dX16_listAt_12 : decode cX16_listAt 12 = .ok (.iload 4, 2) := by decide +kernel
theorem dX16_listAt_14 : decode cX16_listAt 14 = .ok (.iload_n 2, 1) := by decide +kernel
theorem dX16_listAt_15 : decode cX16_listAt 15 = .ok (.if_icmp .ge 15, 3) := by decide +kernel
theorem dX16_listAt_18 : decode cX16_listAt 18 = .ok (.aload_n 0, 1) := by decide +kernel
theorem dX16_listAt_19 : decode cX16_listAt 19 = .ok (.iload_n 3, 1) := by decide +kernel
theorem dX16_listAt_20 : decode cX16_listAt 20 = .ok (.invokevirtual 136, 3) := by decide +kernel
theorem dX16_listAt_23 : decode cX16_listAt 23 = .ok (.istore_n 3, 1) := by decide +kernel
theorem dX16_listAt_24 : decode cX16_listAt 24 = .ok (.iinc 4 1, 3) := by decide +kernel
theorem dX16_listAt_27 : decode cX16_listAt 27 = .ok (.goto (-15), 3) := by decide +kernel
theorem dX16_listAt_30 : decode cX16_listAt 30 = .ok (.iload_n 3, 1) := by decide +kernel
theorem dX16_listAt_31 : decode cX16_listAt 31 = .ok (.ireturn, 1) := by decide +kernel
theorem dX16_manyIn_0 : decode cX16_manyIn 0 = .ok (.aload_n 0, 1) := by decide +kernel
theorem dX16_manyIn_1 : decode cX16_manyIn 1 = .ok (.aload_n 0, 1) := by decide +kernel
theorem dX16_manyIn_2 : decode cX16_manyIn 2 = .ok (.iload_n 1, 1) := by decide +kernel
theorem dX16_manyIn_3 : decode cX16_manyIn 3 = .ok (.iload_n 2, 1) := by decide +kernel
theorem dX16_manyIn_4 : decode cX16_manyIn 4 = .ok (.invokevirtual 139, 3) := by decide +kernel
theorem dX16_manyIn_7 : decode cX16_manyIn 7 = .ok (.invokevirtual 46, 3) := by decide +kernel
theorem dX16_manyIn_10 : decode cX16_manyIn 10 = .ok (.ireturn, 1) := by decide +kernel
theorem dX16_ownIn_0 : decode cX16_ownIn 0 = .ok (.aload_n 0, 1) := by decide +kernel
theorem dX16_ownIn_1 : decode cX16_ownIn 1 = .ok (.aload_n 0, 1) := by decide +kernel
theorem dX16_ownIn_2 : decode cX16_ownIn 2 = .ok (.iload_n 1, 1) := by decide +kernel
theorem dX16_ownIn_3 : decode cX16_ownIn 3 = .ok (.invokevirtual 110, 3) := by decide +kernel
theorem dX16_ownIn_6 : decode cX16_ownIn 6 = .ok (.iconst 1, 1) := by decide +kernel
theorem dX16_ownIn_7 : decode cX16_ownIn 7 = .ok (.isub, 1) := by decide +kernel
theorem dX16_ownIn_8 : decode cX16_ownIn 8 = .ok (.invokevirtual 46, 3) := by decide +kernel
theorem dX16_ownIn_11 : decode cX16_ownIn 11 = .ok (.istore_n 2, 1) := by decide +kernel
theorem dX16_ownIn_12 : decode cX16_ownIn 12 = .ok (.aload_n 0, 1) := by decide +kernel
theorem dX16_ownIn_13 : decode cX16_ownIn 13 = .ok (.iload_n 1, 1) := by decide +kernel
theorem dX16_ownIn_14 : decode cX16_ownIn 14 = .ok (.invokevirtual 113, 3) := by decide +kernel
theorem dX16_ownIn_17 : decode cX16_ownIn 17 = .ok (.ifCond .eq 15, 3) := by decide +kernel
theorem dX16_ownIn_20 : decode cX16_ownIn 20 = .ok (.iload_n 2, 1) := by decide +kernel
theorem dX16_ownIn_21 : decode cX16_ownIn 21 = .ok (.aload_n 0, 1) := by decide +kernel
theorem dX16_ownIn_22 : decode cX16_ownIn 22 = .ok (.getfield 92, 3) := by decide +kernel
theorem dX16_ownIn_25 : decode cX16_ownIn 25 = .ok (.if_icmp .ge 7, 3) := by decide +kernel
theorem dX16_ownIn_28 : decode cX16_ownIn 28 = .ok (.iload_n 2, 1) := by decide +kernel
theorem dX16_ownIn_29 : decode cX16_ownIn 29 = .ok (.goto 4, 3) := by decide +kernel
theorem dX16_ownIn_32 : decode cX16_ownIn 32 = .ok (.iconst (-1), 1) := by decide +kernel
theorem dX16_ownIn_33 : decode cX16_ownIn 33 = .ok (.ireturn, 1) := by decide +kernel
