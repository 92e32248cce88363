theorem dX4_reckon_240 : decode cX4_reckon 240 = .ok (.iload_n 3, 1) := by decide +kernel
theorem dX4_reckon_241 : decode cX4_reckon 241 = .ok (.baload, 1) := by decide +kernel
theorem dX4_reckon_242 : decode cX4_reckon 242 = .ok (.invokevirtual 344, 3) := by decide +kernel
theorem dX4_reckon_245 : decode cX4_reckon 245 = .ok (.return_, 1) := by decide +kernel
theorem dX4_pushWide_0 : decode cX4_pushWide 0 = .ok (.iload_n 1, 1) := by decide +kernel
theorem dX4_pushWide_1 : decode cX4_pushWide 1 = .ok (.iconst 1, 1) := by decide +kernel
theorem dX4_pushWide_2 : decode cX4_pushWide 2 = .ok (.if_icmp .lt 8, 3) := by decide +kernel
theorem dX4_pushWide_5 : decode cX4_pushWide 5 = .ok (.iload_n 1, 1) := by decide +kernel
theorem dX4_pushWide_6 : decode cX4_pushWide 6 = .ok (.iconst 4, 1) := by decide +kernel
theorem dX4_pushWide_7 : decode cX4_pushWide 7 = .ok (.if_icmp .le 17, 3) := by decide +kernel
theorem dX4_pushWide_10 : decode cX4_pushWide 10 = .ok (.aload_n 0, 1) := by decide +kernel
theorem dX4_pushWide_11 : decode cX4_pushWide 11 = .ok (.getfield 12, 3) := by decide +kernel
theorem dX4_pushWide_14 : decode cX4_pushWide 14 = .ok (.dup, 1) := by decide +kernel
theorem dX4_pushWide_15 : decode cX4_pushWide 15 = .ok (.getfield 71, 3) := by decide +kernel
theorem dX4_pushWide_18 : decode cX4_pushWide 18 = .ok (.iconst 1, 1) := by decide +kernel
theorem dX4_pushWide_19 : decode cX4_pushWide 19 = .ok (.iadd, 1) := by decide +kernel
theorem dX4_pushWide_20 : decode cX4_pushWide 20 = .ok (.putfield 71, 3) := by decide +kernel
theorem dX4_pushWide_23 : decode cX4_pushWide 23 = .ok (.return_, 1) := by decide +kernel
theorem dX4_pushWide_24 : decode cX4_pushWide 24 = .ok (.iload_n 1, 1) := by decide +kernel
theorem dX4_pushWide_25 : decode cX4_pushWide 25 = .ok (.iconst 1, 1) := by decide +kernel
theorem dX4_pushWide_26 : decode cX4_pushWide 26 = .ok (.if_icmp .eq 21, 3) := by decide +kernel
theorem dX4_pushWide_29 : decode cX4_pushWide 29 = .ok (.aload_n 0, 1) := by decide +kernel
theorem dX4_pushWide_30 : decode cX4_pushWide 30 = .ok (.getfield 21, 3) := by decide +kernel
theorem dX4_pushWide_33 : decode cX4_pushWide 33 = .ok (.iload_n 1, 1) := by decide +kernel
theorem dX4_pushWide_34 : decode cX4_pushWide 34 = .ok (.invokevirtual 357, 3) := by decide +kernel
theorem dX4_pushWide_37 : decode cX4_pushWide 37 = .ok (.ifCond .ne 10, 3) := by decide +kernel
theorem dX4_pushWide_40 : decode cX4_pushWide 40 = .ok (.aload_n 0, 1) := by decide +kernel
theorem dX4_pushWide_41 : decode cX4_pushWide 41 = .ok (.iconst 2, 1) := by decide +kernel
theorem dX4_pushWide_42 : decode cX4_pushWide 42 = .ok (.lconst 1, 1) := by decide +kernel
theorem dX4_pushWide_43 : decode cX4_pushWide 43 = .ok (.invokevirtual 153, 3) := by decide +kernel
theorem dX4_pushWide_46 : decode cX4_pushWide 46 = .ok (.return_, 1) := by decide +kernel
theorem dX4_pushWide_47 : decode cX4_pushWide 47 = .ok (.aload_n 0, 1) := by decide +kernel
theorem dX4_pushWide_48 : decode cX4_pushWide 48 = .ok (.iload_n 1, 1) := by decide +kernel
theorem dX4_pushWide_49 : decode cX4_pushWide 49 = .ok (.aload_n 0, 1) := by decide +kernel
theorem dX4_pushWide_50 : decode cX4_pushWide 50 = .ok (.getfield 21, 3) := by decide +kernel
theorem dX4_pushWide_53 : decode cX4_pushWide 53 = .ok (.getfield 359, 3) := by decide +kernel
theorem dX4_pushWide_56 : decode cX4_pushWide 56 = .ok (.aload_n 0, 1) := by decide +kernel
theorem dX4_pushWide_57 : decode cX4_pushWide 57 = .ok (.getfield 21, 3) := by decide +kernel
theorem dX4_pushWide_60 : decode cX4_pushWide 60 = .ok (.getfield 361, 3) := by decide +kernel
theorem dX4_pushWide_63 : decode cX4_pushWide 63 = .ok (.invokevirtual 274, 3) := by decide +kernel
theorem dX4_pushWide_66 : decode cX4_pushWide 66 = .ok (.return_, 1) := by decide +kernel
theorem dX4_combine_0 : decode cX4_combine 0 = .ok (.iload_n 1, 1) := by decide +kernel
theorem dX4_combine_1 : decode cX4_combine 1 = .ok (.tableswitch 164 24 30 #[43, 56, 69, 82, 82, 106, 135], 43) := by decide +kernel
theorem dX4_combine_44 : decode cX4_combine 44 = .ok (.aload_n 0, 1) := by decide +kernel
theorem dX4_combine_45 : decode cX4_combine 45 = .ok (.getfield 21, 3) := by decide +kernel
theorem dX4_combine_48 : decode cX4_combine 48 = .ok (.lload_n 2, 1) := by decide +kernel
theorem dX4_combine_49 : decode cX4_combine 49 = .ok (.lload 4, 2) := by decide +kernel
theorem dX4_combine_51 : decode cX4_combine 51 = .ok (.invokevirtual 363, 3) := by decide +kernel
theorem dX4_combine_54 : decode cX4_combine 54 = .ok (.goto 137, 3) := by decide +kernel
theorem dX4_combine_57 : decode cX4_combine 57 = .ok (.aload_n 0, 1) := by decide +kernel
theorem dX4_combine_58 : decode cX4_combine 58 = .ok (.getfield 21, 3) := by decide +kernel
theorem dX4_combine_61 : decode cX4_combine 61 = .ok (.lload_n 2, 1) := by decide +kernel
theorem dX4_combine_62 : decode cX4_combine 62 = .ok (.lload 4, 2) := by decide +kernel
theorem dX4_combine_64 : decode cX4_combine 64 = .ok (.invokevirtual 366, 3) := by decide +kernel
theorem dX4_combine_67 : decode cX4_combine 67 = .ok (.goto 124, 3) := by decide +kernel
theorem dX4_combine_70 : decode cX4_combine 70 = .ok (.aload_n 0, 1) := by decide +kernel
theorem dX4_combine_71 : decode cX4_combine 71 = .ok (.getfield 21, 3) := by decide +kernel
theorem dX4_combine_74 : decode cX4_combine 74 = .ok (.lload_n 2, 1) := by decide +kernel
theorem dX4_combine_75 : decode cX4_combine 75 = .ok (.lload 4, 2) := by decide +kernel
theorem dX4_combine_77 : decode cX4_combine 77 = .ok (.invokevirtual 369, 3) := by decide +kernel
theorem dX4_combine_80 : decode cX4_combine 80 = .ok (.goto 111, 3) := by decide +kernel
theorem dX4_combine_83 : decode cX4_combine 83 = .ok (.aload_n 0, 1) := by decide +kernel
theorem dX4_combine_84 : decode cX4_combine 84 = .ok (.getfield 21, 3) := by decide +kernel
theorem dX4_combine_87 : decode cX4_combine 87 = .ok (.lload_n 2, 1) := by decide +kernel
theorem dX4_combine_88 : decode cX4_combine 88 = .ok (.lload 4, 2) := by decide +kernel
theorem dX4_combine_90 : decode cX4_combine 90 = .ok (.iload_n 1, 1) := by decide +kernel
theorem dX4_combine_91 : decode cX4_combine 91 = .ok (.bipush 28, 2) := by decide +kernel
theorem dX4_combine_93 : decode cX4_combine 93 = .ok (.if_icmp .ne 7, 3) := by decide +kernel
theorem dX4_combine_96 : decode cX4_combine 96 = .ok (.iconst 1, 1) := by decide +kernel
theorem dX4_combine_97 : decode cX4_combine 97 = .ok (.goto 4, 3) := by decide +kernel
theorem dX4_combine_100 : decode cX4_combine 100 = .ok (.iconst 0, 1) := by decide +kernel
theorem dX4_combine_101 : decode cX4_combine 101 = .ok (.invokevirtual 372, 3) := by decide +kernel
theorem dX4_combine_104 : decode cX4_combine 104 = .ok (.goto 87, 3) := by decide +kernel
theorem dX4_combine_107 : decode cX4_combine 107 = .ok (.aload_n 0, 1) := by decide +kernel
theorem dX4_combine_108 : decode cX4_combine 108 = .ok (.getfield 21, 3) := by decide +kernel
theorem dX4_combine_111 : decode cX4_combine 111 = .ok (.aload_n 0, 1) := by decide +kernel
theorem dX4_combine_112 : decode cX4_combine 112 = .ok (.getfield 21, 3) := by decide +kernel
theorem dX4_combine_115 : decode cX4_combine 115 = .ok (.getfield 359, 3) := by decide +kernel
theorem dX4_combine_118 : decode cX4_combine 118 = .ok (.lload_n 2, 1) := by decide +kernel
theorem dX4_combine_119 : decode cX4_combine 119 = .ok (.land, 1) := by decide +kernel
theorem dX4_combine_120 : decode cX4_combine 120 = .ok (.aload_n 0, 1) := by decide +kernel
theorem dX4_combine_121 : decode cX4_combine 121 = .ok (.getfield 21, 3) := by decide +kernel
theorem dX4_combine_124 : decode cX4_combine 124 = .ok (.getfield 361, 3) := by decide +kernel
theorem dX4_combine_127 : decode cX4_combine 127 = .ok (.lload 4, 2) := by decide +kernel
theorem dX4_combine_129 : decode cX4_combine 129 = .ok (.land, 1) := by decide +kernel
theorem dX4_combine_130 : decode cX4_combine 130 = .ok (.invokevirtual 341, 3) := by decide +kernel
theorem dX4_combine_133 : decode cX4_combine 133 = .ok (.goto 58, 3) := by decide +kernel
theorem dX4_combine_136 : decode cX4_combine 136 = .ok (.aload_n 0, 1) := by decide +kernel
theorem dX4_combine_137 : decode cX4_combine 137 = .ok (.getfield 21, 3) := by decide +kernel
theorem dX4_combine_140 : decode cX4_combine 140 = .ok (.aload_n 0, 1) := by decide +kernel
theorem dX4_combine_141 : decode cX4_combine 141 = .ok (.getfield 21, 3) := by decide +kernel
theorem dX4_combine_144 : decode cX4_combine 144 = .ok (.getfield 359, 3) := by decide +kernel
theorem dX4_combine_147 : decode cX4_combine 147 = .ok (.lload_n 2, 1) := by decide +kernel
theorem dX4_combine_148 : decode cX4_combine 148 = .ok (.lor, 1) := by decide +kernel
theorem dX4_combine_149 : decode cX4_combine 149 = .ok (.aload_n 0, 1) := by decide +kernel
theorem dX4_combine_150 : decode cX4_combine 150 = .ok (.getfield 21, 3) := by decide +kernel
theorem dX4_combine_153 : decode cX4_combine 153 = .ok (.getfield 361, 3) := by decide +kernel
theorem dX4_combine_156 : decode cX4_combine 156 = .ok (.lload 4, 2) := by decide +kernel
theorem dX4_combine_158 : decode cX4_combine 158 = .ok (.lor, 1) := by decide +kernel
theorem dX4_combine_159 : decode cX4_combine 159 = .ok (.invokevirtual 341, 3) := by decide +kernel
theorem dX4_combine_162 : decode cX4_combine 162 = .ok (.goto 29, 3) := by decide +kernel
theorem dX4_combine_165 : decode cX4_combine 165 = .ok (.aload_n 0, 1) := by decide +kernel
theorem dX4_combine_166 : decode cX4_combine 166 = .ok (.getfield 21, 3) := by decide +kernel
theorem dX4_combine_169 : decode cX4_combine 169 = .ok (.aload_n 0, 1) := by decide +kernel
theorem dX4_combine_170 : decode cX4_combine 170 = .ok (.getfield 21, 3) := by decide +kernel
theorem dX4_combine_173 : decode cX4_combine 173 = .ok (.getfield 359, 3) := by decide +kernel
theorem dX4_combine_176 : decode cX4_combine 176 = .ok (.lload_n 2, 1) := by decide +kernel
theorem dX4_combine_177 : decode cX4_combine 177 = .ok (.lxor, 1) := by decide +kernel
theorem dX4_combine_178 : decode cX4_combine 178 = .ok (.aload_n 0, 1) := by decide +kernel
theorem dX4_combine_179 : decode cX4_combine 179 = .ok (.getfield 21, 3) := by decide +kernel
theorem dX4_combine_182 : decode cX4_combine 182 = .ok (.getfield 361, 3) := by decide +kernel
theorem dX4_combine_185 : decode cX4_combine 185 = .ok (.lload 4, 2) := by decide +kernel
theorem dX4_combine_187 : decode cX4_combine 187 = .ok (.lxor, 1) := by decide +kernel
theorem dX4_combine_188 : decode cX4_combine 188 = .ok (.invokevirtual 341, 3) := by decide +kernel
theorem dX4_combine_191 : decode cX4_combine 191 = .ok (.return_, 1) := by decide +kernel
theorem dX4_shift_0 : decode cX4_shift 0 = .ok (.lload_n 2, 1) := by decide +kernel
theorem dX4_shift_1 : decode cX4_shift 1 = .ok (.iload 4, 2) := by decide +kernel
theorem dX4_shift_3 : decode cX4_shift 3 = .ok (.invokestatic 376, 3) := by decide +kernel
theorem dX4_shift_6 : decode cX4_shift 6 = .ok (.i2l, 1) := by decide +kernel
theorem dX4_shift_7 : decode cX4_shift 7 = .ok (.lcmp, 1) := by decide +kernel
theorem dX4_shift_8 : decode cX4_shift 8 = .ok (.ifCond .lt 10, 3) := by decide +kernel
theorem dX4_shift_11 : decode cX4_shift 11 = .ok (.aload_n 0, 1) := by decide +kernel
theorem dX4_shift_12 : decode cX4_shift 12 = .ok (.iconst 2, 1) := by decide +kernel
theorem dX4_shift_13 : decode cX4_shift 13 = .ok (.lconst 1, 1) := by decide +kernel
theorem dX4_shift_14 : decode cX4_shift 14 = .ok (.invokevirtual 153, 3) := by decide +kernel
theorem dX4_shift_17 : decode cX4_shift 17 = .ok (.return_, 1) := by decide +kernel
theorem dX4_shift_18 : decode cX4_shift 18 = .ok (.iload_n 1, 1) := by decide +kernel
theorem dX4_shift_19 : decode cX4_shift 19 = .ok (.ifCond .eq 24, 3) := by decide +kernel
theorem dX4_shift_22 : decode cX4_shift 22 = .ok (.aload_n 0, 1) := by decide +kernel
theorem dX4_shift_23 : decode cX4_shift 23 = .ok (.getfield 21, 3) := by decide +kernel
theorem dX4_shift_26 : decode cX4_shift 26 = .ok (.lload_n 2, 1) := by decide +kernel
theorem dX4_shift_27 : decode cX4_shift 27 = .ok (.l2i, 1) := by decide +kernel
theorem dX4_shift_28 : decode cX4_shift 28 = .ok (.invokevirtual 379, 3) := by decide +kernel
theorem dX4_shift_31 : decode cX4_shift 31 = .ok (.aload_n 0, 1) := by decide +kernel
theorem dX4_shift_32 : decode cX4_shift 32 = .ok (.getfield 21, 3) := by decide +kernel
theorem dX4_shift_35 : decode cX4_shift 35 = .ok (.iload 4, 2) := by decide +kernel
theorem dX4_shift_37 : decode cX4_shift 37 = .ok (.invokevirtual 382, 3) := by decide +kernel
theorem dX4_shift_40 : decode cX4_shift 40 = .ok (.goto 12, 3) := by decide +kernel
theorem dX4_shift_43 : decode cX4_shift 43 = .ok (.aload_n 0, 1) := by decide +kernel
theorem dX4_shift_44 : decode cX4_shift 44 = .ok (.getfield 21, 3) := by decide +kernel
theorem dX4_shift_47 : decode cX4_shift 47 = .ok (.lload_n 2, 1) := by decide +kernel
theorem dX4_shift_48 : decode cX4_shift 48 = .ok (.l2i, 1) := by decide +kernel
theorem dX4_shift_49 : decode cX4_shift 49 = .ok (.invokevirtual 385, 3) := by decide +kernel
theorem dX4_shift_52 : decode cX4_shift 52 = .ok (.aload_n 0, 1) := by decide +kernel
theorem dX4_shift_53 : decode cX4_shift 53 = .ok (.iload 4, 2) := by decide +kernel
theorem dX4_shift_55 : decode cX4_shift 55 = .ok (.invokevirtual 344, 3) := by decide +kernel
theorem dX4_shift_58 : decode cX4_shift 58 = .ok (.return_, 1) := by decide +kernel
theorem dX4_compare_0 : decode cX4_compare 0 = .ok (.iload_n 1, 1) := by decide +kernel
theorem dX4_compare_1 : decode cX4_compare 1 = .ok (.bipush 37, 2) := by decide +kernel
theorem dX4_compare_3 : decode cX4_compare 3 = .ok (.if_icmp .gt 61, 3) := by decide +kernel
theorem dX4_compare_6 : decode cX4_compare 6 = .ok (.aload_n 0, 1) := by decide +kernel
theorem dX4_compare_7 : decode cX4_compare 7 = .ok (.aload_n 0, 1) := by decide +kernel
theorem dX4_compare_8 : decode cX4_compare 8 = .ok (.getfield 12, 3) := by decide +kernel
theorem dX4_compare_11 : decode cX4_compare 11 = .ok (.iload_n 2, 1) := by decide +kernel
theorem dX4_compare_12 : decode cX4_compare 12 = .ok (.invokevirtual 283, 3) := by decide +kernel
theorem dX4_compare_15 : decode cX4_compare 15 = .ok (.aload_n 0, 1) := by decide +kernel
theorem dX4_compare_16 : decode cX4_compare 16 = .ok (.getfield 12, 3) := by decide +kernel
theorem dX4_compare_19 : decode cX4_compare 19 = .ok (.iload_n 3, 1) := by decide +kernel
theorem dX4_compare_20 : decode cX4_compare 20 = .ok (.invokevirtual 283, 3) := by decide +kernel
theorem dX4_compare_23 : decode cX4_compare 23 = .ok (.iadd, 1) := by decide +kernel
theorem dX4_compare_24 : decode cX4_compare 24 = .ok (.invokevirtual 199, 3) := by decide +kernel
theorem dX4_compare_27 : decode cX4_compare 27 = .ok (.ifCond .ne 4, 3) := by decide +kernel
theorem dX4_compare_30 : decode cX4_compare 30 = .ok (.return_, 1) := by decide +kernel
theorem dX4_compare_31 : decode cX4_compare 31 = .ok (.aload_n 0, 1) := by decide +kernel
theorem dX4_compare_32 : decode cX4_compare 32 = .ok (.getfield 12, 3) := by decide +kernel
theorem dX4_compare_35 : decode cX4_compare 35 = .ok (.iload_n 2, 1) := by decide +kernel
theorem dX4_compare_36 : decode cX4_compare 36 = .ok (.iload_n 3, 1) := by decide +kernel
theorem dX4_compare_37 : decode cX4_compare 37 = .ok (.invokevirtual 388, 3) := by decide +kernel
theorem dX4_compare_40 : decode cX4_compare 40 = .ok (.iload_n 1, 1) := by decide +kernel
theorem dX4_compare_41 : decode cX4_compare 41 = .ok (.bipush 36, 2) := by decide +kernel
theorem dX4_compare_43 : decode cX4_compare 43 = .ok (.if_icmp .ne 7, 3) := by decide +kernel
theorem dX4_compare_46 : decode cX4_compare 46 = .ok (.iconst 1, 1) := by decide +kernel
theorem dX4_compare_47 : decode cX4_compare 47 = .ok (.goto 4, 3) := by decide +kernel
theorem dX4_compare_50 : decode cX4_compare 50 = .ok (.iconst 0, 1) := by decide +kernel
theorem dX4_compare_51 : decode cX4_compare 51 = .ok (.if_icmp .ne 7, 3) := by decide +kernel
theorem dX4_compare_54 : decode cX4_compare 54 = .ok (.iconst 1, 1) := by decide +kernel
theorem dX4_compare_55 : decode cX4_compare 55 = .ok (.goto 4, 3) := by decide +kernel
theorem dX4_compare_58 : decode cX4_compare 58 = .ok (.iconst 0, 1) := by decide +kernel
theorem dX4_compare_59 : decode cX4_compare 59 = .ok (.istore 4, 2) := by decide +kernel
theorem dX4_compare_61 : decode cX4_compare 61 = .ok (.goto 113, 3) := by decide +kernel
theorem dX4_compare_64 : decode cX4_compare 64 = .ok (.aload_n 0, 1) := by decide +kernel
theorem dX4_compare_65 : decode cX4_compare 65 = .ok (.getfield 12, 3) := by decide +kernel
theorem dX4_compare_68 : decode cX4_compare 68 = .ok (.getfield 160, 3) := by decide +kernel
theorem dX4_compare_71 : decode cX4_compare 71 = .ok (.iload_n 2, 1) := by decide +kernel
theorem dX4_compare_72 : decode cX4_compare 72 = .ok (.laload, 1) := by decide +kernel
theorem dX4_compare_73 : decode cX4_compare 73 = .ok (.aload_n 0, 1) := by decide +kernel
theorem dX4_compare_74 : decode cX4_compare 74 = .ok (.getfield 12, 3) := by decide +kernel
theorem dX4_compare_77 : decode cX4_compare 77 = .ok (.getfield 163, 3) := by decide +kernel
theorem dX4_compare_80 : decode cX4_compare 80 = .ok (.iload_n 2, 1) := by decide +kernel
theorem dX4_compare_81 : decode cX4_compare 81 = .ok (.laload, 1) := by decide +kernel
theorem dX4_compare_82 : decode cX4_compare 82 = .ok (.aload_n 0, 1) := by decide +kernel
theorem dX4_compare_83 : decode cX4_compare 83 = .ok (.getfield 12, 3) := by decide +kernel
theorem dX4_compare_86 : decode cX4_compare 86 = .ok (.getfield 160, 3) := by decide +kernel
theorem dX4_compare_89 : decode cX4_compare 89 = .ok (.iload_n 3, 1) := by decide +kernel
theorem dX4_compare_90 : decode cX4_compare 90 = .ok (.laload, 1) := by decide +kernel
theorem dX4_compare_91 : decode cX4_compare 91 = .ok (.aload_n 0, 1) := by decide +kernel
theorem dX4_compare_92 : decode cX4_compare 92 = .ok (.getfield 12, 3) := by decide +kernel
theorem dX4_compare_95 : decode cX4_compare 95 = .ok (.getfield 163, 3) := by decide +kernel
theorem dX4_compare_98 : decode cX4_compare 98 = .ok (.iload_n 3, 1) := by decide +kernel
theorem dX4_compare_99 : decode cX4_compare 99 = .ok (.laload, 1) := by decide +kernel
theorem dX4_compare_100 : decode cX4_compare 100 = .ok (.invokestatic 392, 3) := by decide +kernel
theorem dX4_compare_103 : decode cX4_compare 103 = .ok (.istore 5, 2) := by decide +kernel
theorem dX4_compare_105 : decode cX4_compare 105 = .ok (.iload_n 1, 1) := by decide +kernel
theorem dX4_compare_106 : decode cX4_compare 106 = .ok (.bipush 38, 2) := by decide +kernel
theorem dX4_compare_108 : decode cX4_compare 108 = .ok (.if_icmp .ne 16, 3) := by decide +kernel
theorem dX4_compare_111 : decode cX4_compare 111 = .ok (.iload 5, 2) := by decide +kernel
theorem dX4_compare_113 : decode cX4_compare 113 = .ok (.ifCond .ge 7, 3) := by decide +kernel
theorem dX4_compare_116 : decode cX4_compare 116 = .ok (.iconst 1, 1) := by decide +kernel
theorem dX4_compare_117 : decode cX4_compare 117 = .ok (.goto 55, 3) := by decide +kernel
theorem dX4_compare_120 : decode cX4_compare 120 = .ok (.iconst 0, 1) := by decide +kernel
theorem dX4_compare_121 : decode cX4_compare 121 = .ok (.goto 51, 3) := by decide +kernel
theorem dX4_compare_124 : decode cX4_compare 124 = .ok (.iload_n 1, 1) := by decide +kernel
theorem dX4_compare_125 : decode cX4_compare 125 = .ok (.bipush 39, 2) := by decide +kernel
theorem dX4_compare_127 : decode cX4_compare 127 = .ok (.if_icmp .ne 16, 3) := by decide +kernel
theorem dX4_compare_130 : decode cX4_compare 130 = .ok (.iload 5, 2) := by decide +kernel
theorem dX4_compare_132 : decode cX4_compare 132 = .ok (.ifCond .gt 7, 3) := by decide +kernel
theorem dX4_compare_135 : decode cX4_compare 135 = .ok (.iconst 1, 1) := by decide +kernel
theorem dX4_compare_136 : decode cX4_compare 136 = .ok (.goto 36, 3) := by decide +kernel
theorem dX4_compare_139 : decode cX4_compare 139 = .ok (.iconst 0, 1) := by decide +kernel
theorem dX4_compare_140 : decode cX4_compare 140 = .ok (.goto 32, 3) := by decide +kernel
theorem dX4_compare_143 : decode cX4_compare 143 = .ok (.iload_n 1, 1) := by decide +kernel
theorem dX4_compare_144 : decode cX4_compare 144 = .ok (.bipush 40, 2) := by decide +kernel
theorem dX4_compare_146 : decode cX4_compare 146 = .ok (.if_icmp .ne 16, 3) := by decide +kernel
theorem dX4_compare_149 : decode cX4_compare 149 = .ok (.iload 5, 2) := by decide +kernel
theorem dX4_compare_151 : decode cX4_compare 151 = .ok (.ifCond .le 7, 3) := by decide +kernel
theorem dX4_compare_154 : decode cX4_compare 154 = .ok (.iconst 1, 1) := by decide +kernel
theorem dX4_compare_155 : decode cX4_compare 155 = .ok (.goto 17, 3) := by decide +kernel
theorem dX4_compare_158 : decode cX4_compare 158 = .ok (.iconst 0, 1) := by decide +kernel
theorem dX4_compare_159 : decode cX4_compare 159 = .ok (.goto 13, 3) := by decide +kernel
theorem dX4_compare_162 : decode cX4_compare 162 = .ok (.iload 5, 2) := by decide +kernel
theorem dX4_compare_164 : decode cX4_compare 164 = .ok (.ifCond .lt 7, 3) := by decide +kernel
theorem dX4_compare_167 : decode cX4_compare 167 = .ok (.iconst 1, 1) := by decide +kernel
theorem dX4_compare_168 : decode cX4_compare 168 = .ok (.goto 4, 3) := by decide +kernel
theorem dX4_compare_171 : decode cX4_compare 171 = .ok (.iconst 0, 1) := by decide +kernel
theorem dX4_compare_172 : decode cX4_compare 172 = .ok (.istore 4, 2) := by decide +kernel
theorem dX4_compare_174 : decode cX4_compare 174 = .ok (.aload_n 0, 1) := by decide +kernel
theorem dX4_compare_175 : decode cX4_compare 175 = .ok (.iconst 1, 1) := by decide +kernel
theorem dX4_compare_176 : decode cX4_compare 176 = .ok (.lconst 0, 1) := by decide +kernel
theorem dX4_compare_177 : decode cX4_compare 177 = .ok (.iload 4, 2) := by decide +kernel
theorem dX4_compare_179 : decode cX4_compare 179 = .ok (.ifCond .eq 7, 3) := by decide +kernel
theorem dX4_compare_182 : decode cX4_compare 182 = .ok (.lconst 1, 1) := by decide +kernel
theorem dX4_compare_183 : decode cX4_compare 183 = .ok (.goto 4, 3) := by decide +kernel
theorem dX4_compare_186 : decode cX4_compare 186 = .ok (.lconst 0, 1) := by decide +kernel
theorem dX4_compare_187 : decode cX4_compare 187 = .ok (.invokevirtual 274, 3) := by decide +kernel
theorem dX4_compare_190 : decode cX4_compare 190 = .ok (.return_, 1) := by decide +kernel
theorem dX4_keep_0 : decode cX4_keep 0 = .ok (.aload_n 0, 1) := by decide +kernel
theorem dX4_keep_1 : decode cX4_keep 1 = .ok (.iload_n 1, 1) := by decide +kernel
theorem dX4_keep_2 : decode cX4_keep 2 = .ok (.bipush 47, 2) := by decide +kernel
theorem dX4_keep_4 : decode cX4_keep 4 = .ok (.if_icmp .ne 8, 3) := by decide +kernel
theorem dX4_keep_7 : decode cX4_keep 7 = .ok (.bipush 6, 2) := by decide +kernel
theorem dX4_keep_9 : decode cX4_keep 9 = .ok (.goto 4, 3) := by decide +kernel
theorem dX4_keep_12 : decode cX4_keep 12 = .ok (.iconst 5, 1) := by decide +kernel
theorem dX4_keep_13 : decode cX4_keep 13 = .ok (.invokevirtual 258, 3) := by decide +kernel
theorem dX4_keep_16 : decode cX4_keep 16 = .ok (.istore 4, 2) := by decide +kernel
theorem dX4_keep_18 : decode cX4_keep 18 = .ok (.iload_n 1, 1) := by decide +kernel
theorem dX4_keep_19 : decode cX4_keep 19 = .ok (.bipush 47, 2) := by decide +kernel
theorem dX4_keep_21 : decode cX4_keep 21 = .ok (.if_icmp .ne 13, 3) := by decide +kernel
theorem dX4_keep_24 : decode cX4_keep 24 = .ok (.aload_n 0, 1) := by decide +kernel
theorem dX4_keep_25 : decode cX4_keep 25 = .ok (.getfield 75, 3) := by decide +kernel
theorem dX4_keep_28 : decode cX4_keep 28 = .ok (.getfield 277, 3) := by decide +kernel
theorem dX4_keep_31 : decode cX4_keep 31 = .ok (.goto 13, 3) := by decide +kernel
theorem dX4_keep_34 : decode cX4_keep 34 = .ok (.aload_n 0, 1) := by decide +kernel
theorem dX4_keep_35 : decode cX4_keep 35 = .ok (.getfield 12, 3) := by decide +kernel
theorem dX4_keep_38 : decode cX4_keep 38 = .ok (.getfield 163, 3) := by decide +kernel
theorem dX4_keep_41 : decode cX4_keep 41 = .ok (.iload 4, 2) := by decide +kernel
theorem dX4_keep_43 : decode cX4_keep 43 = .ok (.laload, 1) := by decide +kernel
theorem dX4_keep_44 : decode cX4_keep 44 = .ok (.lstore 5, 2) := by decide +kernel
theorem dX4_keep_46 : decode cX4_keep 46 = .ok (.aload_n 0, 1) := by decide +kernel
theorem dX4_keep_47 : decode cX4_keep 47 = .ok (.getfield 67, 3) := by decide +kernel
theorem dX4_keep_50 : decode cX4_keep 50 = .ok (.iconst 3, 1) := by decide +kernel
theorem dX4_keep_51 : decode cX4_keep 51 = .ok (.lload 5, 2) := by decide +kernel
theorem dX4_keep_53 : decode cX4_keep 53 = .ok (.iload_n 2, 1) := by decide +kernel
theorem dX4_keep_54 : decode cX4_keep 54 = .ok (.iload_n 3, 1) := by decide +kernel
theorem dX4_keep_55 : decode cX4_keep 55 = .ok (.invokevirtual 305, 3) := by decide +kernel
theorem dX4_keep_58 : decode cX4_keep 58 = .ok (.istore 7, 2) := by decide +kernel
theorem dX4_keep_60 : decode cX4_keep 60 = .ok (.iload 7, 2) := by decide +kernel
theorem dX4_keep_62 : decode cX4_keep 62 = .ok (.ifCond .ge 12, 3) := by decide +kernel
theorem dX4_keep_65 : decode cX4_keep 65 = .ok (.aload_n 0, 1) := by decide +kernel
theorem dX4_keep_66 : decode cX4_keep 66 = .ok (.iconst 2, 1) := by decide +kernel
theorem dX4_keep_67 : decode cX4_keep 67 = .ok (.ldc2_w 151, 3) := by decide +kernel
theorem dX4_keep_70 : decode cX4_keep 70 = .ok (.invokevirtual 153, 3) := by decide +kernel
theorem dX4_keep_73 : decode cX4_keep 73 = .ok (.return_, 1) := by decide +kernel
theorem dX4_keep_74 : decode cX4_keep 74 = .ok (.iload_n 1, 1) := by decide +kernel
theorem dX4_keep_75 : decode cX4_keep 75 = .ok (.bipush 49, 2) := by decide +kernel
theorem dX4_keep_77 : decode cX4_keep 77 = .ok (.if_icmp .eq 36, 3) := by decide +kernel
theorem dX4_keep_80 : decode cX4_keep 80 = .ok (.aload_n 0, 1) := by decide +kernel
theorem dX4_keep_81 : decode cX4_keep 81 = .ok (.getfield 67, 3) := by decide +kernel
theorem dX4_keep_84 : decode cX4_keep 84 = .ok (.getfield 325, 3) := by decide +kernel
theorem dX4_keep_87 : decode cX4_keep 87 = .ok (.iload 7, 2) := by decide +kernel
theorem dX4_keep_89 : decode cX4_keep 89 = .ok (.baload, 1) := by decide +kernel
theorem dX4_keep_90 : decode cX4_keep 90 = .ok (.iload_n 1, 1) := by decide +kernel
theorem dX4_keep_91 : decode cX4_keep 91 = .ok (.bipush 47, 2) := by decide +kernel
theorem dX4_keep_93 : decode cX4_keep 93 = .ok (.if_icmp .ne 7, 3) := by decide +kernel
theorem dX4_keep_96 : decode cX4_keep 96 = .ok (.iconst 1, 1) := by decide +kernel
theorem dX4_keep_97 : decode cX4_keep 97 = .ok (.goto 4, 3) := by decide +kernel
theorem dX4_keep_100 : decode cX4_keep 100 = .ok (.iconst 0, 1) := by decide +kernel
theorem dX4_keep_101 : decode cX4_keep 101 = .ok (.if_icmp .ne 12, 3) := by decide +kernel
theorem dX4_keep_104 : decode cX4_keep 104 = .ok (.aload_n 0, 1) := by decide +kernel
theorem dX4_keep_105 : decode cX4_keep 105 = .ok (.iconst 2, 1) := by decide +kernel
theorem dX4_keep_106 : decode cX4_keep 106 = .ok (.ldc2_w 395, 3) := by decide +kernel
theorem dX4_keep_109 : decode cX4_keep 109 = .ok (.invokevirtual 153, 3) := by decide +kernel
theorem dX4_keep_112 : decode cX4_keep 112 = .ok (.return_, 1) := by decide +kernel
theorem dX4_keep_113 : decode cX4_keep 113 = .ok (.aload_n 0, 1) := by decide +kernel
theorem dX4_keep_114 : decode cX4_keep 114 = .ok (.iload_n 1, 1) := by decide +kernel
theorem dX4_keep_115 : decode cX4_keep 115 = .ok (.bipush 47, 2) := by decide +kernel
theorem dX4_keep_117 : decode cX4_keep 117 = .ok (.if_icmp .ne 18, 3) := by decide +kernel
theorem dX4_keep_120 : decode cX4_keep 120 = .ok (.bipush 10, 2) := by decide +kernel
theorem dX4_keep_122 : decode cX4_keep 122 = .ok (.aload_n 0, 1) := by decide +kernel
theorem dX4_keep_123 : decode cX4_keep 123 = .ok (.getfield 12, 3) := by decide +kernel
theorem dX4_keep_126 : decode cX4_keep 126 = .ok (.iload 4, 2) := by decide +kernel
theorem dX4_keep_128 : decode cX4_keep 128 = .ok (.invokevirtual 283, 3) := by decide +kernel
theorem dX4_keep_131 : decode cX4_keep 131 = .ok (.iadd, 1) := by decide +kernel
theorem dX4_keep_132 : decode cX4_keep 132 = .ok (.goto 5, 3) := by decide +kernel
theorem dX4_keep_135 : decode cX4_keep 135 = .ok (.bipush 10, 2) := by decide +kernel
theorem dX4_keep_137 : decode cX4_keep 137 = .ok (.invokevirtual 199, 3) := by decide +kernel
theorem dX4_keep_140 : decode cX4_keep 140 = .ok (.ifCond .ne 4, 3) := by decide +kernel
theorem dX4_keep_143 : decode cX4_keep 143 = .ok (.return_, 1) := by decide +kernel
theorem dX4_keep_144 : decode cX4_keep 144 = .ok (.iload_n 1, 1) := by decide +kernel
theorem dX4_keep_145 : decode cX4_keep 145 = .ok (.bipush 47, 2) := by decide +kernel
theorem dX4_keep_147 : decode cX4_keep 147 = .ok (.if_icmp .ne 29, 3) := by decide +kernel
theorem dX4_keep_150 : decode cX4_keep 150 = .ok (.aload_n 0, 1) := by decide +kernel
theorem dX4_keep_151 : decode cX4_keep 151 = .ok (.getfield 67, 3) := by decide +kernel
theorem dX4_keep_154 : decode cX4_keep 154 = .ok (.getfield 325, 3) := by decide +kernel
theorem dX4_keep_157 : decode cX4_keep 157 = .ok (.iload 7, 2) := by decide +kernel
theorem dX4_keep_159 : decode cX4_keep 159 = .ok (.iconst 1, 1) := by decide +kernel
theorem dX4_keep_160 : decode cX4_keep 160 = .ok (.bastore, 1) := by decide +kernel
theorem dX4_keep_161 : decode cX4_keep 161 = .ok (.aload_n 0, 1) := by decide +kernel
theorem dX4_keep_162 : decode cX4_keep 162 = .ok (.getfield 67, 3) := by decide +kernel
theorem dX4_keep_165 : decode cX4_keep 165 = .ok (.getfield 397, 3) := by decide +kernel
theorem dX4_keep_168 : decode cX4_keep 168 = .ok (.iload 7, 2) := by decide +kernel
theorem dX4_keep_170 : decode cX4_keep 170 = .ok (.iload 4, 2) := by decide +kernel
theorem dX4_keep_172 : decode cX4_keep 172 = .ok (.iastore, 1) := by decide +kernel
theorem dX4_keep_173 : decode cX4_keep 173 = .ok (.goto 88, 3) := by decide +kernel
theorem dX4_keep_176 : decode cX4_keep 176 = .ok (.iload_n 1, 1) := by decide +kernel
theorem dX4_keep_177 : decode cX4_keep 177 = .ok (.bipush 48, 2) := by decide +kernel
theorem dX4_keep_179 : decode cX4_keep 179 = .ok (.if_icmp .ne 31, 3) := by decide +kernel
theorem dX4_keep_182 : decode cX4_keep 182 = .ok (.aload_n 0, 1) := by decide +kernel
theorem dX4_keep_183 : decode cX4_keep 183 = .ok (.getfield 67, 3) := by decide +kernel
theorem dX4_keep_186 : decode cX4_keep 186 = .ok (.getfield 325, 3) := by decide +kernel
theorem dX4_keep_189 : decode cX4_keep 189 = .ok (.iload 7, 2) := by decide +kernel
theorem dX4_keep_191 : decode cX4_keep 191 = .ok (.iconst 0, 1) := by decide +kernel
theorem dX4_keep_192 : decode cX4_keep 192 = .ok (.bastore, 1) := by decide +kernel
theorem dX4_keep_193 : decode cX4_keep 193 = .ok (.aload_n 0, 1) := by decide +kernel
theorem dX4_keep_194 : decode cX4_keep 194 = .ok (.aload_n 0, 1) := by decide +kernel
theorem dX4_keep_195 : decode cX4_keep 195 = .ok (.getfield 67, 3) := by decide +kernel
theorem dX4_keep_198 : decode cX4_keep 198 = .ok (.getfield 397, 3) := by decide +kernel
theorem dX4_keep_201 : decode cX4_keep 201 = .ok (.iload 7, 2) := by decide +kernel
theorem dX4_keep_203 : decode cX4_keep 203 = .ok (.iaload, 1) := by decide +kernel
theorem dX4_keep_204 : decode cX4_keep 204 = .ok (.invokevirtual 185, 3) := by decide +kernel
theorem dX4_keep_207 : decode cX4_keep 207 = .ok (.goto 54, 3) := by decide +kernel
theorem dX4_keep_210 : decode cX4_keep 210 = .ok (.iload_n 1, 1) := by decide +kernel
theorem dX4_keep_211 : decode cX4_keep 211 = .ok (.bipush 49, 2) := by decide +kernel
theorem dX4_keep_213 : decode cX4_keep 213 = .ok (.if_icmp .ne 30, 3) := by decide +kernel
theorem dX4_keep_216 : decode cX4_keep 216 = .ok (.aload_n 0, 1) := by decide +kernel
theorem dX4_keep_217 : decode cX4_keep 217 = .ok (.iconst 1, 1) := by decide +kernel
theorem dX4_keep_218 : decode cX4_keep 218 = .ok (.lconst 0, 1) := by decide +kernel
theorem dX4_keep_219 : decode cX4_keep 219 = .ok (.aload_n 0, 1) := by decide +kernel
theorem dX4_keep_220 : decode cX4_keep 220 = .ok (.getfield 67, 3) := by decide +kernel
theorem dX4_keep_223 : decode cX4_keep 223 = .ok (.getfield 325, 3) := by decide +kernel
theorem dX4_keep_226 : decode cX4_keep 226 = .ok (.iload 7, 2) := by decide +kernel
theorem dX4_keep_228 : decode cX4_keep 228 = .ok (.baload, 1) := by decide +kernel
theorem dX4_keep_229 : decode cX4_keep 229 = .ok (.ifCond .eq 7, 3) := by decide +kernel
theorem dX4_keep_232 : decode cX4_keep 232 = .ok (.lconst 1, 1) := by decide +kernel
theorem dX4_keep_233 : decode cX4_keep 233 = .ok (.goto 4, 3) := by decide +kernel
theorem dX4_keep_236 : decode cX4_keep 236 = .ok (.lconst 0, 1) := by decide +kernel
theorem dX4_keep_237 : decode cX4_keep 237 = .ok (.invokevirtual 274, 3) := by decide +kernel
theorem dX4_keep_240 : decode cX4_keep 240 = .ok (.goto 21, 3) := by decide +kernel
theorem dX4_keep_243 : decode cX4_keep 243 = .ok (.aload_n 0, 1) := by decide +kernel
theorem dX4_keep_244 : decode cX4_keep 244 = .ok (.bipush 8, 2) := by decide +kernel
theorem dX4_keep_246 : decode cX4_keep 246 = .ok (.lconst 0, 1) := by decide +kernel
theorem dX4_keep_247 : decode cX4_keep 247 = .ok (.aload_n 0, 1) := by decide +kernel
theorem dX4_keep_248 : decode cX4_keep 248 = .ok (.getfield 67, 3) := by decide +kernel
theorem dX4_keep_251 : decode cX4_keep 251 = .ok (.getfield 397, 3) := by decide +kernel
theorem dX4_keep_254 : decode cX4_keep 254 = .ok (.iload 7, 2) := by decide +kernel
theorem dX4_keep_256 : decode cX4_keep 256 = .ok (.iaload, 1) := by decide +kernel
theorem dX4_keep_257 : decode cX4_keep 257 = .ok (.i2l, 1) := by decide +kernel
theorem dX4_keep_258 : decode cX4_keep 258 = .ok (.invokevirtual 274, 3) := by decide +kernel
theorem dX4_keep_261 : decode cX4_keep 261 = .ok (.return_, 1) := by decide +kernel
theorem dX4_lineUp_0 : decode cX4_lineUp 0 = .ok (.iload_n 1, 1) := by decide +kernel
theorem dX4_lineUp_1 : decode cX4_lineUp 1 = .ok (.bipush 52, 2) := by decide +kernel
theorem dX4_lineUp_3 : decode cX4_lineUp 3 = .ok (.if_icmp .ne 19, 3) := by decide +kernel
theorem dX4_lineUp_6 : decode cX4_lineUp 6 = .ok (.aload_n 0, 1) := by decide +kernel
theorem dX4_lineUp_7 : decode cX4_lineUp 7 = .ok (.iload_n 2, 1) := by decide +kernel
theorem dX4_lineUp_8 : decode cX4_lineUp 8 = .ok (.invokevirtual 199, 3) := by decide +kernel
theorem dX4_lineUp_11 : decode cX4_lineUp 11 = .ok (.ifCond .eq 10, 3) := by decide +kernel
theorem dX4_lineUp_14 : decode cX4_lineUp 14 = .ok (.aload_n 0, 1) := by decide +kernel
theorem dX4_lineUp_15 : decode cX4_lineUp 15 = .ok (.bipush 7, 2) := by decide +kernel
theorem dX4_lineUp_17 : decode cX4_lineUp 17 = .ok (.iload_n 2, 1) := by decide +kernel
theorem dX4_lineUp_18 : decode cX4_lineUp 18 = .ok (.invokevirtual 224, 3) := by decide +kernel
theorem dX4_lineUp_21 : decode cX4_lineUp 21 = .ok (.return_, 1) := by decide +kernel
theorem dX4_lineUp_22 : decode cX4_lineUp 22 = .ok (.iload_n 1, 1) := by decide +kernel
theorem dX4_lineUp_23 : decode cX4_lineUp 23 = .ok (.bipush 53, 2) := by decide +kernel
theorem dX4_lineUp_25 : decode cX4_lineUp 25 = .ok (.if_icmp .eq 9, 3) := by decide +kernel
theorem dX4_lineUp_28 : decode cX4_lineUp 28 = .ok (.iload_n 1, 1) := by decide +kernel
theorem dX4_lineUp_29 : decode cX4_lineUp 29 = .ok (.bipush 57, 2) := by decide +kernel
theorem dX4_lineUp_31 : decode cX4_lineUp 31 = .ok (.if_icmp .ne 7, 3) := by decide +kernel
theorem dX4_lineUp_34 : decode cX4_lineUp 34 = .ok (.iconst 0, 1) := by decide +kernel
theorem dX4_lineUp_35 : decode cX4_lineUp 35 = .ok (.goto 14, 3) := by decide +kernel
theorem dX4_lineUp_38 : decode cX4_lineUp 38 = .ok (.iload_n 1, 1) := by decide +kernel
theorem dX4_lineUp_39 : decode cX4_lineUp 39 = .ok (.bipush 58, 2) := by decide +kernel
theorem dX4_lineUp_41 : decode cX4_lineUp 41 = .ok (.if_icmp .ne 7, 3) := by decide +kernel
theorem dX4_lineUp_44 : decode cX4_lineUp 44 = .ok (.iconst 2, 1) := by decide +kernel
theorem dX4_lineUp_45 : decode cX4_lineUp 45 = .ok (.goto 4, 3) := by decide +kernel
theorem dX4_lineUp_48 : decode cX4_lineUp 48 = .ok (.iconst 1, 1) := by decide +kernel
theorem dX4_lineUp_49 : decode cX4_lineUp 49 = .ok (.istore_n 3, 1) := by decide +kernel
theorem dX4_lineUp_50 : decode cX4_lineUp 50 = .ok (.aload_n 0, 1) := by decide +kernel
theorem dX4_lineUp_51 : decode cX4_lineUp 51 = .ok (.iload_n 3, 1) := by decide +kernel
theorem dX4_lineUp_52 : decode cX4_lineUp 52 = .ok (.invokevirtual 318, 3) := by decide +kernel
theorem dX4_lineUp_55 : decode cX4_lineUp 55 = .ok (.istore 4, 2) := by decide +kernel
theorem dX4_lineUp_57 : decode cX4_lineUp 57 = .ok (.aload_n 0, 1) := by decide +kernel
theorem dX4_lineUp_58 : decode cX4_lineUp 58 = .ok (.iload 4, 2) := by decide +kernel
theorem dX4_lineUp_60 : decode cX4_lineUp 60 = .ok (.invokevirtual 289, 3) := by decide +kernel
theorem dX4_lineUp_63 : decode cX4_lineUp 63 = .ok (.istore 5, 2) := by decide +kernel
theorem dX4_lineUp_65 : decode cX4_lineUp 65 = .ok (.aload_n 0, 1) := by decide +kernel
theorem dX4_lineUp_66 : decode cX4_lineUp 66 = .ok (.getfield 12, 3) := by decide +kernel
theorem dX4_lineUp_69 : decode cX4_lineUp 69 = .ok (.getfield 157, 3) := by decide +kernel
theorem dX4_lineUp_72 : decode cX4_lineUp 72 = .ok (.iload 5, 2) := by decide +kernel
theorem dX4_lineUp_74 : decode cX4_lineUp 74 = .ok (.baload, 1) := by decide +kernel
theorem dX4_lineUp_75 : decode cX4_lineUp 75 = .ok (.bipush 7, 2) := by decide +kernel
theorem dX4_lineUp_77 : decode cX4_lineUp 77 = .ok (.if_icmp .eq 16, 3) := by decide +kernel
theorem dX4_lineUp_80 : decode cX4_lineUp 80 = .ok (.aload_n 0, 1) := by decide +kernel
theorem dX4_lineUp_81 : decode cX4_lineUp 81 = .ok (.getfield 12, 3) := by decide +kernel
theorem dX4_lineUp_84 : decode cX4_lineUp 84 = .ok (.dup, 1) := by decide +kernel
theorem dX4_lineUp_85 : decode cX4_lineUp 85 = .ok (.getfield 71, 3) := by decide +kernel
theorem dX4_lineUp_88 : decode cX4_lineUp 88 = .ok (.iconst 1, 1) := by decide +kernel
theorem dX4_lineUp_89 : decode cX4_lineUp 89 = .ok (.iadd, 1) := by decide +kernel
theorem dX4_lineUp_90 : decode cX4_lineUp 90 = .ok (.putfield 71, 3) := by decide +kernel
theorem dX4_lineUp_93 : decode cX4_lineUp 93 = .ok (.aload_n 0, 1) := by decide +kernel
theorem dX4_lineUp_94 : decode cX4_lineUp 94 = .ok (.getfield 12, 3) := by decide +kernel
theorem dX4_lineUp_97 : decode cX4_lineUp 97 = .ok (.getfield 160, 3) := by decide +kernel
theorem dX4_lineUp_100 : decode cX4_lineUp 100 = .ok (.iload 5, 2) := by decide +kernel
theorem dX4_lineUp_102 : decode cX4_lineUp 102 = .ok (.laload, 1) := by decide +kernel
theorem dX4_lineUp_103 : decode cX4_lineUp 103 = .ok (.lstore 6, 2) := by decide +kernel
theorem dX4_lineUp_105 : decode cX4_lineUp 105 = .ok (.iload_n 1, 1) := by decide +kernel
theorem dX4_lineUp_106 : decode cX4_lineUp 106 = .ok (.bipush 53, 2) := by decide +kernel
theorem dX4_lineUp_108 : decode cX4_lineUp 108 = .ok (.if_icmp .ne 19, 3) := by decide +kernel
theorem dX4_lineUp_111 : decode cX4_lineUp 111 = .ok (.aload_n 0, 1) := by decide +kernel
theorem dX4_lineUp_112 : decode cX4_lineUp 112 = .ok (.invokevirtual 181, 3) := by decide +kernel
theorem dX4_lineUp_115 : decode cX4_lineUp 115 = .ok (.pop, 1) := by decide +kernel
theorem dX4_lineUp_116 : decode cX4_lineUp 116 = .ok (.aload_n 0, 1) := by decide +kernel
theorem dX4_lineUp_117 : decode cX4_lineUp 117 = .ok (.iconst 3, 1) := by decide +kernel
theorem dX4_lineUp_118 : decode cX4_lineUp 118 = .ok (.lconst 0, 1) := by decide +kernel
theorem dX4_lineUp_119 : decode cX4_lineUp 119 = .ok (.lload 6, 2) := by decide +kernel
theorem dX4_lineUp_121 : decode cX4_lineUp 121 = .ok (.invokevirtual 274, 3) := by decide +kernel
theorem dX4_lineUp_124 : decode cX4_lineUp 124 = .ok (.goto 62, 3) := by decide +kernel
theorem dX4_lineUp_127 : decode cX4_lineUp 127 = .ok (.iload_n 1, 1) := by decide +kernel
theorem dX4_lineUp_128 : decode cX4_lineUp 128 = .ok (.bipush 56, 2) := by decide +kernel
theorem dX4_lineUp_130 : decode cX4_lineUp 130 = .ok (.if_icmp .ne 14, 3) := by decide +kernel
theorem dX4_lineUp_133 : decode cX4_lineUp 133 = .ok (.aload_n 0, 1) := by decide +kernel
theorem dX4_lineUp_134 : decode cX4_lineUp 134 = .ok (.iload 5, 2) := by decide +kernel
theorem dX4_lineUp_136 : decode cX4_lineUp 136 = .ok (.lload 6, 2) := by decide +kernel
theorem dX4_lineUp_138 : decode cX4_lineUp 138 = .ok (.invokevirtual 400, 3) := by decide +kernel
theorem dX4_lineUp_141 : decode cX4_lineUp 141 = .ok (.goto 45, 3) := by decide +kernel
theorem dX4_lineUp_144 : decode cX4_lineUp 144 = .ok (.iload_n 1, 1) := by decide +kernel
theorem dX4_lineUp_145 : decode cX4_lineUp 145 = .ok (.bipush 57, 2) := by decide +kernel
theorem dX4_lineUp_147 : decode cX4_lineUp 147 = .ok (.if_icmp .ne 14, 3) := by decide +kernel
theorem dX4_lineUp_150 : decode cX4_lineUp 150 = .ok (.aload_n 0, 1) := by decide +kernel
theorem dX4_lineUp_151 : decode cX4_lineUp 151 = .ok (.iload 5, 2) := by decide +kernel
theorem dX4_lineUp_153 : decode cX4_lineUp 153 = .ok (.lload 6, 2) := by decide +kernel
theorem dX4_lineUp_155 : decode cX4_lineUp 155 = .ok (.invokevirtual 403, 3) := by decide +kernel
theorem dX4_lineUp_158 : decode cX4_lineUp 158 = .ok (.goto 28, 3) := by decide +kernel
theorem dX4_lineUp_161 : decode cX4_lineUp 161 = .ok (.iload_n 1, 1) := by decide +kernel
theorem dX4_lineUp_162 : decode cX4_lineUp 162 = .ok (.bipush 58, 2) := by decide +kernel
theorem dX4_lineUp_164 : decode cX4_lineUp 164 = .ok (.if_icmp .ne 14, 3) := by decide +kernel
theorem dX4_lineUp_167 : decode cX4_lineUp 167 = .ok (.aload_n 0, 1) := by decide +kernel
theorem dX4_lineUp_168 : decode cX4_lineUp 168 = .ok (.iload 5, 2) := by decide +kernel
theorem dX4_lineUp_170 : decode cX4_lineUp 170 = .ok (.lload 6, 2) := by decide +kernel
theorem dX4_lineUp_172 : decode cX4_lineUp 172 = .ok (.invokevirtual 406, 3) := by decide +kernel
theorem dX4_lineUp_175 : decode cX4_lineUp 175 = .ok (.goto 11, 3) := by decide +kernel
theorem dX4_lineUp_178 : decode cX4_lineUp 178 = .ok (.aload_n 0, 1) := by decide +kernel
theorem dX4_lineUp_179 : decode cX4_lineUp 179 = .ok (.iload 5, 2) := by decide +kernel
theorem dX4_lineUp_181 : decode cX4_lineUp 181 = .ok (.lload 6, 2) := by decide +kernel
theorem dX4_lineUp_183 : decode cX4_lineUp 183 = .ok (.invokevirtual 409, 3) := by decide +kernel
theorem dX4_lineUp_186 : decode cX4_lineUp 186 = .ok (.return_, 1) := by decide +kernel
theorem dX4_append_0 : decode cX4_append 0 = .ok (.lload_n 2, 1) := by decide +kernel
theorem dX4_append_1 : decode cX4_append 1 = .ok (.ldc2_w 412, 3) := by decide +kernel
theorem dX4_append_4 : decode cX4_append 4 = .ok (.lcmp, 1) := by decide +kernel
theorem dX4_append_5 : decode cX4_append 5 = .ok (.ifCond .lt 12, 3) := by decide +kernel
theorem dX4_append_8 : decode cX4_append 8 = .ok (.aload_n 0, 1) := by decide +kernel
theorem dX4_append_9 : decode cX4_append 9 = .ok (.iconst 2, 1) := by decide +kernel
theorem dX4_append_10 : decode cX4_append 10 = .ok (.ldc2_w 151, 3) := by decide +kernel
theorem dX4_append_13 : decode cX4_append 13 = .ok (.invokevirtual 153, 3) := by decide +kernel
theorem dX4_append_16 : decode cX4_append 16 = .ok (.return_, 1) := by decide +kernel
theorem dX4_append_17 : decode cX4_append 17 = .ok (.aload_n 0, 1) := by decide +kernel
theorem dX4_append_18 : decode cX4_append 18 = .ok (.getfield 12, 3) := by decide +kernel
theorem dX4_append_21 : decode cX4_append 21 = .ok (.iload_n 1, 1) := by decide +kernel
theorem dX4_append_22 : decode cX4_append 22 = .ok (.aload_n 0, 1) := by decide +kernel
theorem dX4_append_23 : decode cX4_append 23 = .ok (.invokevirtual 181, 3) := by decide +kernel
theorem dX4_append_26 : decode cX4_append 26 = .ok (.invokevirtual 299, 3) := by decide +kernel
theorem dX4_append_29 : decode cX4_append 29 = .ok (.aload_n 0, 1) := by decide +kernel
theorem dX4_append_30 : decode cX4_append 30 = .ok (.invokevirtual 181, 3) := by decide +kernel
theorem dX4_append_33 : decode cX4_append 33 = .ok (.pop, 1) := by decide +kernel
theorem dX4_append_34 : decode cX4_append 34 = .ok (.return_, 1) := by decide +kernel
theorem dX4_removeLast_0 : decode cX4_removeLast 0 = .ok (.lload_n 2, 1) := by decide +kernel
theorem dX4_removeLast_1 : decode cX4_removeLast 1 = .ok (.lconst 0, 1) := by decide +kernel
theorem dX4_removeLast_2 : decode cX4_removeLast 2 = .ok (.lcmp, 1) := by decide +kernel
theorem dX4_removeLast_3 : decode cX4_removeLast 3 = .ok (.ifCond .ne 12, 3) := by decide +kernel
theorem dX4_removeLast_6 : decode cX4_removeLast 6 = .ok (.aload_n 0, 1) := by decide +kernel
theorem dX4_removeLast_7 : decode cX4_removeLast 7 = .ok (.iconst 2, 1) := by decide +kernel
theorem dX4_removeLast_8 : decode cX4_removeLast 8 = .ok (.ldc2_w 339, 3) := by decide +kernel
theorem dX4_removeLast_11 : decode cX4_removeLast 11 = .ok (.invokevirtual 153, 3) := by decide +kernel
theorem dX4_removeLast_14 : decode cX4_removeLast 14 = .ok (.return_, 1) := by decide +kernel
theorem dX4_removeLast_15 : decode cX4_removeLast 15 = .ok (.aload_n 0, 1) := by decide +kernel
theorem dX4_removeLast_16 : decode cX4_removeLast 16 = .ok (.invokevirtual 181, 3) := by decide +kernel
theorem dX4_removeLast_19 : decode cX4_removeLast 19 = .ok (.pop, 1) := by decide +kernel
theorem dX4_removeLast_20 : decode cX4_removeLast 20 = .ok (.aload_n 0, 1) := by decide +kernel
theorem dX4_removeLast_21 : decode cX4_removeLast 21 = .ok (.aload_n 0, 1) := by decide +kernel
theorem dX4_removeLast_22 : decode cX4_removeLast 22 = .ok (.getfield 12, 3) := by decide +kernel
theorem dX4_removeLast_25 : decode cX4_removeLast 25 = .ok (.iload_n 1, 1) := by decide +kernel
theorem dX4_removeLast_26 : decode cX4_removeLast 26 = .ok (.invokevirtual 302, 3) := by decide +kernel
theorem dX4_removeLast_29 : decode cX4_removeLast 29 = .ok (.invokevirtual 185, 3) := by decide +kernel
theorem dX4_removeLast_32 : decode cX4_removeLast 32 = .ok (.return_, 1) := by decide +kernel
theorem dX4_exchange_0 : decode cX4_exchange 0 = .ok (.aload_n 0, 1) := by decide +kernel
theorem dX4_exchange_1 : decode cX4_exchange 1 = .ok (.getfield 12, 3) := by decide +kernel
theorem dX4_exchange_4 : decode cX4_exchange 4 = .ok (.getfield 163, 3) := by decide +kernel
theorem dX4_exchange_7 : decode cX4_exchange 7 = .ok (.aload_n 0, 1) := by decide +kernel
theorem dX4_exchange_8 : decode cX4_exchange 8 = .ok (.iconst 3, 1) := by decide +kernel
theorem dX4_exchange_9 : decode cX4_exchange 9 = .ok (.invokevirtual 258, 3) := by decide +kernel
theorem dX4_exchange_12 : decode cX4_exchange 12 = .ok (.laload, 1) := by decide +kernel
theorem dX4_exchange_13 : decode cX4_exchange 13 = .ok (.lstore 4, 2) := by decide +kernel
theorem dX4_exchange_15 : decode cX4_exchange 15 = .ok (.aload_n 0, 1) := by decide +kernel
theorem dX4_exchange_16 : decode cX4_exchange 16 = .ok (.getfield 12, 3) := by decide +kernel
theorem dX4_exchange_19 : decode cX4_exchange 19 = .ok (.getfield 163, 3) := by decide +kernel
theorem dX4_exchange_22 : decode cX4_exchange 22 = .ok (.aload_n 0, 1) := by decide +kernel
theorem dX4_exchange_23 : decode cX4_exchange 23 = .ok (.iconst 3, 1) := by decide +kernel
theorem dX4_exchange_24 : decode cX4_exchange 24 = .ok (.invokevirtual 258, 3) := by decide +kernel
theorem dX4_exchange_27 : decode cX4_exchange 27 = .ok (.laload, 1) := by decide +kernel
theorem dX4_exchange_28 : decode cX4_exchange 28 = .ok (.lstore 6, 2) := by decide +kernel
theorem dX4_exchange_30 : decode cX4_exchange 30 = .ok (.lload 4, 2) := by decide +kernel
theorem dX4_exchange_32 : decode cX4_exchange 32 = .ok (.lload_n 2, 1) := by decide +kernel
theorem dX4_exchange_33 : decode cX4_exchange 33 = .ok (.invokestatic 335, 3) := by decide +kernel
theorem dX4_exchange_36 : decode cX4_exchange 36 = .ok (.ifCond .eq 12, 3) := by decide +kernel
theorem dX4_exchange_39 : decode cX4_exchange 39 = .ok (.lload 6, 2) := by decide +kernel
theorem dX4_exchange_41 : decode cX4_exchange 41 = .ok (.lload_n 2, 1) := by decide +kernel
theorem dX4_exchange_42 : decode cX4_exchange 42 = .ok (.invokestatic 335, 3) := by decide +kernel
theorem dX4_exchange_45 : decode cX4_exchange 45 = .ok (.ifCond .ne 12, 3) := by decide +kernel
theorem dX4_exchange_48 : decode cX4_exchange 48 = .ok (.aload_n 0, 1) := by decide +kernel
theorem dX4_exchange_49 : decode cX4_exchange 49 = .ok (.iconst 2, 1) := by decide +kernel
theorem dX4_exchange_50 : decode cX4_exchange 50 = .ok (.ldc2_w 339, 3) := by decide +kernel
theorem dX4_exchange_53 : decode cX4_exchange 53 = .ok (.invokevirtual 153, 3) := by decide +kernel
theorem dX4_exchange_56 : decode cX4_exchange 56 = .ok (.return_, 1) := by decide +kernel
theorem dX4_exchange_57 : decode cX4_exchange 57 = .ok (.aload_n 0, 1) := by decide +kernel
theorem dX4_exchange_58 : decode cX4_exchange 58 = .ok (.invokevirtual 181, 3) := by decide +kernel
theorem dX4_exchange_61 : decode cX4_exchange 61 = .ok (.pop, 1) := by decide +kernel
theorem dX4_exchange_62 : decode cX4_exchange 62 = .ok (.aload_n 0, 1) := by decide +kernel
theorem dX4_exchange_63 : decode cX4_exchange 63 = .ok (.getfield 12, 3) := by decide +kernel
theorem dX4_exchange_66 : decode cX4_exchange 66 = .ok (.aload_n 0, 1) := by decide +kernel
theorem dX4_exchange_67 : decode cX4_exchange 67 = .ok (.getfield 12, 3) := by decide +kernel
theorem dX4_exchange_70 : decode cX4_exchange 70 = .ok (.iload_n 1, 1) := by decide +kernel
theorem dX4_exchange_71 : decode cX4_exchange 71 = .ok (.lload 4, 2) := by decide +kernel
theorem dX4_exchange_73 : decode cX4_exchange 73 = .ok (.invokevirtual 292, 3) := by decide +kernel
theorem dX4_exchange_76 : decode cX4_exchange 76 = .ok (.aload_n 0, 1) := by decide +kernel
theorem dX4_exchange_77 : decode cX4_exchange 77 = .ok (.getfield 12, 3) := by decide +kernel
theorem dX4_exchange_80 : decode cX4_exchange 80 = .ok (.iload_n 1, 1) := by decide +kernel
theorem dX4_exchange_81 : decode cX4_exchange 81 = .ok (.lload 6, 2) := by decide +kernel
theorem dX4_exchange_83 : decode cX4_exchange 83 = .ok (.invokevirtual 292, 3) := by decide +kernel
theorem dX4_exchange_86 : decode cX4_exchange 86 = .ok (.invokevirtual 414, 3) := by decide +kernel
theorem dX4_exchange_89 : decode cX4_exchange 89 = .ok (.return_, 1) := by decide +kernel
theorem dX4_borrowElement_0 : decode cX4_borrowElement 0 = .ok (.aload_n 0, 1) := by decide +kernel
theorem dX4_borrowElement_1 : decode cX4_borrowElement 1 = .ok (.getfield 12, 3) := by decide +kernel
theorem dX4_borrowElement_4 : decode cX4_borrowElement 4 = .ok (.getfield 163, 3) := by decide +kernel
theorem dX4_borrowElement_7 : decode cX4_borrowElement 7 = .ok (.aload_n 0, 1) := by decide +kernel
theorem dX4_borrowElement_8 : decode cX4_borrowElement 8 = .ok (.iconst 3, 1) := by decide +kernel
theorem dX4_borrowElement_9 : decode cX4_borrowElement 9 = .ok (.invokevirtual 258, 3) := by decide +kernel
theorem dX4_borrowElement_12 : decode cX4_borrowElement 12 = .ok (.laload, 1) := by decide +kernel
theorem dX4_borrowElement_13 : decode cX4_borrowElement 13 = .ok (.lstore 4, 2) := by decide +kernel
theorem dX4_borrowElement_15 : decode cX4_borrowElement 15 = .ok (.lload 4, 2) := by decide +kernel
theorem dX4_borrowElement_17 : decode cX4_borrowElement 17 = .ok (.lload_n 2, 1) := by decide +kernel
theorem dX4_borrowElement_18 : decode cX4_borrowElement 18 = .ok (.invokestatic 335, 3) := by decide +kernel
theorem dX4_borrowElement_21 : decode cX4_borrowElement 21 = .ok (.ifCond .ne 12, 3) := by decide +kernel
theorem dX4_borrowElement_24 : decode cX4_borrowElement 24 = .ok (.aload_n 0, 1) := by decide +kernel
theorem dX4_borrowElement_25 : decode cX4_borrowElement 25 = .ok (.iconst 2, 1) := by decide +kernel
theorem dX4_borrowElement_26 : decode cX4_borrowElement 26 = .ok (.ldc2_w 339, 3) := by decide +kernel
theorem dX4_borrowElement_29 : decode cX4_borrowElement 29 = .ok (.invokevirtual 153, 3) := by decide +kernel
theorem dX4_borrowElement_32 : decode cX4_borrowElement 32 = .ok (.return_, 1) := by decide +kernel
theorem dX4_borrowElement_33 : decode cX4_borrowElement 33 = .ok (.aload_n 0, 1) := by decide +kernel
theorem dX4_borrowElement_34 : decode cX4_borrowElement 34 = .ok (.invokevirtual 181, 3) := by decide +kernel
theorem dX4_borrowElement_37 : decode cX4_borrowElement 37 = .ok (.istore 6, 2) := by decide +kernel
theorem dX4_borrowElement_39 : decode cX4_borrowElement 39 = .ok (.aload_n 0, 1) := by decide +kernel
theorem dX4_borrowElement_40 : decode cX4_borrowElement 40 = .ok (.getfield 12, 3) := by decide +kernel
theorem dX4_borrowElement_43 : decode cX4_borrowElement 43 = .ok (.getfield 163, 3) := by decide +kernel
theorem dX4_borrowElement_46 : decode cX4_borrowElement 46 = .ok (.iload 6, 2) := by decide +kernel
theorem dX4_borrowElement_48 : decode cX4_borrowElement 48 = .ok (.aload_n 0, 1) := by decide +kernel
theorem dX4_borrowElement_49 : decode cX4_borrowElement 49 = .ok (.getfield 12, 3) := by decide +kernel
theorem dX4_borrowElement_52 : decode cX4_borrowElement 52 = .ok (.iload_n 1, 1) := by decide +kernel
theorem dX4_borrowElement_53 : decode cX4_borrowElement 53 = .ok (.lload 4, 2) := by decide +kernel
theorem dX4_borrowElement_55 : decode cX4_borrowElement 55 = .ok (.invokevirtual 292, 3) := by decide +kernel
theorem dX4_borrowElement_58 : decode cX4_borrowElement 58 = .ok (.i2l, 1) := by decide +kernel
theorem dX4_borrowElement_59 : decode cX4_borrowElement 59 = .ok (.lastore, 1) := by decide +kernel
theorem dX4_borrowElement_60 : decode cX4_borrowElement 60 = .ok (.aload_n 0, 1) := by decide +kernel
theorem dX4_borrowElement_61 : decode cX4_borrowElement 61 = .ok (.iload 6, 2) := by decide +kernel
theorem dX4_borrowElement_63 : decode cX4_borrowElement 63 = .ok (.invokevirtual 185, 3) := by decide +kernel
theorem dX4_borrowElement_66 : decode cX4_borrowElement 66 = .ok (.return_, 1) := by decide +kernel
theorem dX4_hash_0 : decode cX4_hash 0 = .ok (.aload_n 0, 1) := by decide +kernel
theorem dX4_hash_1 : decode cX4_hash 1 = .ok (.invokevirtual 181, 3) := by decide +kernel
theorem dX4_hash_4 : decode cX4_hash 4 = .ok (.istore_n 1, 1) := by decide +kernel
theorem dX4_hash_5 : decode cX4_hash 5 = .ok (.aload_n 0, 1) := by decide +kernel
theorem dX4_hash_6 : decode cX4_hash 6 = .ok (.getfield 12, 3) := by decide +kernel
theorem dX4_hash_9 : decode cX4_hash 9 = .ok (.getfield 157, 3) := by decide +kernel
theorem dX4_hash_12 : decode cX4_hash 12 = .ok (.iload_n 1, 1) := by decide +kernel
theorem dX4_hash_13 : decode cX4_hash 13 = .ok (.baload, 1) := by decide +kernel
theorem dX4_hash_14 : decode cX4_hash 14 = .ok (.bipush 7, 2) := by decide +kernel
theorem dX4_hash_16 : decode cX4_hash 16 = .ok (.if_icmp .eq 17, 3) := by decide +kernel
theorem dX4_hash_19 : decode cX4_hash 19 = .ok (.aload_n 0, 1) := by decide +kernel
theorem dX4_hash_20 : decode cX4_hash 20 = .ok (.getfield 12, 3) := by decide +kernel
theorem dX4_hash_23 : decode cX4_hash 23 = .ok (.dup, 1) := by decide +kernel
theorem dX4_hash_24 : decode cX4_hash 24 = .ok (.getfield 71, 3) := by decide +kernel
theorem dX4_hash_27 : decode cX4_hash 27 = .ok (.iconst 1, 1) := by decide +kernel
theorem dX4_hash_28 : decode cX4_hash 28 = .ok (.iadd, 1) := by decide +kernel
theorem dX4_hash_29 : decode cX4_hash 29 = .ok (.putfield 71, 3) := by decide +kernel
theorem dX4_hash_32 : decode cX4_hash 32 = .ok (.return_, 1) := by decide +kernel
theorem dX4_hash_33 : decode cX4_hash 33 = .ok (.aload_n 0, 1) := by decide +kernel
theorem dX4_hash_34 : decode cX4_hash 34 = .ok (.getfield 12, 3) := by decide +kernel
theorem dX4_hash_37 : decode cX4_hash 37 = .ok (.getfield 160, 3) := by decide +kernel
theorem dX4_hash_40 : decode cX4_hash 40 = .ok (.iload_n 1, 1) := by decide +kernel
theorem dX4_hash_41 : decode cX4_hash 41 = .ok (.laload, 1) := by decide +kernel
theorem dX4_hash_42 : decode cX4_hash 42 = .ok (.ldc2_w 412, 3) := by decide +kernel
theorem dX4_hash_45 : decode cX4_hash 45 = .ok (.invokestatic 417, 3) := by decide +kernel
theorem dX4_hash_48 : decode cX4_hash 48 = .ok (.l2i, 1) := by decide +kernel
theorem dX4_hash_49 : decode cX4_hash 49 = .ok (.istore_n 2, 1) := by decide +kernel
theorem dX4_hash_50 : decode cX4_hash 50 = .ok (.aload_n 0, 1) := by decide +kernel
theorem dX4_hash_51 : decode cX4_hash 51 = .ok (.bipush 32, 2) := by decide +kernel
theorem dX4_hash_53 : decode cX4_hash 53 = .ok (.iload_n 2, 1) := by decide +kernel
theorem dX4_hash_54 : decode cX4_hash 54 = .ok (.iadd, 1) := by decide +kernel
theorem dX4_hash_55 : decode cX4_hash 55 = .ok (.invokevirtual 199, 3) := by decide +kernel
theorem dX4_hash_58 : decode cX4_hash 58 = .ok (.ifCond .ne 4, 3) := by decide +kernel
theorem dX4_hash_61 : decode cX4_hash 61 = .ok (.return_, 1) := by decide +kernel
theorem dX4_hash_62 : decode cX4_hash 62 = .ok (.aload_n 0, 1) := by decide +kernel
theorem dX4_hash_63 : decode cX4_hash 63 = .ok (.getfield 12, 3) := by decide +kernel
theorem dX4_hash_66 : decode cX4_hash 66 = .ok (.getfield 163, 3) := by decide +kernel
theorem dX4_hash_69 : decode cX4_hash 69 = .ok (.iload_n 1, 1) := by decide +kernel
theorem dX4_hash_70 : decode cX4_hash 70 = .ok (.laload, 1) := by decide +kernel
theorem dX4_hash_71 : decode cX4_hash 71 = .ok (.l2i, 1) := by decide +kernel
theorem dX4_hash_72 : decode cX4_hash 72 = .ok (.istore_n 3, 1) := by decide +kernel
theorem dX4_hash_73 : decode cX4_hash 73 = .ok (.iload_n 2, 1) := by decide +kernel
theorem dX4_hash_74 : decode cX4_hash 74 = .ok (.iconst 1, 1) := by decide +kernel
theorem dX4_hash_75 : decode cX4_hash 75 = .ok (.isub, 1) := by decide +kernel
theorem dX4_hash_76 : decode cX4_hash 76 = .ok (.istore 4, 2) := by decide +kernel
theorem dX4_hash_78 : decode cX4_hash 78 = .ok (.iload 4, 2) := by decide +kernel
theorem dX4_hash_80 : decode cX4_hash 80 = .ok (.ifCond .lt 37, 3) := by decide +kernel
theorem dX4_hash_83 : decode cX4_hash 83 = .ok (.aload_n 0, 1) := by decide +kernel
theorem dX4_hash_84 : decode cX4_hash 84 = .ok (.getfield 32, 3) := by decide +kernel
theorem dX4_hash_87 : decode cX4_hash 87 = .ok (.iload 4, 2) := by decide +kernel
theorem dX4_hash_89 : decode cX4_hash 89 = .ok (.aload_n 0, 1) := by decide +kernel
theorem dX4_hash_90 : decode cX4_hash 90 = .ok (.getfield 12, 3) := by decide +kernel
theorem dX4_hash_93 : decode cX4_hash 93 = .ok (.getfield 163, 3) := by decide +kernel
theorem dX4_hash_96 : decode cX4_hash 96 = .ok (.iload_n 3, 1) := by decide +kernel
theorem dX4_hash_97 : decode cX4_hash 97 = .ok (.laload, 1) := by decide +kernel
theorem dX4_hash_98 : decode cX4_hash 98 = .ok (.l2i, 1) := by decide +kernel
theorem dX4_hash_99 : decode cX4_hash 99 = .ok (.i2b, 1) := by decide +kernel
theorem dX4_hash_100 : decode cX4_hash 100 = .ok (.bastore, 1) := by decide +kernel
theorem dX4_hash_101 : decode cX4_hash 101 = .ok (.aload_n 0, 1) := by decide +kernel
theorem dX4_hash_102 : decode cX4_hash 102 = .ok (.getfield 12, 3) := by decide +kernel
theorem dX4_hash_105 : decode cX4_hash 105 = .ok (.getfield 420, 3) := by decide +kernel
theorem dX4_hash_108 : decode cX4_hash 108 = .ok (.iload_n 3, 1) := by decide +kernel
theorem dX4_hash_109 : decode cX4_hash 109 = .ok (.iaload, 1) := by decide +kernel
theorem dX4_hash_110 : decode cX4_hash 110 = .ok (.istore_n 3, 1) := by decide +kernel
theorem dX4_hash_111 : decode cX4_hash 111 = .ok (.iinc 4 (-1), 3) := by decide +kernel
theorem dX4_hash_114 : decode cX4_hash 114 = .ok (.goto (-36), 3) := by decide +kernel
theorem dX4_hash_117 : decode cX4_hash 117 = .ok (.aload_n 0, 1) := by decide +kernel
theorem dX4_hash_118 : decode cX4_hash 118 = .ok (.getfield 28, 3) := by decide +kernel
theorem dX4_hash_121 : decode cX4_hash 121 = .ok (.invokevirtual 423, 3) := by decide +kernel
theorem dX4_hash_124 : decode cX4_hash 124 = .ok (.iconst 0, 1) := by decide +kernel
theorem dX4_hash_125 : decode cX4_hash 125 = .ok (.istore 4, 2) := by decide +kernel
theorem dX4_hash_127 : decode cX4_hash 127 = .ok (.iload 4, 2) := by decide +kernel
theorem dX4_hash_129 : decode cX4_hash 129 = .ok (.iload_n 2, 1) := by decide +kernel
theorem dX4_hash_130 : decode cX4_hash 130 = .ok (.if_icmp .ge 23, 3) := by decide +kernel
theorem dX4_hash_133 : decode cX4_hash 133 = .ok (.aload_n 0, 1) := by decide +kernel
theorem dX4_hash_134 : decode cX4_hash 134 = .ok (.getfield 28, 3) := by decide +kernel
theorem dX4_hash_137 : decode cX4_hash 137 = .ok (.aload_n 0, 1) := by decide +kernel
theorem dX4_hash_138 : decode cX4_hash 138 = .ok (.getfield 32, 3) := by decide +kernel
theorem dX4_hash_141 : decode cX4_hash 141 = .ok (.iload 4, 2) := by decide +kernel
theorem dX4_hash_143 : decode cX4_hash 143 = .ok (.baload, 1) := by decide +kernel
theorem dX4_hash_144 : decode cX4_hash 144 = .ok (.invokevirtual 426, 3) := by decide +kernel
theorem dX4_hash_147 : decode cX4_hash 147 = .ok (.iinc 4 1, 3) := by decide +kernel
theorem dX4_hash_150 : decode cX4_hash 150 = .ok (.goto (-23), 3) := by decide +kernel
theorem dX4_hash_153 : decode cX4_hash 153 = .ok (.aload_n 0, 1) := by decide +kernel
theorem dX4_hash_154 : decode cX4_hash 154 = .ok (.getfield 28, 3) := by decide +kernel
theorem dX4_hash_157 : decode cX4_hash 157 = .ok (.invokevirtual 429, 3) := by decide +kernel
theorem dX4_hash_160 : decode cX4_hash 160 = .ok (.aload_n 0, 1) := by decide +kernel
theorem dX4_hash_161 : decode cX4_hash 161 = .ok (.getfield 12, 3) := by decide +kernel
theorem dX4_hash_164 : decode cX4_hash 164 = .ok (.bipush 7, 2) := by decide +kernel
theorem dX4_hash_166 : decode cX4_hash 166 = .ok (.lconst 0, 1) := by decide +kernel
theorem dX4_hash_167 : decode cX4_hash 167 = .ok (.lconst 0, 1) := by decide +kernel
theorem dX4_hash_168 : decode cX4_hash 168 = .ok (.invokevirtual 134, 3) := by decide +kernel
theorem dX4_hash_171 : decode cX4_hash 171 = .ok (.istore 4, 2) := by decide +kernel
theorem dX4_hash_173 : decode cX4_hash 173 = .ok (.iconst 0, 1) := by decide +kernel
theorem dX4_hash_174 : decode cX4_hash 174 = .ok (.istore 5, 2) := by decide +kernel
theorem dX4_hash_176 : decode cX4_hash 176 = .ok (.iload 5, 2) := by decide +kernel
theorem dX4_hash_178 : decode cX4_hash 178 = .ok (.bipush 32, 2) := by decide +kernel
theorem dX4_hash_180 : decode cX4_hash 180 = .ok (.if_icmp .ge 59, 3) := by decide +kernel
theorem dX4_hash_183 : decode cX4_hash 183 = .ok (.aload_n 0, 1) := by decide +kernel
theorem dX4_hash_184 : decode cX4_hash 184 = .ok (.getfield 28, 3) := by decide +kernel
theorem dX4_hash_187 : decode cX4_hash 187 = .ok (.iload 5, 2) := by decide +kernel
theorem dX4_hash_189 : decode cX4_hash 189 = .ok (.bipush 8, 2) := by decide +kernel
theorem dX4_hash_191 : decode cX4_hash 191 = .ok (.idiv, 1) := by decide +kernel
theorem dX4_hash_192 : decode cX4_hash 192 = .ok (.invokevirtual 432, 3) := by decide +kernel
theorem dX4_hash_195 : decode cX4_hash 195 = .ok (.bipush 56, 2) := by decide +kernel
theorem dX4_hash_197 : decode cX4_hash 197 = .ok (.iload 5, 2) := by decide +kernel
theorem dX4_hash_199 : decode cX4_hash 199 = .ok (.bipush 8, 2) := by decide +kernel
theorem dX4_hash_201 : decode cX4_hash 201 = .ok (.irem, 1) := by decide +kernel
theorem dX4_hash_202 : decode cX4_hash 202 = .ok (.bipush 8, 2) := by decide +kernel
theorem dX4_hash_204 : decode cX4_hash 204 = .ok (.imul, 1) := by decide +kernel
theorem dX4_hash_205 : decode cX4_hash 205 = .ok (.isub, 1) := by decide +kernel
theorem dX4_hash_206 : decode cX4_hash 206 = .ok (.lushr, 1) := by decide +kernel
theorem dX4_hash_207 : decode cX4_hash 207 = .ok (.ldc2_w 436, 3) := by decide +kernel
theorem dX4_hash_210 : decode cX4_hash 210 = .ok (.land, 1) := by decide +kernel
theorem dX4_hash_211 : decode cX4_hash 211 = .ok (.lstore 6, 2) := by decide +kernel
theorem dX4_hash_213 : decode cX4_hash 213 = .ok (.aload_n 0, 1) := by decide +kernel
theorem dX4_hash_214 : decode cX4_hash 214 = .ok (.getfield 12, 3) := by decide +kernel
theorem dX4_hash_217 : decode cX4_hash 217 = .ok (.iload 4, 2) := by decide +kernel
theorem dX4_hash_219 : decode cX4_hash 219 = .ok (.aload_n 0, 1) := by decide +kernel
theorem dX4_hash_220 : decode cX4_hash 220 = .ok (.getfield 12, 3) := by decide +kernel
theorem dX4_hash_223 : decode cX4_hash 223 = .ok (.iconst 2, 1) := by decide +kernel
theorem dX4_hash_224 : decode cX4_hash 224 = .ok (.lconst 0, 1) := by decide +kernel
theorem dX4_hash_225 : decode cX4_hash 225 = .ok (.lload 6, 2) := by decide +kernel
theorem dX4_hash_227 : decode cX4_hash 227 = .ok (.invokevirtual 134, 3) := by decide +kernel
theorem dX4_hash_230 : decode cX4_hash 230 = .ok (.invokevirtual 299, 3) := by decide +kernel
theorem dX4_hash_233 : decode cX4_hash 233 = .ok (.iinc 5 1, 3) := by decide +kernel
theorem dX4_hash_236 : decode cX4_hash 236 = .ok (.goto (-60), 3) := by decide +kernel
theorem dX4_hash_239 : decode cX4_hash 239 = .ok (.aload_n 0, 1) := by decide +kernel
theorem dX4_hash_240 : decode cX4_hash 240 = .ok (.iload 4, 2) := by decide +kernel
theorem dX4_hash_242 : decode cX4_hash 242 = .ok (.invokevirtual 185, 3) := by decide +kernel
theorem dX4_hash_245 : decode cX4_hash 245 = .ok (.return_, 1) := by decide +kernel
theorem dX5_at_0 : decode cX5_at 0 = .ok (.iload_n 1, 1) := by decide +kernel
theorem dX5_at_1 : decode cX5_at 1 = .ok (.ifCond .lt 11, 3) := by decide +kernel
theorem dX5_at_4 : decode cX5_at 4 = .ok (.iload_n 1, 1) := by decide +kernel
theorem dX5_at_5 : decode cX5_at 5 = .ok (.aload_n 0, 1) := by decide +kernel
theorem dX5_at_6 : decode cX5_at 6 = .ok (.getfield 29, 3) := by decide +kernel
theorem dX5_at_9 : decode cX5_at 9 = .ok (.if_icmp .lt 7, 3) := by decide +kernel
theorem dX5_at_12 : decode cX5_at 12 = .ok (.iconst 0, 1) := by decide +kernel
theorem dX5_at_13 : decode cX5_at 13 = .ok (.goto 13, 3) := by decide +kernel
theorem dX5_at_16 : decode cX5_at 16 = .ok (.aload_n 0, 1) := by decide +kernel
theorem dX5_at_17 : decode cX5_at 17 = .ok (.getfield 25, 3) := by decide +kernel
theorem dX5_at_20 : decode cX5_at 20 = .ok (.iload_n 1, 1) := by decide +kernel
theorem dX5_at_21 : decode cX5_at 21 = .ok (.baload, 1) := by decide +kernel
theorem dX5_at_22 : decode cX5_at 22 = .ok (.sipush 255, 3) := by decide +kernel
theorem dX5_at_25 : decode cX5_at 25 = .ok (.iand, 1) := by decide +kernel
theorem dX5_at_26 : decode cX5_at 26 = .ok (.ireturn, 1) := by decide +kernel
theorem dX5_numberAt_0 : decode cX5_numberAt 0 = .ok (.lconst 0, 1) := by decide +kernel
theorem dX5_numberAt_1 : decode cX5_numberAt 1 = .ok (.lstore_n 3, 1) := by decide +kernel
theorem dX5_numberAt_2 : decode cX5_numberAt 2 = .ok (.iconst 0, 1) := by decide +kernel
theorem dX5_numberAt_3 : decode cX5_numberAt 3 = .ok (.istore 5, 2) := by decide +kernel
theorem dX5_numberAt_5 : decode cX5_numberAt 5 = .ok (.iload 5, 2) := by decide +kernel
theorem dX5_numberAt_7 : decode cX5_numberAt 7 = .ok (.iload_n 2, 1) := by decide +kernel
theorem dX5_numberAt_8 : decode cX5_numberAt 8 = .ok (.if_icmp .ge 24, 3) := by decide +kernel
theorem dX5_numberAt_11 : decode cX5_numberAt 11 = .ok (.lload_n 3, 1) := by decide +kernel
theorem dX5_numberAt_12 : decode cX5_numberAt 12 = .ok (.bipush 8, 2) := by decide +kernel
theorem dX5_numberAt_14 : decode cX5_numberAt 14 = .ok (.lshl, 1) := by decide +kernel
theorem dX5_numberAt_15 : decode cX5_numberAt 15 = .ok (.aload_n 0, 1) := by decide +kernel
theorem dX5_numberAt_16 : decode cX5_numberAt 16 = .ok (.iload_n 1, 1) := by decide +kernel
theorem dX5_numberAt_17 : decode cX5_numberAt 17 = .ok (.iload 5, 2) := by decide +kernel
theorem dX5_numberAt_19 : decode cX5_numberAt 19 = .ok (.iadd, 1) := by decide +kernel
theorem dX5_numberAt_20 : decode cX5_numberAt 20 = .ok (.invokevirtual 48, 3) := by decide +kernel
theorem dX5_numberAt_23 : decode cX5_numberAt 23 = .ok (.i2l, 1) := by decide +kernel
theorem dX5_numberAt_24 : decode cX5_numberAt 24 = .ok (.lor, 1) := by decide +kernel
theorem dX5_numberAt_25 : decode cX5_numberAt 25 = .ok (.lstore_n 3, 1) := by decide +kernel
theorem dX5_numberAt_26 : decode cX5_numberAt 26 = .ok (.iinc 5 1, 3) := by decide +kernel
theorem dX5_numberAt_29 : decode cX5_numberAt 29 = .ok (.goto (-24), 3) := by decide +kernel
theorem dX5_numberAt_32 : decode cX5_numberAt 32 = .ok (.lload_n 3, 1) := by decide +kernel
theorem dX5_numberAt_33 : decode cX5_numberAt 33 = .ok (.lreturn, 1) := by decide +kernel
theorem dX5_functionColumn_0 : decode cX5_functionColumn 0 = .ok (.iload_n 1, 1) := by decide +kernel
theorem dX5_functionColumn_1 : decode cX5_functionColumn 1 = .ok (.ifCond .lt 16, 3) := by decide +kernel
theorem dX5_functionColumn_4 : decode cX5_functionColumn 4 = .ok (.iload_n 1, 1) := by decide +kernel
theorem dX5_functionColumn_5 : decode cX5_functionColumn 5 = .ok (.aload_n 0, 1) := by decide +kernel
theorem dX5_functionColumn_6 : decode cX5_functionColumn 6 = .ok (.getfield 55, 3) := by decide +kernel
theorem dX5_functionColumn_9 : decode cX5_functionColumn 9 = .ok (.aload_n 0, 1) := by decide +kernel
theorem dX5_functionColumn_10 : decode cX5_functionColumn 10 = .ok (.getfield 45, 3) := by decide +kernel
theorem dX5_functionColumn_13 : decode cX5_functionColumn 13 = .ok (.iadd, 1) := by decide +kernel
theorem dX5_functionColumn_14 : decode cX5_functionColumn 14 = .ok (.if_icmp .lt 5, 3) := by decide +kernel
theorem dX5_functionColumn_17 : decode cX5_functionColumn 17 = .ok (.iconst 0, 1) := by decide +kernel
theorem dX5_functionColumn_18 : decode cX5_functionColumn 18 = .ok (.ireturn, 1) := by decide +kernel
theorem dX5_functionColumn_19 : decode cX5_functionColumn 19 = .ok (.iload_n 1, 1) := by decide +kernel
theorem dX5_functionColumn_20 : decode cX5_functionColumn 20 = .ok (.aload_n 0, 1) := by decide +kernel
theorem dX5_functionColumn_21 : decode cX5_functionColumn 21 = .ok (.getfield 55, 3) := by decide +kernel
theorem dX5_functionColumn_24 : decode cX5_functionColumn 24 = .ok (.if_icmp .ge 7, 3) := by decide +kernel
theorem dX5_functionColumn_27 : decode cX5_functionColumn 27 = .ok (.iload_n 1, 1) := by decide +kernel
theorem dX5_functionColumn_28 : decode cX5_functionColumn 28 = .ok (.goto 12, 3) := by decide +kernel
theorem dX5_functionColumn_31 : decode cX5_functionColumn 31 = .ok (.bipush 64, 2) := by decide +kernel
theorem dX5_functionColumn_33 : decode cX5_functionColumn 33 = .ok (.iload_n 1, 1) := by decide +kernel
theorem dX5_functionColumn_34 : decode cX5_functionColumn 34 = .ok (.iadd, 1) := by decide +kernel
theorem dX5_functionColumn_35 : decode cX5_functionColumn 35 = .ok (.aload_n 0, 1) := by decide +kernel
theorem dX5_functionColumn_36 : decode cX5_functionColumn 36 = .ok (.getfield 55, 3) := by decide +kernel
theorem dX5_functionColumn_39 : decode cX5_functionColumn 39 = .ok (.isub, 1) := by decide +kernel
theorem dX5_functionColumn_40 : decode cX5_functionColumn 40 = .ok (.istore_n 3, 1) := by decide +kernel
theorem dX5_functionColumn_41 : decode cX5_functionColumn 41 = .ok (.aload_n 0, 1) := by decide +kernel
theorem dX5_functionColumn_42 : decode cX5_functionColumn 42 = .ok (.getfield 22, 3) := by decide +kernel
theorem dX5_functionColumn_45 : decode cX5_functionColumn 45 = .ok (.iload_n 3, 1) := by decide +kernel
theorem dX5_functionColumn_46 : decode cX5_functionColumn 46 = .ok (.bipush 9, 2) := by decide +kernel
theorem dX5_functionColumn_48 : decode cX5_functionColumn 48 = .ok (.imul, 1) := by decide +kernel
theorem dX5_functionColumn_49 : decode cX5_functionColumn 49 = .ok (.iload_n 2, 1) := by decide +kernel
theorem dX5_functionColumn_50 : decode cX5_functionColumn 50 = .ok (.iadd, 1) := by decide +kernel
theorem dX5_functionColumn_51 : decode cX5_functionColumn 51 = .ok (.iaload, 1) := by decide +kernel
theorem dX5_functionColumn_52 : decode cX5_functionColumn 52 = .ok (.ireturn, 1) := by decide +kernel
theorem dX5_flags_0 : decode cX5_flags 0 = .ok (.aload_n 0, 1) := by decide +kernel
theorem dX5_flags_1 : decode cX5_flags 1 = .ok (.iload_n 1, 1) := by decide +kernel
theorem dX5_flags_2 : decode cX5_flags 2 = .ok (.iconst 0, 1) := by decide +kernel
theorem dX5_flags_3 : decode cX5_flags 3 = .ok (.invokevirtual 58, 3) := by decide +kernel
theorem dX5_flags_6 : decode cX5_flags 6 = .ok (.ireturn, 1) := by decide +kernel
theorem dX5_takes_0 : decode cX5_takes 0 = .ok (.aload_n 0, 1) := by decide +kernel
theorem dX5_takes_1 : decode cX5_takes 1 = .ok (.iload_n 1, 1) := by decide +kernel
theorem dX5_takes_2 : decode cX5_takes 2 = .ok (.iconst 2, 1) := by decide +kernel
theorem dX5_takes_3 : decode cX5_takes 3 = .ok (.invokevirtual 58, 3) := by decide +kernel
theorem dX5_takes_6 : decode cX5_takes 6 = .ok (.ireturn, 1) := by decide +kernel
theorem dX5_gives_0 : decode cX5_gives 0 = .ok (.aload_n 0, 1) := by decide +kernel
theorem dX5_gives_1 : decode cX5_gives 1 = .ok (.iload_n 1, 1) := by decide +kernel
theorem dX5_gives_2 : decode cX5_gives 2 = .ok (.iconst 3, 1) := by decide +kernel
theorem dX5_gives_3 : decode cX5_gives 3 = .ok (.invokevirtual 58, 3) := by decide +kernel
theorem dX5_gives_6 : decode cX5_gives 6 = .ok (.ireturn, 1) := by decide +kernel
theorem dX5_localCount_0 : decode cX5_localCount 0 = .ok (.aload_n 0, 1) := by decide +kernel
theorem dX5_localCount_1 : decode cX5_localCount 1 = .ok (.iload_n 1, 1) := by decide +kernel
theorem dX5_localCount_2 : decode cX5_localCount 2 = .ok (.invokevirtual 62, 3) := by decide +kernel
theorem dX5_localCount_5 : decode cX5_localCount 5 = .ok (.aload_n 0, 1) := by decide +kernel
theorem dX5_localCount_6 : decode cX5_localCount 6 = .ok (.iload_n 1, 1) := by decide +kernel
theorem dX5_localCount_7 : decode cX5_localCount 7 = .ok (.iconst 4, 1) := by decide +kernel
theorem dX5_localCount_8 : decode cX5_localCount 8 = .ok (.invokevirtual 58, 3) := by decide +kernel
theorem dX5_localCount_11 : decode cX5_localCount 11 = .ok (.iadd, 1) := by decide +kernel
theorem dX5_localCount_12 : decode cX5_localCount 12 = .ok (.ireturn, 1) := by decide +kernel
theorem dX5_instructions_0 : decode cX5_instructions 0 = .ok (.aload_n 0, 1) := by decide +kernel
theorem dX5_instructions_1 : decode cX5_instructions 1 = .ok (.iload_n 1, 1) := by decide +kernel
theorem dX5_instructions_2 : decode cX5_instructions 2 = .ok (.bipush 6, 2) := by decide +kernel
theorem dX5_instructions_4 : decode cX5_instructions 4 = .ok (.invokevirtual 58, 3) := by decide +kernel
theorem dX5_instructions_7 : decode cX5_instructions 7 = .ok (.ireturn, 1) := by decide +kernel
theorem dX5_instructionPlace_0 : decode cX5_instructionPlace 0 = .ok (.aload_n 0, 1) := by decide +kernel
theorem dX5_instructionPlace_1 : decode cX5_instructionPlace 1 = .ok (.iload_n 1, 1) := by decide +kernel
theorem dX5_instructionPlace_2 : decode cX5_instructionPlace 2 = .ok (.iconst 5, 1) := by decide +kernel
theorem dX5_instructionPlace_3 : decode cX5_instructionPlace 3 = .ok (.invokevirtual 58, 3) := by decide +kernel
theorem dX5_instructionPlace_6 : decode cX5_instructionPlace 6 = .ok (.iload_n 2, 1) := by decide +kernel
theorem dX5_instructionPlace_7 : decode cX5_instructionPlace 7 = .ok (.iadd, 1) := by decide +kernel
theorem dX5_instructionPlace_8 : decode cX5_instructionPlace 8 = .ok (.istore_n 3, 1) := by decide +kernel
theorem dX5_instructionPlace_9 : decode cX5_instructionPlace 9 = .ok (.iload_n 3, 1) := by decide +kernel
theorem dX5_instructionPlace_10 : decode cX5_instructionPlace 10 = .ok (.ifCond .lt 11, 3) := by decide +kernel
theorem dX5_instructionPlace_13 : decode cX5_instructionPlace 13 = .ok (.iload_n 3, 1) := by decide +kernel
theorem dX5_instructionPlace_14 : decode cX5_instructionPlace 14 = .ok (.aload_n 0, 1) := by decide +kernel
theorem dX5_instructionPlace_15 : decode cX5_instructionPlace 15 = .ok (.getfield 42, 3) := by decide +kernel
theorem dX5_instructionPlace_18 : decode cX5_instructionPlace 18 = .ok (.if_icmp .lt 7, 3) := by decide +kernel
theorem dX5_instructionPlace_21 : decode cX5_instructionPlace 21 = .ok (.iconst 0, 1) := by decide +kernel
theorem dX5_instructionPlace_22 : decode cX5_instructionPlace 22 = .ok (.goto 9, 3) := by decide +kernel
theorem dX5_instructionPlace_25 : decode cX5_instructionPlace 25 = .ok (.aload_n 0, 1) := by decide +kernel
theorem dX5_instructionPlace_26 : decode cX5_instructionPlace 26 = .ok (.getfield 15, 3) := by decide +kernel
theorem dX5_instructionPlace_29 : decode cX5_instructionPlace 29 = .ok (.iload_n 3, 1) := by decide +kernel
theorem dX5_instructionPlace_30 : decode cX5_instructionPlace 30 = .ok (.iaload, 1) := by decide +kernel
theorem dX5_instructionPlace_31 : decode cX5_instructionPlace 31 = .ok (.ireturn, 1) := by decide +kernel
theorem dX5_takenType_0 : decode cX5_takenType 0 = .ok (.aload_n 0, 1) := by decide +kernel
theorem dX5_takenType_1 : decode cX5_takenType 1 = .ok (.aload_n 0, 1) := by decide +kernel
theorem dX5_takenType_2 : decode cX5_takenType 2 = .ok (.iload_n 1, 1) := by decide +kernel
theorem dX5_takenType_3 : decode cX5_takenType 3 = .ok (.iconst 1, 1) := by decide +kernel
theorem dX5_takenType_4 : decode cX5_takenType 4 = .ok (.invokevirtual 58, 3) := by decide +kernel
theorem dX5_takenType_7 : decode cX5_takenType 7 = .ok (.iload_n 2, 1) := by decide +kernel
theorem dX5_takenType_8 : decode cX5_takenType 8 = .ok (.iadd, 1) := by decide +kernel
theorem dX5_takenType_9 : decode cX5_takenType 9 = .ok (.invokevirtual 65, 3) := by decide +kernel
theorem dX5_takenType_12 : decode cX5_takenType 12 = .ok (.lreturn, 1) := by decide +kernel
theorem dX5_givenType_0 : decode cX5_givenType 0 = .ok (.aload_n 0, 1) := by decide +kernel
theorem dX5_givenType_1 : decode cX5_givenType 1 = .ok (.aload_n 0, 1) := by decide +kernel
theorem dX5_givenType_2 : decode cX5_givenType 2 = .ok (.iload_n 1, 1) := by decide +kernel
theorem dX5_givenType_3 : decode cX5_givenType 3 = .ok (.iconst 1, 1) := by decide +kernel
theorem dX5_givenType_4 : decode cX5_givenType 4 = .ok (.invokevirtual 58, 3) := by decide +kernel
theorem dX5_givenType_7 : decode cX5_givenType 7 = .ok (.aload_n 0, 1) := by decide +kernel
theorem dX5_givenType_8 : decode cX5_givenType 8 = .ok (.iload_n 1, 1) := by decide +kernel
theorem dX5_givenType_9 : decode cX5_givenType 9 = .ok (.invokevirtual 62, 3) := by decide +kernel
theorem dX5_givenType_12 : decode cX5_givenType 12 = .ok (.iadd, 1) := by decide +kernel
theorem dX5_givenType_13 : decode cX5_givenType 13 = .ok (.iload_n 2, 1) := by decide +kernel
theorem dX5_givenType_14 : decode cX5_givenType 14 = .ok (.iadd, 1) := by decide +kernel
theorem dX5_givenType_15 : decode cX5_givenType 15 = .ok (.invokevirtual 65, 3) := by decide +kernel
theorem dX5_givenType_18 : decode cX5_givenType 18 = .ok (.lreturn, 1) := by decide +kernel
theorem dX5_localType_0 : decode cX5_localType 0 = .ok (.aload_n 0, 1) := by decide +kernel
theorem dX5_localType_1 : decode cX5_localType 1 = .ok (.aload_n 0, 1) := by decide +kernel
theorem dX5_localType_2 : decode cX5_localType 2 = .ok (.iload_n 1, 1) := by decide +kernel
theorem dX5_localType_3 : decode cX5_localType 3 = .ok (.iconst 1, 1) := by decide +kernel
theorem dX5_localType_4 : decode cX5_localType 4 = .ok (.invokevirtual 58, 3) := by decide +kernel
theorem dX5_localType_7 : decode cX5_localType 7 = .ok (.iload_n 2, 1) := by decide +kernel
theorem dX5_localType_8 : decode cX5_localType 8 = .ok (.aload_n 0, 1) := by decide +kernel
theorem dX5_localType_9 : decode cX5_localType 9 = .ok (.iload_n 1, 1) := by decide +kernel
theorem dX5_localType_10 : decode cX5_localType 10 = .ok (.invokevirtual 62, 3) := by decide +kernel
theorem dX5_localType_13 : decode cX5_localType 13 = .ok (.if_icmp .ge 7, 3) := by decide +kernel
theorem dX5_localType_16 : decode cX5_localType 16 = .ok (.iload_n 2, 1) := by decide +kernel
theorem dX5_localType_17 : decode cX5_localType 17 = .ok (.goto 10, 3) := by decide +kernel
theorem dX5_localType_20 : decode cX5_localType 20 = .ok (.aload_n 0, 1) := by decide +kernel
theorem dX5_localType_21 : decode cX5_localType 21 = .ok (.iload_n 1, 1) := by decide +kernel
theorem dX5_localType_22 : decode cX5_localType 22 = .ok (.invokevirtual 69, 3) := by decide +kernel
theorem dX5_localType_25 : decode cX5_localType 25 = .ok (.iload_n 2, 1) := by decide +kernel
theorem dX5_localType_26 : decode cX5_localType 26 = .ok (.iadd, 1) := by decide +kernel
theorem dX5_localType_27 : decode cX5_localType 27 = .ok (.iadd, 1) := by decide +kernel
theorem dX5_localType_28 : decode cX5_localType 28 = .ok (.invokevirtual 65, 3) := by decide +kernel
theorem dX5_localType_31 : decode cX5_localType 31 = .ok (.lreturn, 1) := by decide +kernel
theorem dX5_elementType_0 : decode cX5_elementType 0 = .ok (.aload_n 0, 1) := by decide +kernel
theorem dX5_elementType_1 : decode cX5_elementType 1 = .ok (.aload_n 0, 1) := by decide +kernel
theorem dX5_elementType_2 : decode cX5_elementType 2 = .ok (.getfield 75, 3) := by decide +kernel
theorem dX5_elementType_5 : decode cX5_elementType 5 = .ok (.iload_n 1, 1) := by decide +kernel
theorem dX5_elementType_6 : decode cX5_elementType 6 = .ok (.iadd, 1) := by decide +kernel
theorem dX5_elementType_7 : decode cX5_elementType 7 = .ok (.invokevirtual 65, 3) := by decide +kernel
theorem dX5_elementType_10 : decode cX5_elementType 10 = .ok (.lreturn, 1) := by decide +kernel
theorem dX5_head_0 : decode cX5_head 0 = .ok (.bipush 56, 2) := by decide +kernel
theorem dX5_head_2 : decode cX5_head 2 = .ok (.istore_n 2, 1) := by decide +kernel
theorem dX5_head_3 : decode cX5_head 3 = .ok (.iload_n 2, 1) := by decide +kernel
theorem dX5_head_4 : decode cX5_head 4 = .ok (.ifCond .le 17, 3) := by decide +kernel
theorem dX5_head_7 : decode cX5_head 7 = .ok (.lload_n 0, 1) := by decide +kernel
theorem dX5_head_8 : decode cX5_head 8 = .ok (.iload_n 2, 1) := by decide +kernel
theorem dX5_head_9 : decode cX5_head 9 = .ok (.lushr, 1) := by decide +kernel
theorem dX5_head_10 : decode cX5_head 10 = .ok (.lconst 0, 1) := by decide +kernel
theorem dX5_head_11 : decode cX5_head 11 = .ok (.lcmp, 1) := by decide +kernel
theorem dX5_head_12 : decode cX5_head 12 = .ok (.ifCond .ne 9, 3) := by decide +kernel
theorem dX5_head_15 : decode cX5_head 15 = .ok (.iinc 2 (-8), 3) := by decide +kernel
theorem dX5_head_18 : decode cX5_head 18 = .ok (.goto (-15), 3) := by decide +kernel
theorem dX5_head_21 : decode cX5_head 21 = .ok (.lload_n 0, 1) := by decide +kernel
theorem dX5_head_22 : decode cX5_head 22 = .ok (.iload_n 2, 1) := by decide +kernel
theorem dX5_head_23 : decode cX5_head 23 = .ok (.lushr, 1) := by decide +kernel
theorem dX5_head_24 : decode cX5_head 24 = .ok (.l2i, 1) := by decide +kernel
theorem dX5_head_25 : decode cX5_head 25 = .ok (.sipush 255, 3) := by decide +kernel
theorem dX5_head_28 : decode cX5_head 28 = .ok (.iand, 1) := by decide +kernel
theorem dX5_head_29 : decode cX5_head 29 = .ok (.ireturn, 1) := by decide +kernel
theorem dX5_isReference_0 : decode cX5_isReference 0 = .ok (.lload_n 0, 1) := by decide +kernel
theorem dX5_isReference_1 : decode cX5_isReference 1 = .ok (.invokestatic 78, 3) := by decide +kernel
theorem dX5_isReference_4 : decode cX5_isReference 4 = .ok (.bipush 8, 2) := by decide +kernel
theorem dX5_isReference_6 : decode cX5_isReference 6 = .ok (.if_icmp .lt 7, 3) := by decide +kernel
theorem dX5_isReference_9 : decode cX5_isReference 9 = .ok (.iconst 1, 1) := by decide +kernel
theorem dX5_isReference_10 : decode cX5_isReference 10 = .ok (.goto 4, 3) := by decide +kernel
theorem dX5_isReference_13 : decode cX5_isReference 13 = .ok (.iconst 0, 1) := by decide +kernel
theorem dX5_isReference_14 : decode cX5_isReference 14 = .ok (.ireturn, 1) := by decide +kernel
theorem dX5_pointee_0 : decode cX5_pointee 0 = .ok (.lload_n 0, 1) := by decide +kernel
theorem dX5_pointee_1 : decode cX5_pointee 1 = .ok (.lconst 1, 1) := by decide +kernel
theorem dX5_pointee_2 : decode cX5_pointee 2 = .ok (.lload_n 0, 1) := by decide +kernel
theorem dX5_pointee_3 : decode cX5_pointee 3 = .ok (.invokestatic 82, 3) := by decide +kernel
theorem dX5_pointee_6 : decode cX5_pointee 6 = .ok (.lshl, 1) := by decide +kernel
theorem dX5_pointee_7 : decode cX5_pointee 7 = .ok (.lconst 1, 1) := by decide +kernel
theorem dX5_pointee_8 : decode cX5_pointee 8 = .ok (.lsub, 1) := by decide +kernel
theorem dX5_pointee_9 : decode cX5_pointee 9 = .ok (.land, 1) := by decide +kernel
theorem dX5_pointee_10 : decode cX5_pointee 10 = .ok (.lreturn, 1) := by decide +kernel
theorem dX5_prefixed_0 : decode cX5_prefixed 0 = .ok (.lload_n 1, 1) := by decide +kernel
theorem dX5_prefixed_1 : decode cX5_prefixed 1 = .ok (.invokestatic 82, 3) := by decide +kernel
theorem dX5_prefixed_4 : decode cX5_prefixed 4 = .ok (.bipush 8, 2) := by decide +kernel
theorem dX5_prefixed_6 : decode cX5_prefixed 6 = .ok (.iadd, 1) := by decide +kernel
theorem dX5_prefixed_7 : decode cX5_prefixed 7 = .ok (.istore_n 3, 1) := by decide +kernel
theorem dX5_prefixed_8 : decode cX5_prefixed 8 = .ok (.iload_n 3, 1) := by decide +kernel
theorem dX5_prefixed_9 : decode cX5_prefixed 9 = .ok (.bipush 56, 2) := by decide +kernel
theorem dX5_prefixed_11 : decode cX5_prefixed 11 = .ok (.if_icmp .le 7, 3) := by decide +kernel
theorem dX5_prefixed_14 : decode cX5_prefixed 14 = .ok (.lload_n 1, 1) := by decide +kernel
theorem dX5_prefixed_15 : decode cX5_prefixed 15 = .ok (.goto 9, 3) := by decide +kernel
theorem dX5_prefixed_18 : decode cX5_prefixed 18 = .ok (.iload_n 0, 1) := by decide +kernel
theorem dX5_prefixed_19 : decode cX5_prefixed 19 = .ok (.i2l, 1) := by decide +kernel
theorem dX5_prefixed_20 : decode cX5_prefixed 20 = .ok (.iload_n 3, 1) := by decide +kernel
theorem dX5_prefixed_21 : decode cX5_prefixed 21 = .ok (.lshl, 1) := by decide +kernel
theorem dX5_prefixed_22 : decode cX5_prefixed 22 = .ok (.lload_n 1, 1) := by decide +kernel
theorem dX5_prefixed_23 : decode cX5_prefixed 23 = .ok (.lor, 1) := by decide +kernel
theorem dX5_prefixed_24 : decode cX5_prefixed 24 = .ok (.lreturn, 1) := by decide +kernel
theorem dX5_structureType_0 : decode cX5_structureType 0 = .ok (.sipush 1536, 3) := by decide +kernel
theorem dX5_structureType_3 : decode cX5_structureType 3 = .ok (.iload_n 0, 1) := by decide +kernel
theorem dX5_structureType_4 : decode cX5_structureType 4 = .ok (.ior, 1) := by decide +kernel
theorem dX5_structureType_5 : decode cX5_structureType 5 = .ok (.i2l, 1) := by decide +kernel
theorem dX5_structureType_6 : decode cX5_structureType 6 = .ok (.lreturn, 1) := by decide +kernel
theorem dX5_abilities_0 : decode cX5_abilities 0 = .ok (.lload_n 1, 1) := by decide +kernel
theorem dX5_abilities_1 : decode cX5_abilities 1 = .ok (.invokestatic 78, 3) := by decide +kernel
theorem dX5_abilities_4 : decode cX5_abilities 4 = .ok (.istore_n 3, 1) := by decide +kernel
theorem dX5_abilities_5 : decode cX5_abilities 5 = .ok (.iload_n 3, 1) := by decide +kernel
theorem dX5_abilities_6 : decode cX5_abilities 6 = .ok (.bipush 8, 2) := by decide +kernel
theorem dX5_abilities_8 : decode cX5_abilities 8 = .ok (.if_icmp .lt 5, 3) := by decide +kernel
theorem dX5_abilities_11 : decode cX5_abilities 11 = .ok (.iconst 3, 1) := by decide +kernel
theorem dX5_abilities_12 : decode cX5_abilities 12 = .ok (.ireturn, 1) := by decide +kernel
theorem dX5_abilities_13 : decode cX5_abilities 13 = .ok (.bipush 7, 2) := by decide +kernel
theorem dX5_abilities_15 : decode cX5_abilities 15 = .ok (.istore 4, 2) := by decide +kernel
theorem dX5_abilities_17 : decode cX5_abilities 17 = .ok (.lload_n 1, 1) := by decide +kernel
theorem dX5_abilities_18 : decode cX5_abilities 18 = .ok (.invokestatic 89, 3) := by decide +kernel
theorem dX5_abilities_21 : decode cX5_abilities 21 = .ok (.ifCond .eq 16, 3) := by decide +kernel
theorem dX5_abilities_24 : decode cX5_abilities 24 = .ok (.aload_n 0, 1) := by decide +kernel
theorem dX5_abilities_25 : decode cX5_abilities 25 = .ok (.lload_n 1, 1) := by decide +kernel
theorem dX5_abilities_26 : decode cX5_abilities 26 = .ok (.l2i, 1) := by decide +kernel
theorem dX5_abilities_27 : decode cX5_abilities 27 = .ok (.sipush 255, 3) := by decide +kernel
theorem dX5_abilities_30 : decode cX5_abilities 30 = .ok (.iand, 1) := by decide +kernel
theorem dX5_abilities_31 : decode cX5_abilities 31 = .ok (.iconst 0, 1) := by decide +kernel
theorem dX5_abilities_32 : decode cX5_abilities 32 = .ok (.invokevirtual 72, 3) := by decide +kernel
theorem dX5_abilities_35 : decode cX5_abilities 35 = .ok (.istore 4, 2) := by decide +kernel
theorem dX5_abilities_37 : decode cX5_abilities 37 = .ok (.iload_n 3, 1) := by decide +kernel
theorem dX5_abilities_38 : decode cX5_abilities 38 = .ok (.bipush 7, 2) := by decide +kernel
theorem dX5_abilities_40 : decode cX5_abilities 40 = .ok (.if_icmp .ne 11, 3) := by decide +kernel
theorem dX5_abilities_43 : decode cX5_abilities 43 = .ok (.iload 4, 2) := by decide +kernel
theorem dX5_abilities_45 : decode cX5_abilities 45 = .ok (.bipush (-9), 2) := by decide +kernel
theorem dX5_abilities_47 : decode cX5_abilities 47 = .ok (.iand, 1) := by decide +kernel
theorem dX5_abilities_48 : decode cX5_abilities 48 = .ok (.goto 5, 3) := by decide +kernel
theorem dX5_abilities_51 : decode cX5_abilities 51 = .ok (.iload 4, 2) := by decide +kernel
theorem dX5_abilities_53 : decode cX5_abilities 53 = .ok (.ireturn, 1) := by decide +kernel
theorem dX5_givesPlain_0 : decode cX5_givesPlain 0 = .ok (.iconst 0, 1) := by decide +kernel
theorem dX5_givesPlain_1 : decode cX5_givesPlain 1 = .ok (.istore_n 2, 1) := by decide +kernel
theorem dX5_givesPlain_2 : decode cX5_givesPlain 2 = .ok (.iload_n 2, 1) := by decide +kernel
theorem dX5_givesPlain_3 : decode cX5_givesPlain 3 = .ok (.aload_n 0, 1) := by decide +kernel
theorem dX5_givesPlain_4 : decode cX5_givesPlain 4 = .ok (.iload_n 1, 1) := by decide +kernel
theorem dX5_givesPlain_5 : decode cX5_givesPlain 5 = .ok (.invokevirtual 69, 3) := by decide +kernel
theorem dX5_givesPlain_8 : decode cX5_givesPlain 8 = .ok (.if_icmp .ge 32, 3) := by decide +kernel
theorem dX5_givesPlain_11 : decode cX5_givesPlain 11 = .ok (.aload_n 0, 1) := by decide +kernel
theorem dX5_givesPlain_12 : decode cX5_givesPlain 12 = .ok (.iload_n 1, 1) := by decide +kernel
theorem dX5_givesPlain_13 : decode cX5_givesPlain 13 = .ok (.iload_n 2, 1) := by decide +kernel
theorem dX5_givesPlain_14 : decode cX5_givesPlain 14 = .ok (.invokevirtual 93, 3) := by decide +kernel
theorem dX5_givesPlain_17 : decode cX5_givesPlain 17 = .ok (.lstore_n 3, 1) := by decide +kernel
theorem dX5_givesPlain_18 : decode cX5_givesPlain 18 = .ok (.lload_n 3, 1) := by decide +kernel
theorem dX5_givesPlain_19 : decode cX5_givesPlain 19 = .ok (.lconst 1, 1) := by decide +kernel
theorem dX5_givesPlain_20 : decode cX5_givesPlain 20 = .ok (.lcmp, 1) := by decide +kernel
theorem dX5_givesPlain_21 : decode cX5_givesPlain 21 = .ok (.ifCond .lt 11, 3) := by decide +kernel
theorem dX5_givesPlain_24 : decode cX5_givesPlain 24 = .ok (.lload_n 3, 1) := by decide +kernel
theorem dX5_givesPlain_25 : decode cX5_givesPlain 25 = .ok (.ldc2_w 97, 3) := by decide +kernel
theorem dX5_givesPlain_28 : decode cX5_givesPlain 28 = .ok (.lcmp, 1) := by decide +kernel
theorem dX5_givesPlain_29 : decode cX5_givesPlain 29 = .ok (.ifCond .le 5, 3) := by decide +kernel
theorem dX5_givesPlain_32 : decode cX5_givesPlain 32 = .ok (.iconst 0, 1) := by decide +kernel
theorem dX5_givesPlain_33 : decode cX5_givesPlain 33 = .ok (.ireturn, 1) := by decide +kernel
theorem dX5_givesPlain_34 : decode cX5_givesPlain 34 = .ok (.iinc 2 1, 3) := by decide +kernel
theorem dX5_givesPlain_37 : decode cX5_givesPlain 37 = .ok (.goto (-35), 3) := by decide +kernel
theorem dX5_givesPlain_40 : decode cX5_givesPlain 40 = .ok (.iconst 1, 1) := by decide +kernel
theorem dX5_givesPlain_41 : decode cX5_givesPlain 41 = .ok (.ireturn, 1) := by decide +kernel
theorem dX5_strangeStructure_0 : decode cX5_strangeStructure 0 = .ok (.aload_n 0, 1) := by decide +kernel
theorem dX5_strangeStructure_1 : decode cX5_strangeStructure 1 = .ok (.getfield 99, 3) := by decide +kernel
theorem dX5_strangeStructure_4 : decode cX5_strangeStructure 4 = .ok (.istore_n 2, 1) := by decide +kernel
theorem dX5_strangeStructure_5 : decode cX5_strangeStructure 5 = .ok (.iload_n 2, 1) := by decide +kernel
theorem dX5_strangeStructure_6 : decode cX5_strangeStructure 6 = .ok (.aload_n 0, 1) := by decide +kernel
theorem dX5_strangeStructure_7 : decode cX5_strangeStructure 7 = .ok (.getfield 52, 3) := by decide +kernel
theorem dX5_strangeStructure_10 : decode cX5_strangeStructure 10 = .ok (.if_icmp .ge 64, 3) := by decide +kernel
theorem dX5_strangeStructure_13 : decode cX5_strangeStructure 13 = .ok (.aload_n 1, 1) := by decide +kernel
theorem dX5_strangeStructure_14 : decode cX5_strangeStructure 14 = .ok (.aload_n 0, 1) := by decide +kernel
theorem dX5_strangeStructure_15 : decode cX5_strangeStructure 15 = .ok (.iload_n 2, 1) := by decide +kernel
theorem dX5_strangeStructure_16 : decode cX5_strangeStructure 16 = .ok (.iconst 4, 1) := by decide +kernel
theorem dX5_strangeStructure_17 : decode cX5_strangeStructure 17 = .ok (.invokevirtual 72, 3) := by decide +kernel
theorem dX5_strangeStructure_20 : decode cX5_strangeStructure 20 = .ok (.invokevirtual 102, 3) := by decide +kernel
theorem dX5_strangeStructure_23 : decode cX5_strangeStructure 23 = .ok (.astore_n 3, 1) := by decide +kernel
theorem dX5_strangeStructure_24 : decode cX5_strangeStructure 24 = .ok (.aload_n 0, 1) := by decide +kernel
theorem dX5_strangeStructure_25 : decode cX5_strangeStructure 25 = .ok (.iload_n 2, 1) := by decide +kernel
theorem dX5_strangeStructure_26 : decode cX5_strangeStructure 26 = .ok (.iconst 5, 1) := by decide +kernel
theorem dX5_strangeStructure_27 : decode cX5_strangeStructure 27 = .ok (.invokevirtual 72, 3) := by decide +kernel
theorem dX5_strangeStructure_30 : decode cX5_strangeStructure 30 = .ok (.istore 4, 2) := by decide +kernel
theorem dX5_strangeStructure_32 : decode cX5_strangeStructure 32 = .ok (.aload_n 3, 1) := by decide +kernel
theorem dX5_strangeStructure_33 : decode cX5_strangeStructure 33 = .ok (.ifnull 28, 3) := by decide +kernel
theorem dX5_strangeStructure_36 : decode cX5_strangeStructure 36 = .ok (.iload 4, 2) := by decide +kernel
theorem dX5_strangeStructure_38 : decode cX5_strangeStructure 38 = .ok (.aload_n 3, 1) := by decide +kernel
theorem dX5_strangeStructure_39 : decode cX5_strangeStructure 39 = .ok (.getfield 99, 3) := by decide +kernel
theorem dX5_strangeStructure_42 : decode cX5_strangeStructure 42 = .ok (.if_icmp .ge 19, 3) := by decide +kernel
theorem dX5_strangeStructure_45 : decode cX5_strangeStructure 45 = .ok (.aload_n 3, 1) := by decide +kernel
theorem dX5_strangeStructure_46 : decode cX5_strangeStructure 46 = .ok (.iload 4, 2) := by decide +kernel
theorem dX5_strangeStructure_48 : decode cX5_strangeStructure 48 = .ok (.iconst 0, 1) := by decide +kernel
theorem dX5_strangeStructure_49 : decode cX5_strangeStructure 49 = .ok (.invokevirtual 72, 3) := by decide +kernel
theorem dX5_strangeStructure_52 : decode cX5_strangeStructure 52 = .ok (.aload_n 0, 1) := by decide +kernel
theorem dX5_strangeStructure_53 : decode cX5_strangeStructure 53 = .ok (.iload_n 2, 1) := by decide +kernel
theorem dX5_strangeStructure_54 : decode cX5_strangeStructure 54 = .ok (.iconst 0, 1) := by decide +kernel
theorem dX5_strangeStructure_55 : decode cX5_strangeStructure 55 = .ok (.invokevirtual 72, 3) := by decide +kernel
theorem dX5_strangeStructure_58 : decode cX5_strangeStructure 58 = .ok (.if_icmp .eq 10, 3) := by decide +kernel
theorem dX5_strangeStructure_61 : decode cX5_strangeStructure 61 = .ok (.iload_n 2, 1) := by decide +kernel
theorem dX5_strangeStructure_62 : decode cX5_strangeStructure 62 = .ok (.aload_n 0, 1) := by decide +kernel
theorem dX5_strangeStructure_63 : decode cX5_strangeStructure 63 = .ok (.getfield 99, 3) := by decide +kernel
theorem dX5_strangeStructure_66 : decode cX5_strangeStructure 66 = .ok (.isub, 1) := by decide +kernel
theorem dX5_strangeStructure_67 : decode cX5_strangeStructure 67 = .ok (.ireturn, 1) := by decide +kernel
theorem dX5_strangeStructure_68 : decode cX5_strangeStructure 68 = .ok (.iinc 2 1, 3) := by decide +kernel
theorem dX5_strangeStructure_71 : decode cX5_strangeStructure 71 = .ok (.goto (-66), 3) := by decide +kernel
theorem dX5_strangeStructure_74 : decode cX5_strangeStructure 74 = .ok (.iconst (-1), 1) := by decide +kernel
theorem dX5_strangeStructure_75 : decode cX5_strangeStructure 75 = .ok (.ireturn, 1) := by decide +kernel
theorem dX5_strangeFunction_0 : decode cX5_strangeFunction 0 = .ok (.iconst 0, 1) := by decide +kernel
theorem dX5_strangeFunction_1 : decode cX5_strangeFunction 1 = .ok (.istore_n 2, 1) := by decide +kernel
theorem dX5_strangeFunction_2 : decode cX5_strangeFunction 2 = .ok (.iload_n 2, 1) := by decide +kernel
theorem dX5_strangeFunction_3 : decode cX5_strangeFunction 3 = .ok (.aload_n 0, 1) := by decide +kernel
theorem dX5_strangeFunction_4 : decode cX5_strangeFunction 4 = .ok (.getfield 45, 3) := by decide +kernel
theorem dX5_strangeFunction_7 : decode cX5_strangeFunction 7 = .ok (.if_icmp .ge 97, 3) := by decide +kernel
theorem dX5_strangeFunction_10 : decode cX5_strangeFunction 10 = .ok (.aload_n 0, 1) := by decide +kernel
theorem dX5_strangeFunction_11 : decode cX5_strangeFunction 11 = .ok (.getfield 55, 3) := by decide +kernel
theorem dX5_strangeFunction_14 : decode cX5_strangeFunction 14 = .ok (.iload_n 2, 1) := by decide +kernel
theorem dX5_strangeFunction_15 : decode cX5_strangeFunction 15 = .ok (.iadd, 1) := by decide +kernel
theorem dX5_strangeFunction_16 : decode cX5_strangeFunction 16 = .ok (.istore_n 3, 1) := by decide +kernel
theorem dX5_strangeFunction_17 : decode cX5_strangeFunction 17 = .ok (.aload_n 1, 1) := by decide +kernel
theorem dX5_strangeFunction_18 : decode cX5_strangeFunction 18 = .ok (.aload_n 0, 1) := by decide +kernel
theorem dX5_strangeFunction_19 : decode cX5_strangeFunction 19 = .ok (.iload_n 3, 1) := by decide +kernel
theorem dX5_strangeFunction_20 : decode cX5_strangeFunction 20 = .ok (.bipush 7, 2) := by decide +kernel
theorem dX5_strangeFunction_22 : decode cX5_strangeFunction 22 = .ok (.invokevirtual 58, 3) := by decide +kernel
theorem dX5_strangeFunction_25 : decode cX5_strangeFunction 25 = .ok (.invokevirtual 102, 3) := by decide +kernel
theorem dX5_strangeFunction_28 : decode cX5_strangeFunction 28 = .ok (.astore 4, 2) := by decide +kernel
theorem dX5_strangeFunction_30 : decode cX5_strangeFunction 30 = .ok (.aload_n 0, 1) := by decide +kernel
theorem dX5_strangeFunction_31 : decode cX5_strangeFunction 31 = .ok (.iload_n 3, 1) := by decide +kernel
theorem dX5_strangeFunction_32 : decode cX5_strangeFunction 32 = .ok (.bipush 8, 2) := by decide +kernel
theorem dX5_strangeFunction_34 : decode cX5_strangeFunction 34 = .ok (.invokevirtual 58, 3) := by decide +kernel
theorem dX5_strangeFunction_37 : decode cX5_strangeFunction 37 = .ok (.istore 5, 2) := by decide +kernel
theorem dX5_strangeFunction_39 : decode cX5_strangeFunction 39 = .ok (.aload 4, 2) := by decide +kernel
theorem dX5_strangeFunction_41 : decode cX5_strangeFunction 41 = .ok (.ifnull 55, 3) := by decide +kernel
theorem dX5_strangeFunction_44 : decode cX5_strangeFunction 44 = .ok (.iload 5, 2) := by decide +kernel
theorem dX5_strangeFunction_46 : decode cX5_strangeFunction 46 = .ok (.aload 4, 2) := by decide +kernel
theorem dX5_strangeFunction_48 : decode cX5_strangeFunction 48 = .ok (.getfield 55, 3) := by decide +kernel
theorem dX5_strangeFunction_51 : decode cX5_strangeFunction 51 = .ok (.if_icmp .ge 45, 3) := by decide +kernel
theorem dX5_strangeFunction_54 : decode cX5_strangeFunction 54 = .ok (.aload 4, 2) := by decide +kernel
theorem dX5_strangeFunction_56 : decode cX5_strangeFunction 56 = .ok (.iload 5, 2) := by decide +kernel
theorem dX5_strangeFunction_58 : decode cX5_strangeFunction 58 = .ok (.invokevirtual 108, 3) := by decide +kernel
theorem dX5_strangeFunction_61 : decode cX5_strangeFunction 61 = .ok (.iconst 1, 1) := by decide +kernel
theorem dX5_strangeFunction_62 : decode cX5_strangeFunction 62 = .ok (.iand, 1) := by decide +kernel
theorem dX5_strangeFunction_63 : decode cX5_strangeFunction 63 = .ok (.ifCond .eq 33, 3) := by decide +kernel
theorem dX5_strangeFunction_66 : decode cX5_strangeFunction 66 = .ok (.aload 4, 2) := by decide +kernel
theorem dX5_strangeFunction_68 : decode cX5_strangeFunction 68 = .ok (.iload 5, 2) := by decide +kernel
theorem dX5_strangeFunction_70 : decode cX5_strangeFunction 70 = .ok (.invokevirtual 108, 3) := by decide +kernel
theorem dX5_strangeFunction_73 : decode cX5_strangeFunction 73 = .ok (.aload_n 0, 1) := by decide +kernel
theorem dX5_strangeFunction_74 : decode cX5_strangeFunction 74 = .ok (.iload_n 3, 1) := by decide +kernel
theorem dX5_strangeFunction_75 : decode cX5_strangeFunction 75 = .ok (.invokevirtual 108, 3) := by decide +kernel
theorem dX5_strangeFunction_78 : decode cX5_strangeFunction 78 = .ok (.ixor, 1) := by decide +kernel
theorem dX5_strangeFunction_79 : decode cX5_strangeFunction 79 = .ok (.iconst 4, 1) := by decide +kernel
theorem dX5_strangeFunction_80 : decode cX5_strangeFunction 80 = .ok (.iand, 1) := by decide +kernel
theorem dX5_strangeFunction_81 : decode cX5_strangeFunction 81 = .ok (.ifCond .ne 15, 3) := by decide +kernel
theorem dX5_strangeFunction_84 : decode cX5_strangeFunction 84 = .ok (.aload_n 0, 1) := by decide +kernel
theorem dX5_strangeFunction_85 : decode cX5_strangeFunction 85 = .ok (.iload_n 3, 1) := by decide +kernel
theorem dX5_strangeFunction_86 : decode cX5_strangeFunction 86 = .ok (.aload 4, 2) := by decide +kernel
theorem dX5_strangeFunction_88 : decode cX5_strangeFunction 88 = .ok (.iload 5, 2) := by decide +kernel
theorem dX5_strangeFunction_90 : decode cX5_strangeFunction 90 = .ok (.invokevirtual 111, 3) := by decide +kernel
theorem dX5_strangeFunction_93 : decode cX5_strangeFunction 93 = .ok (.ifCond .ne 5, 3) := by decide +kernel
theorem dX5_strangeFunction_96 : decode cX5_strangeFunction 96 = .ok (.iload_n 2, 1) := by decide +kernel
theorem dX5_strangeFunction_97 : decode cX5_strangeFunction 97 = .ok (.ireturn, 1) := by decide +kernel
theorem dX5_strangeFunction_98 : decode cX5_strangeFunction 98 = .ok (.iinc 2 1, 3) := by decide +kernel
theorem dX5_strangeFunction_101 : decode cX5_strangeFunction 101 = .ok (.goto (-99), 3) := by decide +kernel
theorem dX5_strangeFunction_104 : decode cX5_strangeFunction 104 = .ok (.iconst (-1), 1) := by decide +kernel
theorem dX5_strangeFunction_105 : decode cX5_strangeFunction 105 = .ok (.ireturn, 1) := by decide +kernel
theorem dX5_sameLists_0 : decode cX5_sameLists 0 = .ok (.aload_n 0, 1) := by decide +kernel
theorem dX5_sameLists_1 : decode cX5_sameLists 1 = .ok (.iload_n 1, 1) := by decide +kernel
theorem dX5_sameLists_2 : decode cX5_sameLists 2 = .ok (.invokevirtual 62, 3) := by decide +kernel
theorem dX5_sameLists_5 : decode cX5_sameLists 5 = .ok (.aload_n 2, 1) := by decide +kernel
theorem dX5_sameLists_6 : decode cX5_sameLists 6 = .ok (.iload_n 3, 1) := by decide +kernel
theorem dX5_sameLists_7 : decode cX5_sameLists 7 = .ok (.invokevirtual 62, 3) := by decide +kernel
theorem dX5_sameLists_10 : decode cX5_sameLists 10 = .ok (.if_icmp .ne 16, 3) := by decide +kernel
theorem dX5_sameLists_13 : decode cX5_sameLists 13 = .ok (.aload_n 0, 1) := by decide +kernel
theorem dX5_sameLists_14 : decode cX5_sameLists 14 = .ok (.iload_n 1, 1) := by decide +kernel
theorem dX5_sameLists_15 : decode cX5_sameLists 15 = .ok (.invokevirtual 69, 3) := by decide +kernel
theorem dX5_sameLists_18 : decode cX5_sameLists 18 = .ok (.aload_n 2, 1) := by decide +kernel
theorem dX5_sameLists_19 : decode cX5_sameLists 19 = .ok (.iload_n 3, 1) := by decide +kernel
theorem dX5_sameLists_20 : decode cX5_sameLists 20 = .ok (.invokevirtual 69, 3) := by decide +kernel
theorem dX5_sameLists_23 : decode cX5_sameLists 23 = .ok (.if_icmp .eq 5, 3) := by decide +kernel
theorem dX5_sameLists_26 : decode cX5_sameLists 26 = .ok (.iconst 0, 1) := by decide +kernel
theorem dX5_sameLists_27 : decode cX5_sameLists 27 = .ok (.ireturn, 1) := by decide +kernel
theorem dX5_sameLists_28 : decode cX5_sameLists 28 = .ok (.iconst 0, 1) := by decide +kernel
theorem dX5_sameLists_29 : decode cX5_sameLists 29 = .ok (.istore 4, 2) := by decide +kernel
theorem dX5_sameLists_31 : decode cX5_sameLists 31 = .ok (.iload 4, 2) := by decide +kernel
theorem dX5_sameLists_33 : decode cX5_sameLists 33 = .ok (.aload_n 0, 1) := by decide +kernel
theorem dX5_sameLists_34 : decode cX5_sameLists 34 = .ok (.iload_n 1, 1) := by decide +kernel
theorem dX5_sameLists_35 : decode cX5_sameLists 35 = .ok (.invokevirtual 62, 3) := by decide +kernel
theorem dX5_sameLists_38 : decode cX5_sameLists 38 = .ok (.aload_n 0, 1) := by decide +kernel
theorem dX5_sameLists_39 : decode cX5_sameLists 39 = .ok (.iload_n 1, 1) := by decide +kernel
theorem dX5_sameLists_40 : decode cX5_sameLists 40 = .ok (.invokevirtual 69, 3) := by decide +kernel
theorem dX5_sameLists_43 : decode cX5_sameLists 43 = .ok (.iadd, 1) := by decide +kernel
theorem dX5_sameLists_44 : decode cX5_sameLists 44 = .ok (.if_icmp .ge 33, 3) := by decide +kernel
theorem dX5_sameLists_47 : decode cX5_sameLists 47 = .ok (.aload_n 0, 1) := by decide +kernel
theorem dX5_sameLists_48 : decode cX5_sameLists 48 = .ok (.aload_n 0, 1) := by decide +kernel
theorem dX5_sameLists_49 : decode cX5_sameLists 49 = .ok (.iload_n 1, 1) := by decide +kernel
theorem dX5_sameLists_50 : decode cX5_sameLists 50 = .ok (.iload 4, 2) := by decide +kernel
theorem dX5_sameLists_52 : decode cX5_sameLists 52 = .ok (.invokevirtual 115, 3) := by decide +kernel
theorem dX5_sameLists_55 : decode cX5_sameLists 55 = .ok (.aload_n 2, 1) := by decide +kernel
theorem dX5_sameLists_56 : decode cX5_sameLists 56 = .ok (.aload_n 2, 1) := by decide +kernel
theorem dX5_sameLists_57 : decode cX5_sameLists 57 = .ok (.iload_n 3, 1) := by decide +kernel
theorem dX5_sameLists_58 : decode cX5_sameLists 58 = .ok (.iload 4, 2) := by decide +kernel
theorem dX5_sameLists_60 : decode cX5_sameLists 60 = .ok (.invokevirtual 115, 3) := by decide +kernel
theorem dX5_sameLists_63 : decode cX5_sameLists 63 = .ok (.invokevirtual 118, 3) := by decide +kernel
theorem dX5_sameLists_66 : decode cX5_sameLists 66 = .ok (.ifCond .ne 5, 3) := by decide +kernel
theorem dX5_sameLists_69 : decode cX5_sameLists 69 = .ok (.iconst 0, 1) := by decide +kernel
theorem dX5_sameLists_70 : decode cX5_sameLists 70 = .ok (.ireturn, 1) := by decide +kernel
theorem dX5_sameLists_71 : decode cX5_sameLists 71 = .ok (.iinc 4 1, 3) := by decide +kernel
theorem dX5_sameLists_74 : decode cX5_sameLists 74 = .ok (.goto (-43), 3) := by decide +kernel
theorem dX5_sameLists_77 : decode cX5_sameLists 77 = .ok (.iconst 1, 1) := by decide +kernel
theorem dX5_sameLists_78 : decode cX5_sameLists 78 = .ok (.ireturn, 1) := by decide +kernel
theorem dX5_sameType_0 : decode cX5_sameType 0 = .ok (.lload_n 1, 1) := by decide +kernel
theorem dX5_sameType_1 : decode cX5_sameType 1 = .ok (.bipush 8, 2) := by decide +kernel
theorem dX5_sameType_3 : decode cX5_sameType 3 = .ok (.lushr, 1) := by decide +kernel
theorem dX5_sameType_4 : decode cX5_sameType 4 = .ok (.lload 4, 2) := by decide +kernel
theorem dX5_sameType_6 : decode cX5_sameType 6 = .ok (.bipush 8, 2) := by decide +kernel
theorem dX5_sameType_8 : decode cX5_sameType 8 = .ok (.lushr, 1) := by decide +kernel
theorem dX5_sameType_9 : decode cX5_sameType 9 = .ok (.lcmp, 1) := by decide +kernel
theorem dX5_sameType_10 : decode cX5_sameType 10 = .ok (.ifCond .eq 5, 3) := by decide +kernel
theorem dX5_sameType_13 : decode cX5_sameType 13 = .ok (.iconst 0, 1) := by decide +kernel
theorem dX5_sameType_14 : decode cX5_sameType 14 = .ok (.ireturn, 1) := by decide +kernel
theorem dX5_sameType_15 : decode cX5_sameType 15 = .ok (.lload_n 1, 1) := by decide +kernel
theorem dX5_sameType_16 : decode cX5_sameType 16 = .ok (.invokestatic 89, 3) := by decide +kernel
theorem dX5_sameType_19 : decode cX5_sameType 19 = .ok (.ifCond .ne 16, 3) := by decide +kernel
theorem dX5_sameType_22 : decode cX5_sameType 22 = .ok (.lload_n 1, 1) := by decide +kernel
theorem dX5_sameType_23 : decode cX5_sameType 23 = .ok (.lload 4, 2) := by decide +kernel
theorem dX5_sameType_25 : decode cX5_sameType 25 = .ok (.lcmp, 1) := by decide +kernel
theorem dX5_sameType_26 : decode cX5_sameType 26 = .ok (.ifCond .ne 7, 3) := by decide +kernel
theorem dX5_sameType_29 : decode cX5_sameType 29 = .ok (.iconst 1, 1) := by decide +kernel
theorem dX5_sameType_30 : decode cX5_sameType 30 = .ok (.goto 4, 3) := by decide +kernel
theorem dX5_sameType_33 : decode cX5_sameType 33 = .ok (.iconst 0, 1) := by decide +kernel
theorem dX5_sameType_34 : decode cX5_sameType 34 = .ok (.ireturn, 1) := by decide +kernel
theorem dX5_sameType_35 : decode cX5_sameType 35 = .ok (.lload_n 1, 1) := by decide +kernel
theorem dX5_sameType_36 : decode cX5_sameType 36 = .ok (.l2i, 1) := by decide +kernel
theorem dX5_sameType_37 : decode cX5_sameType 37 = .ok (.sipush 255, 3) := by decide +kernel
theorem dX5_sameType_40 : decode cX5_sameType 40 = .ok (.iand, 1) := by decide +kernel
theorem dX5_sameType_41 : decode cX5_sameType 41 = .ok (.istore 6, 2) := by decide +kernel
theorem dX5_sameType_43 : decode cX5_sameType 43 = .ok (.lload 4, 2) := by decide +kernel
theorem dX5_sameType_45 : decode cX5_sameType 45 = .ok (.l2i, 1) := by decide +kernel
theorem dX5_sameType_46 : decode cX5_sameType 46 = .ok (.sipush 255, 3) := by decide +kernel
theorem dX5_sameType_49 : decode cX5_sameType 49 = .ok (.iand, 1) := by decide +kernel
theorem dX5_sameType_50 : decode cX5_sameType 50 = .ok (.istore 7, 2) := by decide +kernel
theorem dX5_sameType_52 : decode cX5_sameType 52 = .ok (.aload_n 0, 1) := by decide +kernel
theorem dX5_sameType_53 : decode cX5_sameType 53 = .ok (.iload 6, 2) := by decide +kernel
theorem dX5_sameType_55 : decode cX5_sameType 55 = .ok (.iconst 4, 1) := by decide +kernel
theorem dX5_sameType_56 : decode cX5_sameType 56 = .ok (.invokevirtual 72, 3) := by decide +kernel
theorem dX5_sameType_59 : decode cX5_sameType 59 = .ok (.aload_n 3, 1) := by decide +kernel
theorem dX5_sameType_60 : decode cX5_sameType 60 = .ok (.iload 7, 2) := by decide +kernel
theorem dX5_sameType_62 : decode cX5_sameType 62 = .ok (.iconst 4, 1) := by decide +kernel
theorem dX5_sameType_63 : decode cX5_sameType 63 = .ok (.invokevirtual 72, 3) := by decide +kernel
theorem dX5_sameType_66 : decode cX5_sameType 66 = .ok (.if_icmp .ne 24, 3) := by decide +kernel
theorem dX5_sameType_69 : decode cX5_sameType 69 = .ok (.aload_n 0, 1) := by decide +kernel
theorem dX5_sameType_70 : decode cX5_sameType 70 = .ok (.iload 6, 2) := by decide +kernel
theorem dX5_sameType_72 : decode cX5_sameType 72 = .ok (.iconst 5, 1) := by decide +kernel
theorem dX5_sameType_73 : decode cX5_sameType 73 = .ok (.invokevirtual 72, 3) := by decide +kernel
theorem dX5_sameType_76 : decode cX5_sameType 76 = .ok (.aload_n 3, 1) := by decide +kernel
theorem dX5_sameType_77 : decode cX5_sameType 77 = .ok (.iload 7, 2) := by decide +kernel
theorem dX5_sameType_79 : decode cX5_sameType 79 = .ok (.iconst 5, 1) := by decide +kernel
theorem dX5_sameType_80 : decode cX5_sameType 80 = .ok (.invokevirtual 72, 3) := by decide +kernel
theorem dX5_sameType_83 : decode cX5_sameType 83 = .ok (.if_icmp .ne 7, 3) := by decide +kernel
theorem dX5_sameType_86 : decode cX5_sameType 86 = .ok (.iconst 1, 1) := by decide +kernel
theorem dX5_sameType_87 : decode cX5_sameType 87 = .ok (.goto 4, 3) := by decide +kernel
theorem dX5_sameType_90 : decode cX5_sameType 90 = .ok (.iconst 0, 1) := by decide +kernel
theorem dX5_sameType_91 : decode cX5_sameType 91 = .ok (.ireturn, 1) := by decide +kernel
theorem dX5_weakStructure_0 : decode cX5_weakStructure 0 = .ok (.iconst 0, 1) := by decide +kernel
theorem dX5_weakStructure_1 : decode cX5_weakStructure 1 = .ok (.istore_n 1, 1) := by decide +kernel
theorem dX5_weakStructure_2 : decode cX5_weakStructure 2 = .ok (.iload_n 1, 1) := by decide +kernel
theorem dX5_weakStructure_3 : decode cX5_weakStructure 3 = .ok (.aload_n 0, 1) := by decide +kernel
theorem dX5_weakStructure_4 : decode cX5_weakStructure 4 = .ok (.getfield 99, 3) := by decide +kernel
theorem dX5_weakStructure_7 : decode cX5_weakStructure 7 = .ok (.if_icmp .ge 72, 3) := by decide +kernel
theorem dX5_weakStructure_10 : decode cX5_weakStructure 10 = .ok (.aload_n 0, 1) := by decide +kernel
theorem dX5_weakStructure_11 : decode cX5_weakStructure 11 = .ok (.iload_n 1, 1) := by decide +kernel
theorem dX5_weakStructure_12 : decode cX5_weakStructure 12 = .ok (.iconst 0, 1) := by decide +kernel
theorem dX5_weakStructure_13 : decode cX5_weakStructure 13 = .ok (.invokevirtual 72, 3) := by decide +kernel
theorem dX5_weakStructure_16 : decode cX5_weakStructure 16 = .ok (.istore_n 2, 1) := by decide +kernel
theorem dX5_weakStructure_17 : decode cX5_weakStructure 17 = .ok (.iload_n 2, 1) := by decide +kernel
theorem dX5_weakStructure_18 : decode cX5_weakStructure 18 = .ok (.bipush 7, 2) := by decide +kernel
theorem dX5_weakStructure_20 : decode cX5_weakStructure 20 = .ok (.iand, 1) := by decide +kernel
theorem dX5_weakStructure_21 : decode cX5_weakStructure 21 = .ok (.iload_n 2, 1) := by decide +kernel
theorem dX5_weakStructure_22 : decode cX5_weakStructure 22 = .ok (.bipush 8, 2) := by decide +kernel
theorem dX5_weakStructure_24 : decode cX5_weakStructure 24 = .ok (.iand, 1) := by decide +kernel
theorem dX5_weakStructure_25 : decode cX5_weakStructure 25 = .ok (.ifCond .eq 7, 3) := by decide +kernel
theorem dX5_weakStructure_28 : decode cX5_weakStructure 28 = .ok (.iconst 4, 1) := by decide +kernel
theorem dX5_weakStructure_29 : decode cX5_weakStructure 29 = .ok (.goto 4, 3) := by decide +kernel
theorem dX5_weakStructure_32 : decode cX5_weakStructure 32 = .ok (.iconst 0, 1) := by decide +kernel
theorem dX5_weakStructure_33 : decode cX5_weakStructure 33 = .ok (.ior, 1) := by decide +kernel
theorem dX5_weakStructure_34 : decode cX5_weakStructure 34 = .ok (.istore_n 3, 1) := by decide +kernel
theorem dX5_weakStructure_35 : decode cX5_weakStructure 35 = .ok (.iconst 0, 1) := by decide +kernel
theorem dX5_weakStructure_36 : decode cX5_weakStructure 36 = .ok (.istore 4, 2) := by decide +kernel
theorem dX5_weakStructure_38 : decode cX5_weakStructure 38 = .ok (.iload 4, 2) := by decide +kernel
theorem dX5_weakStructure_40 : decode cX5_weakStructure 40 = .ok (.aload_n 0, 1) := by decide +kernel
theorem dX5_weakStructure_41 : decode cX5_weakStructure 41 = .ok (.iload_n 1, 1) := by decide +kernel
theorem dX5_weakStructure_42 : decode cX5_weakStructure 42 = .ok (.invokevirtual 122, 3) := by decide +kernel
theorem dX5_weakStructure_45 : decode cX5_weakStructure 45 = .ok (.if_icmp .ge 28, 3) := by decide +kernel
theorem dX5_weakStructure_48 : decode cX5_weakStructure 48 = .ok (.aload_n 0, 1) := by decide +kernel
theorem dX5_weakStructure_49 : decode cX5_weakStructure 49 = .ok (.aload_n 0, 1) := by decide +kernel
theorem dX5_weakStructure_50 : decode cX5_weakStructure 50 = .ok (.iload_n 1, 1) := by decide +kernel
theorem dX5_weakStructure_51 : decode cX5_weakStructure 51 = .ok (.iload 4, 2) := by decide +kernel
theorem dX5_weakStructure_53 : decode cX5_weakStructure 53 = .ok (.invokevirtual 125, 3) := by decide +kernel
theorem dX5_weakStructure_56 : decode cX5_weakStructure 56 = .ok (.invokevirtual 128, 3) := by decide +kernel
theorem dX5_weakStructure_59 : decode cX5_weakStructure 59 = .ok (.iload_n 3, 1) := by decide +kernel
theorem dX5_weakStructure_60 : decode cX5_weakStructure 60 = .ok (.iand, 1) := by decide +kernel
theorem dX5_weakStructure_61 : decode cX5_weakStructure 61 = .ok (.iload_n 3, 1) := by decide +kernel
theorem dX5_weakStructure_62 : decode cX5_weakStructure 62 = .ok (.if_icmp .eq 5, 3) := by decide +kernel
theorem dX5_weakStructure_65 : decode cX5_weakStructure 65 = .ok (.iload_n 1, 1) := by decide +kernel
theorem dX5_weakStructure_66 : decode cX5_weakStructure 66 = .ok (.ireturn, 1) := by decide +kernel
theorem dX5_weakStructure_67 : decode cX5_weakStructure 67 = .ok (.iinc 4 1, 3) := by decide +kernel
theorem dX5_weakStructure_70 : decode cX5_weakStructure 70 = .ok (.goto (-32), 3) := by decide +kernel
theorem dX5_weakStructure_73 : decode cX5_weakStructure 73 = .ok (.iinc 1 1, 3) := by decide +kernel
theorem dX5_weakStructure_76 : decode cX5_weakStructure 76 = .ok (.goto (-74), 3) := by decide +kernel
theorem dX5_weakStructure_79 : decode cX5_weakStructure 79 = .ok (.iconst (-1), 1) := by decide +kernel
theorem dX5_weakStructure_80 : decode cX5_weakStructure 80 = .ok (.ireturn, 1) := by decide +kernel
theorem dX5_deepStructure_0 : decode cX5_deepStructure 0 = .ok (.iconst 0, 1) := by decide +kernel
theorem dX5_deepStructure_1 : decode cX5_deepStructure 1 = .ok (.istore_n 1, 1) := by decide +kernel
theorem dX5_deepStructure_2 : decode cX5_deepStructure 2 = .ok (.iload_n 1, 1) := by decide +kernel
theorem dX5_deepStructure_3 : decode cX5_deepStructure 3 = .ok (.aload_n 0, 1) := by decide +kernel
theorem dX5_deepStructure_4 : decode cX5_deepStructure 4 = .ok (.getfield 99, 3) := by decide +kernel
theorem dX5_deepStructure_7 : decode cX5_deepStructure 7 = .ok (.if_icmp .ge 23, 3) := by decide +kernel
theorem dX5_deepStructure_10 : decode cX5_deepStructure 10 = .ok (.aload_n 0, 1) := by decide +kernel
theorem dX5_deepStructure_11 : decode cX5_deepStructure 11 = .ok (.iload_n 1, 1) := by decide +kernel
theorem dX5_deepStructure_12 : decode cX5_deepStructure 12 = .ok (.bipush 6, 2) := by decide +kernel
theorem dX5_deepStructure_14 : decode cX5_deepStructure 14 = .ok (.invokevirtual 72, 3) := by decide +kernel
theorem dX5_deepStructure_17 : decode cX5_deepStructure 17 = .ok (.bipush 24, 2) := by decide +kernel
theorem dX5_deepStructure_19 : decode cX5_deepStructure 19 = .ok (.if_icmp .le 5, 3) := by decide +kernel
theorem dX5_deepStructure_22 : decode cX5_deepStructure 22 = .ok (.iload_n 1, 1) := by decide +kernel
theorem dX5_deepStructure_23 : decode cX5_deepStructure 23 = .ok (.ireturn, 1) := by decide +kernel
theorem dX5_deepStructure_24 : decode cX5_deepStructure 24 = .ok (.iinc 1 1, 3) := by decide +kernel
theorem dX5_deepStructure_27 : decode cX5_deepStructure 27 = .ok (.goto (-25), 3) := by decide +kernel
theorem dX5_deepStructure_30 : decode cX5_deepStructure 30 = .ok (.iconst (-1), 1) := by decide +kernel
theorem dX5_deepStructure_31 : decode cX5_deepStructure 31 = .ok (.ireturn, 1) := by decide +kernel
theorem dX7_charge_0 : decode cX7_charge 0 = .ok (.aload_n 0, 1) := by decide +kernel
theorem dX7_charge_1 : decode cX7_charge 1 = .ok (.aload_n 1, 1) := by decide +kernel
theorem dX7_charge_2 : decode cX7_charge 2 = .ok (.getfield 67, 3) := by decide +kernel
theorem dX7_charge_5 : decode cX7_charge 5 = .ok (.invokevirtual 73, 3) := by decide +kernel
theorem dX7_charge_8 : decode cX7_charge 8 = .ok (.istore_n 2, 1) := by decide +kernel
theorem dX7_charge_9 : decode cX7_charge 9 = .ok (.iload_n 2, 1) := by decide +kernel
theorem dX7_charge_10 : decode cX7_charge 10 = .ok (.ifCond .lt 27, 3) := by decide +kernel
theorem dX7_charge_13 : decode cX7_charge 13 = .ok (.aload_n 0, 1) := by decide +kernel
theorem dX7_charge_14 : decode cX7_charge 14 = .ok (.getfield 15, 3) := by decide +kernel
theorem dX7_charge_17 : decode cX7_charge 17 = .ok (.iload_n 2, 1) := by decide +kernel
theorem dX7_charge_18 : decode cX7_charge 18 = .ok (.dup2, 1) := by decide +kernel
theorem dX7_charge_19 : decode cX7_charge 19 = .ok (.laload, 1) := by decide +kernel
theorem dX7_charge_20 : decode cX7_charge 20 = .ok (.aload_n 1, 1) := by decide +kernel
theorem dX7_charge_21 : decode cX7_charge 21 = .ok (.getfield 77, 3) := by decide +kernel
theorem dX7_charge_24 : decode cX7_charge 24 = .ok (.i2l, 1) := by decide +kernel
theorem dX7_charge_25 : decode cX7_charge 25 = .ok (.lsub, 1) := by decide +kernel
theorem dX7_charge_26 : decode cX7_charge 26 = .ok (.lastore, 1) := by decide +kernel
theorem dX7_charge_27 : decode cX7_charge 27 = .ok (.aload_n 0, 1) := by decide +kernel
theorem dX7_charge_28 : decode cX7_charge 28 = .ok (.getfield 18, 3) := by decide +kernel
theorem dX7_charge_31 : decode cX7_charge 31 = .ok (.iload_n 2, 1) := by decide +kernel
theorem dX7_charge_32 : decode cX7_charge 32 = .ok (.dup2, 1) := by decide +kernel
theorem dX7_charge_33 : decode cX7_charge 33 = .ok (.laload, 1) := by decide +kernel
theorem dX7_charge_34 : decode cX7_charge 34 = .ok (.lconst 1, 1) := by decide +kernel
theorem dX7_charge_35 : decode cX7_charge 35 = .ok (.ladd, 1) := by decide +kernel
theorem dX7_charge_36 : decode cX7_charge 36 = .ok (.lastore, 1) := by decide +kernel
theorem dX7_charge_37 : decode cX7_charge 37 = .ok (.return_, 1) := by decide +kernel
theorem dX7_settle_0 : decode cX7_settle 0 = .ok (.aload_n 0, 1) := by decide +kernel
theorem dX7_settle_1 : decode cX7_settle 1 = .ok (.aload_n 1, 1) := by decide +kernel
theorem dX7_settle_2 : decode cX7_settle 2 = .ok (.getfield 67, 3) := by decide +kernel
theorem dX7_settle_5 : decode cX7_settle 5 = .ok (.invokevirtual 73, 3) := by decide +kernel
theorem dX7_settle_8 : decode cX7_settle 8 = .ok (.istore_n 2, 1) := by decide +kernel
theorem dX7_settle_9 : decode cX7_settle 9 = .ok (.iload_n 2, 1) := by decide +kernel
theorem dX7_settle_10 : decode cX7_settle 10 = .ok (.ifCond .lt 36, 3) := by decide +kernel
theorem dX7_settle_13 : decode cX7_settle 13 = .ok (.aload_n 0, 1) := by decide +kernel
theorem dX7_settle_14 : decode cX7_settle 14 = .ok (.getfield 15, 3) := by decide +kernel
theorem dX7_settle_17 : decode cX7_settle 17 = .ok (.iload_n 2, 1) := by decide +kernel
theorem dX7_settle_18 : decode cX7_settle 18 = .ok (.dup2, 1) := by decide +kernel
theorem dX7_settle_19 : decode cX7_settle 19 = .ok (.laload, 1) := by decide +kernel
theorem dX7_settle_20 : decode cX7_settle 20 = .ok (.aload_n 1, 1) := by decide +kernel
theorem dX7_settle_21 : decode cX7_settle 21 = .ok (.getfield 77, 3) := by decide +kernel
theorem dX7_settle_24 : decode cX7_settle 24 = .ok (.aload_n 1, 1) := by decide +kernel
theorem dX7_settle_25 : decode cX7_settle 25 = .ok (.getfield 80, 3) := by decide +kernel
theorem dX7_settle_28 : decode cX7_settle 28 = .ok (.isub, 1) := by decide +kernel
theorem dX7_settle_29 : decode cX7_settle 29 = .ok (.i2l, 1) := by decide +kernel
theorem dX7_settle_30 : decode cX7_settle 30 = .ok (.ladd, 1) := by decide +kernel
theorem dX7_settle_31 : decode cX7_settle 31 = .ok (.lastore, 1) := by decide +kernel
theorem dX7_settle_32 : decode cX7_settle 32 = .ok (.aload_n 0, 1) := by decide +kernel
theorem dX7_settle_33 : decode cX7_settle 33 = .ok (.dup, 1) := by decide +kernel
theorem dX7_settle_34 : decode cX7_settle 34 = .ok (.getfield 83, 3) := by decide +kernel
theorem dX7_settle_37 : decode cX7_settle 37 = .ok (.aload_n 1, 1) := by decide +kernel
theorem dX7_settle_38 : decode cX7_settle 38 = .ok (.getfield 80, 3) := by decide +kernel
theorem dX7_settle_41 : decode cX7_settle 41 = .ok (.i2l, 1) := by decide +kernel
theorem dX7_settle_42 : decode cX7_settle 42 = .ok (.ladd, 1) := by decide +kernel
theorem dX7_settle_43 : decode cX7_settle 43 = .ok (.putfield 83, 3) := by decide +kernel
theorem dX7_settle_46 : decode cX7_settle 46 = .ok (.return_, 1) := by decide +kernel
theorem dX7_findProgram_0 : decode cX7_findProgram 0 = .ok (.iconst 0, 1) := by decide +kernel
theorem dX7_findProgram_1 : decode cX7_findProgram 1 = .ok (.istore_n 2, 1) := by decide +kernel
theorem dX7_findProgram_2 : decode cX7_findProgram 2 = .ok (.iload_n 2, 1) := by decide +kernel
theorem dX7_findProgram_3 : decode cX7_findProgram 3 = .ok (.aload_n 0, 1) := by decide +kernel
theorem dX7_findProgram_4 : decode cX7_findProgram 4 = .ok (.getfield 55, 3) := by decide +kernel
theorem dX7_findProgram_7 : decode cX7_findProgram 7 = .ok (.if_icmp .gt 29, 3) := by decide +kernel
theorem dX7_findProgram_10 : decode cX7_findProgram 10 = .ok (.aload_n 0, 1) := by decide +kernel
theorem dX7_findProgram_11 : decode cX7_findProgram 11 = .ok (.getfield 23, 3) := by decide +kernel
theorem dX7_findProgram_14 : decode cX7_findProgram 14 = .ok (.iload_n 2, 1) := by decide +kernel
theorem dX7_findProgram_15 : decode cX7_findProgram 15 = .ok (.aaload, 1) := by decide +kernel
theorem dX7_findProgram_16 : decode cX7_findProgram 16 = .ok (.getfield 86, 3) := by decide +kernel
theorem dX7_findProgram_19 : decode cX7_findProgram 19 = .ok (.iload_n 1, 1) := by decide +kernel
theorem dX7_findProgram_20 : decode cX7_findProgram 20 = .ok (.if_icmp .ne 10, 3) := by decide +kernel
theorem dX7_findProgram_23 : decode cX7_findProgram 23 = .ok (.aload_n 0, 1) := by decide +kernel
theorem dX7_findProgram_24 : decode cX7_findProgram 24 = .ok (.getfield 23, 3) := by decide +kernel
theorem dX7_findProgram_27 : decode cX7_findProgram 27 = .ok (.iload_n 2, 1) := by decide +kernel
theorem dX7_findProgram_28 : decode cX7_findProgram 28 = .ok (.aaload, 1) := by decide +kernel
theorem dX7_findProgram_29 : decode cX7_findProgram 29 = .ok (.areturn, 1) := by decide +kernel
theorem dX7_findProgram_30 : decode cX7_findProgram 30 = .ok (.iinc 2 1, 3) := by decide +kernel
theorem dX7_findProgram_33 : decode cX7_findProgram 33 = .ok (.goto (-31), 3) := by decide +kernel
theorem dX7_findProgram_36 : decode cX7_findProgram 36 = .ok (.aconst_null, 1) := by decide +kernel
theorem dX7_findProgram_37 : decode cX7_findProgram 37 = .ok (.areturn, 1) := by decide +kernel
theorem dX7_freeSlot_0 : decode cX7_freeSlot 0 = .ok (.iconst 0, 1) := by decide +kernel
theorem dX7_freeSlot_1 : decode cX7_freeSlot 1 = .ok (.istore_n 1, 1) := by decide +kernel
theorem dX7_freeSlot_2 : decode cX7_freeSlot 2 = .ok (.iload_n 1, 1) := by decide +kernel
theorem dX7_freeSlot_3 : decode cX7_freeSlot 3 = .ok (.sipush 256, 3) := by decide +kernel
theorem dX7_freeSlot_6 : decode cX7_freeSlot 6 = .ok (.if_icmp .ge 20, 3) := by decide +kernel
theorem dX7_freeSlot_9 : decode cX7_freeSlot 9 = .ok (.aload_n 0, 1) := by decide +kernel
theorem dX7_freeSlot_10 : decode cX7_freeSlot 10 = .ok (.getfield 37, 3) := by decide +kernel
theorem dX7_freeSlot_13 : decode cX7_freeSlot 13 = .ok (.iload_n 1, 1) := by decide +kernel
theorem dX7_freeSlot_14 : decode cX7_freeSlot 14 = .ok (.iaload, 1) := by decide +kernel
theorem dX7_freeSlot_15 : decode cX7_freeSlot 15 = .ok (.ifCond .ne 5, 3) := by decide +kernel
theorem dX7_freeSlot_18 : decode cX7_freeSlot 18 = .ok (.iload_n 1, 1) := by decide +kernel
theorem dX7_freeSlot_19 : decode cX7_freeSlot 19 = .ok (.ireturn, 1) := by decide +kernel
theorem dX7_freeSlot_20 : decode cX7_freeSlot 20 = .ok (.iinc 1 1, 3) := by decide +kernel
theorem dX7_freeSlot_23 : decode cX7_freeSlot 23 = .ok (.goto (-21), 3) := by decide +kernel
theorem dX7_freeSlot_26 : decode cX7_freeSlot 26 = .ok (.iconst (-1), 1) := by decide +kernel
theorem dX7_freeSlot_27 : decode cX7_freeSlot 27 = .ok (.ireturn, 1) := by decide +kernel
theorem dX7_slotFor_0 : decode cX7_slotFor 0 = .ok (.aload_n 0, 1) := by decide +kernel
theorem dX7_slotFor_1 : decode cX7_slotFor 1 = .ok (.lload_n 1, 1) := by decide +kernel
theorem dX7_slotFor_2 : decode cX7_slotFor 2 = .ok (.iload_n 3, 1) := by decide +kernel
theorem dX7_slotFor_3 : decode cX7_slotFor 3 = .ok (.iload 4, 2) := by decide +kernel
theorem dX7_slotFor_5 : decode cX7_slotFor 5 = .ok (.invokevirtual 89, 3) := by decide +kernel
theorem dX7_slotFor_8 : decode cX7_slotFor 8 = .ok (.istore 5, 2) := by decide +kernel
theorem dX7_slotFor_10 : decode cX7_slotFor 10 = .ok (.iload 5, 2) := by decide +kernel
theorem dX7_slotFor_12 : decode cX7_slotFor 12 = .ok (.ifCond .lt 6, 3) := by decide +kernel
theorem dX7_slotFor_15 : decode cX7_slotFor 15 = .ok (.iload 5, 2) := by decide +kernel
theorem dX7_slotFor_17 : decode cX7_slotFor 17 = .ok (.ireturn, 1) := by decide +kernel
theorem dX7_slotFor_18 : decode cX7_slotFor 18 = .ok (.aload_n 0, 1) := by decide +kernel
theorem dX7_slotFor_19 : decode cX7_slotFor 19 = .ok (.invokevirtual 93, 3) := by decide +kernel
theorem dX7_slotFor_22 : decode cX7_slotFor 22 = .ok (.istore 5, 2) := by decide +kernel
theorem dX7_slotFor_24 : decode cX7_slotFor 24 = .ok (.iload 5, 2) := by decide +kernel
theorem dX7_slotFor_26 : decode cX7_slotFor 26 = .ok (.ifCond .lt 38, 3) := by decide +kernel
theorem dX7_slotFor_29 : decode cX7_slotFor 29 = .ok (.aload_n 0, 1) := by decide +kernel
theorem dX7_slotFor_30 : decode cX7_slotFor 30 = .ok (.getfield 27, 3) := by decide +kernel
theorem dX7_slotFor_33 : decode cX7_slotFor 33 = .ok (.iload 5, 2) := by decide +kernel
theorem dX7_slotFor_35 : decode cX7_slotFor 35 = .ok (.lload_n 1, 1) := by decide +kernel
theorem dX7_slotFor_36 : decode cX7_slotFor 36 = .ok (.lastore, 1) := by decide +kernel
theorem dX7_slotFor_37 : decode cX7_slotFor 37 = .ok (.aload_n 0, 1) := by decide +kernel
theorem dX7_slotFor_38 : decode cX7_slotFor 38 = .ok (.getfield 30, 3) := by decide +kernel
theorem dX7_slotFor_41 : decode cX7_slotFor 41 = .ok (.iload 5, 2) := by decide +kernel
theorem dX7_slotFor_43 : decode cX7_slotFor 43 = .ok (.iload_n 3, 1) := by decide +kernel
theorem dX7_slotFor_44 : decode cX7_slotFor 44 = .ok (.iastore, 1) := by decide +kernel
theorem dX7_slotFor_45 : decode cX7_slotFor 45 = .ok (.aload_n 0, 1) := by decide +kernel
theorem dX7_slotFor_46 : decode cX7_slotFor 46 = .ok (.getfield 34, 3) := by decide +kernel
theorem dX7_slotFor_49 : decode cX7_slotFor 49 = .ok (.iload 5, 2) := by decide +kernel
theorem dX7_slotFor_51 : decode cX7_slotFor 51 = .ok (.iload 4, 2) := by decide +kernel
theorem dX7_slotFor_53 : decode cX7_slotFor 53 = .ok (.iastore, 1) := by decide +kernel
theorem dX7_slotFor_54 : decode cX7_slotFor 54 = .ok (.aload_n 0, 1) := by decide +kernel
theorem dX7_slotFor_55 : decode cX7_slotFor 55 = .ok (.dup, 1) := by decide +kernel
theorem dX7_slotFor_56 : decode cX7_slotFor 56 = .ok (.getfield 58, 3) := by decide +kernel
theorem dX7_slotFor_59 : decode cX7_slotFor 59 = .ok (.iconst 1, 1) := by decide +kernel
theorem dX7_slotFor_60 : decode cX7_slotFor 60 = .ok (.iadd, 1) := by decide +kernel
theorem dX7_slotFor_61 : decode cX7_slotFor 61 = .ok (.putfield 58, 3) := by decide +kernel
theorem dX7_slotFor_64 : decode cX7_slotFor 64 = .ok (.iload 5, 2) := by decide +kernel
theorem dX7_slotFor_66 : decode cX7_slotFor 66 = .ok (.ireturn, 1) := by decide +kernel
theorem dX7_removeResource_0 : decode cX7_removeResource 0 = .ok (.aload_n 0, 1) := by decide +kernel
theorem dX7_removeResource_1 : decode cX7_removeResource 1 = .ok (.lload_n 1, 1) := by decide +kernel
theorem dX7_removeResource_2 : decode cX7_removeResource 2 = .ok (.iload_n 3, 1) := by decide +kernel
theorem dX7_removeResource_3 : decode cX7_removeResource 3 = .ok (.iload 4, 2) := by decide +kernel
theorem dX7_removeResource_5 : decode cX7_removeResource 5 = .ok (.invokevirtual 89, 3) := by decide +kernel
theorem dX7_removeResource_8 : decode cX7_removeResource 8 = .ok (.istore 5, 2) := by decide +kernel
theorem dX7_removeResource_10 : decode cX7_removeResource 10 = .ok (.iload 5, 2) := by decide +kernel
theorem dX7_removeResource_12 : decode cX7_removeResource 12 = .ok (.ifCond .lt 21, 3) := by decide +kernel
theorem dX7_removeResource_15 : decode cX7_removeResource 15 = .ok (.aload_n 0, 1) := by decide +kernel
theorem dX7_removeResource_16 : decode cX7_removeResource 16 = .ok (.getfield 37, 3) := by decide +kernel
theorem dX7_removeResource_19 : decode cX7_removeResource 19 = .ok (.iload 5, 2) := by decide +kernel
theorem dX7_removeResource_21 : decode cX7_removeResource 21 = .ok (.iconst 0, 1) := by decide +kernel
theorem dX7_removeResource_22 : decode cX7_removeResource 22 = .ok (.iastore, 1) := by decide +kernel
theorem dX7_removeResource_23 : decode cX7_removeResource 23 = .ok (.aload_n 0, 1) := by decide +kernel
theorem dX7_removeResource_24 : decode cX7_removeResource 24 = .ok (.dup, 1) := by decide +kernel
theorem dX7_removeResource_25 : decode cX7_removeResource 25 = .ok (.getfield 58, 3) := by decide +kernel
theorem dX7_removeResource_28 : decode cX7_removeResource 28 = .ok (.iconst 1, 1) := by decide +kernel
theorem dX7_removeResource_29 : decode cX7_removeResource 29 = .ok (.isub, 1) := by decide +kernel
theorem dX7_removeResource_30 : decode cX7_removeResource 30 = .ok (.putfield 58, 3) := by decide +kernel
theorem dX7_removeResource_33 : decode cX7_removeResource 33 = .ok (.return_, 1) := by decide +kernel
theorem dX7_writeBytes_0 : decode cX7_writeBytes 0 = .ok (.iconst 0, 1) := by decide +kernel
theorem dX7_writeBytes_1 : decode cX7_writeBytes 1 = .ok (.istore_n 3, 1) := by decide +kernel
theorem dX7_writeBytes_2 : decode cX7_writeBytes 2 = .ok (.iload_n 1, 1) := by decide +kernel
theorem dX7_writeBytes_3 : decode cX7_writeBytes 3 = .ok (.bipush 64, 2) := by decide +kernel
theorem dX7_writeBytes_5 : decode cX7_writeBytes 5 = .ok (.imul, 1) := by decide +kernel
theorem dX7_writeBytes_6 : decode cX7_writeBytes 6 = .ok (.istore 4, 2) := by decide +kernel
theorem dX7_writeBytes_8 : decode cX7_writeBytes 8 = .ok (.iload 4, 2) := by decide +kernel
theorem dX7_writeBytes_10 : decode cX7_writeBytes 10 = .ok (.iload_n 1, 1) := by decide +kernel
theorem dX7_writeBytes_11 : decode cX7_writeBytes 11 = .ok (.bipush 64, 2) := by decide +kernel
theorem dX7_writeBytes_13 : decode cX7_writeBytes 13 = .ok (.imul, 1) := by decide +kernel
theorem dX7_writeBytes_14 : decode cX7_writeBytes 14 = .ok (.aload_n 0, 1) := by decide +kernel
theorem dX7_writeBytes_15 : decode cX7_writeBytes 15 = .ok (.getfield 37, 3) := by decide +kernel
theorem dX7_writeBytes_18 : decode cX7_writeBytes 18 = .ok (.iload_n 1, 1) := by decide +kernel
theorem dX7_writeBytes_19 : decode cX7_writeBytes 19 = .ok (.iaload, 1) := by decide +kernel
theorem dX7_writeBytes_20 : decode cX7_writeBytes 20 = .ok (.iadd, 1) := by decide +kernel
theorem dX7_writeBytes_21 : decode cX7_writeBytes 21 = .ok (.if_icmp .ge 120, 3) := by decide +kernel
theorem dX7_writeBytes_24 : decode cX7_writeBytes 24 = .ok (.aload_n 0, 1) := by decide +kernel
theorem dX7_writeBytes_25 : decode cX7_writeBytes 25 = .ok (.getfield 40, 3) := by decide +kernel
theorem dX7_writeBytes_28 : decode cX7_writeBytes 28 = .ok (.iload 4, 2) := by decide +kernel
theorem dX7_writeBytes_30 : decode cX7_writeBytes 30 = .ok (.baload, 1) := by decide +kernel
theorem dX7_writeBytes_31 : decode cX7_writeBytes 31 = .ok (.bipush 7, 2) := by decide +kernel
theorem dX7_writeBytes_33 : decode cX7_writeBytes 33 = .ok (.if_icmp .ne 13, 3) := by decide +kernel
theorem dX7_writeBytes_36 : decode cX7_writeBytes 36 = .ok (.aload_n 0, 1) := by decide +kernel
theorem dX7_writeBytes_37 : decode cX7_writeBytes 37 = .ok (.getfield 44, 3) := by decide +kernel
theorem dX7_writeBytes_40 : decode cX7_writeBytes 40 = .ok (.iload 4, 2) := by decide +kernel
theorem dX7_writeBytes_42 : decode cX7_writeBytes 42 = .ok (.laload, 1) := by decide +kernel
theorem dX7_writeBytes_43 : decode cX7_writeBytes 43 = .ok (.goto 10, 3) := by decide +kernel
theorem dX7_writeBytes_46 : decode cX7_writeBytes 46 = .ok (.aload_n 0, 1) := by decide +kernel
theorem dX7_writeBytes_47 : decode cX7_writeBytes 47 = .ok (.getfield 47, 3) := by decide +kernel
theorem dX7_writeBytes_50 : decode cX7_writeBytes 50 = .ok (.iload 4, 2) := by decide +kernel
theorem dX7_writeBytes_52 : decode cX7_writeBytes 52 = .ok (.laload, 1) := by decide +kernel
theorem dX7_writeBytes_53 : decode cX7_writeBytes 53 = .ok (.lstore 5, 2) := by decide +kernel
theorem dX7_writeBytes_55 : decode cX7_writeBytes 55 = .ok (.aload_n 0, 1) := by decide +kernel
theorem dX7_writeBytes_56 : decode cX7_writeBytes 56 = .ok (.getfield 40, 3) := by decide +kernel
theorem dX7_writeBytes_59 : decode cX7_writeBytes 59 = .ok (.iload 4, 2) := by decide +kernel
theorem dX7_writeBytes_61 : decode cX7_writeBytes 61 = .ok (.baload, 1) := by decide +kernel
theorem dX7_writeBytes_62 : decode cX7_writeBytes 62 = .ok (.invokestatic 97, 3) := by decide +kernel
theorem dX7_writeBytes_65 : decode cX7_writeBytes 65 = .ok (.istore 7, 2) := by decide +kernel
theorem dX7_writeBytes_67 : decode cX7_writeBytes 67 = .ok (.iload_n 3, 1) := by decide +kernel
theorem dX7_writeBytes_68 : decode cX7_writeBytes 68 = .ok (.iload 7, 2) := by decide +kernel
theorem dX7_writeBytes_70 : decode cX7_writeBytes 70 = .ok (.iadd, 1) := by decide +kernel
theorem dX7_writeBytes_71 : decode cX7_writeBytes 71 = .ok (.aload_n 2, 1) := by decide +kernel
theorem dX7_writeBytes_72 : decode cX7_writeBytes 72 = .ok (.arraylength, 1) := by decide +kernel
theorem dX7_writeBytes_73 : decode cX7_writeBytes 73 = .ok (.if_icmp .le 5, 3) := by decide +kernel
theorem dX7_writeBytes_76 : decode cX7_writeBytes 76 = .ok (.iload_n 3, 1) := by decide +kernel
theorem dX7_writeBytes_77 : decode cX7_writeBytes 77 = .ok (.ireturn, 1) := by decide +kernel
theorem dX7_writeBytes_78 : decode cX7_writeBytes 78 = .ok (.iload 7, 2) := by decide +kernel
theorem dX7_writeBytes_80 : decode cX7_writeBytes 80 = .ok (.iconst 1, 1) := by decide +kernel
theorem dX7_writeBytes_81 : decode cX7_writeBytes 81 = .ok (.isub, 1) := by decide +kernel
theorem dX7_writeBytes_82 : decode cX7_writeBytes 82 = .ok (.istore 8, 2) := by decide +kernel
theorem dX7_writeBytes_84 : decode cX7_writeBytes 84 = .ok (.iload 8, 2) := by decide +kernel
theorem dX7_writeBytes_86 : decode cX7_writeBytes 86 = .ok (.ifCond .lt 49, 3) := by decide +kernel
theorem dX7_writeBytes_89 : decode cX7_writeBytes 89 = .ok (.iload 8, 2) := by decide +kernel
theorem dX7_writeBytes_91 : decode cX7_writeBytes 91 = .ok (.bipush 8, 2) := by decide +kernel
theorem dX7_writeBytes_93 : decode cX7_writeBytes 93 = .ok (.if_icmp .lt 13, 3) := by decide +kernel
theorem dX7_writeBytes_96 : decode cX7_writeBytes 96 = .ok (.aload_n 0, 1) := by decide +kernel
theorem dX7_writeBytes_97 : decode cX7_writeBytes 97 = .ok (.getfield 44, 3) := by decide +kernel
theorem dX7_writeBytes_100 : decode cX7_writeBytes 100 = .ok (.iload 4, 2) := by decide +kernel
theorem dX7_writeBytes_102 : decode cX7_writeBytes 102 = .ok (.laload, 1) := by decide +kernel
theorem dX7_writeBytes_103 : decode cX7_writeBytes 103 = .ok (.goto 5, 3) := by decide +kernel
theorem dX7_writeBytes_106 : decode cX7_writeBytes 106 = .ok (.lload 5, 2) := by decide +kernel
theorem dX7_writeBytes_108 : decode cX7_writeBytes 108 = .ok (.lstore 9, 2) := by decide +kernel
theorem dX7_writeBytes_110 : decode cX7_writeBytes 110 = .ok (.aload_n 2, 1) := by decide +kernel
theorem dX7_writeBytes_111 : decode cX7_writeBytes 111 = .ok (.iload_n 3, 1) := by decide +kernel
theorem dX7_writeBytes_112 : decode cX7_writeBytes 112 = .ok (.iinc 3 1, 3) := by decide +kernel
theorem dX7_writeBytes_115 : decode cX7_writeBytes 115 = .ok (.lload 9, 2) := by decide +kernel
theorem dX7_writeBytes_117 : decode cX7_writeBytes 117 = .ok (.iload 8, 2) := by decide +kernel
theorem dX7_writeBytes_119 : decode cX7_writeBytes 119 = .ok (.bipush 8, 2) := by decide +kernel
theorem dX7_writeBytes_121 : decode cX7_writeBytes 121 = .ok (.irem, 1) := by decide +kernel
theorem dX7_writeBytes_122 : decode cX7_writeBytes 122 = .ok (.bipush 8, 2) := by decide +kernel
theorem dX7_writeBytes_124 : decode cX7_writeBytes 124 = .ok (.imul, 1) := by decide +kernel
theorem dX7_writeBytes_125 : decode cX7_writeBytes 125 = .ok (.lushr, 1) := by decide +kernel
theorem dX7_writeBytes_126 : decode cX7_writeBytes 126 = .ok (.l2i, 1) := by decide +kernel
theorem dX7_writeBytes_127 : decode cX7_writeBytes 127 = .ok (.i2b, 1) := by decide +kernel
theorem dX7_writeBytes_128 : decode cX7_writeBytes 128 = .ok (.bastore, 1) := by decide +kernel
theorem dX7_writeBytes_129 : decode cX7_writeBytes 129 = .ok (.iinc 8 (-1), 3) := by decide +kernel
theorem dX7_writeBytes_132 : decode cX7_writeBytes 132 = .ok (.goto (-48), 3) := by decide +kernel
theorem dX7_writeBytes_135 : decode cX7_writeBytes 135 = .ok (.iinc 4 1, 3) := by decide +kernel
theorem dX7_writeBytes_138 : decode cX7_writeBytes 138 = .ok (.goto (-130), 3) := by decide +kernel
theorem dX7_writeBytes_141 : decode cX7_writeBytes 141 = .ok (.iload_n 3, 1) := by decide +kernel
theorem dX7_writeBytes_142 : decode cX7_writeBytes 142 = .ok (.ireturn, 1) := by decide +kernel
theorem dX7_widthOf_0 : decode cX7_widthOf 0 = .ok (.iload_n 0, 1) := by decide +kernel
theorem dX7_widthOf_1 : decode cX7_widthOf 1 = .ok (.tableswitch 52 1 7 #[43, 43, 52, 47, 52, 50, 45], 43) := by decide +kernel
theorem dX7_widthOf_44 : decode cX7_widthOf 44 = .ok (.iconst 1, 1) := by decide +kernel
theorem dX7_widthOf_45 : decode cX7_widthOf 45 = .ok (.ireturn, 1) := by decide +kernel
theorem dX7_widthOf_46 : decode cX7_widthOf 46 = .ok (.iconst 2, 1) := by decide +kernel
theorem dX7_widthOf_47 : decode cX7_widthOf 47 = .ok (.ireturn, 1) := by decide +kernel
theorem dX7_widthOf_48 : decode cX7_widthOf 48 = .ok (.bipush 16, 2) := by decide +kernel
theorem dX7_widthOf_50 : decode cX7_widthOf 50 = .ok (.ireturn, 1) := by decide +kernel
theorem dX7_widthOf_51 : decode cX7_widthOf 51 = .ok (.iconst 0, 1) := by decide +kernel
theorem dX7_widthOf_52 : decode cX7_widthOf 52 = .ok (.ireturn, 1) := by decide +kernel
theorem dX7_widthOf_53 : decode cX7_widthOf 53 = .ok (.bipush 8, 2) := by decide +kernel
theorem dX7_widthOf_55 : decode cX7_widthOf 55 = .ok (.ireturn, 1) := by decide +kernel
theorem dX8_addArgument_0 : decode cX8_addArgument 0 = .ok (.aload_n 0, 1) := by decide +kernel
theorem dX8_addArgument_1 : decode cX8_addArgument 1 = .ok (.getfield 46, 3) := by decide +kernel
theorem dX8_addArgument_4 : decode cX8_addArgument 4 = .ok (.bipush 8, 2) := by decide +kernel
theorem dX8_addArgument_6 : decode cX8_addArgument 6 = .ok (.if_icmp .lt 6, 3) := by decide +kernel
theorem dX8_addArgument_9 : decode cX8_addArgument 9 = .ok (.bipush (-3), 2) := by decide +kernel
theorem dX8_addArgument_11 : decode cX8_addArgument 11 = .ok (.ireturn, 1) := by decide +kernel
theorem dX8_addArgument_12 : decode cX8_addArgument 12 = .ok (.aload_n 0, 1) := by decide +kernel
theorem dX8_addArgument_13 : decode cX8_addArgument 13 = .ok (.getfield 9, 3) := by decide +kernel
theorem dX8_addArgument_16 : decode cX8_addArgument 16 = .ok (.aload_n 0, 1) := by decide +kernel
theorem dX8_addArgument_17 : decode cX8_addArgument 17 = .ok (.getfield 46, 3) := by decide +kernel
theorem dX8_addArgument_20 : decode cX8_addArgument 20 = .ok (.iload_n 1, 1) := by decide +kernel
theorem dX8_addArgument_21 : decode cX8_addArgument 21 = .ok (.iastore, 1) := by decide +kernel
theorem dX8_addArgument_22 : decode cX8_addArgument 22 = .ok (.aload_n 0, 1) := by decide +kernel
theorem dX8_addArgument_23 : decode cX8_addArgument 23 = .ok (.getfield 15, 3) := by decide +kernel
theorem dX8_addArgument_26 : decode cX8_addArgument 26 = .ok (.aload_n 0, 1) := by decide +kernel
theorem dX8_addArgument_27 : decode cX8_addArgument 27 = .ok (.getfield 46, 3) := by decide +kernel
theorem dX8_addArgument_30 : decode cX8_addArgument 30 = .ok (.lload_n 2, 1) := by decide +kernel
theorem dX8_addArgument_31 : decode cX8_addArgument 31 = .ok (.lastore, 1) := by decide +kernel
theorem dX8_addArgument_32 : decode cX8_addArgument 32 = .ok (.aload_n 0, 1) := by decide +kernel
theorem dX8_addArgument_33 : decode cX8_addArgument 33 = .ok (.getfield 19, 3) := by decide +kernel
theorem dX8_addArgument_36 : decode cX8_addArgument 36 = .ok (.aload_n 0, 1) := by decide +kernel
theorem dX8_addArgument_37 : decode cX8_addArgument 37 = .ok (.getfield 46, 3) := by decide +kernel
theorem dX8_addArgument_40 : decode cX8_addArgument 40 = .ok (.lload 4, 2) := by decide +kernel
theorem dX8_addArgument_42 : decode cX8_addArgument 42 = .ok (.lastore, 1) := by decide +kernel
theorem dX8_addArgument_43 : decode cX8_addArgument 43 = .ok (.aload_n 0, 1) := by decide +kernel
theorem dX8_addArgument_44 : decode cX8_addArgument 44 = .ok (.dup, 1) := by decide +kernel
theorem dX8_addArgument_45 : decode cX8_addArgument 45 = .ok (.getfield 46, 3) := by decide +kernel
theorem dX8_addArgument_48 : decode cX8_addArgument 48 = .ok (.iconst 1, 1) := by decide +kernel
theorem dX8_addArgument_49 : decode cX8_addArgument 49 = .ok (.iadd, 1) := by decide +kernel
theorem dX8_addArgument_50 : decode cX8_addArgument 50 = .ok (.putfield 46, 3) := by decide +kernel
theorem dX8_addArgument_53 : decode cX8_addArgument 53 = .ok (.aload_n 0, 1) := by decide +kernel
theorem dX8_addArgument_54 : decode cX8_addArgument 54 = .ok (.getfield 46, 3) := by decide +kernel
theorem dX8_addArgument_57 : decode cX8_addArgument 57 = .ok (.ireturn, 1) := by decide +kernel
theorem dX8_fits_0 : decode cX8_fits 0 = .ok (.aload_n 1, 1) := by decide +kernel
theorem dX8_fits_1 : decode cX8_fits 1 = .ok (.aload_n 0, 1) := by decide +kernel
theorem dX8_fits_2 : decode cX8_fits 2 = .ok (.getfield 59, 3) := by decide +kernel
theorem dX8_fits_5 : decode cX8_fits 5 = .ok (.invokevirtual 62, 3) := by decide +kernel
theorem dX8_fits_8 : decode cX8_fits 8 = .ok (.aload_n 0, 1) := by decide +kernel
theorem dX8_fits_9 : decode cX8_fits 9 = .ok (.getfield 46, 3) := by decide +kernel
theorem dX8_fits_12 : decode cX8_fits 12 = .ok (.if_icmp .eq 5, 3) := by decide +kernel
theorem dX8_fits_15 : decode cX8_fits 15 = .ok (.iconst 0, 1) := by decide +kernel
theorem dX8_fits_16 : decode cX8_fits 16 = .ok (.ireturn, 1) := by decide +kernel
theorem dX8_fits_17 : decode cX8_fits 17 = .ok (.iconst 0, 1) := by decide +kernel
theorem dX8_fits_18 : decode cX8_fits 18 = .ok (.istore_n 2, 1) := by decide +kernel
theorem dX8_fits_19 : decode cX8_fits 19 = .ok (.iload_n 2, 1) := by decide +kernel
theorem dX8_fits_20 : decode cX8_fits 20 = .ok (.aload_n 0, 1) := by decide +kernel
theorem dX8_fits_21 : decode cX8_fits 21 = .ok (.getfield 46, 3) := by decide +kernel
theorem dX8_fits_24 : decode cX8_fits 24 = .ok (.if_icmp .ge 31, 3) := by decide +kernel
theorem dX8_fits_27 : decode cX8_fits 27 = .ok (.aload_n 1, 1) := by decide +kernel
theorem dX8_fits_28 : decode cX8_fits 28 = .ok (.aload_n 0, 1) := by decide +kernel
theorem dX8_fits_29 : decode cX8_fits 29 = .ok (.getfield 59, 3) := by decide +kernel
theorem dX8_fits_32 : decode cX8_fits 32 = .ok (.iload_n 2, 1) := by decide +kernel
theorem dX8_fits_33 : decode cX8_fits 33 = .ok (.invokevirtual 68, 3) := by decide +kernel
theorem dX8_fits_36 : decode cX8_fits 36 = .ok (.aload_n 0, 1) := by decide +kernel
theorem dX8_fits_37 : decode cX8_fits 37 = .ok (.getfield 9, 3) := by decide +kernel
theorem dX8_fits_40 : decode cX8_fits 40 = .ok (.iload_n 2, 1) := by decide +kernel
theorem dX8_fits_41 : decode cX8_fits 41 = .ok (.iaload, 1) := by decide +kernel
theorem dX8_fits_42 : decode cX8_fits 42 = .ok (.i2l, 1) := by decide +kernel
theorem dX8_fits_43 : decode cX8_fits 43 = .ok (.lcmp, 1) := by decide +kernel
theorem dX8_fits_44 : decode cX8_fits 44 = .ok (.ifCond .eq 5, 3) := by decide +kernel
theorem dX8_fits_47 : decode cX8_fits 47 = .ok (.iconst 0, 1) := by decide +kernel
theorem dX8_fits_48 : decode cX8_fits 48 = .ok (.ireturn, 1) := by decide +kernel
theorem dX8_fits_49 : decode cX8_fits 49 = .ok (.iinc 2 1, 3) := by decide +kernel
theorem dX8_fits_52 : decode cX8_fits 52 = .ok (.goto (-33), 3) := by decide +kernel
theorem dX8_fits_55 : decode cX8_fits 55 = .ok (.iconst 1, 1) := by decide +kernel
theorem dX8_fits_56 : decode cX8_fits 56 = .ok (.ireturn, 1) := by decide +kernel
theorem dX8_end_0 : decode cX8_end 0 = .ok (.aload_n 0, 1) := by decide +kernel
theorem dX8_end_1 : decode cX8_end 1 = .ok (.iload_n 1, 1) := by decide +kernel
theorem dX8_end_2 : decode cX8_end 2 = .ok (.putfield 72, 3) := by decide +kernel
theorem dX8_end_5 : decode cX8_end 5 = .ok (.aload_n 0, 1) := by decide +kernel
theorem dX8_end_6 : decode cX8_end 6 = .ok (.lload_n 2, 1) := by decide +kernel
theorem dX8_end_7 : decode cX8_end 7 = .ok (.putfield 75, 3) := by decide +kernel
theorem dX8_end_10 : decode cX8_end 10 = .ok (.aload_n 0, 1) := by decide +kernel
theorem dX8_end_11 : decode cX8_end 11 = .ok (.iload 4, 2) := by decide +kernel
theorem dX8_end_13 : decode cX8_end 13 = .ok (.putfield 78, 3) := by decide +kernel
theorem dX8_end_16 : decode cX8_end 16 = .ok (.return_, 1) := by decide +kernel
theorem dX8_addResult_0 : decode cX8_addResult 0 = .ok (.aload_n 0, 1) := by decide +kernel
theorem dX8_addResult_1 : decode cX8_addResult 1 = .ok (.getfield 49, 3) := by decide +kernel
theorem dX8_addResult_4 : decode cX8_addResult 4 = .ok (.bipush 8, 2) := by decide +kernel
theorem dX8_addResult_6 : decode cX8_addResult 6 = .ok (.if_icmp .ge 44, 3) := by decide +kernel
theorem dX8_addResult_9 : decode cX8_addResult 9 = .ok (.aload_n 0, 1) := by decide +kernel
theorem dX8_addResult_10 : decode cX8_addResult 10 = .ok (.getfield 22, 3) := by decide +kernel
theorem dX8_addResult_13 : decode cX8_addResult 13 = .ok (.aload_n 0, 1) := by decide +kernel
theorem dX8_addResult_14 : decode cX8_addResult 14 = .ok (.getfield 49, 3) := by decide +kernel
theorem dX8_addResult_17 : decode cX8_addResult 17 = .ok (.iload_n 1, 1) := by decide +kernel
theorem dX8_addResult_18 : decode cX8_addResult 18 = .ok (.iastore, 1) := by decide +kernel
theorem dX8_addResult_19 : decode cX8_addResult 19 = .ok (.aload_n 0, 1) := by decide +kernel
theorem dX8_addResult_20 : decode cX8_addResult 20 = .ok (.getfield 25, 3) := by decide +kernel
theorem dX8_addResult_23 : decode cX8_addResult 23 = .ok (.aload_n 0, 1) := by decide +kernel
theorem dX8_addResult_24 : decode cX8_addResult 24 = .ok (.getfield 49, 3) := by decide +kernel
theorem dX8_addResult_27 : decode cX8_addResult 27 = .ok (.lload_n 2, 1) := by decide +kernel
theorem dX8_addResult_28 : decode cX8_addResult 28 = .ok (.lastore, 1) := by decide +kernel
theorem dX8_addResult_29 : decode cX8_addResult 29 = .ok (.aload_n 0, 1) := by decide +kernel
theorem dX8_addResult_30 : decode cX8_addResult 30 = .ok (.getfield 28, 3) := by decide +kernel
theorem dX8_addResult_33 : decode cX8_addResult 33 = .ok (.aload_n 0, 1) := by decide +kernel
theorem dX8_addResult_34 : decode cX8_addResult 34 = .ok (.getfield 49, 3) := by decide +kernel
theorem dX8_addResult_37 : decode cX8_addResult 37 = .ok (.lload 4, 2) := by decide +kernel
theorem dX8_addResult_39 : decode cX8_addResult 39 = .ok (.lastore, 1) := by decide +kernel
theorem dX8_addResult_40 : decode cX8_addResult 40 = .ok (.aload_n 0, 1) := by decide +kernel
theorem dX8_addResult_41 : decode cX8_addResult 41 = .ok (.dup, 1) := by decide +kernel
theorem dX8_addResult_42 : decode cX8_addResult 42 = .ok (.getfield 49, 3) := by decide +kernel
theorem dX8_addResult_45 : decode cX8_addResult 45 = .ok (.iconst 1, 1) := by decide +kernel
theorem dX8_addResult_46 : decode cX8_addResult 46 = .ok (.iadd, 1) := by decide +kernel
theorem dX8_addResult_47 : decode cX8_addResult 47 = .ok (.putfield 49, 3) := by decide +kernel
theorem dX8_addResult_50 : decode cX8_addResult 50 = .ok (.return_, 1) := by decide +kernel
theorem dX9_rebuild_0 : decode cX9_rebuild 0 = .ok (.aload_n 0, 1) := by decide +kernel
theorem dX9_rebuild_1 : decode cX9_rebuild 1 = .ok (.iconst 0, 1) := by decide +kernel
theorem dX9_rebuild_2 : decode cX9_rebuild 2 = .ok (.putfield 48, 3) := by decide +kernel
theorem dX9_rebuild_5 : decode cX9_rebuild 5 = .ok (.aload_n 0, 1) := by decide +kernel
theorem dX9_rebuild_6 : decode cX9_rebuild 6 = .ok (.iconst 0, 1) := by decide +kernel
theorem dX9_rebuild_7 : decode cX9_rebuild 7 = .ok (.putfield 52, 3) := by decide +kernel
theorem dX9_rebuild_10 : decode cX9_rebuild 10 = .ok (.aload_n 0, 1) := by decide +kernel
theorem dX9_rebuild_11 : decode cX9_rebuild 11 = .ok (.aload_n 1, 1) := by decide +kernel
theorem dX9_rebuild_12 : decode cX9_rebuild 12 = .ok (.invokevirtual 56, 3) := by decide +kernel
theorem dX9_rebuild_15 : decode cX9_rebuild 15 = .ok (.aload_n 0, 1) := by decide +kernel
theorem dX9_rebuild_16 : decode cX9_rebuild 16 = .ok (.aload_n 1, 1) := by decide +kernel
theorem dX9_rebuild_17 : decode cX9_rebuild 17 = .ok (.invokevirtual 60, 3) := by decide +kernel
theorem dX9_rebuild_20 : decode cX9_rebuild 20 = .ok (.aload_n 0, 1) := by decide +kernel
theorem dX9_rebuild_21 : decode cX9_rebuild 21 = .ok (.aload_n 1, 1) := by decide +kernel
theorem dX9_rebuild_22 : decode cX9_rebuild 22 = .ok (.invokevirtual 63, 3) := by decide +kernel
theorem dX9_rebuild_25 : decode cX9_rebuild 25 = .ok (.aload_n 0, 1) := by decide +kernel
theorem dX9_rebuild_26 : decode cX9_rebuild 26 = .ok (.invokevirtual 66, 3) := by decide +kernel
theorem dX9_rebuild_29 : decode cX9_rebuild 29 = .ok (.aload_n 0, 1) := by decide +kernel
theorem dX9_rebuild_30 : decode cX9_rebuild 30 = .ok (.iconst 0, 1) := by decide +kernel
theorem dX9_rebuild_31 : decode cX9_rebuild 31 = .ok (.putfield 69, 3) := by decide +kernel
theorem dX9_rebuild_34 : decode cX9_rebuild 34 = .ok (.iconst 0, 1) := by decide +kernel
theorem dX9_rebuild_35 : decode cX9_rebuild 35 = .ok (.istore_n 2, 1) := by decide +kernel
theorem dX9_rebuild_36 : decode cX9_rebuild 36 = .ok (.iload_n 2, 1) := by decide +kernel
theorem dX9_rebuild_37 : decode cX9_rebuild 37 = .ok (.aload_n 0, 1) := by decide +kernel
theorem dX9_rebuild_38 : decode cX9_rebuild 38 = .ok (.getfield 52, 3) := by decide +kernel
theorem dX9_rebuild_41 : decode cX9_rebuild 41 = .ok (.if_icmp .ge 14, 3) := by decide +kernel
theorem dX9_rebuild_44 : decode cX9_rebuild 44 = .ok (.aload_n 0, 1) := by decide +kernel
theorem dX9_rebuild_45 : decode cX9_rebuild 45 = .ok (.iload_n 2, 1) := by decide +kernel
theorem dX9_rebuild_46 : decode cX9_rebuild 46 = .ok (.invokevirtual 72, 3) := by decide +kernel
theorem dX9_rebuild_49 : decode cX9_rebuild 49 = .ok (.iinc 2 1, 3) := by decide +kernel
theorem dX9_rebuild_52 : decode cX9_rebuild 52 = .ok (.goto (-16), 3) := by decide +kernel
theorem dX9_rebuild_55 : decode cX9_rebuild 55 = .ok (.iconst 0, 1) := by decide +kernel
theorem dX9_rebuild_56 : decode cX9_rebuild 56 = .ok (.istore_n 2, 1) := by decide +kernel
theorem dX9_rebuild_57 : decode cX9_rebuild 57 = .ok (.iload_n 2, 1) := by decide +kernel
theorem dX9_rebuild_58 : decode cX9_rebuild 58 = .ok (.iconst 4, 1) := by decide +kernel
theorem dX9_rebuild_59 : decode cX9_rebuild 59 = .ok (.if_icmp .ge 32, 3) := by decide +kernel
theorem dX9_rebuild_62 : decode cX9_rebuild 62 = .ok (.aload_n 0, 1) := by decide +kernel
theorem dX9_rebuild_63 : decode cX9_rebuild 63 = .ok (.getfield 9, 3) := by decide +kernel
theorem dX9_rebuild_66 : decode cX9_rebuild 66 = .ok (.iload_n 2, 1) := by decide +kernel
theorem dX9_rebuild_67 : decode cX9_rebuild 67 = .ok (.aload_n 0, 1) := by decide +kernel
theorem dX9_rebuild_68 : decode cX9_rebuild 68 = .ok (.getfield 52, 3) := by decide +kernel
theorem dX9_rebuild_71 : decode cX9_rebuild 71 = .ok (.ifCond .ne 7, 3) := by decide +kernel
theorem dX9_rebuild_74 : decode cX9_rebuild 74 = .ok (.lconst 0, 1) := by decide +kernel
theorem dX9_rebuild_75 : decode cX9_rebuild 75 = .ok (.goto 9, 3) := by decide +kernel
theorem dX9_rebuild_78 : decode cX9_rebuild 78 = .ok (.aload_n 0, 1) := by decide +kernel
theorem dX9_rebuild_79 : decode cX9_rebuild 79 = .ok (.getfield 42, 3) := by decide +kernel
theorem dX9_rebuild_82 : decode cX9_rebuild 82 = .ok (.iload_n 2, 1) := by decide +kernel
theorem dX9_rebuild_83 : decode cX9_rebuild 83 = .ok (.laload, 1) := by decide +kernel
theorem dX9_rebuild_84 : decode cX9_rebuild 84 = .ok (.lastore, 1) := by decide +kernel
theorem dX9_rebuild_85 : decode cX9_rebuild 85 = .ok (.iinc 2 1, 3) := by decide +kernel
theorem dX9_rebuild_88 : decode cX9_rebuild 88 = .ok (.goto (-31), 3) := by decide +kernel
theorem dX9_rebuild_91 : decode cX9_rebuild 91 = .ok (.return_, 1) := by decide +kernel
theorem dX9_gatherAccounts_0 : decode cX9_gatherAccounts 0 = .ok (.iconst 0, 1) := by decide +kernel
theorem dX9_gatherAccounts_1 : decode cX9_gatherAccounts 1 = .ok (.istore_n 2, 1) := by decide +kernel
theorem dX9_gatherAccounts_2 : decode cX9_gatherAccounts 2 = .ok (.iload_n 2, 1) := by decide +kernel
theorem dX9_gatherAccounts_3 : decode cX9_gatherAccounts 3 = .ok (.aload_n 1, 1) := by decide +kernel
theorem dX9_gatherAccounts_4 : decode cX9_gatherAccounts 4 = .ok (.getfield 76, 3) := by decide +kernel
theorem dX9_gatherAccounts_7 : decode cX9_gatherAccounts 7 = .ok (.if_icmp .ge 87, 3) := by decide +kernel
theorem dX9_gatherAccounts_10 : decode cX9_gatherAccounts 10 = .ok (.aload_n 0, 1) := by decide +kernel
theorem dX9_gatherAccounts_11 : decode cX9_gatherAccounts 11 = .ok (.getfield 18, 3) := by decide +kernel
theorem dX9_gatherAccounts_14 : decode cX9_gatherAccounts 14 = .ok (.invokevirtual 81, 3) := by decide +kernel
theorem dX9_gatherAccounts_17 : decode cX9_gatherAccounts 17 = .ok (.aload_n 0, 1) := by decide +kernel
theorem dX9_gatherAccounts_18 : decode cX9_gatherAccounts 18 = .ok (.getfield 18, 3) := by decide +kernel
theorem dX9_gatherAccounts_21 : decode cX9_gatherAccounts 21 = .ok (.aload_n 1, 1) := by decide +kernel
theorem dX9_gatherAccounts_22 : decode cX9_gatherAccounts 22 = .ok (.getfield 84, 3) := by decide +kernel
theorem dX9_gatherAccounts_25 : decode cX9_gatherAccounts 25 = .ok (.iload_n 2, 1) := by decide +kernel
theorem dX9_gatherAccounts_26 : decode cX9_gatherAccounts 26 = .ok (.laload, 1) := by decide +kernel
theorem dX9_gatherAccounts_27 : decode cX9_gatherAccounts 27 = .ok (.invokevirtual 87, 3) := by decide +kernel
theorem dX9_gatherAccounts_30 : decode cX9_gatherAccounts 30 = .ok (.aload_n 0, 1) := by decide +kernel
theorem dX9_gatherAccounts_31 : decode cX9_gatherAccounts 31 = .ok (.getfield 18, 3) := by decide +kernel
theorem dX9_gatherAccounts_34 : decode cX9_gatherAccounts 34 = .ok (.aload_n 1, 1) := by decide +kernel
theorem dX9_gatherAccounts_35 : decode cX9_gatherAccounts 35 = .ok (.getfield 91, 3) := by decide +kernel
theorem dX9_gatherAccounts_38 : decode cX9_gatherAccounts 38 = .ok (.iload_n 2, 1) := by decide +kernel
theorem dX9_gatherAccounts_39 : decode cX9_gatherAccounts 39 = .ok (.laload, 1) := by decide +kernel
theorem dX9_gatherAccounts_40 : decode cX9_gatherAccounts 40 = .ok (.invokevirtual 87, 3) := by decide +kernel
theorem dX9_gatherAccounts_43 : decode cX9_gatherAccounts 43 = .ok (.aload_n 0, 1) := by decide +kernel
theorem dX9_gatherAccounts_44 : decode cX9_gatherAccounts 44 = .ok (.invokevirtual 94, 3) := by decide +kernel
theorem dX9_gatherAccounts_47 : decode cX9_gatherAccounts 47 = .ok (.aload_n 0, 1) := by decide +kernel
theorem dX9_gatherAccounts_48 : decode cX9_gatherAccounts 48 = .ok (.getfield 18, 3) := by decide +kernel
theorem dX9_gatherAccounts_51 : decode cX9_gatherAccounts 51 = .ok (.invokevirtual 81, 3) := by decide +kernel
theorem dX9_gatherAccounts_54 : decode cX9_gatherAccounts 54 = .ok (.aload_n 0, 1) := by decide +kernel
theorem dX9_gatherAccounts_55 : decode cX9_gatherAccounts 55 = .ok (.getfield 18, 3) := by decide +kernel
theorem dX9_gatherAccounts_58 : decode cX9_gatherAccounts 58 = .ok (.iconst 1, 1) := by decide +kernel
theorem dX9_gatherAccounts_59 : decode cX9_gatherAccounts 59 = .ok (.invokevirtual 99, 3) := by decide +kernel
theorem dX9_gatherAccounts_62 : decode cX9_gatherAccounts 62 = .ok (.aload_n 0, 1) := by decide +kernel
theorem dX9_gatherAccounts_63 : decode cX9_gatherAccounts 63 = .ok (.getfield 18, 3) := by decide +kernel
theorem dX9_gatherAccounts_66 : decode cX9_gatherAccounts 66 = .ok (.aload_n 1, 1) := by decide +kernel
theorem dX9_gatherAccounts_67 : decode cX9_gatherAccounts 67 = .ok (.getfield 102, 3) := by decide +kernel
theorem dX9_gatherAccounts_70 : decode cX9_gatherAccounts 70 = .ok (.iload_n 2, 1) := by decide +kernel
theorem dX9_gatherAccounts_71 : decode cX9_gatherAccounts 71 = .ok (.laload, 1) := by decide +kernel
theorem dX9_gatherAccounts_72 : decode cX9_gatherAccounts 72 = .ok (.invokevirtual 87, 3) := by decide +kernel
theorem dX9_gatherAccounts_75 : decode cX9_gatherAccounts 75 = .ok (.aload_n 0, 1) := by decide +kernel
theorem dX9_gatherAccounts_76 : decode cX9_gatherAccounts 76 = .ok (.iconst 1, 1) := by decide +kernel
theorem dX9_gatherAccounts_77 : decode cX9_gatherAccounts 77 = .ok (.aload_n 1, 1) := by decide +kernel
theorem dX9_gatherAccounts_78 : decode cX9_gatherAccounts 78 = .ok (.getfield 102, 3) := by decide +kernel
theorem dX9_gatherAccounts_81 : decode cX9_gatherAccounts 81 = .ok (.iload_n 2, 1) := by decide +kernel
theorem dX9_gatherAccounts_82 : decode cX9_gatherAccounts 82 = .ok (.laload, 1) := by decide +kernel
theorem dX9_gatherAccounts_83 : decode cX9_gatherAccounts 83 = .ok (.iconst 0, 1) := by decide +kernel
theorem dX9_gatherAccounts_84 : decode cX9_gatherAccounts 84 = .ok (.iconst 0, 1) := by decide +kernel
theorem dX9_gatherAccounts_85 : decode cX9_gatherAccounts 85 = .ok (.invokevirtual 105, 3) := by decide +kernel
theorem dX9_gatherAccounts_88 : decode cX9_gatherAccounts 88 = .ok (.iinc 2 1, 3) := by decide +kernel
theorem dX9_gatherAccounts_91 : decode cX9_gatherAccounts 91 = .ok (.goto (-89), 3) := by decide +kernel
theorem dX9_gatherAccounts_94 : decode cX9_gatherAccounts 94 = .ok (.return_, 1) := by decide +kernel
theorem dX9_gatherModules_0 : decode cX9_gatherModules 0 = .ok (.iconst 1, 1) := by decide +kernel
theorem dX9_gatherModules_1 : decode cX9_gatherModules 1 = .ok (.istore_n 2, 1) := by decide +kernel
theorem dX9_gatherModules_2 : decode cX9_gatherModules 2 = .ok (.iload_n 2, 1) := by decide +kernel
theorem dX9_gatherModules_3 : decode cX9_gatherModules 3 = .ok (.aload_n 1, 1) := by decide +kernel
theorem dX9_gatherModules_4 : decode cX9_gatherModules 4 = .ok (.getfield 109, 3) := by decide +kernel
theorem dX9_gatherModules_7 : decode cX9_gatherModules 7 = .ok (.if_icmp .gt 109, 3) := by decide +kernel
theorem dX9_gatherModules_10 : decode cX9_gatherModules 10 = .ok (.aload_n 1, 1) := by decide +kernel
theorem dX9_gatherModules_11 : decode cX9_gatherModules 11 = .ok (.getfield 112, 3) := by decide +kernel
theorem dX9_gatherModules_14 : decode cX9_gatherModules 14 = .ok (.iload_n 2, 1) := by decide +kernel
theorem dX9_gatherModules_15 : decode cX9_gatherModules 15 = .ok (.aaload, 1) := by decide +kernel
theorem dX9_gatherModules_16 : decode cX9_gatherModules 16 = .ok (.astore_n 3, 1) := by decide +kernel
theorem dX9_gatherModules_17 : decode cX9_gatherModules 17 = .ok (.aload_n 0, 1) := by decide +kernel
theorem dX9_gatherModules_18 : decode cX9_gatherModules 18 = .ok (.getfield 18, 3) := by decide +kernel
theorem dX9_gatherModules_21 : decode cX9_gatherModules 21 = .ok (.invokevirtual 81, 3) := by decide +kernel
theorem dX9_gatherModules_24 : decode cX9_gatherModules 24 = .ok (.iconst 0, 1) := by decide +kernel
theorem dX9_gatherModules_25 : decode cX9_gatherModules 25 = .ok (.istore 4, 2) := by decide +kernel
theorem dX9_gatherModules_27 : decode cX9_gatherModules 27 = .ok (.iload 4, 2) := by decide +kernel
theorem dX9_gatherModules_29 : decode cX9_gatherModules 29 = .ok (.aload_n 3, 1) := by decide +kernel
theorem dX9_gatherModules_30 : decode cX9_gatherModules 30 = .ok (.getfield 116, 3) := by decide +kernel
theorem dX9_gatherModules_33 : decode cX9_gatherModules 33 = .ok (.if_icmp .ge 22, 3) := by decide +kernel
theorem dX9_gatherModules_36 : decode cX9_gatherModules 36 = .ok (.aload_n 0, 1) := by decide +kernel
theorem dX9_gatherModules_37 : decode cX9_gatherModules 37 = .ok (.getfield 18, 3) := by decide +kernel
theorem dX9_gatherModules_40 : decode cX9_gatherModules 40 = .ok (.aload_n 3, 1) := by decide +kernel
theorem dX9_gatherModules_41 : decode cX9_gatherModules 41 = .ok (.iload 4, 2) := by decide +kernel
theorem dX9_gatherModules_43 : decode cX9_gatherModules 43 = .ok (.invokevirtual 121, 3) := by decide +kernel
theorem dX9_gatherModules_46 : decode cX9_gatherModules 46 = .ok (.invokevirtual 99, 3) := by decide +kernel
theorem dX9_gatherModules_49 : decode cX9_gatherModules 49 = .ok (.iinc 4 1, 3) := by decide +kernel
theorem dX9_gatherModules_52 : decode cX9_gatherModules 52 = .ok (.goto (-25), 3) := by decide +kernel
theorem dX9_gatherModules_55 : decode cX9_gatherModules 55 = .ok (.aload_n 0, 1) := by decide +kernel
theorem dX9_gatherModules_56 : decode cX9_gatherModules 56 = .ok (.invokevirtual 94, 3) := by decide +kernel
theorem dX9_gatherModules_59 : decode cX9_gatherModules 59 = .ok (.aload_n 0, 1) := by decide +kernel
theorem dX9_gatherModules_60 : decode cX9_gatherModules 60 = .ok (.getfield 18, 3) := by decide +kernel
theorem dX9_gatherModules_63 : decode cX9_gatherModules 63 = .ok (.invokevirtual 81, 3) := by decide +kernel
theorem dX9_gatherModules_66 : decode cX9_gatherModules 66 = .ok (.aload_n 0, 1) := by decide +kernel
theorem dX9_gatherModules_67 : decode cX9_gatherModules 67 = .ok (.getfield 18, 3) := by decide +kernel
theorem dX9_gatherModules_70 : decode cX9_gatherModules 70 = .ok (.iconst 2, 1) := by decide +kernel
theorem dX9_gatherModules_71 : decode cX9_gatherModules 71 = .ok (.invokevirtual 99, 3) := by decide +kernel
theorem dX9_gatherModules_74 : decode cX9_gatherModules 74 = .ok (.aload_n 0, 1) := by decide +kernel
theorem dX9_gatherModules_75 : decode cX9_gatherModules 75 = .ok (.getfield 18, 3) := by decide +kernel
theorem dX9_gatherModules_78 : decode cX9_gatherModules 78 = .ok (.aload_n 3, 1) := by decide +kernel
theorem dX9_gatherModules_79 : decode cX9_gatherModules 79 = .ok (.getfield 125, 3) := by decide +kernel
theorem dX9_gatherModules_82 : decode cX9_gatherModules 82 = .ok (.bipush 8, 2) := by decide +kernel
theorem dX9_gatherModules_84 : decode cX9_gatherModules 84 = .ok (.iushr, 1) := by decide +kernel
theorem dX9_gatherModules_85 : decode cX9_gatherModules 85 = .ok (.invokevirtual 99, 3) := by decide +kernel
theorem dX9_gatherModules_88 : decode cX9_gatherModules 88 = .ok (.aload_n 0, 1) := by decide +kernel
theorem dX9_gatherModules_89 : decode cX9_gatherModules 89 = .ok (.getfield 18, 3) := by decide +kernel
theorem dX9_gatherModules_92 : decode cX9_gatherModules 92 = .ok (.aload_n 3, 1) := by decide +kernel
theorem dX9_gatherModules_93 : decode cX9_gatherModules 93 = .ok (.getfield 125, 3) := by decide +kernel
theorem dX9_gatherModules_96 : decode cX9_gatherModules 96 = .ok (.invokevirtual 99, 3) := by decide +kernel
theorem dX9_gatherModules_99 : decode cX9_gatherModules 99 = .ok (.aload_n 0, 1) := by decide +kernel
theorem dX9_gatherModules_100 : decode cX9_gatherModules 100 = .ok (.iconst 2, 1) := by decide +kernel
theorem dX9_gatherModules_101 : decode cX9_gatherModules 101 = .ok (.lconst 0, 1) := by decide +kernel
theorem dX9_gatherModules_102 : decode cX9_gatherModules 102 = .ok (.aload_n 3, 1) := by decide +kernel
theorem dX9_gatherModules_103 : decode cX9_gatherModules 103 = .ok (.getfield 125, 3) := by decide +kernel
theorem dX9_gatherModules_106 : decode cX9_gatherModules 106 = .ok (.iconst 0, 1) := by decide +kernel
theorem dX9_gatherModules_107 : decode cX9_gatherModules 107 = .ok (.invokevirtual 105, 3) := by decide +kernel
theorem dX9_gatherModules_110 : decode cX9_gatherModules 110 = .ok (.iinc 2 1, 3) := by decide +kernel
theorem dX9_gatherModules_113 : decode cX9_gatherModules 113 = .ok (.goto (-111), 3) := by decide +kernel
theorem dX9_gatherModules_116 : decode cX9_gatherModules 116 = .ok (.return_, 1) := by decide +kernel
theorem dX9_gatherResources_0 : decode cX9_gatherResources 0 = .ok (.iconst 0, 1) := by decide +kernel
theorem dX9_gatherResources_1 : decode cX9_gatherResources 1 = .ok (.istore_n 2, 1) := by decide +kernel
theorem dX9_gatherResources_2 : decode cX9_gatherResources 2 = .ok (.iload_n 2, 1) := by decide +kernel
theorem dX9_gatherResources_3 : decode cX9_gatherResources 3 = .ok (.sipush 256, 3) := by decide +kernel
theorem dX9_gatherResources_6 : decode cX9_gatherResources 6 = .ok (.if_icmp .ge 164, 3) := by decide +kernel
theorem dX9_gatherResources_9 : decode cX9_gatherResources 9 = .ok (.aload_n 1, 1) := by decide +kernel
theorem dX9_gatherResources_10 : decode cX9_gatherResources 10 = .ok (.getfield 128, 3) := by decide +kernel
theorem dX9_gatherResources_13 : decode cX9_gatherResources 13 = .ok (.iload_n 2, 1) := by decide +kernel
theorem dX9_gatherResources_14 : decode cX9_gatherResources 14 = .ok (.iaload, 1) := by decide +kernel
theorem dX9_gatherResources_15 : decode cX9_gatherResources 15 = .ok (.ifCond .ne 6, 3) := by decide +kernel
theorem dX9_gatherResources_18 : decode cX9_gatherResources 18 = .ok (.goto 146, 3) := by decide +kernel
theorem dX9_gatherResources_21 : decode cX9_gatherResources 21 = .ok (.aload_n 1, 1) := by decide +kernel
theorem dX9_gatherResources_22 : decode cX9_gatherResources 22 = .ok (.iload_n 2, 1) := by decide +kernel
theorem dX9_gatherResources_23 : decode cX9_gatherResources 23 = .ok (.aload_n 0, 1) := by decide +kernel
theorem dX9_gatherResources_24 : decode cX9_gatherResources 24 = .ok (.getfield 35, 3) := by decide +kernel
theorem dX9_gatherResources_27 : decode cX9_gatherResources 27 = .ok (.invokevirtual 131, 3) := by decide +kernel
theorem dX9_gatherResources_30 : decode cX9_gatherResources 30 = .ok (.istore_n 3, 1) := by decide +kernel
theorem dX9_gatherResources_31 : decode cX9_gatherResources 31 = .ok (.aload_n 0, 1) := by decide +kernel
theorem dX9_gatherResources_32 : decode cX9_gatherResources 32 = .ok (.getfield 18, 3) := by decide +kernel
theorem dX9_gatherResources_35 : decode cX9_gatherResources 35 = .ok (.invokevirtual 81, 3) := by decide +kernel
theorem dX9_gatherResources_38 : decode cX9_gatherResources 38 = .ok (.iconst 0, 1) := by decide +kernel
theorem dX9_gatherResources_39 : decode cX9_gatherResources 39 = .ok (.istore 4, 2) := by decide +kernel
theorem dX9_gatherResources_41 : decode cX9_gatherResources 41 = .ok (.iload 4, 2) := by decide +kernel
theorem dX9_gatherResources_43 : decode cX9_gatherResources 43 = .ok (.iload_n 3, 1) := by decide +kernel
theorem dX9_gatherResources_44 : decode cX9_gatherResources 44 = .ok (.if_icmp .ge 23, 3) := by decide +kernel
theorem dX9_gatherResources_47 : decode cX9_gatherResources 47 = .ok (.aload_n 0, 1) := by decide +kernel
theorem dX9_gatherResources_48 : decode cX9_gatherResources 48 = .ok (.getfield 18, 3) := by decide +kernel
theorem dX9_gatherResources_51 : decode cX9_gatherResources 51 = .ok (.aload_n 0, 1) := by decide +kernel
theorem dX9_gatherResources_52 : decode cX9_gatherResources 52 = .ok (.getfield 35, 3) := by decide +kernel
theorem dX9_gatherResources_55 : decode cX9_gatherResources 55 = .ok (.iload 4, 2) := by decide +kernel
theorem dX9_gatherResources_57 : decode cX9_gatherResources 57 = .ok (.baload, 1) := by decide +kernel
theorem dX9_gatherResources_58 : decode cX9_gatherResources 58 = .ok (.invokevirtual 99, 3) := by decide +kernel
theorem dX9_gatherResources_61 : decode cX9_gatherResources 61 = .ok (.iinc 4 1, 3) := by decide +kernel
theorem dX9_gatherResources_64 : decode cX9_gatherResources 64 = .ok (.goto (-23), 3) := by decide +kernel
theorem dX9_gatherResources_67 : decode cX9_gatherResources 67 = .ok (.aload_n 0, 1) := by decide +kernel
theorem dX9_gatherResources_68 : decode cX9_gatherResources 68 = .ok (.invokevirtual 94, 3) := by decide +kernel
theorem dX9_gatherResources_71 : decode cX9_gatherResources 71 = .ok (.aload_n 0, 1) := by decide +kernel
theorem dX9_gatherResources_72 : decode cX9_gatherResources 72 = .ok (.getfield 18, 3) := by decide +kernel
theorem dX9_gatherResources_75 : decode cX9_gatherResources 75 = .ok (.invokevirtual 81, 3) := by decide +kernel
theorem dX9_gatherResources_78 : decode cX9_gatherResources 78 = .ok (.aload_n 0, 1) := by decide +kernel
theorem dX9_gatherResources_79 : decode cX9_gatherResources 79 = .ok (.getfield 18, 3) := by decide +kernel
theorem dX9_gatherResources_82 : decode cX9_gatherResources 82 = .ok (.iconst 3, 1) := by decide +kernel
theorem dX9_gatherResources_83 : decode cX9_gatherResources 83 = .ok (.invokevirtual 99, 3) := by decide +kernel
theorem dX9_gatherResources_86 : decode cX9_gatherResources 86 = .ok (.aload_n 0, 1) := by decide +kernel
theorem dX9_gatherResources_87 : decode cX9_gatherResources 87 = .ok (.getfield 18, 3) := by decide +kernel
theorem dX9_gatherResources_90 : decode cX9_gatherResources 90 = .ok (.aload_n 1, 1) := by decide +kernel
theorem dX9_gatherResources_91 : decode cX9_gatherResources 91 = .ok (.getfield 135, 3) := by decide +kernel
theorem dX9_gatherResources_94 : decode cX9_gatherResources 94 = .ok (.iload_n 2, 1) := by decide +kernel
theorem dX9_gatherResources_95 : decode cX9_gatherResources 95 = .ok (.laload, 1) := by decide +kernel
theorem dX9_gatherResources_96 : decode cX9_gatherResources 96 = .ok (.invokevirtual 87, 3) := by decide +kernel
theorem dX9_gatherResources_99 : decode cX9_gatherResources 99 = .ok (.aload_n 0, 1) := by decide +kernel
theorem dX9_gatherResources_100 : decode cX9_gatherResources 100 = .ok (.getfield 18, 3) := by decide +kernel
theorem dX9_gatherResources_103 : decode cX9_gatherResources 103 = .ok (.aload_n 1, 1) := by decide +kernel
theorem dX9_gatherResources_104 : decode cX9_gatherResources 104 = .ok (.getfield 138, 3) := by decide +kernel
theorem dX9_gatherResources_107 : decode cX9_gatherResources 107 = .ok (.iload_n 2, 1) := by decide +kernel
theorem dX9_gatherResources_108 : decode cX9_gatherResources 108 = .ok (.iaload, 1) := by decide +kernel
theorem dX9_gatherResources_109 : decode cX9_gatherResources 109 = .ok (.bipush 8, 2) := by decide +kernel
theorem dX9_gatherResources_111 : decode cX9_gatherResources 111 = .ok (.iushr, 1) := by decide +kernel
theorem dX9_gatherResources_112 : decode cX9_gatherResources 112 = .ok (.invokevirtual 99, 3) := by decide +kernel
theorem dX9_gatherResources_115 : decode cX9_gatherResources 115 = .ok (.aload_n 0, 1) := by decide +kernel
theorem dX9_gatherResources_116 : decode cX9_gatherResources 116 = .ok (.getfield 18, 3) := by decide +kernel
theorem dX9_gatherResources_119 : decode cX9_gatherResources 119 = .ok (.aload_n 1, 1) := by decide +kernel
theorem dX9_gatherResources_120 : decode cX9_gatherResources 120 = .ok (.getfield 138, 3) := by decide +kernel
theorem dX9_gatherResources_123 : decode cX9_gatherResources 123 = .ok (.iload_n 2, 1) := by decide +kernel
theorem dX9_gatherResources_124 : decode cX9_gatherResources 124 = .ok (.iaload, 1) := by decide +kernel
theorem dX9_gatherResources_125 : decode cX9_gatherResources 125 = .ok (.invokevirtual 99, 3) := by decide +kernel
theorem dX9_gatherResources_128 : decode cX9_gatherResources 128 = .ok (.aload_n 0, 1) := by decide +kernel
theorem dX9_gatherResources_129 : decode cX9_gatherResources 129 = .ok (.getfield 18, 3) := by decide +kernel
theorem dX9_gatherResources_132 : decode cX9_gatherResources 132 = .ok (.aload_n 1, 1) := by decide +kernel
theorem dX9_gatherResources_133 : decode cX9_gatherResources 133 = .ok (.getfield 141, 3) := by decide +kernel
theorem dX9_gatherResources_136 : decode cX9_gatherResources 136 = .ok (.iload_n 2, 1) := by decide +kernel
theorem dX9_gatherResources_137 : decode cX9_gatherResources 137 = .ok (.iaload, 1) := by decide +kernel
theorem dX9_gatherResources_138 : decode cX9_gatherResources 138 = .ok (.invokevirtual 99, 3) := by decide +kernel
theorem dX9_gatherResources_141 : decode cX9_gatherResources 141 = .ok (.aload_n 0, 1) := by decide +kernel
theorem dX9_gatherResources_142 : decode cX9_gatherResources 142 = .ok (.iconst 3, 1) := by decide +kernel
theorem dX9_gatherResources_143 : decode cX9_gatherResources 143 = .ok (.aload_n 1, 1) := by decide +kernel
theorem dX9_gatherResources_144 : decode cX9_gatherResources 144 = .ok (.getfield 135, 3) := by decide +kernel
theorem dX9_gatherResources_147 : decode cX9_gatherResources 147 = .ok (.iload_n 2, 1) := by decide +kernel
theorem dX9_gatherResources_148 : decode cX9_gatherResources 148 = .ok (.laload, 1) := by decide +kernel
theorem dX9_gatherResources_149 : decode cX9_gatherResources 149 = .ok (.aload_n 1, 1) := by decide +kernel
theorem dX9_gatherResources_150 : decode cX9_gatherResources 150 = .ok (.getfield 138, 3) := by decide +kernel
theorem dX9_gatherResources_153 : decode cX9_gatherResources 153 = .ok (.iload_n 2, 1) := by decide +kernel
theorem dX9_gatherResources_154 : decode cX9_gatherResources 154 = .ok (.iaload, 1) := by decide +kernel
theorem dX9_gatherResources_155 : decode cX9_gatherResources 155 = .ok (.aload_n 1, 1) := by decide +kernel
theorem dX9_gatherResources_156 : decode cX9_gatherResources 156 = .ok (.getfield 141, 3) := by decide +kernel
theorem dX9_gatherResources_159 : decode cX9_gatherResources 159 = .ok (.iload_n 2, 1) := by decide +kernel
theorem dX9_gatherResources_160 : decode cX9_gatherResources 160 = .ok (.iaload, 1) := by decide +kernel
theorem dX9_gatherResources_161 : decode cX9_gatherResources 161 = .ok (.invokevirtual 105, 3) := by decide +kernel
theorem dX9_gatherResources_164 : decode cX9_gatherResources 164 = .ok (.iinc 2 1, 3) := by decide +kernel
theorem dX9_gatherResources_167 : decode cX9_gatherResources 167 = .ok (.goto (-165), 3) := by decide +kernel
theorem dX9_gatherResources_170 : decode cX9_gatherResources 170 = .ok (.return_, 1) := by decide +kernel
theorem dX9_keepValue_0 : decode cX9_keepValue 0 = .ok (.aload_n 0, 1) := by decide +kernel
theorem dX9_keepValue_1 : decode cX9_keepValue 1 = .ok (.getfield 18, 3) := by decide +kernel
theorem dX9_keepValue_4 : decode cX9_keepValue 4 = .ok (.invokevirtual 144, 3) := by decide +kernel
theorem dX9_keepValue_7 : decode cX9_keepValue 7 = .ok (.aload_n 0, 1) := by decide +kernel
theorem dX9_keepValue_8 : decode cX9_keepValue 8 = .ok (.getfield 18, 3) := by decide +kernel
theorem dX9_keepValue_11 : decode cX9_keepValue 11 = .ok (.aload_n 0, 1) := by decide +kernel
theorem dX9_keepValue_12 : decode cX9_keepValue 12 = .ok (.getfield 28, 3) := by decide +kernel
theorem dX9_keepValue_15 : decode cX9_keepValue 15 = .ok (.iconst 0, 1) := by decide +kernel
theorem dX9_keepValue_16 : decode cX9_keepValue 16 = .ok (.invokevirtual 147, 3) := by decide +kernel
theorem dX9_keepValue_19 : decode cX9_keepValue 19 = .ok (.return_, 1) := by decide +kernel
theorem dX9_addPlace_0 : decode cX9_addPlace 0 = .ok (.aload_n 0, 1) := by decide +kernel
theorem dX9_addPlace_1 : decode cX9_addPlace 1 = .ok (.getfield 18, 3) := by decide +kernel
theorem dX9_addPlace_4 : decode cX9_addPlace 4 = .ok (.invokevirtual 144, 3) := by decide +kernel
theorem dX9_addPlace_7 : decode cX9_addPlace 7 = .ok (.aload_n 0, 1) := by decide +kernel
theorem dX9_addPlace_8 : decode cX9_addPlace 8 = .ok (.getfield 52, 3) := by decide +kernel
theorem dX9_addPlace_11 : decode cX9_addPlace 11 = .ok (.sipush 256, 3) := by decide +kernel
theorem dX9_addPlace_14 : decode cX9_addPlace 14 = .ok (.if_icmp .lt 4, 3) := by decide +kernel
theorem dX9_addPlace_17 : decode cX9_addPlace 17 = .ok (.return_, 1) := by decide +kernel
theorem dX9_addPlace_18 : decode cX9_addPlace 18 = .ok (.aload_n 0, 1) := by decide +kernel
theorem dX9_addPlace_19 : decode cX9_addPlace 19 = .ok (.getfield 52, 3) := by decide +kernel
theorem dX9_addPlace_22 : decode cX9_addPlace 22 = .ok (.bipush 7, 2) := by decide +kernel
theorem dX9_addPlace_24 : decode cX9_addPlace 24 = .ok (.imul, 1) := by decide +kernel
theorem dX9_addPlace_25 : decode cX9_addPlace 25 = .ok (.istore 6, 2) := by decide +kernel
theorem dX9_addPlace_27 : decode cX9_addPlace 27 = .ok (.aload_n 0, 1) := by decide +kernel
theorem dX9_addPlace_28 : decode cX9_addPlace 28 = .ok (.getfield 18, 3) := by decide +kernel
theorem dX9_addPlace_31 : decode cX9_addPlace 31 = .ok (.aload_n 0, 1) := by decide +kernel
theorem dX9_addPlace_32 : decode cX9_addPlace 32 = .ok (.getfield 22, 3) := by decide +kernel
theorem dX9_addPlace_35 : decode cX9_addPlace 35 = .ok (.iload 6, 2) := by decide +kernel
theorem dX9_addPlace_37 : decode cX9_addPlace 37 = .ok (.invokevirtual 147, 3) := by decide +kernel
theorem dX9_addPlace_40 : decode cX9_addPlace 40 = .ok (.aload_n 0, 1) := by decide +kernel
theorem dX9_addPlace_41 : decode cX9_addPlace 41 = .ok (.getfield 22, 3) := by decide +kernel
theorem dX9_addPlace_44 : decode cX9_addPlace 44 = .ok (.iload 6, 2) := by decide +kernel
theorem dX9_addPlace_46 : decode cX9_addPlace 46 = .ok (.iconst 4, 1) := by decide +kernel
theorem dX9_addPlace_47 : decode cX9_addPlace 47 = .ok (.iadd, 1) := by decide +kernel
theorem dX9_addPlace_48 : decode cX9_addPlace 48 = .ok (.iload_n 1, 1) := by decide +kernel
theorem dX9_addPlace_49 : decode cX9_addPlace 49 = .ok (.i2l, 1) := by decide +kernel
theorem dX9_addPlace_50 : decode cX9_addPlace 50 = .ok (.lastore, 1) := by decide +kernel
theorem dX9_addPlace_51 : decode cX9_addPlace 51 = .ok (.aload_n 0, 1) := by decide +kernel
theorem dX9_addPlace_52 : decode cX9_addPlace 52 = .ok (.getfield 22, 3) := by decide +kernel
theorem dX9_addPlace_55 : decode cX9_addPlace 55 = .ok (.iload 6, 2) := by decide +kernel
theorem dX9_addPlace_57 : decode cX9_addPlace 57 = .ok (.iconst 4, 1) := by decide +kernel
theorem dX9_addPlace_58 : decode cX9_addPlace 58 = .ok (.iadd, 1) := by decide +kernel
theorem dX9_addPlace_59 : decode cX9_addPlace 59 = .ok (.iconst 1, 1) := by decide +kernel
theorem dX9_addPlace_60 : decode cX9_addPlace 60 = .ok (.iadd, 1) := by decide +kernel
theorem dX9_addPlace_61 : decode cX9_addPlace 61 = .ok (.lload_n 2, 1) := by decide +kernel
theorem dX9_addPlace_62 : decode cX9_addPlace 62 = .ok (.lastore, 1) := by decide +kernel
theorem dX9_addPlace_63 : decode cX9_addPlace 63 = .ok (.aload_n 0, 1) := by decide +kernel
theorem dX9_addPlace_64 : decode cX9_addPlace 64 = .ok (.getfield 22, 3) := by decide +kernel
theorem dX9_addPlace_67 : decode cX9_addPlace 67 = .ok (.iload 6, 2) := by decide +kernel
theorem dX9_addPlace_69 : decode cX9_addPlace 69 = .ok (.iconst 4, 1) := by decide +kernel
theorem dX9_addPlace_70 : decode cX9_addPlace 70 = .ok (.iadd, 1) := by decide +kernel
theorem dX9_addPlace_71 : decode cX9_addPlace 71 = .ok (.iconst 2, 1) := by decide +kernel
theorem dX9_addPlace_72 : decode cX9_addPlace 72 = .ok (.iadd, 1) := by decide +kernel
theorem dX9_addPlace_73 : decode cX9_addPlace 73 = .ok (.iload 4, 2) := by decide +kernel
theorem dX9_addPlace_75 : decode cX9_addPlace 75 = .ok (.i2l, 1) := by decide +kernel
theorem dX9_addPlace_76 : decode cX9_addPlace 76 = .ok (.bipush 8, 2) := by decide +kernel
theorem dX9_addPlace_78 : decode cX9_addPlace 78 = .ok (.lshl, 1) := by decide +kernel
theorem dX9_addPlace_79 : decode cX9_addPlace 79 = .ok (.iload 5, 2) := by decide +kernel
theorem dX9_addPlace_81 : decode cX9_addPlace 81 = .ok (.i2l, 1) := by decide +kernel
theorem dX9_addPlace_82 : decode cX9_addPlace 82 = .ok (.lor, 1) := by decide +kernel
theorem dX9_addPlace_83 : decode cX9_addPlace 83 = .ok (.lastore, 1) := by decide +kernel
theorem dX9_addPlace_84 : decode cX9_addPlace 84 = .ok (.aload_n 0, 1) := by decide +kernel
theorem dX9_addPlace_85 : decode cX9_addPlace 85 = .ok (.getfield 18, 3) := by decide +kernel
theorem dX9_addPlace_88 : decode cX9_addPlace 88 = .ok (.invokevirtual 81, 3) := by decide +kernel
theorem dX9_addPlace_91 : decode cX9_addPlace 91 = .ok (.aload_n 0, 1) := by decide +kernel
theorem dX9_addPlace_92 : decode cX9_addPlace 92 = .ok (.getfield 18, 3) := by decide +kernel
theorem dX9_addPlace_95 : decode cX9_addPlace 95 = .ok (.iconst 0, 1) := by decide +kernel
theorem dX9_addPlace_96 : decode cX9_addPlace 96 = .ok (.invokevirtual 99, 3) := by decide +kernel
theorem dX9_addPlace_99 : decode cX9_addPlace 99 = .ok (.aload_n 0, 1) := by decide +kernel
theorem dX9_addPlace_100 : decode cX9_addPlace 100 = .ok (.getfield 18, 3) := by decide +kernel
theorem dX9_addPlace_103 : decode cX9_addPlace 103 = .ok (.aload_n 0, 1) := by decide +kernel
theorem dX9_addPlace_104 : decode cX9_addPlace 104 = .ok (.getfield 22, 3) := by decide +kernel
theorem dX9_addPlace_107 : decode cX9_addPlace 107 = .ok (.iload 6, 2) := by decide +kernel
theorem dX9_addPlace_109 : decode cX9_addPlace 109 = .ok (.invokevirtual 151, 3) := by decide +kernel
theorem dX9_addPlace_112 : decode cX9_addPlace 112 = .ok (.aload_n 0, 1) := by decide +kernel
theorem dX9_addPlace_113 : decode cX9_addPlace 113 = .ok (.getfield 18, 3) := by decide +kernel
theorem dX9_addPlace_116 : decode cX9_addPlace 116 = .ok (.aload_n 0, 1) := by decide +kernel
theorem dX9_addPlace_117 : decode cX9_addPlace 117 = .ok (.getfield 28, 3) := by decide +kernel
theorem dX9_addPlace_120 : decode cX9_addPlace 120 = .ok (.iconst 0, 1) := by decide +kernel
theorem dX9_addPlace_121 : decode cX9_addPlace 121 = .ok (.invokevirtual 151, 3) := by decide +kernel
theorem dX9_addPlace_124 : decode cX9_addPlace 124 = .ok (.aload_n 0, 1) := by decide +kernel
theorem dX9_addPlace_125 : decode cX9_addPlace 125 = .ok (.getfield 18, 3) := by decide +kernel
theorem dX9_addPlace_128 : decode cX9_addPlace 128 = .ok (.invokevirtual 144, 3) := by decide +kernel
theorem dX9_addPlace_131 : decode cX9_addPlace 131 = .ok (.aload_n 0, 1) := by decide +kernel
theorem dX9_addPlace_132 : decode cX9_addPlace 132 = .ok (.getfield 18, 3) := by decide +kernel
theorem dX9_addPlace_135 : decode cX9_addPlace 135 = .ok (.aload_n 0, 1) := by decide +kernel
theorem dX9_addPlace_136 : decode cX9_addPlace 136 = .ok (.getfield 25, 3) := by decide +kernel
theorem dX9_addPlace_139 : decode cX9_addPlace 139 = .ok (.aload_n 0, 1) := by decide +kernel
theorem dX9_addPlace_140 : decode cX9_addPlace 140 = .ok (.getfield 52, 3) := by decide +kernel
theorem dX9_addPlace_143 : decode cX9_addPlace 143 = .ok (.iconst 4, 1) := by decide +kernel
theorem dX9_addPlace_144 : decode cX9_addPlace 144 = .ok (.imul, 1) := by decide +kernel
theorem dX9_addPlace_145 : decode cX9_addPlace 145 = .ok (.invokevirtual 147, 3) := by decide +kernel
theorem dX9_addPlace_148 : decode cX9_addPlace 148 = .ok (.aload_n 0, 1) := by decide +kernel
theorem dX9_addPlace_149 : decode cX9_addPlace 149 = .ok (.getfield 52, 3) := by decide +kernel
theorem dX9_addPlace_152 : decode cX9_addPlace 152 = .ok (.istore 7, 2) := by decide +kernel
theorem dX9_addPlace_154 : decode cX9_addPlace 154 = .ok (.iload 7, 2) := by decide +kernel
theorem dX9_addPlace_156 : decode cX9_addPlace 156 = .ok (.ifCond .le 45, 3) := by decide +kernel
theorem dX9_addPlace_159 : decode cX9_addPlace 159 = .ok (.aload_n 0, 1) := by decide +kernel
theorem dX9_addPlace_160 : decode cX9_addPlace 160 = .ok (.aload_n 0, 1) := by decide +kernel
theorem dX9_addPlace_161 : decode cX9_addPlace 161 = .ok (.getfield 52, 3) := by decide +kernel
theorem dX9_addPlace_164 : decode cX9_addPlace 164 = .ok (.aload_n 0, 1) := by decide +kernel
theorem dX9_addPlace_165 : decode cX9_addPlace 165 = .ok (.getfield 31, 3) := by decide +kernel
theorem dX9_addPlace_168 : decode cX9_addPlace 168 = .ok (.iload 7, 2) := by decide +kernel
theorem dX9_addPlace_170 : decode cX9_addPlace 170 = .ok (.iconst 1, 1) := by decide +kernel
theorem dX9_addPlace_171 : decode cX9_addPlace 171 = .ok (.isub, 1) := by decide +kernel
theorem dX9_addPlace_172 : decode cX9_addPlace 172 = .ok (.iaload, 1) := by decide +kernel
theorem dX9_addPlace_173 : decode cX9_addPlace 173 = .ok (.invokevirtual 154, 3) := by decide +kernel
theorem dX9_addPlace_176 : decode cX9_addPlace 176 = .ok (.ifCond .eq 25, 3) := by decide +kernel
theorem dX9_addPlace_179 : decode cX9_addPlace 179 = .ok (.aload_n 0, 1) := by decide +kernel
theorem dX9_addPlace_180 : decode cX9_addPlace 180 = .ok (.getfield 31, 3) := by decide +kernel
theorem dX9_addPlace_183 : decode cX9_addPlace 183 = .ok (.iload 7, 2) := by decide +kernel
theorem dX9_addPlace_185 : decode cX9_addPlace 185 = .ok (.aload_n 0, 1) := by decide +kernel
theorem dX9_addPlace_186 : decode cX9_addPlace 186 = .ok (.getfield 31, 3) := by decide +kernel
theorem dX9_addPlace_189 : decode cX9_addPlace 189 = .ok (.iload 7, 2) := by decide +kernel
theorem dX9_addPlace_191 : decode cX9_addPlace 191 = .ok (.iconst 1, 1) := by decide +kernel
theorem dX9_addPlace_192 : decode cX9_addPlace 192 = .ok (.isub, 1) := by decide +kernel
theorem dX9_addPlace_193 : decode cX9_addPlace 193 = .ok (.iaload, 1) := by decide +kernel
theorem dX9_addPlace_194 : decode cX9_addPlace 194 = .ok (.iastore, 1) := by decide +kernel
theorem dX9_addPlace_195 : decode cX9_addPlace 195 = .ok (.iinc 7 (-1), 3) := by decide +kernel
theorem dX9_addPlace_198 : decode cX9_addPlace 198 = .ok (.goto (-44), 3) := by decide +kernel
theorem dX9_addPlace_201 : decode cX9_addPlace 201 = .ok (.aload_n 0, 1) := by decide +kernel
theorem dX9_addPlace_202 : decode cX9_addPlace 202 = .ok (.getfield 31, 3) := by decide +kernel
theorem dX9_addPlace_205 : decode cX9_addPlace 205 = .ok (.iload 7, 2) := by decide +kernel
theorem dX9_addPlace_207 : decode cX9_addPlace 207 = .ok (.aload_n 0, 1) := by decide +kernel
theorem dX9_addPlace_208 : decode cX9_addPlace 208 = .ok (.getfield 52, 3) := by decide +kernel
theorem dX9_addPlace_211 : decode cX9_addPlace 211 = .ok (.iastore, 1) := by decide +kernel
theorem dX9_addPlace_212 : decode cX9_addPlace 212 = .ok (.aload_n 0, 1) := by decide +kernel
theorem dX9_addPlace_213 : decode cX9_addPlace 213 = .ok (.dup, 1) := by decide +kernel
