theorem dX13_isPointed_35 : decode cX13_isPointed 35 = .ok (.ifCond .eq 16, 3) := by decide +kernel
theorem dX13_isPointed_38 : decode cX13_isPointed 38 = .ok (.aload_n 0, 1) := by decide +kernel
theorem dX13_isPointed_39 : decode cX13_isPointed 39 = .ok (.getfield 30, 3) := by decide +kernel
theorem dX13_isPointed_42 : decode cX13_isPointed 42 = .ok (.iload 4, 2) := by decide +kernel
theorem dX13_isPointed_44 : decode cX13_isPointed 44 = .ok (.laload, 1) := by decide +kernel
theorem dX13_isPointed_45 : decode cX13_isPointed 45 = .ok (.invokestatic 121, 3) := by decide +kernel
theorem dX13_isPointed_48 : decode cX13_isPointed 48 = .ok (.ifCond .eq 7, 3) := by decide +kernel
theorem dX13_isPointed_51 : decode cX13_isPointed 51 = .ok (.iconst 1, 1) := by decide +kernel
theorem dX13_isPointed_52 : decode cX13_isPointed 52 = .ok (.goto 4, 3) := by decide +kernel
theorem dX13_isPointed_55 : decode cX13_isPointed 55 = .ok (.iconst 0, 1) := by decide +kernel
theorem dX13_isPointed_56 : decode cX13_isPointed 56 = .ok (.istore_n 3, 1) := by decide +kernel
theorem dX13_isPointed_57 : decode cX13_isPointed 57 = .ok (.iinc 4 1, 3) := by decide +kernel
theorem dX13_isPointed_60 : decode cX13_isPointed 60 = .ok (.goto (-55), 3) := by decide +kernel
theorem dX13_isPointed_63 : decode cX13_isPointed 63 = .ok (.iconst 0, 1) := by decide +kernel
theorem dX13_isPointed_64 : decode cX13_isPointed 64 = .ok (.istore 4, 2) := by decide +kernel
theorem dX13_isPointed_66 : decode cX13_isPointed 66 = .ok (.iload 4, 2) := by decide +kernel
theorem dX13_isPointed_68 : decode cX13_isPointed 68 = .ok (.aload_n 0, 1) := by decide +kernel
theorem dX13_isPointed_69 : decode cX13_isPointed 69 = .ok (.getfield 136, 3) := by decide +kernel
theorem dX13_isPointed_72 : decode cX13_isPointed 72 = .ok (.if_icmp .ge 62, 3) := by decide +kernel
theorem dX13_isPointed_75 : decode cX13_isPointed 75 = .ok (.iload_n 3, 1) := by decide +kernel
theorem dX13_isPointed_76 : decode cX13_isPointed 76 = .ok (.ifCond .ne 46, 3) := by decide +kernel
theorem dX13_isPointed_79 : decode cX13_isPointed 79 = .ok (.aload_n 0, 1) := by decide +kernel
theorem dX13_isPointed_80 : decode cX13_isPointed 80 = .ok (.getfield 39, 3) := by decide +kernel
theorem dX13_isPointed_83 : decode cX13_isPointed 83 = .ok (.iload 4, 2) := by decide +kernel
theorem dX13_isPointed_85 : decode cX13_isPointed 85 = .ok (.baload, 1) := by decide +kernel
theorem dX13_isPointed_86 : decode cX13_isPointed 86 = .ok (.ifCond .eq 40, 3) := by decide +kernel
theorem dX13_isPointed_89 : decode cX13_isPointed 89 = .ok (.aload_n 0, 1) := by decide +kernel
theorem dX13_isPointed_90 : decode cX13_isPointed 90 = .ok (.getfield 42, 3) := by decide +kernel
theorem dX13_isPointed_93 : decode cX13_isPointed 93 = .ok (.iload 4, 2) := by decide +kernel
theorem dX13_isPointed_95 : decode cX13_isPointed 95 = .ok (.laload, 1) := by decide +kernel
theorem dX13_isPointed_96 : decode cX13_isPointed 96 = .ok (.iload_n 1, 1) := by decide +kernel
theorem dX13_isPointed_97 : decode cX13_isPointed 97 = .ok (.lshr, 1) := by decide +kernel
theorem dX13_isPointed_98 : decode cX13_isPointed 98 = .ok (.lconst 1, 1) := by decide +kernel
theorem dX13_isPointed_99 : decode cX13_isPointed 99 = .ok (.land, 1) := by decide +kernel
theorem dX13_isPointed_100 : decode cX13_isPointed 100 = .ok (.lconst 1, 1) := by decide +kernel
theorem dX13_isPointed_101 : decode cX13_isPointed 101 = .ok (.lcmp, 1) := by decide +kernel
theorem dX13_isPointed_102 : decode cX13_isPointed 102 = .ok (.ifCond .ne 24, 3) := by decide +kernel
theorem dX13_isPointed_105 : decode cX13_isPointed 105 = .ok (.iload_n 2, 1) := by decide +kernel
theorem dX13_isPointed_106 : decode cX13_isPointed 106 = .ok (.ifCond .eq 16, 3) := by decide +kernel
theorem dX13_isPointed_109 : decode cX13_isPointed 109 = .ok (.aload_n 0, 1) := by decide +kernel
theorem dX13_isPointed_110 : decode cX13_isPointed 110 = .ok (.getfield 7, 3) := by decide +kernel
theorem dX13_isPointed_113 : decode cX13_isPointed 113 = .ok (.iload 4, 2) := by decide +kernel
theorem dX13_isPointed_115 : decode cX13_isPointed 115 = .ok (.laload, 1) := by decide +kernel
theorem dX13_isPointed_116 : decode cX13_isPointed 116 = .ok (.invokestatic 121, 3) := by decide +kernel
theorem dX13_isPointed_119 : decode cX13_isPointed 119 = .ok (.ifCond .eq 7, 3) := by decide +kernel
theorem dX13_isPointed_122 : decode cX13_isPointed 122 = .ok (.iconst 1, 1) := by decide +kernel
theorem dX13_isPointed_123 : decode cX13_isPointed 123 = .ok (.goto 4, 3) := by decide +kernel
theorem dX13_isPointed_126 : decode cX13_isPointed 126 = .ok (.iconst 0, 1) := by decide +kernel
theorem dX13_isPointed_127 : decode cX13_isPointed 127 = .ok (.istore_n 3, 1) := by decide +kernel
theorem dX13_isPointed_128 : decode cX13_isPointed 128 = .ok (.iinc 4 1, 3) := by decide +kernel
theorem dX13_isPointed_131 : decode cX13_isPointed 131 = .ok (.goto (-65), 3) := by decide +kernel
theorem dX13_isPointed_134 : decode cX13_isPointed 134 = .ok (.iload_n 3, 1) := by decide +kernel
theorem dX13_isPointed_135 : decode cX13_isPointed 135 = .ok (.ireturn, 1) := by decide +kernel
theorem dX13_isSole_0 : decode cX13_isSole 0 = .ok (.iconst 1, 1) := by decide +kernel
theorem dX13_isSole_1 : decode cX13_isSole 1 = .ok (.istore_n 3, 1) := by decide +kernel
theorem dX13_isSole_2 : decode cX13_isSole 2 = .ok (.iconst 0, 1) := by decide +kernel
theorem dX13_isSole_3 : decode cX13_isSole 3 = .ok (.istore 4, 2) := by decide +kernel
theorem dX13_isSole_5 : decode cX13_isSole 5 = .ok (.iload 4, 2) := by decide +kernel
theorem dX13_isSole_7 : decode cX13_isSole 7 = .ok (.aload_n 0, 1) := by decide +kernel
theorem dX13_isSole_8 : decode cX13_isSole 8 = .ok (.getfield 92, 3) := by decide +kernel
theorem dX13_isSole_11 : decode cX13_isSole 11 = .ok (.if_icmp .ge 56, 3) := by decide +kernel
theorem dX13_isSole_14 : decode cX13_isSole 14 = .ok (.iload_n 3, 1) := by decide +kernel
theorem dX13_isSole_15 : decode cX13_isSole 15 = .ok (.ifCond .eq 44, 3) := by decide +kernel
theorem dX13_isSole_18 : decode cX13_isSole 18 = .ok (.aload_n 0, 1) := by decide +kernel
theorem dX13_isSole_19 : decode cX13_isSole 19 = .ok (.getfield 33, 3) := by decide +kernel
theorem dX13_isSole_22 : decode cX13_isSole 22 = .ok (.iload 4, 2) := by decide +kernel
theorem dX13_isSole_24 : decode cX13_isSole 24 = .ok (.laload, 1) := by decide +kernel
theorem dX13_isSole_25 : decode cX13_isSole 25 = .ok (.lload_n 1, 1) := by decide +kernel
theorem dX13_isSole_26 : decode cX13_isSole 26 = .ok (.land, 1) := by decide +kernel
theorem dX13_isSole_27 : decode cX13_isSole 27 = .ok (.lconst 0, 1) := by decide +kernel
theorem dX13_isSole_28 : decode cX13_isSole 28 = .ok (.lcmp, 1) := by decide +kernel
theorem dX13_isSole_29 : decode cX13_isSole 29 = .ok (.ifCond .eq 26, 3) := by decide +kernel
theorem dX13_isSole_32 : decode cX13_isSole 32 = .ok (.aload_n 0, 1) := by decide +kernel
theorem dX13_isSole_33 : decode cX13_isSole 33 = .ok (.getfield 30, 3) := by decide +kernel
theorem dX13_isSole_36 : decode cX13_isSole 36 = .ok (.iload 4, 2) := by decide +kernel
theorem dX13_isSole_38 : decode cX13_isSole 38 = .ok (.laload, 1) := by decide +kernel
theorem dX13_isSole_39 : decode cX13_isSole 39 = .ok (.invokestatic 121, 3) := by decide +kernel
theorem dX13_isSole_42 : decode cX13_isSole 42 = .ok (.ifCond .eq 17, 3) := by decide +kernel
theorem dX13_isSole_45 : decode cX13_isSole 45 = .ok (.aload_n 0, 1) := by decide +kernel
theorem dX13_isSole_46 : decode cX13_isSole 46 = .ok (.getfield 36, 3) := by decide +kernel
theorem dX13_isSole_49 : decode cX13_isSole 49 = .ok (.iload 4, 2) := by decide +kernel
theorem dX13_isSole_51 : decode cX13_isSole 51 = .ok (.baload, 1) := by decide +kernel
theorem dX13_isSole_52 : decode cX13_isSole 52 = .ok (.ifCond .ne 7, 3) := by decide +kernel
theorem dX13_isSole_55 : decode cX13_isSole 55 = .ok (.iconst 1, 1) := by decide +kernel
theorem dX13_isSole_56 : decode cX13_isSole 56 = .ok (.goto 4, 3) := by decide +kernel
theorem dX13_isSole_59 : decode cX13_isSole 59 = .ok (.iconst 0, 1) := by decide +kernel
theorem dX13_isSole_60 : decode cX13_isSole 60 = .ok (.istore_n 3, 1) := by decide +kernel
theorem dX13_isSole_61 : decode cX13_isSole 61 = .ok (.iinc 4 1, 3) := by decide +kernel
theorem dX13_isSole_64 : decode cX13_isSole 64 = .ok (.goto (-59), 3) := by decide +kernel
theorem dX13_isSole_67 : decode cX13_isSole 67 = .ok (.iconst 0, 1) := by decide +kernel
theorem dX13_isSole_68 : decode cX13_isSole 68 = .ok (.istore 4, 2) := by decide +kernel
theorem dX13_isSole_70 : decode cX13_isSole 70 = .ok (.iload 4, 2) := by decide +kernel
theorem dX13_isSole_72 : decode cX13_isSole 72 = .ok (.aload_n 0, 1) := by decide +kernel
theorem dX13_isSole_73 : decode cX13_isSole 73 = .ok (.getfield 136, 3) := by decide +kernel
theorem dX13_isSole_76 : decode cX13_isSole 76 = .ok (.if_icmp .ge 66, 3) := by decide +kernel
theorem dX13_isSole_79 : decode cX13_isSole 79 = .ok (.aload_n 0, 1) := by decide +kernel
theorem dX13_isSole_80 : decode cX13_isSole 80 = .ok (.getfield 39, 3) := by decide +kernel
theorem dX13_isSole_83 : decode cX13_isSole 83 = .ok (.iload 4, 2) := by decide +kernel
theorem dX13_isSole_85 : decode cX13_isSole 85 = .ok (.baload, 1) := by decide +kernel
theorem dX13_isSole_86 : decode cX13_isSole 86 = .ok (.ifCond .eq 50, 3) := by decide +kernel
theorem dX13_isSole_89 : decode cX13_isSole 89 = .ok (.aload_n 0, 1) := by decide +kernel
theorem dX13_isSole_90 : decode cX13_isSole 90 = .ok (.getfield 42, 3) := by decide +kernel
theorem dX13_isSole_93 : decode cX13_isSole 93 = .ok (.iload 4, 2) := by decide +kernel
theorem dX13_isSole_95 : decode cX13_isSole 95 = .ok (.laload, 1) := by decide +kernel
theorem dX13_isSole_96 : decode cX13_isSole 96 = .ok (.lload_n 1, 1) := by decide +kernel
theorem dX13_isSole_97 : decode cX13_isSole 97 = .ok (.land, 1) := by decide +kernel
theorem dX13_isSole_98 : decode cX13_isSole 98 = .ok (.lconst 0, 1) := by decide +kernel
theorem dX13_isSole_99 : decode cX13_isSole 99 = .ok (.lcmp, 1) := by decide +kernel
theorem dX13_isSole_100 : decode cX13_isSole 100 = .ok (.ifCond .eq 36, 3) := by decide +kernel
theorem dX13_isSole_103 : decode cX13_isSole 103 = .ok (.iload_n 3, 1) := by decide +kernel
theorem dX13_isSole_104 : decode cX13_isSole 104 = .ok (.ifCond .eq 30, 3) := by decide +kernel
theorem dX13_isSole_107 : decode cX13_isSole 107 = .ok (.aload_n 0, 1) := by decide +kernel
theorem dX13_isSole_108 : decode cX13_isSole 108 = .ok (.getfield 7, 3) := by decide +kernel
theorem dX13_isSole_111 : decode cX13_isSole 111 = .ok (.iload 4, 2) := by decide +kernel
theorem dX13_isSole_113 : decode cX13_isSole 113 = .ok (.laload, 1) := by decide +kernel
theorem dX13_isSole_114 : decode cX13_isSole 114 = .ok (.invokestatic 121, 3) := by decide +kernel
theorem dX13_isSole_117 : decode cX13_isSole 117 = .ok (.ifCond .eq 17, 3) := by decide +kernel
theorem dX13_isSole_120 : decode cX13_isSole 120 = .ok (.aload_n 0, 1) := by decide +kernel
theorem dX13_isSole_121 : decode cX13_isSole 121 = .ok (.getfield 45, 3) := by decide +kernel
theorem dX13_isSole_124 : decode cX13_isSole 124 = .ok (.iload 4, 2) := by decide +kernel
theorem dX13_isSole_126 : decode cX13_isSole 126 = .ok (.baload, 1) := by decide +kernel
theorem dX13_isSole_127 : decode cX13_isSole 127 = .ok (.ifCond .ne 7, 3) := by decide +kernel
theorem dX13_isSole_130 : decode cX13_isSole 130 = .ok (.iconst 1, 1) := by decide +kernel
theorem dX13_isSole_131 : decode cX13_isSole 131 = .ok (.goto 4, 3) := by decide +kernel
theorem dX13_isSole_134 : decode cX13_isSole 134 = .ok (.iconst 0, 1) := by decide +kernel
theorem dX13_isSole_135 : decode cX13_isSole 135 = .ok (.istore_n 3, 1) := by decide +kernel
theorem dX13_isSole_136 : decode cX13_isSole 136 = .ok (.iinc 4 1, 3) := by decide +kernel
theorem dX13_isSole_139 : decode cX13_isSole 139 = .ok (.goto (-69), 3) := by decide +kernel
theorem dX13_isSole_142 : decode cX13_isSole 142 = .ok (.iload_n 3, 1) := by decide +kernel
theorem dX13_isSole_143 : decode cX13_isSole 143 = .ok (.ireturn, 1) := by decide +kernel
theorem dX13_onLocal_0 : decode cX13_onLocal 0 = .ok (.aload_n 0, 1) := by decide +kernel
theorem dX13_onLocal_1 : decode cX13_onLocal 1 = .ok (.getfield 7, 3) := by decide +kernel
theorem dX13_onLocal_4 : decode cX13_onLocal 4 = .ok (.iload_n 2, 1) := by decide +kernel
theorem dX13_onLocal_5 : decode cX13_onLocal 5 = .ok (.laload, 1) := by decide +kernel
theorem dX13_onLocal_6 : decode cX13_onLocal 6 = .ok (.lstore_n 3, 1) := by decide +kernel
theorem dX13_onLocal_7 : decode cX13_onLocal 7 = .ok (.lload_n 3, 1) := by decide +kernel
theorem dX13_onLocal_8 : decode cX13_onLocal 8 = .ok (.invokestatic 68, 3) := by decide +kernel
theorem dX13_onLocal_11 : decode cX13_onLocal 11 = .ok (.ifCond .ne 7, 3) := by decide +kernel
theorem dX13_onLocal_14 : decode cX13_onLocal 14 = .ok (.iconst 1, 1) := by decide +kernel
theorem dX13_onLocal_15 : decode cX13_onLocal 15 = .ok (.goto 4, 3) := by decide +kernel
theorem dX13_onLocal_18 : decode cX13_onLocal 18 = .ok (.iconst 0, 1) := by decide +kernel
theorem dX13_onLocal_19 : decode cX13_onLocal 19 = .ok (.istore 5, 2) := by decide +kernel
theorem dX13_onLocal_21 : decode cX13_onLocal 21 = .ok (.iload_n 1, 1) := by decide +kernel
theorem dX13_onLocal_22 : decode cX13_onLocal 22 = .ok (.bipush 13, 2) := by decide +kernel
theorem dX13_onLocal_24 : decode cX13_onLocal 24 = .ok (.if_icmp .ne 126, 3) := by decide +kernel
theorem dX13_onLocal_27 : decode cX13_onLocal 27 = .ok (.aload_n 0, 1) := by decide +kernel
theorem dX13_onLocal_28 : decode cX13_onLocal 28 = .ok (.lload_n 3, 1) := by decide +kernel
theorem dX13_onLocal_29 : decode cX13_onLocal 29 = .ok (.invokevirtual 133, 3) := by decide +kernel
theorem dX13_onLocal_32 : decode cX13_onLocal 32 = .ok (.aload_n 0, 1) := by decide +kernel
theorem dX13_onLocal_33 : decode cX13_onLocal 33 = .ok (.aload_n 0, 1) := by decide +kernel
theorem dX13_onLocal_34 : decode cX13_onLocal 34 = .ok (.getfield 39, 3) := by decide +kernel
theorem dX13_onLocal_37 : decode cX13_onLocal 37 = .ok (.iload_n 2, 1) := by decide +kernel
theorem dX13_onLocal_38 : decode cX13_onLocal 38 = .ok (.baload, 1) := by decide +kernel
theorem dX13_onLocal_39 : decode cX13_onLocal 39 = .ok (.ifCond .eq 12, 3) := by decide +kernel
theorem dX13_onLocal_42 : decode cX13_onLocal 42 = .ok (.aload_n 0, 1) := by decide +kernel
theorem dX13_onLocal_43 : decode cX13_onLocal 43 = .ok (.lload_n 3, 1) := by decide +kernel
theorem dX13_onLocal_44 : decode cX13_onLocal 44 = .ok (.iconst 2, 1) := by decide +kernel
theorem dX13_onLocal_45 : decode cX13_onLocal 45 = .ok (.invokevirtual 139, 3) := by decide +kernel
theorem dX13_onLocal_48 : decode cX13_onLocal 48 = .ok (.ifCond .eq 7, 3) := by decide +kernel
theorem dX13_onLocal_51 : decode cX13_onLocal 51 = .ok (.iconst 1, 1) := by decide +kernel
theorem dX13_onLocal_52 : decode cX13_onLocal 52 = .ok (.goto 4, 3) := by decide +kernel
theorem dX13_onLocal_55 : decode cX13_onLocal 55 = .ok (.iconst 0, 1) := by decide +kernel
theorem dX13_onLocal_56 : decode cX13_onLocal 56 = .ok (.iconst 4, 1) := by decide +kernel
theorem dX13_onLocal_57 : decode cX13_onLocal 57 = .ok (.invokevirtual 117, 3) := by decide +kernel
theorem dX13_onLocal_60 : decode cX13_onLocal 60 = .ok (.aload_n 0, 1) := by decide +kernel
theorem dX13_onLocal_61 : decode cX13_onLocal 61 = .ok (.iload 5, 2) := by decide +kernel
theorem dX13_onLocal_63 : decode cX13_onLocal 63 = .ok (.ifCond .eq 19, 3) := by decide +kernel
theorem dX13_onLocal_66 : decode cX13_onLocal 66 = .ok (.aload_n 0, 1) := by decide +kernel
theorem dX13_onLocal_67 : decode cX13_onLocal 67 = .ok (.getfield 48, 3) := by decide +kernel
theorem dX13_onLocal_70 : decode cX13_onLocal 70 = .ok (.ifCond .ne 12, 3) := by decide +kernel
theorem dX13_onLocal_73 : decode cX13_onLocal 73 = .ok (.aload_n 0, 1) := by decide +kernel
theorem dX13_onLocal_74 : decode cX13_onLocal 74 = .ok (.iload_n 2, 1) := by decide +kernel
theorem dX13_onLocal_75 : decode cX13_onLocal 75 = .ok (.iconst 0, 1) := by decide +kernel
theorem dX13_onLocal_76 : decode cX13_onLocal 76 = .ok (.invokevirtual 143, 3) := by decide +kernel
theorem dX13_onLocal_79 : decode cX13_onLocal 79 = .ok (.ifCond .ne 7, 3) := by decide +kernel
theorem dX13_onLocal_82 : decode cX13_onLocal 82 = .ok (.iconst 1, 1) := by decide +kernel
theorem dX13_onLocal_83 : decode cX13_onLocal 83 = .ok (.goto 4, 3) := by decide +kernel
theorem dX13_onLocal_86 : decode cX13_onLocal 86 = .ok (.iconst 0, 1) := by decide +kernel
theorem dX13_onLocal_87 : decode cX13_onLocal 87 = .ok (.bipush 6, 2) := by decide +kernel
theorem dX13_onLocal_89 : decode cX13_onLocal 89 = .ok (.invokevirtual 117, 3) := by decide +kernel
theorem dX13_onLocal_92 : decode cX13_onLocal 92 = .ok (.aload_n 0, 1) := by decide +kernel
theorem dX13_onLocal_93 : decode cX13_onLocal 93 = .ok (.getfield 48, 3) := by decide +kernel
theorem dX13_onLocal_96 : decode cX13_onLocal 96 = .ok (.ifCond .eq 4, 3) := by decide +kernel
theorem dX13_onLocal_99 : decode cX13_onLocal 99 = .ok (.return_, 1) := by decide +kernel
theorem dX13_onLocal_100 : decode cX13_onLocal 100 = .ok (.aload_n 0, 1) := by decide +kernel
theorem dX13_onLocal_101 : decode cX13_onLocal 101 = .ok (.getfield 39, 3) := by decide +kernel
theorem dX13_onLocal_104 : decode cX13_onLocal 104 = .ok (.iload_n 2, 1) := by decide +kernel
theorem dX13_onLocal_105 : decode cX13_onLocal 105 = .ok (.iconst 1, 1) := by decide +kernel
theorem dX13_onLocal_106 : decode cX13_onLocal 106 = .ok (.bastore, 1) := by decide +kernel
theorem dX13_onLocal_107 : decode cX13_onLocal 107 = .ok (.aload_n 0, 1) := by decide +kernel
theorem dX13_onLocal_108 : decode cX13_onLocal 108 = .ok (.getfield 42, 3) := by decide +kernel
theorem dX13_onLocal_111 : decode cX13_onLocal 111 = .ok (.iload_n 2, 1) := by decide +kernel
theorem dX13_onLocal_112 : decode cX13_onLocal 112 = .ok (.iload 5, 2) := by decide +kernel
theorem dX13_onLocal_114 : decode cX13_onLocal 114 = .ok (.ifCond .eq 7, 3) := by decide +kernel
theorem dX13_onLocal_117 : decode cX13_onLocal 117 = .ok (.lconst 0, 1) := by decide +kernel
theorem dX13_onLocal_118 : decode cX13_onLocal 118 = .ok (.goto 7, 3) := by decide +kernel
theorem dX13_onLocal_121 : decode cX13_onLocal 121 = .ok (.aload_n 0, 1) := by decide +kernel
theorem dX13_onLocal_122 : decode cX13_onLocal 122 = .ok (.getfield 103, 3) := by decide +kernel
theorem dX13_onLocal_125 : decode cX13_onLocal 125 = .ok (.lastore, 1) := by decide +kernel
theorem dX13_onLocal_126 : decode cX13_onLocal 126 = .ok (.aload_n 0, 1) := by decide +kernel
theorem dX13_onLocal_127 : decode cX13_onLocal 127 = .ok (.getfield 45, 3) := by decide +kernel
theorem dX13_onLocal_130 : decode cX13_onLocal 130 = .ok (.iload_n 2, 1) := by decide +kernel
theorem dX13_onLocal_131 : decode cX13_onLocal 131 = .ok (.iload 5, 2) := by decide +kernel
theorem dX13_onLocal_133 : decode cX13_onLocal 133 = .ok (.ifCond .ne 14, 3) := by decide +kernel
theorem dX13_onLocal_136 : decode cX13_onLocal 136 = .ok (.aload_n 0, 1) := by decide +kernel
theorem dX13_onLocal_137 : decode cX13_onLocal 137 = .ok (.getfield 106, 3) := by decide +kernel
theorem dX13_onLocal_140 : decode cX13_onLocal 140 = .ok (.ifCond .eq 7, 3) := by decide +kernel
theorem dX13_onLocal_143 : decode cX13_onLocal 143 = .ok (.iconst 1, 1) := by decide +kernel
theorem dX13_onLocal_144 : decode cX13_onLocal 144 = .ok (.goto 4, 3) := by decide +kernel
theorem dX13_onLocal_147 : decode cX13_onLocal 147 = .ok (.iconst 0, 1) := by decide +kernel
theorem dX13_onLocal_148 : decode cX13_onLocal 148 = .ok (.bastore, 1) := by decide +kernel
theorem dX13_onLocal_149 : decode cX13_onLocal 149 = .ok (.return_, 1) := by decide +kernel
theorem dX13_onLocal_150 : decode cX13_onLocal 150 = .ok (.aload_n 0, 1) := by decide +kernel
theorem dX13_onLocal_151 : decode cX13_onLocal 151 = .ok (.aload_n 0, 1) := by decide +kernel
theorem dX13_onLocal_152 : decode cX13_onLocal 152 = .ok (.getfield 39, 3) := by decide +kernel
theorem dX13_onLocal_155 : decode cX13_onLocal 155 = .ok (.iload_n 2, 1) := by decide +kernel
theorem dX13_onLocal_156 : decode cX13_onLocal 156 = .ok (.baload, 1) := by decide +kernel
theorem dX13_onLocal_157 : decode cX13_onLocal 157 = .ok (.iconst 5, 1) := by decide +kernel
theorem dX13_onLocal_158 : decode cX13_onLocal 158 = .ok (.invokevirtual 117, 3) := by decide +kernel
theorem dX13_onLocal_161 : decode cX13_onLocal 161 = .ok (.iload_n 1, 1) := by decide +kernel
theorem dX13_onLocal_162 : decode cX13_onLocal 162 = .ok (.bipush 11, 2) := by decide +kernel
theorem dX13_onLocal_164 : decode cX13_onLocal 164 = .ok (.if_icmp .ne 59, 3) := by decide +kernel
theorem dX13_onLocal_167 : decode cX13_onLocal 167 = .ok (.aload_n 0, 1) := by decide +kernel
theorem dX13_onLocal_168 : decode cX13_onLocal 168 = .ok (.aload_n 0, 1) := by decide +kernel
theorem dX13_onLocal_169 : decode cX13_onLocal 169 = .ok (.lload_n 3, 1) := by decide +kernel
theorem dX13_onLocal_170 : decode cX13_onLocal 170 = .ok (.iconst 1, 1) := by decide +kernel
theorem dX13_onLocal_171 : decode cX13_onLocal 171 = .ok (.invokevirtual 139, 3) := by decide +kernel
theorem dX13_onLocal_174 : decode cX13_onLocal 174 = .ok (.iconst 4, 1) := by decide +kernel
theorem dX13_onLocal_175 : decode cX13_onLocal 175 = .ok (.invokevirtual 117, 3) := by decide +kernel
theorem dX13_onLocal_178 : decode cX13_onLocal 178 = .ok (.aload_n 0, 1) := by decide +kernel
theorem dX13_onLocal_179 : decode cX13_onLocal 179 = .ok (.iload 5, 2) := by decide +kernel
theorem dX13_onLocal_181 : decode cX13_onLocal 181 = .ok (.ifCond .eq 12, 3) := by decide +kernel
theorem dX13_onLocal_184 : decode cX13_onLocal 184 = .ok (.aload_n 0, 1) := by decide +kernel
theorem dX13_onLocal_185 : decode cX13_onLocal 185 = .ok (.iload_n 2, 1) := by decide +kernel
theorem dX13_onLocal_186 : decode cX13_onLocal 186 = .ok (.iconst 1, 1) := by decide +kernel
theorem dX13_onLocal_187 : decode cX13_onLocal 187 = .ok (.invokevirtual 143, 3) := by decide +kernel
theorem dX13_onLocal_190 : decode cX13_onLocal 190 = .ok (.ifCond .ne 7, 3) := by decide +kernel
theorem dX13_onLocal_193 : decode cX13_onLocal 193 = .ok (.iconst 1, 1) := by decide +kernel
theorem dX13_onLocal_194 : decode cX13_onLocal 194 = .ok (.goto 4, 3) := by decide +kernel
theorem dX13_onLocal_197 : decode cX13_onLocal 197 = .ok (.iconst 0, 1) := by decide +kernel
theorem dX13_onLocal_198 : decode cX13_onLocal 198 = .ok (.bipush 6, 2) := by decide +kernel
theorem dX13_onLocal_200 : decode cX13_onLocal 200 = .ok (.invokevirtual 117, 3) := by decide +kernel
theorem dX13_onLocal_203 : decode cX13_onLocal 203 = .ok (.aload_n 0, 1) := by decide +kernel
theorem dX13_onLocal_204 : decode cX13_onLocal 204 = .ok (.lload_n 3, 1) := by decide +kernel
theorem dX13_onLocal_205 : decode cX13_onLocal 205 = .ok (.aload_n 0, 1) := by decide +kernel
theorem dX13_onLocal_206 : decode cX13_onLocal 206 = .ok (.getfield 42, 3) := by decide +kernel
theorem dX13_onLocal_209 : decode cX13_onLocal 209 = .ok (.iload_n 2, 1) := by decide +kernel
theorem dX13_onLocal_210 : decode cX13_onLocal 210 = .ok (.laload, 1) := by decide +kernel
theorem dX13_onLocal_211 : decode cX13_onLocal 211 = .ok (.aload_n 0, 1) := by decide +kernel
theorem dX13_onLocal_212 : decode cX13_onLocal 212 = .ok (.getfield 45, 3) := by decide +kernel
theorem dX13_onLocal_215 : decode cX13_onLocal 215 = .ok (.iload_n 2, 1) := by decide +kernel
theorem dX13_onLocal_216 : decode cX13_onLocal 216 = .ok (.baload, 1) := by decide +kernel
theorem dX13_onLocal_217 : decode cX13_onLocal 217 = .ok (.invokevirtual 95, 3) := by decide +kernel
theorem dX13_onLocal_220 : decode cX13_onLocal 220 = .ok (.goto 145, 3) := by decide +kernel
theorem dX13_onLocal_223 : decode cX13_onLocal 223 = .ok (.iload_n 1, 1) := by decide +kernel
theorem dX13_onLocal_224 : decode cX13_onLocal 224 = .ok (.bipush 12, 2) := by decide +kernel
theorem dX13_onLocal_226 : decode cX13_onLocal 226 = .ok (.if_icmp .ne 77, 3) := by decide +kernel
theorem dX13_onLocal_229 : decode cX13_onLocal 229 = .ok (.aload_n 0, 1) := by decide +kernel
theorem dX13_onLocal_230 : decode cX13_onLocal 230 = .ok (.iload 5, 2) := by decide +kernel
theorem dX13_onLocal_232 : decode cX13_onLocal 232 = .ok (.ifCond .eq 12, 3) := by decide +kernel
theorem dX13_onLocal_235 : decode cX13_onLocal 235 = .ok (.aload_n 0, 1) := by decide +kernel
theorem dX13_onLocal_236 : decode cX13_onLocal 236 = .ok (.iload_n 2, 1) := by decide +kernel
theorem dX13_onLocal_237 : decode cX13_onLocal 237 = .ok (.iconst 0, 1) := by decide +kernel
theorem dX13_onLocal_238 : decode cX13_onLocal 238 = .ok (.invokevirtual 143, 3) := by decide +kernel
theorem dX13_onLocal_241 : decode cX13_onLocal 241 = .ok (.ifCond .ne 7, 3) := by decide +kernel
theorem dX13_onLocal_244 : decode cX13_onLocal 244 = .ok (.iconst 1, 1) := by decide +kernel
theorem dX13_onLocal_245 : decode cX13_onLocal 245 = .ok (.goto 4, 3) := by decide +kernel
theorem dX13_onLocal_248 : decode cX13_onLocal 248 = .ok (.iconst 0, 1) := by decide +kernel
theorem dX13_onLocal_249 : decode cX13_onLocal 249 = .ok (.bipush 6, 2) := by decide +kernel
theorem dX13_onLocal_251 : decode cX13_onLocal 251 = .ok (.invokevirtual 117, 3) := by decide +kernel
theorem dX13_onLocal_254 : decode cX13_onLocal 254 = .ok (.aload_n 0, 1) := by decide +kernel
theorem dX13_onLocal_255 : decode cX13_onLocal 255 = .ok (.lload_n 3, 1) := by decide +kernel
theorem dX13_onLocal_256 : decode cX13_onLocal 256 = .ok (.aload_n 0, 1) := by decide +kernel
theorem dX13_onLocal_257 : decode cX13_onLocal 257 = .ok (.getfield 42, 3) := by decide +kernel
theorem dX13_onLocal_260 : decode cX13_onLocal 260 = .ok (.iload_n 2, 1) := by decide +kernel
theorem dX13_onLocal_261 : decode cX13_onLocal 261 = .ok (.laload, 1) := by decide +kernel
theorem dX13_onLocal_262 : decode cX13_onLocal 262 = .ok (.aload_n 0, 1) := by decide +kernel
theorem dX13_onLocal_263 : decode cX13_onLocal 263 = .ok (.getfield 45, 3) := by decide +kernel
theorem dX13_onLocal_266 : decode cX13_onLocal 266 = .ok (.iload_n 2, 1) := by decide +kernel
theorem dX13_onLocal_267 : decode cX13_onLocal 267 = .ok (.baload, 1) := by decide +kernel
theorem dX13_onLocal_268 : decode cX13_onLocal 268 = .ok (.invokevirtual 95, 3) := by decide +kernel
theorem dX13_onLocal_271 : decode cX13_onLocal 271 = .ok (.aload_n 0, 1) := by decide +kernel
theorem dX13_onLocal_272 : decode cX13_onLocal 272 = .ok (.getfield 48, 3) := by decide +kernel
theorem dX13_onLocal_275 : decode cX13_onLocal 275 = .ok (.ifCond .eq 4, 3) := by decide +kernel
theorem dX13_onLocal_278 : decode cX13_onLocal 278 = .ok (.return_, 1) := by decide +kernel
theorem dX13_onLocal_279 : decode cX13_onLocal 279 = .ok (.aload_n 0, 1) := by decide +kernel
theorem dX13_onLocal_280 : decode cX13_onLocal 280 = .ok (.getfield 39, 3) := by decide +kernel
theorem dX13_onLocal_283 : decode cX13_onLocal 283 = .ok (.iload_n 2, 1) := by decide +kernel
theorem dX13_onLocal_284 : decode cX13_onLocal 284 = .ok (.iconst 0, 1) := by decide +kernel
theorem dX13_onLocal_285 : decode cX13_onLocal 285 = .ok (.bastore, 1) := by decide +kernel
theorem dX13_onLocal_286 : decode cX13_onLocal 286 = .ok (.aload_n 0, 1) := by decide +kernel
theorem dX13_onLocal_287 : decode cX13_onLocal 287 = .ok (.getfield 42, 3) := by decide +kernel
theorem dX13_onLocal_290 : decode cX13_onLocal 290 = .ok (.iload_n 2, 1) := by decide +kernel
theorem dX13_onLocal_291 : decode cX13_onLocal 291 = .ok (.lconst 0, 1) := by decide +kernel
theorem dX13_onLocal_292 : decode cX13_onLocal 292 = .ok (.lastore, 1) := by decide +kernel
theorem dX13_onLocal_293 : decode cX13_onLocal 293 = .ok (.aload_n 0, 1) := by decide +kernel
theorem dX13_onLocal_294 : decode cX13_onLocal 294 = .ok (.getfield 45, 3) := by decide +kernel
theorem dX13_onLocal_297 : decode cX13_onLocal 297 = .ok (.iload_n 2, 1) := by decide +kernel
theorem dX13_onLocal_298 : decode cX13_onLocal 298 = .ok (.iconst 0, 1) := by decide +kernel
theorem dX13_onLocal_299 : decode cX13_onLocal 299 = .ok (.bastore, 1) := by decide +kernel
theorem dX13_onLocal_300 : decode cX13_onLocal 300 = .ok (.goto 65, 3) := by decide +kernel
theorem dX13_onLocal_303 : decode cX13_onLocal 303 = .ok (.aload_n 0, 1) := by decide +kernel
theorem dX13_onLocal_304 : decode cX13_onLocal 304 = .ok (.iload 5, 2) := by decide +kernel
theorem dX13_onLocal_306 : decode cX13_onLocal 306 = .ok (.iconst 3, 1) := by decide +kernel
theorem dX13_onLocal_307 : decode cX13_onLocal 307 = .ok (.invokevirtual 117, 3) := by decide +kernel
theorem dX13_onLocal_310 : decode cX13_onLocal 310 = .ok (.aload_n 0, 1) := by decide +kernel
theorem dX13_onLocal_311 : decode cX13_onLocal 311 = .ok (.aload_n 0, 1) := by decide +kernel
theorem dX13_onLocal_312 : decode cX13_onLocal 312 = .ok (.iload_n 2, 1) := by decide +kernel
theorem dX13_onLocal_313 : decode cX13_onLocal 313 = .ok (.iload_n 1, 1) := by decide +kernel
theorem dX13_onLocal_314 : decode cX13_onLocal 314 = .ok (.bipush 14, 2) := by decide +kernel
theorem dX13_onLocal_316 : decode cX13_onLocal 316 = .ok (.if_icmp .ne 7, 3) := by decide +kernel
theorem dX13_onLocal_319 : decode cX13_onLocal 319 = .ok (.iconst 1, 1) := by decide +kernel
theorem dX13_onLocal_320 : decode cX13_onLocal 320 = .ok (.goto 4, 3) := by decide +kernel
theorem dX13_onLocal_323 : decode cX13_onLocal 323 = .ok (.iconst 0, 1) := by decide +kernel
theorem dX13_onLocal_324 : decode cX13_onLocal 324 = .ok (.invokevirtual 143, 3) := by decide +kernel
theorem dX13_onLocal_327 : decode cX13_onLocal 327 = .ok (.ifCond .ne 7, 3) := by decide +kernel
theorem dX13_onLocal_330 : decode cX13_onLocal 330 = .ok (.iconst 1, 1) := by decide +kernel
theorem dX13_onLocal_331 : decode cX13_onLocal 331 = .ok (.goto 4, 3) := by decide +kernel
theorem dX13_onLocal_334 : decode cX13_onLocal 334 = .ok (.iconst 0, 1) := by decide +kernel
theorem dX13_onLocal_335 : decode cX13_onLocal 335 = .ok (.bipush 6, 2) := by decide +kernel
theorem dX13_onLocal_337 : decode cX13_onLocal 337 = .ok (.invokevirtual 117, 3) := by decide +kernel
theorem dX13_onLocal_340 : decode cX13_onLocal 340 = .ok (.aload_n 0, 1) := by decide +kernel
theorem dX13_onLocal_341 : decode cX13_onLocal 341 = .ok (.iload_n 1, 1) := by decide +kernel
theorem dX13_onLocal_342 : decode cX13_onLocal 342 = .ok (.bipush 14, 2) := by decide +kernel
theorem dX13_onLocal_344 : decode cX13_onLocal 344 = .ok (.if_icmp .ne 8, 3) := by decide +kernel
theorem dX13_onLocal_347 : decode cX13_onLocal 347 = .ok (.bipush 8, 2) := by decide +kernel
theorem dX13_onLocal_349 : decode cX13_onLocal 349 = .ok (.goto 5, 3) := by decide +kernel
theorem dX13_onLocal_352 : decode cX13_onLocal 352 = .ok (.bipush 9, 2) := by decide +kernel
theorem dX13_onLocal_354 : decode cX13_onLocal 354 = .ok (.lload_n 3, 1) := by decide +kernel
theorem dX13_onLocal_355 : decode cX13_onLocal 355 = .ok (.invokestatic 147, 3) := by decide +kernel
theorem dX13_onLocal_358 : decode cX13_onLocal 358 = .ok (.lconst 1, 1) := by decide +kernel
theorem dX13_onLocal_359 : decode cX13_onLocal 359 = .ok (.iload_n 2, 1) := by decide +kernel
theorem dX13_onLocal_360 : decode cX13_onLocal 360 = .ok (.lshl, 1) := by decide +kernel
theorem dX13_onLocal_361 : decode cX13_onLocal 361 = .ok (.iconst 0, 1) := by decide +kernel
theorem dX13_onLocal_362 : decode cX13_onLocal 362 = .ok (.invokevirtual 95, 3) := by decide +kernel
theorem dX13_onLocal_365 : decode cX13_onLocal 365 = .ok (.return_, 1) := by decide +kernel
theorem dX13_onReference_0 : decode cX13_onReference 0 = .ok (.iload_n 1, 1) := by decide +kernel
theorem dX13_onReference_1 : decode cX13_onReference 1 = .ok (.bipush 16, 2) := by decide +kernel
theorem dX13_onReference_3 : decode cX13_onReference 3 = .ok (.if_icmp .eq 9, 3) := by decide +kernel
theorem dX13_onReference_6 : decode cX13_onReference 6 = .ok (.iload_n 1, 1) := by decide +kernel
theorem dX13_onReference_7 : decode cX13_onReference 7 = .ok (.bipush 17, 2) := by decide +kernel
theorem dX13_onReference_9 : decode cX13_onReference 9 = .ok (.if_icmp .ne 66, 3) := by decide +kernel
theorem dX13_onReference_12 : decode cX13_onReference 12 = .ok (.aload_n 0, 1) := by decide +kernel
theorem dX13_onReference_13 : decode cX13_onReference 13 = .ok (.iload_n 2, 1) := by decide +kernel
theorem dX13_onReference_14 : decode cX13_onReference 14 = .ok (.invokestatic 151, 3) := by decide +kernel
theorem dX13_onReference_17 : decode cX13_onReference 17 = .ok (.iload_n 1, 1) := by decide +kernel
theorem dX13_onReference_18 : decode cX13_onReference 18 = .ok (.bipush 17, 2) := by decide +kernel
theorem dX13_onReference_20 : decode cX13_onReference 20 = .ok (.if_icmp .ne 7, 3) := by decide +kernel
theorem dX13_onReference_23 : decode cX13_onReference 23 = .ok (.iconst 1, 1) := by decide +kernel
theorem dX13_onReference_24 : decode cX13_onReference 24 = .ok (.goto 4, 3) := by decide +kernel
theorem dX13_onReference_27 : decode cX13_onReference 27 = .ok (.iconst 0, 1) := by decide +kernel
theorem dX13_onReference_28 : decode cX13_onReference 28 = .ok (.invokevirtual 155, 3) := by decide +kernel
theorem dX13_onReference_31 : decode cX13_onReference 31 = .ok (.aload_n 0, 1) := by decide +kernel
theorem dX13_onReference_32 : decode cX13_onReference 32 = .ok (.getfield 48, 3) := by decide +kernel
theorem dX13_onReference_35 : decode cX13_onReference 35 = .ok (.ifCond .ne 213, 3) := by decide +kernel
theorem dX13_onReference_38 : decode cX13_onReference 38 = .ok (.aload_n 0, 1) := by decide +kernel
theorem dX13_onReference_39 : decode cX13_onReference 39 = .ok (.iload_n 1, 1) := by decide +kernel
theorem dX13_onReference_40 : decode cX13_onReference 40 = .ok (.bipush 17, 2) := by decide +kernel
theorem dX13_onReference_42 : decode cX13_onReference 42 = .ok (.if_icmp .ne 8, 3) := by decide +kernel
theorem dX13_onReference_45 : decode cX13_onReference 45 = .ok (.bipush 9, 2) := by decide +kernel
theorem dX13_onReference_47 : decode cX13_onReference 47 = .ok (.goto 5, 3) := by decide +kernel
theorem dX13_onReference_50 : decode cX13_onReference 50 = .ok (.bipush 8, 2) := by decide +kernel
theorem dX13_onReference_52 : decode cX13_onReference 52 = .ok (.aload_n 0, 1) := by decide +kernel
theorem dX13_onReference_53 : decode cX13_onReference 53 = .ok (.getfield 72, 3) := by decide +kernel
theorem dX13_onReference_56 : decode cX13_onReference 56 = .ok (.iload_n 2, 1) := by decide +kernel
theorem dX13_onReference_57 : decode cX13_onReference 57 = .ok (.iload_n 3, 1) := by decide +kernel
theorem dX13_onReference_58 : decode cX13_onReference 58 = .ok (.invokevirtual 88, 3) := by decide +kernel
theorem dX13_onReference_61 : decode cX13_onReference 61 = .ok (.invokestatic 147, 3) := by decide +kernel
theorem dX13_onReference_64 : decode cX13_onReference 64 = .ok (.aload_n 0, 1) := by decide +kernel
theorem dX13_onReference_65 : decode cX13_onReference 65 = .ok (.getfield 103, 3) := by decide +kernel
theorem dX13_onReference_68 : decode cX13_onReference 68 = .ok (.iconst 1, 1) := by decide +kernel
theorem dX13_onReference_69 : decode cX13_onReference 69 = .ok (.invokevirtual 95, 3) := by decide +kernel
theorem dX13_onReference_72 : decode cX13_onReference 72 = .ok (.goto 176, 3) := by decide +kernel
theorem dX13_onReference_75 : decode cX13_onReference 75 = .ok (.iload_n 1, 1) := by decide +kernel
theorem dX13_onReference_76 : decode cX13_onReference 76 = .ok (.bipush 18, 2) := by decide +kernel
theorem dX13_onReference_78 : decode cX13_onReference 78 = .ok (.if_icmp .ne 54, 3) := by decide +kernel
theorem dX13_onReference_81 : decode cX13_onReference 81 = .ok (.aload_n 0, 1) := by decide +kernel
theorem dX13_onReference_82 : decode cX13_onReference 82 = .ok (.lconst 0, 1) := by decide +kernel
theorem dX13_onReference_83 : decode cX13_onReference 83 = .ok (.iconst 0, 1) := by decide +kernel
theorem dX13_onReference_84 : decode cX13_onReference 84 = .ok (.invokevirtual 155, 3) := by decide +kernel
theorem dX13_onReference_87 : decode cX13_onReference 87 = .ok (.aload_n 0, 1) := by decide +kernel
theorem dX13_onReference_88 : decode cX13_onReference 88 = .ok (.getfield 48, 3) := by decide +kernel
theorem dX13_onReference_91 : decode cX13_onReference 91 = .ok (.ifCond .ne 20, 3) := by decide +kernel
theorem dX13_onReference_94 : decode cX13_onReference 94 = .ok (.aload_n 0, 1) := by decide +kernel
theorem dX13_onReference_95 : decode cX13_onReference 95 = .ok (.aload_n 0, 1) := by decide +kernel
theorem dX13_onReference_96 : decode cX13_onReference 96 = .ok (.aload_n 0, 1) := by decide +kernel
theorem dX13_onReference_97 : decode cX13_onReference 97 = .ok (.getfield 99, 3) := by decide +kernel
theorem dX13_onReference_100 : decode cX13_onReference 100 = .ok (.invokestatic 113, 3) := by decide +kernel
theorem dX13_onReference_103 : decode cX13_onReference 103 = .ok (.iconst 1, 1) := by decide +kernel
theorem dX13_onReference_104 : decode cX13_onReference 104 = .ok (.invokevirtual 139, 3) := by decide +kernel
theorem dX13_onReference_107 : decode cX13_onReference 107 = .ok (.iconst 4, 1) := by decide +kernel
theorem dX13_onReference_108 : decode cX13_onReference 108 = .ok (.invokevirtual 117, 3) := by decide +kernel
theorem dX13_onReference_111 : decode cX13_onReference 111 = .ok (.aload_n 0, 1) := by decide +kernel
theorem dX13_onReference_112 : decode cX13_onReference 112 = .ok (.getfield 48, 3) := by decide +kernel
theorem dX13_onReference_115 : decode cX13_onReference 115 = .ok (.ifCond .ne 133, 3) := by decide +kernel
theorem dX13_onReference_118 : decode cX13_onReference 118 = .ok (.aload_n 0, 1) := by decide +kernel
theorem dX13_onReference_119 : decode cX13_onReference 119 = .ok (.aload_n 0, 1) := by decide +kernel
theorem dX13_onReference_120 : decode cX13_onReference 120 = .ok (.getfield 99, 3) := by decide +kernel
theorem dX13_onReference_123 : decode cX13_onReference 123 = .ok (.invokestatic 113, 3) := by decide +kernel
theorem dX13_onReference_126 : decode cX13_onReference 126 = .ok (.invokevirtual 159, 3) := by decide +kernel
theorem dX13_onReference_129 : decode cX13_onReference 129 = .ok (.goto 119, 3) := by decide +kernel
theorem dX13_onReference_132 : decode cX13_onReference 132 = .ok (.iload_n 1, 1) := by decide +kernel
theorem dX13_onReference_133 : decode cX13_onReference 133 = .ok (.bipush 19, 2) := by decide +kernel
theorem dX13_onReference_135 : decode cX13_onReference 135 = .ok (.if_icmp .ne 76, 3) := by decide +kernel
theorem dX13_onReference_138 : decode cX13_onReference 138 = .ok (.aload_n 0, 1) := by decide +kernel
theorem dX13_onReference_139 : decode cX13_onReference 139 = .ok (.lconst 0, 1) := by decide +kernel
theorem dX13_onReference_140 : decode cX13_onReference 140 = .ok (.iconst 1, 1) := by decide +kernel
theorem dX13_onReference_141 : decode cX13_onReference 141 = .ok (.invokevirtual 155, 3) := by decide +kernel
theorem dX13_onReference_144 : decode cX13_onReference 144 = .ok (.aload_n 0, 1) := by decide +kernel
theorem dX13_onReference_145 : decode cX13_onReference 145 = .ok (.getfield 103, 3) := by decide +kernel
theorem dX13_onReference_148 : decode cX13_onReference 148 = .ok (.lstore 4, 2) := by decide +kernel
theorem dX13_onReference_150 : decode cX13_onReference 150 = .ok (.aload_n 0, 1) := by decide +kernel
theorem dX13_onReference_151 : decode cX13_onReference 151 = .ok (.getfield 48, 3) := by decide +kernel
theorem dX13_onReference_154 : decode cX13_onReference 154 = .ok (.ifCond .ne 14, 3) := by decide +kernel
theorem dX13_onReference_157 : decode cX13_onReference 157 = .ok (.aload_n 0, 1) := by decide +kernel
theorem dX13_onReference_158 : decode cX13_onReference 158 = .ok (.aload_n 0, 1) := by decide +kernel
theorem dX13_onReference_159 : decode cX13_onReference 159 = .ok (.getfield 99, 3) := by decide +kernel
theorem dX13_onReference_162 : decode cX13_onReference 162 = .ok (.invokestatic 113, 3) := by decide +kernel
theorem dX13_onReference_165 : decode cX13_onReference 165 = .ok (.invokevirtual 133, 3) := by decide +kernel
theorem dX13_onReference_168 : decode cX13_onReference 168 = .ok (.aload_n 0, 1) := by decide +kernel
theorem dX13_onReference_169 : decode cX13_onReference 169 = .ok (.getfield 48, 3) := by decide +kernel
theorem dX13_onReference_172 : decode cX13_onReference 172 = .ok (.ifCond .ne 17, 3) := by decide +kernel
theorem dX13_onReference_175 : decode cX13_onReference 175 = .ok (.aload_n 0, 1) := by decide +kernel
theorem dX13_onReference_176 : decode cX13_onReference 176 = .ok (.aload_n 0, 1) := by decide +kernel
theorem dX13_onReference_177 : decode cX13_onReference 177 = .ok (.aload_n 0, 1) := by decide +kernel
theorem dX13_onReference_178 : decode cX13_onReference 178 = .ok (.getfield 99, 3) := by decide +kernel
theorem dX13_onReference_181 : decode cX13_onReference 181 = .ok (.iconst 2, 1) := by decide +kernel
theorem dX13_onReference_182 : decode cX13_onReference 182 = .ok (.invokevirtual 139, 3) := by decide +kernel
theorem dX13_onReference_185 : decode cX13_onReference 185 = .ok (.iconst 4, 1) := by decide +kernel
theorem dX13_onReference_186 : decode cX13_onReference 186 = .ok (.invokevirtual 117, 3) := by decide +kernel
theorem dX13_onReference_189 : decode cX13_onReference 189 = .ok (.aload_n 0, 1) := by decide +kernel
theorem dX13_onReference_190 : decode cX13_onReference 190 = .ok (.getfield 48, 3) := by decide +kernel
theorem dX13_onReference_193 : decode cX13_onReference 193 = .ok (.ifCond .ne 15, 3) := by decide +kernel
theorem dX13_onReference_196 : decode cX13_onReference 196 = .ok (.aload_n 0, 1) := by decide +kernel
theorem dX13_onReference_197 : decode cX13_onReference 197 = .ok (.aload_n 0, 1) := by decide +kernel
theorem dX13_onReference_198 : decode cX13_onReference 198 = .ok (.lload 4, 2) := by decide +kernel
theorem dX13_onReference_200 : decode cX13_onReference 200 = .ok (.invokevirtual 162, 3) := by decide +kernel
theorem dX13_onReference_203 : decode cX13_onReference 203 = .ok (.bipush 6, 2) := by decide +kernel
theorem dX13_onReference_205 : decode cX13_onReference 205 = .ok (.invokevirtual 117, 3) := by decide +kernel
theorem dX13_onReference_208 : decode cX13_onReference 208 = .ok (.goto 40, 3) := by decide +kernel
theorem dX13_onReference_211 : decode cX13_onReference 211 = .ok (.aload_n 0, 1) := by decide +kernel
theorem dX13_onReference_212 : decode cX13_onReference 212 = .ok (.lconst 0, 1) := by decide +kernel
theorem dX13_onReference_213 : decode cX13_onReference 213 = .ok (.iconst 1, 1) := by decide +kernel
theorem dX13_onReference_214 : decode cX13_onReference 214 = .ok (.invokevirtual 155, 3) := by decide +kernel
theorem dX13_onReference_217 : decode cX13_onReference 217 = .ok (.aload_n 0, 1) := by decide +kernel
theorem dX13_onReference_218 : decode cX13_onReference 218 = .ok (.getfield 48, 3) := by decide +kernel
theorem dX13_onReference_221 : decode cX13_onReference 221 = .ok (.ifCond .ne 27, 3) := by decide +kernel
theorem dX13_onReference_224 : decode cX13_onReference 224 = .ok (.aload_n 0, 1) := by decide +kernel
theorem dX13_onReference_225 : decode cX13_onReference 225 = .ok (.bipush 8, 2) := by decide +kernel
theorem dX13_onReference_227 : decode cX13_onReference 227 = .ok (.aload_n 0, 1) := by decide +kernel
theorem dX13_onReference_228 : decode cX13_onReference 228 = .ok (.getfield 99, 3) := by decide +kernel
theorem dX13_onReference_231 : decode cX13_onReference 231 = .ok (.invokestatic 113, 3) := by decide +kernel
theorem dX13_onReference_234 : decode cX13_onReference 234 = .ok (.invokestatic 147, 3) := by decide +kernel
theorem dX13_onReference_237 : decode cX13_onReference 237 = .ok (.aload_n 0, 1) := by decide +kernel
theorem dX13_onReference_238 : decode cX13_onReference 238 = .ok (.getfield 103, 3) := by decide +kernel
theorem dX13_onReference_241 : decode cX13_onReference 241 = .ok (.aload_n 0, 1) := by decide +kernel
theorem dX13_onReference_242 : decode cX13_onReference 242 = .ok (.getfield 106, 3) := by decide +kernel
theorem dX13_onReference_245 : decode cX13_onReference 245 = .ok (.invokevirtual 95, 3) := by decide +kernel
theorem dX13_onReference_248 : decode cX13_onReference 248 = .ok (.return_, 1) := by decide +kernel
theorem dX13_call_0 : decode cX13_call 0 = .ok (.aload_n 0, 1) := by decide +kernel
theorem dX13_call_1 : decode cX13_call 1 = .ok (.getfield 72, 3) := by decide +kernel
theorem dX13_call_4 : decode cX13_call 4 = .ok (.iload_n 1, 1) := by decide +kernel
theorem dX13_call_5 : decode cX13_call 5 = .ok (.iconst 0, 1) := by decide +kernel
theorem dX13_call_6 : decode cX13_call 6 = .ok (.invokevirtual 165, 3) := by decide +kernel
theorem dX13_call_9 : decode cX13_call 9 = .ok (.istore_n 2, 1) := by decide +kernel
theorem dX13_call_10 : decode cX13_call 10 = .ok (.aload_n 0, 1) := by decide +kernel
theorem dX13_call_11 : decode cX13_call 11 = .ok (.getfield 92, 3) := by decide +kernel
theorem dX13_call_14 : decode cX13_call 14 = .ok (.iload_n 2, 1) := by decide +kernel
theorem dX13_call_15 : decode cX13_call 15 = .ok (.isub, 1) := by decide +kernel
theorem dX13_call_16 : decode cX13_call 16 = .ok (.istore_n 3, 1) := by decide +kernel
theorem dX13_call_17 : decode cX13_call 17 = .ok (.iload_n 2, 1) := by decide +kernel
theorem dX13_call_18 : decode cX13_call 18 = .ok (.iconst 1, 1) := by decide +kernel
theorem dX13_call_19 : decode cX13_call 19 = .ok (.isub, 1) := by decide +kernel
theorem dX13_call_20 : decode cX13_call 20 = .ok (.istore 4, 2) := by decide +kernel
theorem dX13_call_22 : decode cX13_call 22 = .ok (.iload 4, 2) := by decide +kernel
theorem dX13_call_24 : decode cX13_call 24 = .ok (.ifCond .lt 24, 3) := by decide +kernel
theorem dX13_call_27 : decode cX13_call 27 = .ok (.aload_n 0, 1) := by decide +kernel
theorem dX13_call_28 : decode cX13_call 28 = .ok (.aload_n 0, 1) := by decide +kernel
theorem dX13_call_29 : decode cX13_call 29 = .ok (.getfield 72, 3) := by decide +kernel
theorem dX13_call_32 : decode cX13_call 32 = .ok (.iload_n 1, 1) := by decide +kernel
theorem dX13_call_33 : decode cX13_call 33 = .ok (.iconst 0, 1) := by decide +kernel
theorem dX13_call_34 : decode cX13_call 34 = .ok (.iload 4, 2) := by decide +kernel
theorem dX13_call_36 : decode cX13_call 36 = .ok (.invokevirtual 169, 3) := by decide +kernel
theorem dX13_call_39 : decode cX13_call 39 = .ok (.invokevirtual 133, 3) := by decide +kernel
theorem dX13_call_42 : decode cX13_call 42 = .ok (.iinc 4 (-1), 3) := by decide +kernel
theorem dX13_call_45 : decode cX13_call 45 = .ok (.goto (-23), 3) := by decide +kernel
theorem dX13_call_48 : decode cX13_call 48 = .ok (.aload_n 0, 1) := by decide +kernel
theorem dX13_call_49 : decode cX13_call 49 = .ok (.getfield 48, 3) := by decide +kernel
theorem dX13_call_52 : decode cX13_call 52 = .ok (.ifCond .eq 4, 3) := by decide +kernel
theorem dX13_call_55 : decode cX13_call 55 = .ok (.return_, 1) := by decide +kernel
theorem dX13_call_56 : decode cX13_call 56 = .ok (.aload_n 0, 1) := by decide +kernel
theorem dX13_call_57 : decode cX13_call 57 = .ok (.getfield 72, 3) := by decide +kernel
theorem dX13_call_60 : decode cX13_call 60 = .ok (.iload_n 1, 1) := by decide +kernel
theorem dX13_call_61 : decode cX13_call 61 = .ok (.invokevirtual 173, 3) := by decide +kernel
theorem dX13_call_64 : decode cX13_call 64 = .ok (.iconst 4, 1) := by decide +kernel
theorem dX13_call_65 : decode cX13_call 65 = .ok (.iand, 1) := by decide +kernel
theorem dX13_call_66 : decode cX13_call 66 = .ok (.ifCond .eq 7, 3) := by decide +kernel
theorem dX13_call_69 : decode cX13_call 69 = .ok (.iconst 1, 1) := by decide +kernel
theorem dX13_call_70 : decode cX13_call 70 = .ok (.goto 4, 3) := by decide +kernel
theorem dX13_call_73 : decode cX13_call 73 = .ok (.iconst 0, 1) := by decide +kernel
theorem dX13_call_74 : decode cX13_call 74 = .ok (.istore 4, 2) := by decide +kernel
theorem dX13_call_76 : decode cX13_call 76 = .ok (.aload_n 0, 1) := by decide +kernel
theorem dX13_call_77 : decode cX13_call 77 = .ok (.iload 4, 2) := by decide +kernel
theorem dX13_call_79 : decode cX13_call 79 = .ok (.ifCond .eq 19, 3) := by decide +kernel
theorem dX13_call_82 : decode cX13_call 82 = .ok (.aload_n 0, 1) := by decide +kernel
theorem dX13_call_83 : decode cX13_call 83 = .ok (.getfield 72, 3) := by decide +kernel
theorem dX13_call_86 : decode cX13_call 86 = .ok (.aload_n 0, 1) := by decide +kernel
theorem dX13_call_87 : decode cX13_call 87 = .ok (.getfield 176, 3) := by decide +kernel
theorem dX13_call_90 : decode cX13_call 90 = .ok (.invokevirtual 173, 3) := by decide +kernel
theorem dX13_call_93 : decode cX13_call 93 = .ok (.iconst 4, 1) := by decide +kernel
theorem dX13_call_94 : decode cX13_call 94 = .ok (.iand, 1) := by decide +kernel
theorem dX13_call_95 : decode cX13_call 95 = .ok (.ifCond .eq 7, 3) := by decide +kernel
theorem dX13_call_98 : decode cX13_call 98 = .ok (.iconst 1, 1) := by decide +kernel
theorem dX13_call_99 : decode cX13_call 99 = .ok (.goto 4, 3) := by decide +kernel
theorem dX13_call_102 : decode cX13_call 102 = .ok (.iconst 0, 1) := by decide +kernel
theorem dX13_call_103 : decode cX13_call 103 = .ok (.bipush 15, 2) := by decide +kernel
theorem dX13_call_105 : decode cX13_call 105 = .ok (.invokevirtual 117, 3) := by decide +kernel
theorem dX13_call_108 : decode cX13_call 108 = .ok (.lconst 0, 1) := by decide +kernel
theorem dX13_call_109 : decode cX13_call 109 = .ok (.lstore 5, 2) := by decide +kernel
theorem dX13_call_111 : decode cX13_call 111 = .ok (.lconst 0, 1) := by decide +kernel
theorem dX13_call_112 : decode cX13_call 112 = .ok (.lstore 7, 2) := by decide +kernel
theorem dX13_call_114 : decode cX13_call 114 = .ok (.iconst 0, 1) := by decide +kernel
theorem dX13_call_115 : decode cX13_call 115 = .ok (.istore 9, 2) := by decide +kernel
theorem dX13_call_117 : decode cX13_call 117 = .ok (.iload 9, 2) := by decide +kernel
theorem dX13_call_119 : decode cX13_call 119 = .ok (.iload_n 2, 1) := by decide +kernel
theorem dX13_call_120 : decode cX13_call 120 = .ok (.if_icmp .ge 131, 3) := by decide +kernel
theorem dX13_call_123 : decode cX13_call 123 = .ok (.lload 5, 2) := by decide +kernel
theorem dX13_call_125 : decode cX13_call 125 = .ok (.aload_n 0, 1) := by decide +kernel
theorem dX13_call_126 : decode cX13_call 126 = .ok (.getfield 33, 3) := by decide +kernel
theorem dX13_call_129 : decode cX13_call 129 = .ok (.iload_n 3, 1) := by decide +kernel
theorem dX13_call_130 : decode cX13_call 130 = .ok (.iload 9, 2) := by decide +kernel
theorem dX13_call_132 : decode cX13_call 132 = .ok (.iadd, 1) := by decide +kernel
theorem dX13_call_133 : decode cX13_call 133 = .ok (.laload, 1) := by decide +kernel
theorem dX13_call_134 : decode cX13_call 134 = .ok (.lor, 1) := by decide +kernel
theorem dX13_call_135 : decode cX13_call 135 = .ok (.lstore 5, 2) := by decide +kernel
theorem dX13_call_137 : decode cX13_call 137 = .ok (.aload_n 0, 1) := by decide +kernel
theorem dX13_call_138 : decode cX13_call 138 = .ok (.getfield 30, 3) := by decide +kernel
theorem dX13_call_141 : decode cX13_call 141 = .ok (.iload_n 3, 1) := by decide +kernel
theorem dX13_call_142 : decode cX13_call 142 = .ok (.iload 9, 2) := by decide +kernel
theorem dX13_call_144 : decode cX13_call 144 = .ok (.iadd, 1) := by decide +kernel
theorem dX13_call_145 : decode cX13_call 145 = .ok (.laload, 1) := by decide +kernel
theorem dX13_call_146 : decode cX13_call 146 = .ok (.invokestatic 121, 3) := by decide +kernel
theorem dX13_call_149 : decode cX13_call 149 = .ok (.ifCond .ne 6, 3) := by decide +kernel
theorem dX13_call_152 : decode cX13_call 152 = .ok (.goto 93, 3) := by decide +kernel
theorem dX13_call_155 : decode cX13_call 155 = .ok (.lload 7, 2) := by decide +kernel
theorem dX13_call_157 : decode cX13_call 157 = .ok (.aload_n 0, 1) := by decide +kernel
theorem dX13_call_158 : decode cX13_call 158 = .ok (.getfield 33, 3) := by decide +kernel
theorem dX13_call_161 : decode cX13_call 161 = .ok (.iload_n 3, 1) := by decide +kernel
theorem dX13_call_162 : decode cX13_call 162 = .ok (.iload 9, 2) := by decide +kernel
theorem dX13_call_164 : decode cX13_call 164 = .ok (.iadd, 1) := by decide +kernel
theorem dX13_call_165 : decode cX13_call 165 = .ok (.laload, 1) := by decide +kernel
theorem dX13_call_166 : decode cX13_call 166 = .ok (.lor, 1) := by decide +kernel
theorem dX13_call_167 : decode cX13_call 167 = .ok (.lstore 7, 2) := by decide +kernel
theorem dX13_call_169 : decode cX13_call 169 = .ok (.aload_n 0, 1) := by decide +kernel
theorem dX13_call_170 : decode cX13_call 170 = .ok (.aload_n 0, 1) := by decide +kernel
theorem dX13_call_171 : decode cX13_call 171 = .ok (.aload_n 0, 1) := by decide +kernel
theorem dX13_call_172 : decode cX13_call 172 = .ok (.getfield 33, 3) := by decide +kernel
theorem dX13_call_175 : decode cX13_call 175 = .ok (.iload_n 3, 1) := by decide +kernel
theorem dX13_call_176 : decode cX13_call 176 = .ok (.iload 9, 2) := by decide +kernel
theorem dX13_call_178 : decode cX13_call 178 = .ok (.iadd, 1) := by decide +kernel
theorem dX13_call_179 : decode cX13_call 179 = .ok (.laload, 1) := by decide +kernel
theorem dX13_call_180 : decode cX13_call 180 = .ok (.invokevirtual 162, 3) := by decide +kernel
theorem dX13_call_183 : decode cX13_call 183 = .ok (.bipush 6, 2) := by decide +kernel
theorem dX13_call_185 : decode cX13_call 185 = .ok (.invokevirtual 117, 3) := by decide +kernel
theorem dX13_call_188 : decode cX13_call 188 = .ok (.iconst 0, 1) := by decide +kernel
theorem dX13_call_189 : decode cX13_call 189 = .ok (.istore 10, 2) := by decide +kernel
theorem dX13_call_191 : decode cX13_call 191 = .ok (.iload 10, 2) := by decide +kernel
theorem dX13_call_193 : decode cX13_call 193 = .ok (.iload_n 2, 1) := by decide +kernel
theorem dX13_call_194 : decode cX13_call 194 = .ok (.if_icmp .ge 51, 3) := by decide +kernel
theorem dX13_call_197 : decode cX13_call 197 = .ok (.aload_n 0, 1) := by decide +kernel
theorem dX13_call_198 : decode cX13_call 198 = .ok (.iload 10, 2) := by decide +kernel
theorem dX13_call_200 : decode cX13_call 200 = .ok (.iload 9, 2) := by decide +kernel
theorem dX13_call_202 : decode cX13_call 202 = .ok (.if_icmp .eq 27, 3) := by decide +kernel
theorem dX13_call_205 : decode cX13_call 205 = .ok (.aload_n 0, 1) := by decide +kernel
theorem dX13_call_206 : decode cX13_call 206 = .ok (.getfield 33, 3) := by decide +kernel
theorem dX13_call_209 : decode cX13_call 209 = .ok (.iload_n 3, 1) := by decide +kernel
theorem dX13_call_210 : decode cX13_call 210 = .ok (.iload 10, 2) := by decide +kernel
theorem dX13_call_212 : decode cX13_call 212 = .ok (.iadd, 1) := by decide +kernel
theorem dX13_call_213 : decode cX13_call 213 = .ok (.laload, 1) := by decide +kernel
theorem dX13_call_214 : decode cX13_call 214 = .ok (.aload_n 0, 1) := by decide +kernel
theorem dX13_call_215 : decode cX13_call 215 = .ok (.getfield 33, 3) := by decide +kernel
theorem dX13_call_218 : decode cX13_call 218 = .ok (.iload_n 3, 1) := by decide +kernel
theorem dX13_call_219 : decode cX13_call 219 = .ok (.iload 9, 2) := by decide +kernel
theorem dX13_call_221 : decode cX13_call 221 = .ok (.iadd, 1) := by decide +kernel
theorem dX13_call_222 : decode cX13_call 222 = .ok (.laload, 1) := by decide +kernel
theorem dX13_call_223 : decode cX13_call 223 = .ok (.land, 1) := by decide +kernel
theorem dX13_call_224 : decode cX13_call 224 = .ok (.lconst 0, 1) := by decide +kernel
theorem dX13_call_225 : decode cX13_call 225 = .ok (.lcmp, 1) := by decide +kernel
theorem dX13_call_226 : decode cX13_call 226 = .ok (.ifCond .ne 7, 3) := by decide +kernel
theorem dX13_call_229 : decode cX13_call 229 = .ok (.iconst 1, 1) := by decide +kernel
theorem dX13_call_230 : decode cX13_call 230 = .ok (.goto 4, 3) := by decide +kernel
theorem dX13_call_233 : decode cX13_call 233 = .ok (.iconst 0, 1) := by decide +kernel
theorem dX13_call_234 : decode cX13_call 234 = .ok (.bipush 6, 2) := by decide +kernel
theorem dX13_call_236 : decode cX13_call 236 = .ok (.invokevirtual 117, 3) := by decide +kernel
theorem dX13_call_239 : decode cX13_call 239 = .ok (.iinc 10 1, 3) := by decide +kernel
theorem dX13_call_242 : decode cX13_call 242 = .ok (.goto (-51), 3) := by decide +kernel
theorem dX13_call_245 : decode cX13_call 245 = .ok (.iinc 9 1, 3) := by decide +kernel
theorem dX13_call_248 : decode cX13_call 248 = .ok (.goto (-131), 3) := by decide +kernel
theorem dX13_call_251 : decode cX13_call 251 = .ok (.lload 5, 2) := by decide +kernel
theorem dX13_call_253 : decode cX13_call 253 = .ok (.bipush 48, 2) := by decide +kernel
theorem dX13_call_255 : decode cX13_call 255 = .ok (.lushr, 1) := by decide +kernel
theorem dX13_call_256 : decode cX13_call 256 = .ok (.lconst 0, 1) := by decide +kernel
theorem dX13_call_257 : decode cX13_call 257 = .ok (.lcmp, 1) := by decide +kernel
theorem dX13_call_258 : decode cX13_call 258 = .ok (.ifCond .eq 7, 3) := by decide +kernel
theorem dX13_call_261 : decode cX13_call 261 = .ok (.iconst 1, 1) := by decide +kernel
theorem dX13_call_262 : decode cX13_call 262 = .ok (.goto 4, 3) := by decide +kernel
theorem dX13_call_265 : decode cX13_call 265 = .ok (.iconst 0, 1) := by decide +kernel
theorem dX13_call_266 : decode cX13_call 266 = .ok (.istore 9, 2) := by decide +kernel
theorem dX13_call_268 : decode cX13_call 268 = .ok (.bipush 48, 2) := by decide +kernel
theorem dX13_call_270 : decode cX13_call 270 = .ok (.istore 10, 2) := by decide +kernel
theorem dX13_call_272 : decode cX13_call 272 = .ok (.iload 10, 2) := by decide +kernel
theorem dX13_call_274 : decode cX13_call 274 = .ok (.bipush 63, 2) := by decide +kernel
theorem dX13_call_276 : decode cX13_call 276 = .ok (.if_icmp .ge 31, 3) := by decide +kernel
theorem dX13_call_279 : decode cX13_call 279 = .ok (.iload 9, 2) := by decide +kernel
theorem dX13_call_281 : decode cX13_call 281 = .ok (.ifCond .ne 13, 3) := by decide +kernel
theorem dX13_call_284 : decode cX13_call 284 = .ok (.aload_n 0, 1) := by decide +kernel
theorem dX13_call_285 : decode cX13_call 285 = .ok (.iload 10, 2) := by decide +kernel
theorem dX13_call_287 : decode cX13_call 287 = .ok (.iconst 0, 1) := by decide +kernel
theorem dX13_call_288 : decode cX13_call 288 = .ok (.invokevirtual 143, 3) := by decide +kernel
theorem dX13_call_291 : decode cX13_call 291 = .ok (.ifCond .eq 7, 3) := by decide +kernel
theorem dX13_call_294 : decode cX13_call 294 = .ok (.iconst 1, 1) := by decide +kernel
theorem dX13_call_295 : decode cX13_call 295 = .ok (.goto 4, 3) := by decide +kernel
theorem dX13_call_298 : decode cX13_call 298 = .ok (.iconst 0, 1) := by decide +kernel
theorem dX13_call_299 : decode cX13_call 299 = .ok (.istore 9, 2) := by decide +kernel
theorem dX13_call_301 : decode cX13_call 301 = .ok (.iinc 10 1, 3) := by decide +kernel
theorem dX13_call_304 : decode cX13_call 304 = .ok (.goto (-32), 3) := by decide +kernel
theorem dX13_call_307 : decode cX13_call 307 = .ok (.aload_n 0, 1) := by decide +kernel
theorem dX13_call_308 : decode cX13_call 308 = .ok (.iload 4, 2) := by decide +kernel
theorem dX13_call_310 : decode cX13_call 310 = .ok (.ifCond .eq 8, 3) := by decide +kernel
theorem dX13_call_313 : decode cX13_call 313 = .ok (.iload 9, 2) := by decide +kernel
theorem dX13_call_315 : decode cX13_call 315 = .ok (.ifCond .ne 7, 3) := by decide +kernel
theorem dX13_call_318 : decode cX13_call 318 = .ok (.iconst 1, 1) := by decide +kernel
theorem dX13_call_319 : decode cX13_call 319 = .ok (.goto 4, 3) := by decide +kernel
theorem dX13_call_322 : decode cX13_call 322 = .ok (.iconst 0, 1) := by decide +kernel
theorem dX13_call_323 : decode cX13_call 323 = .ok (.bipush 6, 2) := by decide +kernel
theorem dX13_call_325 : decode cX13_call 325 = .ok (.invokevirtual 117, 3) := by decide +kernel
theorem dX13_call_328 : decode cX13_call 328 = .ok (.iconst 0, 1) := by decide +kernel
theorem dX13_call_329 : decode cX13_call 329 = .ok (.istore 10, 2) := by decide +kernel
theorem dX13_call_331 : decode cX13_call 331 = .ok (.iload 10, 2) := by decide +kernel
theorem dX13_call_333 : decode cX13_call 333 = .ok (.aload_n 0, 1) := by decide +kernel
theorem dX13_call_334 : decode cX13_call 334 = .ok (.getfield 72, 3) := by decide +kernel
theorem dX13_call_337 : decode cX13_call 337 = .ok (.iload_n 1, 1) := by decide +kernel
theorem dX13_call_338 : decode cX13_call 338 = .ok (.iconst 1, 1) := by decide +kernel
theorem dX13_call_339 : decode cX13_call 339 = .ok (.invokevirtual 165, 3) := by decide +kernel
theorem dX13_call_342 : decode cX13_call 342 = .ok (.if_icmp .ge 44, 3) := by decide +kernel
theorem dX13_call_345 : decode cX13_call 345 = .ok (.aload_n 0, 1) := by decide +kernel
theorem dX13_call_346 : decode cX13_call 346 = .ok (.getfield 72, 3) := by decide +kernel
theorem dX13_call_349 : decode cX13_call 349 = .ok (.iload_n 1, 1) := by decide +kernel
theorem dX13_call_350 : decode cX13_call 350 = .ok (.iconst 1, 1) := by decide +kernel
theorem dX13_call_351 : decode cX13_call 351 = .ok (.iload 10, 2) := by decide +kernel
theorem dX13_call_353 : decode cX13_call 353 = .ok (.invokevirtual 169, 3) := by decide +kernel
theorem dX13_call_356 : decode cX13_call 356 = .ok (.lstore 11, 2) := by decide +kernel
theorem dX13_call_358 : decode cX13_call 358 = .ok (.aload_n 0, 1) := by decide +kernel
theorem dX13_call_359 : decode cX13_call 359 = .ok (.lload 11, 2) := by decide +kernel
theorem dX13_call_361 : decode cX13_call 361 = .ok (.lload 11, 2) := by decide +kernel
theorem dX13_call_363 : decode cX13_call 363 = .ok (.invokestatic 121, 3) := by decide +kernel
theorem dX13_call_366 : decode cX13_call 366 = .ok (.ifCond .eq 8, 3) := by decide +kernel
theorem dX13_call_369 : decode cX13_call 369 = .ok (.lload 7, 2) := by decide +kernel
theorem dX13_call_371 : decode cX13_call 371 = .ok (.goto 5, 3) := by decide +kernel
theorem dX13_call_374 : decode cX13_call 374 = .ok (.lload 5, 2) := by decide +kernel
theorem dX13_call_376 : decode cX13_call 376 = .ok (.iconst 1, 1) := by decide +kernel
theorem dX13_call_377 : decode cX13_call 377 = .ok (.invokevirtual 95, 3) := by decide +kernel
theorem dX13_call_380 : decode cX13_call 380 = .ok (.iinc 10 1, 3) := by decide +kernel
theorem dX13_call_383 : decode cX13_call 383 = .ok (.goto (-52), 3) := by decide +kernel
theorem dX13_call_386 : decode cX13_call 386 = .ok (.return_, 1) := by decide +kernel
theorem dX13_onNumbers_0 : decode cX13_onNumbers 0 = .ok (.iload_n 1, 1) := by decide +kernel
theorem dX13_onNumbers_1 : decode cX13_onNumbers 1 = .ok (.bipush 32, 2) := by decide +kernel
theorem dX13_onNumbers_3 : decode cX13_onNumbers 3 = .ok (.if_icmp .ge 29, 3) := by decide +kernel
theorem dX13_onNumbers_6 : decode cX13_onNumbers 6 = .ok (.aload_n 0, 1) := by decide +kernel
theorem dX13_onNumbers_7 : decode cX13_onNumbers 7 = .ok (.iload_n 1, 1) := by decide +kernel
theorem dX13_onNumbers_8 : decode cX13_onNumbers 8 = .ok (.bipush 28, 2) := by decide +kernel
theorem dX13_onNumbers_10 : decode cX13_onNumbers 10 = .ok (.if_icmp .le 7, 3) := by decide +kernel
theorem dX13_onNumbers_13 : decode cX13_onNumbers 13 = .ok (.iconst 1, 1) := by decide +kernel
theorem dX13_onNumbers_14 : decode cX13_onNumbers 14 = .ok (.goto 4, 3) := by decide +kernel
theorem dX13_onNumbers_17 : decode cX13_onNumbers 17 = .ok (.iconst 0, 1) := by decide +kernel
theorem dX13_onNumbers_18 : decode cX13_onNumbers 18 = .ok (.invokevirtual 179, 3) := by decide +kernel
theorem dX13_onNumbers_21 : decode cX13_onNumbers 21 = .ok (.aload_n 0, 1) := by decide +kernel
theorem dX13_onNumbers_22 : decode cX13_onNumbers 22 = .ok (.aload_n 0, 1) := by decide +kernel
theorem dX13_onNumbers_23 : decode cX13_onNumbers 23 = .ok (.getfield 99, 3) := by decide +kernel
theorem dX13_onNumbers_26 : decode cX13_onNumbers 26 = .ok (.invokevirtual 159, 3) := by decide +kernel
theorem dX13_onNumbers_29 : decode cX13_onNumbers 29 = .ok (.goto 195, 3) := by decide +kernel
theorem dX13_onNumbers_32 : decode cX13_onNumbers 32 = .ok (.iload_n 1, 1) := by decide +kernel
theorem dX13_onNumbers_33 : decode cX13_onNumbers 33 = .ok (.bipush 34, 2) := by decide +kernel
theorem dX13_onNumbers_35 : decode cX13_onNumbers 35 = .ok (.if_icmp .ge 44, 3) := by decide +kernel
theorem dX13_onNumbers_38 : decode cX13_onNumbers 38 = .ok (.aload_n 0, 1) := by decide +kernel
theorem dX13_onNumbers_39 : decode cX13_onNumbers 39 = .ok (.ldc2_w 124, 3) := by decide +kernel
theorem dX13_onNumbers_42 : decode cX13_onNumbers 42 = .ok (.invokevirtual 133, 3) := by decide +kernel
theorem dX13_onNumbers_45 : decode cX13_onNumbers 45 = .ok (.aload_n 0, 1) := by decide +kernel
theorem dX13_onNumbers_46 : decode cX13_onNumbers 46 = .ok (.invokevirtual 110, 3) := by decide +kernel
theorem dX13_onNumbers_49 : decode cX13_onNumbers 49 = .ok (.aload_n 0, 1) := by decide +kernel
theorem dX13_onNumbers_50 : decode cX13_onNumbers 50 = .ok (.getfield 48, 3) := by decide +kernel
theorem dX13_onNumbers_53 : decode cX13_onNumbers 53 = .ok (.ifCond .ne 15, 3) := by decide +kernel
theorem dX13_onNumbers_56 : decode cX13_onNumbers 56 = .ok (.aload_n 0, 1) := by decide +kernel
theorem dX13_onNumbers_57 : decode cX13_onNumbers 57 = .ok (.aload_n 0, 1) := by decide +kernel
theorem dX13_onNumbers_58 : decode cX13_onNumbers 58 = .ok (.getfield 99, 3) := by decide +kernel
theorem dX13_onNumbers_61 : decode cX13_onNumbers 61 = .ok (.invokestatic 130, 3) := by decide +kernel
theorem dX13_onNumbers_64 : decode cX13_onNumbers 64 = .ok (.iconst 3, 1) := by decide +kernel
theorem dX13_onNumbers_65 : decode cX13_onNumbers 65 = .ok (.invokevirtual 117, 3) := by decide +kernel
theorem dX13_onNumbers_68 : decode cX13_onNumbers 68 = .ok (.aload_n 0, 1) := by decide +kernel
theorem dX13_onNumbers_69 : decode cX13_onNumbers 69 = .ok (.aload_n 0, 1) := by decide +kernel
theorem dX13_onNumbers_70 : decode cX13_onNumbers 70 = .ok (.getfield 99, 3) := by decide +kernel
theorem dX13_onNumbers_73 : decode cX13_onNumbers 73 = .ok (.invokevirtual 159, 3) := by decide +kernel
theorem dX13_onNumbers_76 : decode cX13_onNumbers 76 = .ok (.goto 148, 3) := by decide +kernel
theorem dX13_onNumbers_79 : decode cX13_onNumbers 79 = .ok (.iload_n 1, 1) := by decide +kernel
theorem dX13_onNumbers_80 : decode cX13_onNumbers 80 = .ok (.bipush 34, 2) := by decide +kernel
theorem dX13_onNumbers_82 : decode cX13_onNumbers 82 = .ok (.if_icmp .ne 16, 3) := by decide +kernel
theorem dX13_onNumbers_85 : decode cX13_onNumbers 85 = .ok (.aload_n 0, 1) := by decide +kernel
theorem dX13_onNumbers_86 : decode cX13_onNumbers 86 = .ok (.lconst 1, 1) := by decide +kernel
theorem dX13_onNumbers_87 : decode cX13_onNumbers 87 = .ok (.invokevirtual 133, 3) := by decide +kernel
theorem dX13_onNumbers_90 : decode cX13_onNumbers 90 = .ok (.aload_n 0, 1) := by decide +kernel
theorem dX13_onNumbers_91 : decode cX13_onNumbers 91 = .ok (.lconst 1, 1) := by decide +kernel
theorem dX13_onNumbers_92 : decode cX13_onNumbers 92 = .ok (.invokevirtual 159, 3) := by decide +kernel
theorem dX13_onNumbers_95 : decode cX13_onNumbers 95 = .ok (.goto 129, 3) := by decide +kernel
theorem dX13_onNumbers_98 : decode cX13_onNumbers 98 = .ok (.iload_n 1, 1) := by decide +kernel
theorem dX13_onNumbers_99 : decode cX13_onNumbers 99 = .ok (.bipush 38, 2) := by decide +kernel
theorem dX13_onNumbers_101 : decode cX13_onNumbers 101 = .ok (.if_icmp .ge 71, 3) := by decide +kernel
theorem dX13_onNumbers_104 : decode cX13_onNumbers 104 = .ok (.aload_n 0, 1) := by decide +kernel
theorem dX13_onNumbers_105 : decode cX13_onNumbers 105 = .ok (.invokevirtual 110, 3) := by decide +kernel
theorem dX13_onNumbers_108 : decode cX13_onNumbers 108 = .ok (.aload_n 0, 1) := by decide +kernel
theorem dX13_onNumbers_109 : decode cX13_onNumbers 109 = .ok (.getfield 48, 3) := by decide +kernel
theorem dX13_onNumbers_112 : decode cX13_onNumbers 112 = .ok (.ifCond .ne 23, 3) := by decide +kernel
theorem dX13_onNumbers_115 : decode cX13_onNumbers 115 = .ok (.aload_n 0, 1) := by decide +kernel
theorem dX13_onNumbers_116 : decode cX13_onNumbers 116 = .ok (.aload_n 0, 1) := by decide +kernel
theorem dX13_onNumbers_117 : decode cX13_onNumbers 117 = .ok (.getfield 99, 3) := by decide +kernel
theorem dX13_onNumbers_120 : decode cX13_onNumbers 120 = .ok (.invokestatic 68, 3) := by decide +kernel
theorem dX13_onNumbers_123 : decode cX13_onNumbers 123 = .ok (.ifCond .ne 7, 3) := by decide +kernel
theorem dX13_onNumbers_126 : decode cX13_onNumbers 126 = .ok (.iconst 1, 1) := by decide +kernel
theorem dX13_onNumbers_127 : decode cX13_onNumbers 127 = .ok (.goto 4, 3) := by decide +kernel
theorem dX13_onNumbers_130 : decode cX13_onNumbers 130 = .ok (.iconst 0, 1) := by decide +kernel
theorem dX13_onNumbers_131 : decode cX13_onNumbers 131 = .ok (.iconst 3, 1) := by decide +kernel
theorem dX13_onNumbers_132 : decode cX13_onNumbers 132 = .ok (.invokevirtual 117, 3) := by decide +kernel
theorem dX13_onNumbers_135 : decode cX13_onNumbers 135 = .ok (.aload_n 0, 1) := by decide +kernel
theorem dX13_onNumbers_136 : decode cX13_onNumbers 136 = .ok (.aload_n 0, 1) := by decide +kernel
theorem dX13_onNumbers_137 : decode cX13_onNumbers 137 = .ok (.getfield 99, 3) := by decide +kernel
theorem dX13_onNumbers_140 : decode cX13_onNumbers 140 = .ok (.invokevirtual 133, 3) := by decide +kernel
theorem dX13_onNumbers_143 : decode cX13_onNumbers 143 = .ok (.aload_n 0, 1) := by decide +kernel
theorem dX13_onNumbers_144 : decode cX13_onNumbers 144 = .ok (.getfield 48, 3) := by decide +kernel
theorem dX13_onNumbers_147 : decode cX13_onNumbers 147 = .ok (.ifCond .ne 17, 3) := by decide +kernel
theorem dX13_onNumbers_150 : decode cX13_onNumbers 150 = .ok (.aload_n 0, 1) := by decide +kernel
theorem dX13_onNumbers_151 : decode cX13_onNumbers 151 = .ok (.aload_n 0, 1) := by decide +kernel
theorem dX13_onNumbers_152 : decode cX13_onNumbers 152 = .ok (.aload_n 0, 1) := by decide +kernel
theorem dX13_onNumbers_153 : decode cX13_onNumbers 153 = .ok (.getfield 99, 3) := by decide +kernel
theorem dX13_onNumbers_156 : decode cX13_onNumbers 156 = .ok (.iconst 2, 1) := by decide +kernel
theorem dX13_onNumbers_157 : decode cX13_onNumbers 157 = .ok (.invokevirtual 139, 3) := by decide +kernel
theorem dX13_onNumbers_160 : decode cX13_onNumbers 160 = .ok (.iconst 4, 1) := by decide +kernel
theorem dX13_onNumbers_161 : decode cX13_onNumbers 161 = .ok (.invokevirtual 117, 3) := by decide +kernel
theorem dX13_onNumbers_164 : decode cX13_onNumbers 164 = .ok (.aload_n 0, 1) := by decide +kernel
theorem dX13_onNumbers_165 : decode cX13_onNumbers 165 = .ok (.lconst 1, 1) := by decide +kernel
theorem dX13_onNumbers_166 : decode cX13_onNumbers 166 = .ok (.invokevirtual 159, 3) := by decide +kernel
theorem dX13_onNumbers_169 : decode cX13_onNumbers 169 = .ok (.goto 55, 3) := by decide +kernel
theorem dX13_onNumbers_172 : decode cX13_onNumbers 172 = .ok (.iload_n 1, 1) := by decide +kernel
theorem dX13_onNumbers_173 : decode cX13_onNumbers 173 = .ok (.bipush 42, 2) := by decide +kernel
theorem dX13_onNumbers_175 : decode cX13_onNumbers 175 = .ok (.if_icmp .ge 16, 3) := by decide +kernel
theorem dX13_onNumbers_178 : decode cX13_onNumbers 178 = .ok (.aload_n 0, 1) := by decide +kernel
theorem dX13_onNumbers_179 : decode cX13_onNumbers 179 = .ok (.iconst 0, 1) := by decide +kernel
theorem dX13_onNumbers_180 : decode cX13_onNumbers 180 = .ok (.invokevirtual 179, 3) := by decide +kernel
theorem dX13_onNumbers_183 : decode cX13_onNumbers 183 = .ok (.aload_n 0, 1) := by decide +kernel
theorem dX13_onNumbers_184 : decode cX13_onNumbers 184 = .ok (.lconst 1, 1) := by decide +kernel
theorem dX13_onNumbers_185 : decode cX13_onNumbers 185 = .ok (.invokevirtual 159, 3) := by decide +kernel
theorem dX13_onNumbers_188 : decode cX13_onNumbers 188 = .ok (.goto 36, 3) := by decide +kernel
theorem dX13_onNumbers_191 : decode cX13_onNumbers 191 = .ok (.aload_n 0, 1) := by decide +kernel
theorem dX13_onNumbers_192 : decode cX13_onNumbers 192 = .ok (.invokevirtual 110, 3) := by decide +kernel
theorem dX13_onNumbers_195 : decode cX13_onNumbers 195 = .ok (.aload_n 0, 1) := by decide +kernel
theorem dX13_onNumbers_196 : decode cX13_onNumbers 196 = .ok (.getfield 48, 3) := by decide +kernel
theorem dX13_onNumbers_199 : decode cX13_onNumbers 199 = .ok (.ifCond .ne 15, 3) := by decide +kernel
theorem dX13_onNumbers_202 : decode cX13_onNumbers 202 = .ok (.aload_n 0, 1) := by decide +kernel
theorem dX13_onNumbers_203 : decode cX13_onNumbers 203 = .ok (.aload_n 0, 1) := by decide +kernel
theorem dX13_onNumbers_204 : decode cX13_onNumbers 204 = .ok (.getfield 99, 3) := by decide +kernel
theorem dX13_onNumbers_207 : decode cX13_onNumbers 207 = .ok (.invokestatic 130, 3) := by decide +kernel
theorem dX13_onNumbers_210 : decode cX13_onNumbers 210 = .ok (.iconst 3, 1) := by decide +kernel
theorem dX13_onNumbers_211 : decode cX13_onNumbers 211 = .ok (.invokevirtual 117, 3) := by decide +kernel
theorem dX13_onNumbers_214 : decode cX13_onNumbers 214 = .ok (.aload_n 0, 1) := by decide +kernel
theorem dX13_onNumbers_215 : decode cX13_onNumbers 215 = .ok (.iload_n 1, 1) := by decide +kernel
theorem dX13_onNumbers_216 : decode cX13_onNumbers 216 = .ok (.i2l, 1) := by decide +kernel
theorem dX13_onNumbers_217 : decode cX13_onNumbers 217 = .ok (.ldc2_w 183, 3) := by decide +kernel
theorem dX13_onNumbers_220 : decode cX13_onNumbers 220 = .ok (.lsub, 1) := by decide +kernel
theorem dX13_onNumbers_221 : decode cX13_onNumbers 221 = .ok (.invokevirtual 159, 3) := by decide +kernel
theorem dX13_onNumbers_224 : decode cX13_onNumbers 224 = .ok (.return_, 1) := by decide +kernel
theorem dX13_onResource_0 : decode cX13_onResource 0 = .ok (.iload_n 2, 1) := by decide +kernel
theorem dX13_onResource_1 : decode cX13_onResource 1 = .ok (.invokestatic 151, 3) := by decide +kernel
theorem dX13_onResource_4 : decode cX13_onResource 4 = .ok (.lstore_n 3, 1) := by decide +kernel
theorem dX13_onResource_5 : decode cX13_onResource 5 = .ok (.bipush 48, 2) := by decide +kernel
theorem dX13_onResource_7 : decode cX13_onResource 7 = .ok (.iload_n 2, 1) := by decide +kernel
theorem dX13_onResource_8 : decode cX13_onResource 8 = .ok (.bipush 15, 2) := by decide +kernel
theorem dX13_onResource_10 : decode cX13_onResource 10 = .ok (.irem, 1) := by decide +kernel
theorem dX13_onResource_11 : decode cX13_onResource 11 = .ok (.iadd, 1) := by decide +kernel
theorem dX13_onResource_12 : decode cX13_onResource 12 = .ok (.istore 5, 2) := by decide +kernel
theorem dX13_onResource_14 : decode cX13_onResource 14 = .ok (.iload_n 1, 1) := by decide +kernel
theorem dX13_onResource_15 : decode cX13_onResource 15 = .ok (.bipush 47, 2) := by decide +kernel
theorem dX13_onResource_17 : decode cX13_onResource 17 = .ok (.if_icmp .ne 11, 3) := by decide +kernel
theorem dX13_onResource_20 : decode cX13_onResource 20 = .ok (.aload_n 0, 1) := by decide +kernel
theorem dX13_onResource_21 : decode cX13_onResource 21 = .ok (.lload_n 3, 1) := by decide +kernel
theorem dX13_onResource_22 : decode cX13_onResource 22 = .ok (.invokevirtual 133, 3) := by decide +kernel
theorem dX13_onResource_25 : decode cX13_onResource 25 = .ok (.goto 10, 3) := by decide +kernel
theorem dX13_onResource_28 : decode cX13_onResource 28 = .ok (.aload_n 0, 1) := by decide +kernel
theorem dX13_onResource_29 : decode cX13_onResource 29 = .ok (.ldc2_w 185, 3) := by decide +kernel
theorem dX13_onResource_32 : decode cX13_onResource 32 = .ok (.invokevirtual 133, 3) := by decide +kernel
theorem dX13_onResource_35 : decode cX13_onResource 35 = .ok (.aload_n 0, 1) := by decide +kernel
theorem dX13_onResource_36 : decode cX13_onResource 36 = .ok (.aload_n 0, 1) := by decide +kernel
theorem dX13_onResource_37 : decode cX13_onResource 37 = .ok (.getfield 72, 3) := by decide +kernel
theorem dX13_onResource_40 : decode cX13_onResource 40 = .ok (.aload_n 0, 1) := by decide +kernel
theorem dX13_onResource_41 : decode cX13_onResource 41 = .ok (.getfield 176, 3) := by decide +kernel
theorem dX13_onResource_44 : decode cX13_onResource 44 = .ok (.invokevirtual 173, 3) := by decide +kernel
theorem dX13_onResource_47 : decode cX13_onResource 47 = .ok (.iconst 4, 1) := by decide +kernel
theorem dX13_onResource_48 : decode cX13_onResource 48 = .ok (.iand, 1) := by decide +kernel
theorem dX13_onResource_49 : decode cX13_onResource 49 = .ok (.ifCond .eq 7, 3) := by decide +kernel
theorem dX13_onResource_52 : decode cX13_onResource 52 = .ok (.iconst 1, 1) := by decide +kernel
theorem dX13_onResource_53 : decode cX13_onResource 53 = .ok (.goto 4, 3) := by decide +kernel
theorem dX13_onResource_56 : decode cX13_onResource 56 = .ok (.iconst 0, 1) := by decide +kernel
theorem dX13_onResource_57 : decode cX13_onResource 57 = .ok (.bipush 15, 2) := by decide +kernel
theorem dX13_onResource_59 : decode cX13_onResource 59 = .ok (.invokevirtual 117, 3) := by decide +kernel
theorem dX13_onResource_62 : decode cX13_onResource 62 = .ok (.aload_n 0, 1) := by decide +kernel
theorem dX13_onResource_63 : decode cX13_onResource 63 = .ok (.aload_n 0, 1) := by decide +kernel
theorem dX13_onResource_64 : decode cX13_onResource 64 = .ok (.getfield 72, 3) := by decide +kernel
theorem dX13_onResource_67 : decode cX13_onResource 67 = .ok (.iload_n 2, 1) := by decide +kernel
theorem dX13_onResource_68 : decode cX13_onResource 68 = .ok (.invokevirtual 76, 3) := by decide +kernel
theorem dX13_onResource_71 : decode cX13_onResource 71 = .ok (.bipush 8, 2) := by decide +kernel
theorem dX13_onResource_73 : decode cX13_onResource 73 = .ok (.iand, 1) := by decide +kernel
theorem dX13_onResource_74 : decode cX13_onResource 74 = .ok (.ifCond .eq 7, 3) := by decide +kernel
theorem dX13_onResource_77 : decode cX13_onResource 77 = .ok (.iconst 1, 1) := by decide +kernel
theorem dX13_onResource_78 : decode cX13_onResource 78 = .ok (.goto 4, 3) := by decide +kernel
theorem dX13_onResource_81 : decode cX13_onResource 81 = .ok (.iconst 0, 1) := by decide +kernel
theorem dX13_onResource_82 : decode cX13_onResource 82 = .ok (.iconst 4, 1) := by decide +kernel
theorem dX13_onResource_83 : decode cX13_onResource 83 = .ok (.invokevirtual 117, 3) := by decide +kernel
theorem dX13_onResource_86 : decode cX13_onResource 86 = .ok (.aload_n 0, 1) := by decide +kernel
theorem dX13_onResource_87 : decode cX13_onResource 87 = .ok (.getfield 48, 3) := by decide +kernel
theorem dX13_onResource_90 : decode cX13_onResource 90 = .ok (.ifCond .eq 4, 3) := by decide +kernel
theorem dX13_onResource_93 : decode cX13_onResource 93 = .ok (.return_, 1) := by decide +kernel
theorem dX13_onResource_94 : decode cX13_onResource 94 = .ok (.iload_n 1, 1) := by decide +kernel
theorem dX13_onResource_95 : decode cX13_onResource 95 = .ok (.bipush 48, 2) := by decide +kernel
theorem dX13_onResource_97 : decode cX13_onResource 97 = .ok (.if_icmp .eq 9, 3) := by decide +kernel
theorem dX13_onResource_100 : decode cX13_onResource 100 = .ok (.iload_n 1, 1) := by decide +kernel
theorem dX13_onResource_101 : decode cX13_onResource 101 = .ok (.bipush 51, 2) := by decide +kernel
theorem dX13_onResource_103 : decode cX13_onResource 103 = .ok (.if_icmp .ne 24, 3) := by decide +kernel
theorem dX13_onResource_106 : decode cX13_onResource 106 = .ok (.aload_n 0, 1) := by decide +kernel
theorem dX13_onResource_107 : decode cX13_onResource 107 = .ok (.aload_n 0, 1) := by decide +kernel
theorem dX13_onResource_108 : decode cX13_onResource 108 = .ok (.iload 5, 2) := by decide +kernel
theorem dX13_onResource_110 : decode cX13_onResource 110 = .ok (.iconst 0, 1) := by decide +kernel
theorem dX13_onResource_111 : decode cX13_onResource 111 = .ok (.invokevirtual 143, 3) := by decide +kernel
theorem dX13_onResource_114 : decode cX13_onResource 114 = .ok (.ifCond .ne 7, 3) := by decide +kernel
theorem dX13_onResource_117 : decode cX13_onResource 117 = .ok (.iconst 1, 1) := by decide +kernel
theorem dX13_onResource_118 : decode cX13_onResource 118 = .ok (.goto 4, 3) := by decide +kernel
theorem dX13_onResource_121 : decode cX13_onResource 121 = .ok (.iconst 0, 1) := by decide +kernel
theorem dX13_onResource_122 : decode cX13_onResource 122 = .ok (.bipush 6, 2) := by decide +kernel
theorem dX13_onResource_124 : decode cX13_onResource 124 = .ok (.invokevirtual 117, 3) := by decide +kernel
theorem dX13_onResource_127 : decode cX13_onResource 127 = .ok (.iload_n 1, 1) := by decide +kernel
theorem dX13_onResource_128 : decode cX13_onResource 128 = .ok (.bipush 50, 2) := by decide +kernel
theorem dX13_onResource_130 : decode cX13_onResource 130 = .ok (.if_icmp .ne 24, 3) := by decide +kernel
theorem dX13_onResource_133 : decode cX13_onResource 133 = .ok (.aload_n 0, 1) := by decide +kernel
theorem dX13_onResource_134 : decode cX13_onResource 134 = .ok (.aload_n 0, 1) := by decide +kernel
theorem dX13_onResource_135 : decode cX13_onResource 135 = .ok (.iload 5, 2) := by decide +kernel
theorem dX13_onResource_137 : decode cX13_onResource 137 = .ok (.iconst 1, 1) := by decide +kernel
theorem dX13_onResource_138 : decode cX13_onResource 138 = .ok (.invokevirtual 143, 3) := by decide +kernel
theorem dX13_onResource_141 : decode cX13_onResource 141 = .ok (.ifCond .ne 7, 3) := by decide +kernel
theorem dX13_onResource_144 : decode cX13_onResource 144 = .ok (.iconst 1, 1) := by decide +kernel
theorem dX13_onResource_145 : decode cX13_onResource 145 = .ok (.goto 4, 3) := by decide +kernel
theorem dX13_onResource_148 : decode cX13_onResource 148 = .ok (.iconst 0, 1) := by decide +kernel
theorem dX13_onResource_149 : decode cX13_onResource 149 = .ok (.bipush 6, 2) := by decide +kernel
theorem dX13_onResource_151 : decode cX13_onResource 151 = .ok (.invokevirtual 117, 3) := by decide +kernel
theorem dX13_onResource_154 : decode cX13_onResource 154 = .ok (.iload_n 1, 1) := by decide +kernel
theorem dX13_onResource_155 : decode cX13_onResource 155 = .ok (.bipush 48, 2) := by decide +kernel
theorem dX13_onResource_157 : decode cX13_onResource 157 = .ok (.if_icmp .ne 8, 3) := by decide +kernel
theorem dX13_onResource_160 : decode cX13_onResource 160 = .ok (.aload_n 0, 1) := by decide +kernel
theorem dX13_onResource_161 : decode cX13_onResource 161 = .ok (.lload_n 3, 1) := by decide +kernel
theorem dX13_onResource_162 : decode cX13_onResource 162 = .ok (.invokevirtual 159, 3) := by decide +kernel
theorem dX13_onResource_165 : decode cX13_onResource 165 = .ok (.iload_n 1, 1) := by decide +kernel
theorem dX13_onResource_166 : decode cX13_onResource 166 = .ok (.bipush 49, 2) := by decide +kernel
theorem dX13_onResource_168 : decode cX13_onResource 168 = .ok (.if_icmp .ne 8, 3) := by decide +kernel
theorem dX13_onResource_171 : decode cX13_onResource 171 = .ok (.aload_n 0, 1) := by decide +kernel
theorem dX13_onResource_172 : decode cX13_onResource 172 = .ok (.lconst 1, 1) := by decide +kernel
theorem dX13_onResource_173 : decode cX13_onResource 173 = .ok (.invokevirtual 159, 3) := by decide +kernel
theorem dX13_onResource_176 : decode cX13_onResource 176 = .ok (.iload_n 1, 1) := by decide +kernel
theorem dX13_onResource_177 : decode cX13_onResource 177 = .ok (.bipush 49, 2) := by decide +kernel
theorem dX13_onResource_179 : decode cX13_onResource 179 = .ok (.if_icmp .le 29, 3) := by decide +kernel
theorem dX13_onResource_182 : decode cX13_onResource 182 = .ok (.aload_n 0, 1) := by decide +kernel
theorem dX13_onResource_183 : decode cX13_onResource 183 = .ok (.iload_n 1, 1) := by decide +kernel
theorem dX13_onResource_184 : decode cX13_onResource 184 = .ok (.bipush 50, 2) := by decide +kernel
theorem dX13_onResource_186 : decode cX13_onResource 186 = .ok (.if_icmp .ne 8, 3) := by decide +kernel
theorem dX13_onResource_189 : decode cX13_onResource 189 = .ok (.bipush 8, 2) := by decide +kernel
theorem dX13_onResource_191 : decode cX13_onResource 191 = .ok (.goto 5, 3) := by decide +kernel
theorem dX13_onResource_194 : decode cX13_onResource 194 = .ok (.bipush 9, 2) := by decide +kernel
theorem dX13_onResource_196 : decode cX13_onResource 196 = .ok (.lload_n 3, 1) := by decide +kernel
theorem dX13_onResource_197 : decode cX13_onResource 197 = .ok (.invokestatic 147, 3) := by decide +kernel
theorem dX13_onResource_200 : decode cX13_onResource 200 = .ok (.lconst 1, 1) := by decide +kernel
theorem dX13_onResource_201 : decode cX13_onResource 201 = .ok (.iload 5, 2) := by decide +kernel
theorem dX13_onResource_203 : decode cX13_onResource 203 = .ok (.lshl, 1) := by decide +kernel
theorem dX13_onResource_204 : decode cX13_onResource 204 = .ok (.iconst 0, 1) := by decide +kernel
theorem dX13_onResource_205 : decode cX13_onResource 205 = .ok (.invokevirtual 95, 3) := by decide +kernel
theorem dX13_onResource_208 : decode cX13_onResource 208 = .ok (.return_, 1) := by decide +kernel
theorem dX13_onVector_0 : decode cX13_onVector 0 = .ok (.iload_n 1, 1) := by decide +kernel
theorem dX13_onVector_1 : decode cX13_onVector 1 = .ok (.bipush 59, 2) := by decide +kernel
theorem dX13_onVector_3 : decode cX13_onVector 3 = .ok (.if_icmp .ne 18, 3) := by decide +kernel
theorem dX13_onVector_6 : decode cX13_onVector 6 = .ok (.aload_n 0, 1) := by decide +kernel
theorem dX13_onVector_7 : decode cX13_onVector 7 = .ok (.ldc2_w 187, 3) := by decide +kernel
theorem dX13_onVector_10 : decode cX13_onVector 10 = .ok (.invokevirtual 133, 3) := by decide +kernel
theorem dX13_onVector_13 : decode cX13_onVector 13 = .ok (.aload_n 0, 1) := by decide +kernel
theorem dX13_onVector_14 : decode cX13_onVector 14 = .ok (.ldc2_w 187, 3) := by decide +kernel
theorem dX13_onVector_17 : decode cX13_onVector 17 = .ok (.invokevirtual 159, 3) := by decide +kernel
theorem dX13_onVector_20 : decode cX13_onVector 20 = .ok (.return_, 1) := by decide +kernel
theorem dX13_onVector_21 : decode cX13_onVector 21 = .ok (.aload_n 0, 1) := by decide +kernel
theorem dX13_onVector_22 : decode cX13_onVector 22 = .ok (.getfield 72, 3) := by decide +kernel
theorem dX13_onVector_25 : decode cX13_onVector 25 = .ok (.iload_n 2, 1) := by decide +kernel
theorem dX13_onVector_26 : decode cX13_onVector 26 = .ok (.invokevirtual 189, 3) := by decide +kernel
theorem dX13_onVector_29 : decode cX13_onVector 29 = .ok (.lstore 4, 2) := by decide +kernel
theorem dX13_onVector_31 : decode cX13_onVector 31 = .ok (.bipush 7, 2) := by decide +kernel
theorem dX13_onVector_33 : decode cX13_onVector 33 = .ok (.lload 4, 2) := by decide +kernel
theorem dX13_onVector_35 : decode cX13_onVector 35 = .ok (.invokestatic 147, 3) := by decide +kernel
theorem dX13_onVector_38 : decode cX13_onVector 38 = .ok (.lstore 6, 2) := by decide +kernel
theorem dX13_onVector_40 : decode cX13_onVector 40 = .ok (.iload_n 1, 1) := by decide +kernel
theorem dX13_onVector_41 : decode cX13_onVector 41 = .ok (.bipush 52, 2) := by decide +kernel
theorem dX13_onVector_43 : decode cX13_onVector 43 = .ok (.if_icmp .ne 31, 3) := by decide +kernel
theorem dX13_onVector_46 : decode cX13_onVector 46 = .ok (.iconst 0, 1) := by decide +kernel
theorem dX13_onVector_47 : decode cX13_onVector 47 = .ok (.istore 8, 2) := by decide +kernel
theorem dX13_onVector_49 : decode cX13_onVector 49 = .ok (.iload 8, 2) := by decide +kernel
theorem dX13_onVector_51 : decode cX13_onVector 51 = .ok (.iload_n 3, 1) := by decide +kernel
theorem dX13_onVector_52 : decode cX13_onVector 52 = .ok (.if_icmp .ge 15, 3) := by decide +kernel
theorem dX13_onVector_55 : decode cX13_onVector 55 = .ok (.aload_n 0, 1) := by decide +kernel
theorem dX13_onVector_56 : decode cX13_onVector 56 = .ok (.lload 4, 2) := by decide +kernel
theorem dX13_onVector_58 : decode cX13_onVector 58 = .ok (.invokevirtual 133, 3) := by decide +kernel
theorem dX13_onVector_61 : decode cX13_onVector 61 = .ok (.iinc 8 1, 3) := by decide +kernel
theorem dX13_onVector_64 : decode cX13_onVector 64 = .ok (.goto (-15), 3) := by decide +kernel
theorem dX13_onVector_67 : decode cX13_onVector 67 = .ok (.aload_n 0, 1) := by decide +kernel
theorem dX13_onVector_68 : decode cX13_onVector 68 = .ok (.lload 6, 2) := by decide +kernel
theorem dX13_onVector_70 : decode cX13_onVector 70 = .ok (.invokevirtual 159, 3) := by decide +kernel
theorem dX13_onVector_73 : decode cX13_onVector 73 = .ok (.return_, 1) := by decide +kernel
theorem dX13_onVector_74 : decode cX13_onVector 74 = .ok (.iload_n 1, 1) := by decide +kernel
theorem dX13_onVector_75 : decode cX13_onVector 75 = .ok (.bipush 54, 2) := by decide +kernel
theorem dX13_onVector_77 : decode cX13_onVector 77 = .ok (.if_icmp .eq 15, 3) := by decide +kernel
theorem dX13_onVector_80 : decode cX13_onVector 80 = .ok (.iload_n 1, 1) := by decide +kernel
theorem dX13_onVector_81 : decode cX13_onVector 81 = .ok (.bipush 55, 2) := by decide +kernel
theorem dX13_onVector_83 : decode cX13_onVector 83 = .ok (.if_icmp .eq 9, 3) := by decide +kernel
theorem dX13_onVector_86 : decode cX13_onVector 86 = .ok (.iload_n 1, 1) := by decide +kernel
theorem dX13_onVector_87 : decode cX13_onVector 87 = .ok (.bipush 58, 2) := by decide +kernel
theorem dX13_onVector_89 : decode cX13_onVector 89 = .ok (.if_icmp .ne 10, 3) := by decide +kernel
theorem dX13_onVector_92 : decode cX13_onVector 92 = .ok (.aload_n 0, 1) := by decide +kernel
theorem dX13_onVector_93 : decode cX13_onVector 93 = .ok (.ldc2_w 126, 3) := by decide +kernel
theorem dX13_onVector_96 : decode cX13_onVector 96 = .ok (.invokevirtual 133, 3) := by decide +kernel
theorem dX13_onVector_99 : decode cX13_onVector 99 = .ok (.iload_n 1, 1) := by decide +kernel
theorem dX13_onVector_100 : decode cX13_onVector 100 = .ok (.bipush 58, 2) := by decide +kernel
theorem dX13_onVector_102 : decode cX13_onVector 102 = .ok (.if_icmp .ne 10, 3) := by decide +kernel
theorem dX13_onVector_105 : decode cX13_onVector 105 = .ok (.aload_n 0, 1) := by decide +kernel
theorem dX13_onVector_106 : decode cX13_onVector 106 = .ok (.ldc2_w 126, 3) := by decide +kernel
theorem dX13_onVector_109 : decode cX13_onVector 109 = .ok (.invokevirtual 133, 3) := by decide +kernel
theorem dX13_onVector_112 : decode cX13_onVector 112 = .ok (.iload_n 1, 1) := by decide +kernel
theorem dX13_onVector_113 : decode cX13_onVector 113 = .ok (.bipush 56, 2) := by decide +kernel
theorem dX13_onVector_115 : decode cX13_onVector 115 = .ok (.if_icmp .ne 9, 3) := by decide +kernel
theorem dX13_onVector_118 : decode cX13_onVector 118 = .ok (.aload_n 0, 1) := by decide +kernel
theorem dX13_onVector_119 : decode cX13_onVector 119 = .ok (.lload 4, 2) := by decide +kernel
theorem dX13_onVector_121 : decode cX13_onVector 121 = .ok (.invokevirtual 133, 3) := by decide +kernel
theorem dX13_onVector_124 : decode cX13_onVector 124 = .ok (.aload_n 0, 1) := by decide +kernel
theorem dX13_onVector_125 : decode cX13_onVector 125 = .ok (.lload 6, 2) := by decide +kernel
theorem dX13_onVector_127 : decode cX13_onVector 127 = .ok (.iload_n 1, 1) := by decide +kernel
theorem dX13_onVector_128 : decode cX13_onVector 128 = .ok (.bipush 54, 2) := by decide +kernel
theorem dX13_onVector_130 : decode cX13_onVector 130 = .ok (.if_icmp .le 7, 3) := by decide +kernel
theorem dX13_onVector_133 : decode cX13_onVector 133 = .ok (.iconst 1, 1) := by decide +kernel
theorem dX13_onVector_134 : decode cX13_onVector 134 = .ok (.goto 4, 3) := by decide +kernel
theorem dX13_onVector_137 : decode cX13_onVector 137 = .ok (.iconst 0, 1) := by decide +kernel
theorem dX13_onVector_138 : decode cX13_onVector 138 = .ok (.invokevirtual 155, 3) := by decide +kernel
theorem dX13_onVector_141 : decode cX13_onVector 141 = .ok (.aload_n 0, 1) := by decide +kernel
theorem dX13_onVector_142 : decode cX13_onVector 142 = .ok (.getfield 103, 3) := by decide +kernel
theorem dX13_onVector_145 : decode cX13_onVector 145 = .ok (.lstore 8, 2) := by decide +kernel
theorem dX13_onVector_147 : decode cX13_onVector 147 = .ok (.aload_n 0, 1) := by decide +kernel
theorem dX13_onVector_148 : decode cX13_onVector 148 = .ok (.getfield 48, 3) := by decide +kernel
theorem dX13_onVector_151 : decode cX13_onVector 151 = .ok (.ifCond .eq 4, 3) := by decide +kernel
theorem dX13_onVector_154 : decode cX13_onVector 154 = .ok (.return_, 1) := by decide +kernel
theorem dX13_onVector_155 : decode cX13_onVector 155 = .ok (.iload_n 1, 1) := by decide +kernel
theorem dX13_onVector_156 : decode cX13_onVector 156 = .ok (.bipush 55, 2) := by decide +kernel
theorem dX13_onVector_158 : decode cX13_onVector 158 = .ok (.if_icmp .le 15, 3) := by decide +kernel
theorem dX13_onVector_161 : decode cX13_onVector 161 = .ok (.aload_n 0, 1) := by decide +kernel
theorem dX13_onVector_162 : decode cX13_onVector 162 = .ok (.aload_n 0, 1) := by decide +kernel
theorem dX13_onVector_163 : decode cX13_onVector 163 = .ok (.lload 8, 2) := by decide +kernel
theorem dX13_onVector_165 : decode cX13_onVector 165 = .ok (.invokevirtual 162, 3) := by decide +kernel
theorem dX13_onVector_168 : decode cX13_onVector 168 = .ok (.bipush 6, 2) := by decide +kernel
theorem dX13_onVector_170 : decode cX13_onVector 170 = .ok (.invokevirtual 117, 3) := by decide +kernel
theorem dX13_onVector_173 : decode cX13_onVector 173 = .ok (.iload_n 1, 1) := by decide +kernel
theorem dX13_onVector_174 : decode cX13_onVector 174 = .ok (.bipush 53, 2) := by decide +kernel
theorem dX13_onVector_176 : decode cX13_onVector 176 = .ok (.if_icmp .ne 10, 3) := by decide +kernel
theorem dX13_onVector_179 : decode cX13_onVector 179 = .ok (.aload_n 0, 1) := by decide +kernel
theorem dX13_onVector_180 : decode cX13_onVector 180 = .ok (.ldc2_w 126, 3) := by decide +kernel
theorem dX13_onVector_183 : decode cX13_onVector 183 = .ok (.invokevirtual 159, 3) := by decide +kernel
theorem dX13_onVector_186 : decode cX13_onVector 186 = .ok (.iload_n 1, 1) := by decide +kernel
theorem dX13_onVector_187 : decode cX13_onVector 187 = .ok (.bipush 54, 2) := by decide +kernel
theorem dX13_onVector_189 : decode cX13_onVector 189 = .ok (.if_icmp .eq 9, 3) := by decide +kernel
theorem dX13_onVector_192 : decode cX13_onVector 192 = .ok (.iload_n 1, 1) := by decide +kernel
theorem dX13_onVector_193 : decode cX13_onVector 193 = .ok (.bipush 55, 2) := by decide +kernel
theorem dX13_onVector_195 : decode cX13_onVector 195 = .ok (.if_icmp .ne 28, 3) := by decide +kernel
theorem dX13_onVector_198 : decode cX13_onVector 198 = .ok (.aload_n 0, 1) := by decide +kernel
theorem dX13_onVector_199 : decode cX13_onVector 199 = .ok (.iload_n 1, 1) := by decide +kernel
theorem dX13_onVector_200 : decode cX13_onVector 200 = .ok (.bipush 55, 2) := by decide +kernel
theorem dX13_onVector_202 : decode cX13_onVector 202 = .ok (.if_icmp .ne 8, 3) := by decide +kernel
theorem dX13_onVector_205 : decode cX13_onVector 205 = .ok (.bipush 9, 2) := by decide +kernel
theorem dX13_onVector_207 : decode cX13_onVector 207 = .ok (.goto 5, 3) := by decide +kernel
theorem dX13_onVector_210 : decode cX13_onVector 210 = .ok (.bipush 8, 2) := by decide +kernel
theorem dX13_onVector_212 : decode cX13_onVector 212 = .ok (.lload 4, 2) := by decide +kernel
theorem dX13_onVector_214 : decode cX13_onVector 214 = .ok (.invokestatic 147, 3) := by decide +kernel
theorem dX13_onVector_217 : decode cX13_onVector 217 = .ok (.lload 8, 2) := by decide +kernel
theorem dX13_onVector_219 : decode cX13_onVector 219 = .ok (.iconst 1, 1) := by decide +kernel
theorem dX13_onVector_220 : decode cX13_onVector 220 = .ok (.invokevirtual 95, 3) := by decide +kernel
theorem dX13_onVector_223 : decode cX13_onVector 223 = .ok (.iload_n 1, 1) := by decide +kernel
theorem dX13_onVector_224 : decode cX13_onVector 224 = .ok (.bipush 57, 2) := by decide +kernel
theorem dX13_onVector_226 : decode cX13_onVector 226 = .ok (.if_icmp .ne 9, 3) := by decide +kernel
theorem dX13_onVector_229 : decode cX13_onVector 229 = .ok (.aload_n 0, 1) := by decide +kernel
theorem dX13_onVector_230 : decode cX13_onVector 230 = .ok (.lload 4, 2) := by decide +kernel
theorem dX13_onVector_232 : decode cX13_onVector 232 = .ok (.invokevirtual 159, 3) := by decide +kernel
theorem dX13_onVector_235 : decode cX13_onVector 235 = .ok (.return_, 1) := by decide +kernel
theorem dX13_giveBack_0 : decode cX13_giveBack 0 = .ok (.aload_n 0, 1) := by decide +kernel
theorem dX13_giveBack_1 : decode cX13_giveBack 1 = .ok (.getfield 92, 3) := by decide +kernel
theorem dX13_giveBack_4 : decode cX13_giveBack 4 = .ok (.aload_n 0, 1) := by decide +kernel
theorem dX13_giveBack_5 : decode cX13_giveBack 5 = .ok (.getfield 72, 3) := by decide +kernel
theorem dX13_giveBack_8 : decode cX13_giveBack 8 = .ok (.aload_n 0, 1) := by decide +kernel
theorem dX13_giveBack_9 : decode cX13_giveBack 9 = .ok (.getfield 176, 3) := by decide +kernel
theorem dX13_giveBack_12 : decode cX13_giveBack 12 = .ok (.iconst 1, 1) := by decide +kernel
theorem dX13_giveBack_13 : decode cX13_giveBack 13 = .ok (.invokevirtual 165, 3) := by decide +kernel
theorem dX13_giveBack_16 : decode cX13_giveBack 16 = .ok (.if_icmp .ne 7, 3) := by decide +kernel
theorem dX13_giveBack_19 : decode cX13_giveBack 19 = .ok (.iconst 1, 1) := by decide +kernel
theorem dX13_giveBack_20 : decode cX13_giveBack 20 = .ok (.goto 4, 3) := by decide +kernel
theorem dX13_giveBack_23 : decode cX13_giveBack 23 = .ok (.iconst 0, 1) := by decide +kernel
theorem dX13_giveBack_24 : decode cX13_giveBack 24 = .ok (.istore_n 1, 1) := by decide +kernel
theorem dX13_giveBack_25 : decode cX13_giveBack 25 = .ok (.iconst 0, 1) := by decide +kernel
theorem dX13_giveBack_26 : decode cX13_giveBack 26 = .ok (.istore_n 2, 1) := by decide +kernel
theorem dX13_giveBack_27 : decode cX13_giveBack 27 = .ok (.iload_n 2, 1) := by decide +kernel
theorem dX13_giveBack_28 : decode cX13_giveBack 28 = .ok (.aload_n 0, 1) := by decide +kernel
theorem dX13_giveBack_29 : decode cX13_giveBack 29 = .ok (.getfield 92, 3) := by decide +kernel
theorem dX13_giveBack_32 : decode cX13_giveBack 32 = .ok (.if_icmp .ge 42, 3) := by decide +kernel
theorem dX13_giveBack_35 : decode cX13_giveBack 35 = .ok (.iload_n 1, 1) := by decide +kernel
theorem dX13_giveBack_36 : decode cX13_giveBack 36 = .ok (.ifCond .eq 38, 3) := by decide +kernel
theorem dX13_giveBack_39 : decode cX13_giveBack 39 = .ok (.aload_n 0, 1) := by decide +kernel
theorem dX13_giveBack_40 : decode cX13_giveBack 40 = .ok (.getfield 30, 3) := by decide +kernel
theorem dX13_giveBack_43 : decode cX13_giveBack 43 = .ok (.iload_n 2, 1) := by decide +kernel
theorem dX13_giveBack_44 : decode cX13_giveBack 44 = .ok (.laload, 1) := by decide +kernel
theorem dX13_giveBack_45 : decode cX13_giveBack 45 = .ok (.aload_n 0, 1) := by decide +kernel
theorem dX13_giveBack_46 : decode cX13_giveBack 46 = .ok (.getfield 72, 3) := by decide +kernel
theorem dX13_giveBack_49 : decode cX13_giveBack 49 = .ok (.aload_n 0, 1) := by decide +kernel
theorem dX13_giveBack_50 : decode cX13_giveBack 50 = .ok (.getfield 176, 3) := by decide +kernel
theorem dX13_giveBack_53 : decode cX13_giveBack 53 = .ok (.iconst 1, 1) := by decide +kernel
theorem dX13_giveBack_54 : decode cX13_giveBack 54 = .ok (.iload_n 2, 1) := by decide +kernel
theorem dX13_giveBack_55 : decode cX13_giveBack 55 = .ok (.invokevirtual 169, 3) := by decide +kernel
theorem dX13_giveBack_58 : decode cX13_giveBack 58 = .ok (.lcmp, 1) := by decide +kernel
theorem dX13_giveBack_59 : decode cX13_giveBack 59 = .ok (.ifCond .ne 7, 3) := by decide +kernel
theorem dX13_giveBack_62 : decode cX13_giveBack 62 = .ok (.iconst 1, 1) := by decide +kernel
theorem dX13_giveBack_63 : decode cX13_giveBack 63 = .ok (.goto 4, 3) := by decide +kernel
theorem dX13_giveBack_66 : decode cX13_giveBack 66 = .ok (.iconst 0, 1) := by decide +kernel
theorem dX13_giveBack_67 : decode cX13_giveBack 67 = .ok (.istore_n 1, 1) := by decide +kernel
theorem dX13_giveBack_68 : decode cX13_giveBack 68 = .ok (.iinc 2 1, 3) := by decide +kernel
theorem dX13_giveBack_71 : decode cX13_giveBack 71 = .ok (.goto (-44), 3) := by decide +kernel
theorem dX13_giveBack_74 : decode cX13_giveBack 74 = .ok (.aload_n 0, 1) := by decide +kernel
theorem dX13_giveBack_75 : decode cX13_giveBack 75 = .ok (.iload_n 1, 1) := by decide +kernel
theorem dX13_giveBack_76 : decode cX13_giveBack 76 = .ok (.bipush 12, 2) := by decide +kernel
theorem dX13_giveBack_78 : decode cX13_giveBack 78 = .ok (.invokevirtual 117, 3) := by decide +kernel
theorem dX13_giveBack_81 : decode cX13_giveBack 81 = .ok (.iconst 0, 1) := by decide +kernel
theorem dX13_giveBack_82 : decode cX13_giveBack 82 = .ok (.istore_n 2, 1) := by decide +kernel
theorem dX13_giveBack_83 : decode cX13_giveBack 83 = .ok (.iload_n 2, 1) := by decide +kernel
theorem dX13_giveBack_84 : decode cX13_giveBack 84 = .ok (.aload_n 0, 1) := by decide +kernel
theorem dX13_giveBack_85 : decode cX13_giveBack 85 = .ok (.getfield 92, 3) := by decide +kernel
theorem dX13_giveBack_88 : decode cX13_giveBack 88 = .ok (.if_icmp .ge 42, 3) := by decide +kernel
theorem dX13_giveBack_91 : decode cX13_giveBack 91 = .ok (.aload_n 0, 1) := by decide +kernel
theorem dX13_giveBack_92 : decode cX13_giveBack 92 = .ok (.getfield 48, 3) := by decide +kernel
theorem dX13_giveBack_95 : decode cX13_giveBack 95 = .ok (.ifCond .ne 35, 3) := by decide +kernel
theorem dX13_giveBack_98 : decode cX13_giveBack 98 = .ok (.aload_n 0, 1) := by decide +kernel
theorem dX13_giveBack_99 : decode cX13_giveBack 99 = .ok (.aload_n 0, 1) := by decide +kernel
theorem dX13_giveBack_100 : decode cX13_giveBack 100 = .ok (.getfield 33, 3) := by decide +kernel
theorem dX13_giveBack_103 : decode cX13_giveBack 103 = .ok (.iload_n 2, 1) := by decide +kernel
theorem dX13_giveBack_104 : decode cX13_giveBack 104 = .ok (.laload, 1) := by decide +kernel
theorem dX13_giveBack_105 : decode cX13_giveBack 105 = .ok (.ldc2_w 192, 3) := by decide +kernel
theorem dX13_giveBack_108 : decode cX13_giveBack 108 = .ok (.land, 1) := by decide +kernel
theorem dX13_giveBack_109 : decode cX13_giveBack 109 = .ok (.lconst 0, 1) := by decide +kernel
theorem dX13_giveBack_110 : decode cX13_giveBack 110 = .ok (.lcmp, 1) := by decide +kernel
theorem dX13_giveBack_111 : decode cX13_giveBack 111 = .ok (.ifCond .ne 7, 3) := by decide +kernel
theorem dX13_giveBack_114 : decode cX13_giveBack 114 = .ok (.iconst 1, 1) := by decide +kernel
theorem dX13_giveBack_115 : decode cX13_giveBack 115 = .ok (.goto 4, 3) := by decide +kernel
theorem dX13_giveBack_118 : decode cX13_giveBack 118 = .ok (.iconst 0, 1) := by decide +kernel
theorem dX13_giveBack_119 : decode cX13_giveBack 119 = .ok (.bipush 14, 2) := by decide +kernel
theorem dX13_giveBack_121 : decode cX13_giveBack 121 = .ok (.invokevirtual 117, 3) := by decide +kernel
theorem dX13_giveBack_124 : decode cX13_giveBack 124 = .ok (.iinc 2 1, 3) := by decide +kernel
theorem dX13_giveBack_127 : decode cX13_giveBack 127 = .ok (.goto (-44), 3) := by decide +kernel
theorem dX13_giveBack_130 : decode cX13_giveBack 130 = .ok (.iconst 0, 1) := by decide +kernel
theorem dX13_giveBack_131 : decode cX13_giveBack 131 = .ok (.istore_n 2, 1) := by decide +kernel
theorem dX13_giveBack_132 : decode cX13_giveBack 132 = .ok (.iload_n 2, 1) := by decide +kernel
theorem dX13_giveBack_133 : decode cX13_giveBack 133 = .ok (.aload_n 0, 1) := by decide +kernel
theorem dX13_giveBack_134 : decode cX13_giveBack 134 = .ok (.getfield 136, 3) := by decide +kernel
theorem dX13_giveBack_137 : decode cX13_giveBack 137 = .ok (.if_icmp .ge 50, 3) := by decide +kernel
theorem dX13_giveBack_140 : decode cX13_giveBack 140 = .ok (.aload_n 0, 1) := by decide +kernel
theorem dX13_giveBack_141 : decode cX13_giveBack 141 = .ok (.getfield 48, 3) := by decide +kernel
theorem dX13_giveBack_144 : decode cX13_giveBack 144 = .ok (.ifCond .ne 43, 3) := by decide +kernel
theorem dX13_giveBack_147 : decode cX13_giveBack 147 = .ok (.aload_n 0, 1) := by decide +kernel
theorem dX13_giveBack_148 : decode cX13_giveBack 148 = .ok (.aload_n 0, 1) := by decide +kernel
theorem dX13_giveBack_149 : decode cX13_giveBack 149 = .ok (.getfield 39, 3) := by decide +kernel
theorem dX13_giveBack_152 : decode cX13_giveBack 152 = .ok (.iload_n 2, 1) := by decide +kernel
theorem dX13_giveBack_153 : decode cX13_giveBack 153 = .ok (.baload, 1) := by decide +kernel
theorem dX13_giveBack_154 : decode cX13_giveBack 154 = .ok (.ifCond .eq 17, 3) := by decide +kernel
theorem dX13_giveBack_157 : decode cX13_giveBack 157 = .ok (.aload_n 0, 1) := by decide +kernel
theorem dX13_giveBack_158 : decode cX13_giveBack 158 = .ok (.aload_n 0, 1) := by decide +kernel
theorem dX13_giveBack_159 : decode cX13_giveBack 159 = .ok (.getfield 7, 3) := by decide +kernel
theorem dX13_giveBack_162 : decode cX13_giveBack 162 = .ok (.iload_n 2, 1) := by decide +kernel
theorem dX13_giveBack_163 : decode cX13_giveBack 163 = .ok (.laload, 1) := by decide +kernel
theorem dX13_giveBack_164 : decode cX13_giveBack 164 = .ok (.iconst 2, 1) := by decide +kernel
theorem dX13_giveBack_165 : decode cX13_giveBack 165 = .ok (.invokevirtual 139, 3) := by decide +kernel
theorem dX13_giveBack_168 : decode cX13_giveBack 168 = .ok (.ifCond .eq 7, 3) := by decide +kernel
theorem dX13_giveBack_171 : decode cX13_giveBack 171 = .ok (.iconst 1, 1) := by decide +kernel
theorem dX13_giveBack_172 : decode cX13_giveBack 172 = .ok (.goto 4, 3) := by decide +kernel
theorem dX13_giveBack_175 : decode cX13_giveBack 175 = .ok (.iconst 0, 1) := by decide +kernel
theorem dX13_giveBack_176 : decode cX13_giveBack 176 = .ok (.bipush 13, 2) := by decide +kernel
theorem dX13_giveBack_178 : decode cX13_giveBack 178 = .ok (.invokevirtual 117, 3) := by decide +kernel
theorem dX13_giveBack_181 : decode cX13_giveBack 181 = .ok (.iinc 2 1, 3) := by decide +kernel
theorem dX13_giveBack_184 : decode cX13_giveBack 184 = .ok (.goto (-52), 3) := by decide +kernel
theorem dX13_giveBack_187 : decode cX13_giveBack 187 = .ok (.return_, 1) := by decide +kernel
theorem dX13_operate_0 : decode cX13_operate 0 = .ok (.iload_n 1, 1) := by decide +kernel
theorem dX13_operate_1 : decode cX13_operate 1 = .ok (.ifCond .ne 31, 3) := by decide +kernel
theorem dX13_operate_4 : decode cX13_operate 4 = .ok (.aload_n 0, 1) := by decide +kernel
theorem dX13_operate_5 : decode cX13_operate 5 = .ok (.invokevirtual 110, 3) := by decide +kernel
theorem dX13_operate_8 : decode cX13_operate 8 = .ok (.aload_n 0, 1) := by decide +kernel
theorem dX13_operate_9 : decode cX13_operate 9 = .ok (.getfield 48, 3) := by decide +kernel
theorem dX13_operate_12 : decode cX13_operate 12 = .ok (.ifCond .ne 254, 3) := by decide +kernel
theorem dX13_operate_15 : decode cX13_operate 15 = .ok (.aload_n 0, 1) := by decide +kernel
theorem dX13_operate_16 : decode cX13_operate 16 = .ok (.aload_n 0, 1) := by decide +kernel
theorem dX13_operate_17 : decode cX13_operate 17 = .ok (.aload_n 0, 1) := by decide +kernel
theorem dX13_operate_18 : decode cX13_operate 18 = .ok (.getfield 99, 3) := by decide +kernel
theorem dX13_operate_21 : decode cX13_operate 21 = .ok (.iconst 2, 1) := by decide +kernel
theorem dX13_operate_22 : decode cX13_operate 22 = .ok (.invokevirtual 139, 3) := by decide +kernel
theorem dX13_operate_25 : decode cX13_operate 25 = .ok (.iconst 4, 1) := by decide +kernel
theorem dX13_operate_26 : decode cX13_operate 26 = .ok (.invokevirtual 117, 3) := by decide +kernel
theorem dX13_operate_29 : decode cX13_operate 29 = .ok (.goto 237, 3) := by decide +kernel
theorem dX13_operate_32 : decode cX13_operate 32 = .ok (.iload_n 1, 1) := by decide +kernel
theorem dX13_operate_33 : decode cX13_operate 33 = .ok (.iconst 1, 1) := by decide +kernel
theorem dX13_operate_34 : decode cX13_operate 34 = .ok (.if_icmp .ne 10, 3) := by decide +kernel
theorem dX13_operate_37 : decode cX13_operate 37 = .ok (.aload_n 0, 1) := by decide +kernel
theorem dX13_operate_38 : decode cX13_operate 38 = .ok (.invokevirtual 194, 3) := by decide +kernel
theorem dX13_operate_41 : decode cX13_operate 41 = .ok (.goto 225, 3) := by decide +kernel
theorem dX13_operate_44 : decode cX13_operate 44 = .ok (.iload_n 1, 1) := by decide +kernel
theorem dX13_operate_45 : decode cX13_operate 45 = .ok (.iconst 5, 1) := by decide +kernel
theorem dX13_operate_46 : decode cX13_operate 46 = .ok (.if_icmp .ge 34, 3) := by decide +kernel
theorem dX13_operate_49 : decode cX13_operate 49 = .ok (.iload_n 1, 1) := by decide +kernel
theorem dX13_operate_50 : decode cX13_operate 50 = .ok (.iconst 2, 1) := by decide +kernel
theorem dX13_operate_51 : decode cX13_operate 51 = .ok (.if_icmp .le 8, 3) := by decide +kernel
theorem dX13_operate_54 : decode cX13_operate 54 = .ok (.aload_n 0, 1) := by decide +kernel
theorem dX13_operate_55 : decode cX13_operate 55 = .ok (.lconst 1, 1) := by decide +kernel
theorem dX13_operate_56 : decode cX13_operate 56 = .ok (.invokevirtual 133, 3) := by decide +kernel
theorem dX13_operate_59 : decode cX13_operate 59 = .ok (.aload_n 0, 1) := by decide +kernel
theorem dX13_operate_60 : decode cX13_operate 60 = .ok (.aload_n 0, 1) := by decide +kernel
theorem dX13_operate_61 : decode cX13_operate 61 = .ok (.getfield 92, 3) := by decide +kernel
theorem dX13_operate_64 : decode cX13_operate 64 = .ok (.ifCond .ne 7, 3) := by decide +kernel
theorem dX13_operate_67 : decode cX13_operate 67 = .ok (.iconst 1, 1) := by decide +kernel
theorem dX13_operate_68 : decode cX13_operate 68 = .ok (.goto 4, 3) := by decide +kernel
theorem dX13_operate_71 : decode cX13_operate 71 = .ok (.iconst 0, 1) := by decide +kernel
theorem dX13_operate_72 : decode cX13_operate 72 = .ok (.bipush 8, 2) := by decide +kernel
theorem dX13_operate_74 : decode cX13_operate 74 = .ok (.invokevirtual 117, 3) := by decide +kernel
theorem dX13_operate_77 : decode cX13_operate 77 = .ok (.goto 189, 3) := by decide +kernel
theorem dX13_operate_80 : decode cX13_operate 80 = .ok (.iload_n 1, 1) := by decide +kernel
theorem dX13_operate_81 : decode cX13_operate 81 = .ok (.bipush 11, 2) := by decide +kernel
theorem dX13_operate_83 : decode cX13_operate 83 = .ok (.if_icmp .ge 38, 3) := by decide +kernel
theorem dX13_operate_86 : decode cX13_operate 86 = .ok (.aload_n 0, 1) := by decide +kernel
theorem dX13_operate_87 : decode cX13_operate 87 = .ok (.iload_n 1, 1) := by decide +kernel
theorem dX13_operate_88 : decode cX13_operate 88 = .ok (.bipush 8, 2) := by decide +kernel
theorem dX13_operate_90 : decode cX13_operate 90 = .ok (.if_icmp .ge 12, 3) := by decide +kernel
theorem dX13_operate_93 : decode cX13_operate 93 = .ok (.iload_n 1, 1) := by decide +kernel
theorem dX13_operate_94 : decode cX13_operate 94 = .ok (.i2l, 1) := by decide +kernel
theorem dX13_operate_95 : decode cX13_operate 95 = .ok (.ldc2_w 126, 3) := by decide +kernel
theorem dX13_operate_98 : decode cX13_operate 98 = .ok (.lsub, 1) := by decide +kernel
theorem dX13_operate_99 : decode cX13_operate 99 = .ok (.goto 16, 3) := by decide +kernel
theorem dX13_operate_102 : decode cX13_operate 102 = .ok (.iload_n 1, 1) := by decide +kernel
theorem dX13_operate_103 : decode cX13_operate 103 = .ok (.bipush 10, 2) := by decide +kernel
theorem dX13_operate_105 : decode cX13_operate 105 = .ok (.if_icmp .ge 7, 3) := by decide +kernel
theorem dX13_operate_108 : decode cX13_operate 108 = .ok (.lconst 1, 1) := by decide +kernel
theorem dX13_operate_109 : decode cX13_operate 109 = .ok (.goto 6, 3) := by decide +kernel
theorem dX13_operate_112 : decode cX13_operate 112 = .ok (.ldc2_w 185, 3) := by decide +kernel
theorem dX13_operate_115 : decode cX13_operate 115 = .ok (.invokevirtual 159, 3) := by decide +kernel
theorem dX13_operate_118 : decode cX13_operate 118 = .ok (.goto 148, 3) := by decide +kernel
theorem dX13_operate_121 : decode cX13_operate 121 = .ok (.iload_n 1, 1) := by decide +kernel
theorem dX13_operate_122 : decode cX13_operate 122 = .ok (.bipush 16, 2) := by decide +kernel
theorem dX13_operate_124 : decode cX13_operate 124 = .ok (.if_icmp .ge 12, 3) := by decide +kernel
theorem dX13_operate_127 : decode cX13_operate 127 = .ok (.aload_n 0, 1) := by decide +kernel
theorem dX13_operate_128 : decode cX13_operate 128 = .ok (.iload_n 1, 1) := by decide +kernel
theorem dX13_operate_129 : decode cX13_operate 129 = .ok (.iload_n 2, 1) := by decide +kernel
theorem dX13_operate_130 : decode cX13_operate 130 = .ok (.invokevirtual 197, 3) := by decide +kernel
theorem dX13_operate_133 : decode cX13_operate 133 = .ok (.goto 133, 3) := by decide +kernel
theorem dX13_operate_136 : decode cX13_operate 136 = .ok (.iload_n 1, 1) := by decide +kernel
theorem dX13_operate_137 : decode cX13_operate 137 = .ok (.bipush 21, 2) := by decide +kernel
theorem dX13_operate_139 : decode cX13_operate 139 = .ok (.if_icmp .ge 13, 3) := by decide +kernel
theorem dX13_operate_142 : decode cX13_operate 142 = .ok (.aload_n 0, 1) := by decide +kernel
theorem dX13_operate_143 : decode cX13_operate 143 = .ok (.iload_n 1, 1) := by decide +kernel
theorem dX13_operate_144 : decode cX13_operate 144 = .ok (.iload_n 2, 1) := by decide +kernel
theorem dX13_operate_145 : decode cX13_operate 145 = .ok (.iload_n 3, 1) := by decide +kernel
theorem dX13_operate_146 : decode cX13_operate 146 = .ok (.invokevirtual 201, 3) := by decide +kernel
theorem dX13_operate_149 : decode cX13_operate 149 = .ok (.goto 117, 3) := by decide +kernel
theorem dX13_operate_152 : decode cX13_operate 152 = .ok (.iload_n 1, 1) := by decide +kernel
theorem dX13_operate_153 : decode cX13_operate 153 = .ok (.bipush 23, 2) := by decide +kernel
theorem dX13_operate_155 : decode cX13_operate 155 = .ok (.if_icmp .ge 22, 3) := by decide +kernel
theorem dX13_operate_158 : decode cX13_operate 158 = .ok (.aload_n 0, 1) := by decide +kernel
theorem dX13_operate_159 : decode cX13_operate 159 = .ok (.iload_n 1, 1) := by decide +kernel
theorem dX13_operate_160 : decode cX13_operate 160 = .ok (.bipush 21, 2) := by decide +kernel
theorem dX13_operate_162 : decode cX13_operate 162 = .ok (.if_icmp .ne 7, 3) := by decide +kernel
theorem dX13_operate_165 : decode cX13_operate 165 = .ok (.iconst 1, 1) := by decide +kernel
theorem dX13_operate_166 : decode cX13_operate 166 = .ok (.goto 4, 3) := by decide +kernel
theorem dX13_operate_169 : decode cX13_operate 169 = .ok (.iconst 0, 1) := by decide +kernel
theorem dX13_operate_170 : decode cX13_operate 170 = .ok (.iload_n 2, 1) := by decide +kernel
theorem dX13_operate_171 : decode cX13_operate 171 = .ok (.invokevirtual 205, 3) := by decide +kernel
theorem dX13_operate_174 : decode cX13_operate 174 = .ok (.goto 92, 3) := by decide +kernel
theorem dX13_operate_177 : decode cX13_operate 177 = .ok (.iload_n 1, 1) := by decide +kernel
theorem dX13_operate_178 : decode cX13_operate 178 = .ok (.bipush 23, 2) := by decide +kernel
theorem dX13_operate_180 : decode cX13_operate 180 = .ok (.if_icmp .ne 11, 3) := by decide +kernel
theorem dX13_operate_183 : decode cX13_operate 183 = .ok (.aload_n 0, 1) := by decide +kernel
theorem dX13_operate_184 : decode cX13_operate 184 = .ok (.iload_n 2, 1) := by decide +kernel
theorem dX13_operate_185 : decode cX13_operate 185 = .ok (.invokevirtual 208, 3) := by decide +kernel
theorem dX13_operate_188 : decode cX13_operate 188 = .ok (.goto 78, 3) := by decide +kernel
theorem dX13_operate_191 : decode cX13_operate 191 = .ok (.iload_n 1, 1) := by decide +kernel
theorem dX13_operate_192 : decode cX13_operate 192 = .ok (.bipush 35, 2) := by decide +kernel
theorem dX13_operate_194 : decode cX13_operate 194 = .ok (.if_icmp .ne 4, 3) := by decide +kernel
theorem dX13_operate_197 : decode cX13_operate 197 = .ok (.return_, 1) := by decide +kernel
theorem dX13_operate_198 : decode cX13_operate 198 = .ok (.iload_n 1, 1) := by decide +kernel
theorem dX13_operate_199 : decode cX13_operate 199 = .ok (.bipush 45, 2) := by decide +kernel
theorem dX13_operate_201 : decode cX13_operate 201 = .ok (.if_icmp .ge 11, 3) := by decide +kernel
theorem dX13_operate_204 : decode cX13_operate 204 = .ok (.aload_n 0, 1) := by decide +kernel
theorem dX13_operate_205 : decode cX13_operate 205 = .ok (.iload_n 1, 1) := by decide +kernel
theorem dX13_operate_206 : decode cX13_operate 206 = .ok (.invokevirtual 211, 3) := by decide +kernel
theorem dX13_operate_209 : decode cX13_operate 209 = .ok (.goto 57, 3) := by decide +kernel
theorem dX13_operate_212 : decode cX13_operate 212 = .ok (.iload_n 1, 1) := by decide +kernel
theorem dX13_operate_213 : decode cX13_operate 213 = .ok (.bipush 45, 2) := by decide +kernel
theorem dX13_operate_215 : decode cX13_operate 215 = .ok (.if_icmp .ne 13, 3) := by decide +kernel
theorem dX13_operate_218 : decode cX13_operate 218 = .ok (.aload_n 0, 1) := by decide +kernel
theorem dX13_operate_219 : decode cX13_operate 219 = .ok (.ldc2_w 126, 3) := by decide +kernel
theorem dX13_operate_222 : decode cX13_operate 222 = .ok (.invokevirtual 133, 3) := by decide +kernel
theorem dX13_operate_225 : decode cX13_operate 225 = .ok (.goto 41, 3) := by decide +kernel
theorem dX13_operate_228 : decode cX13_operate 228 = .ok (.iload_n 1, 1) := by decide +kernel
theorem dX13_operate_229 : decode cX13_operate 229 = .ok (.bipush 46, 2) := by decide +kernel
theorem dX13_operate_231 : decode cX13_operate 231 = .ok (.if_icmp .ne 13, 3) := by decide +kernel
theorem dX13_operate_234 : decode cX13_operate 234 = .ok (.aload_n 0, 1) := by decide +kernel
theorem dX13_operate_235 : decode cX13_operate 235 = .ok (.ldc2_w 185, 3) := by decide +kernel
theorem dX13_operate_238 : decode cX13_operate 238 = .ok (.invokevirtual 159, 3) := by decide +kernel
theorem dX13_operate_241 : decode cX13_operate 241 = .ok (.goto 25, 3) := by decide +kernel
theorem dX13_operate_244 : decode cX13_operate 244 = .ok (.iload_n 1, 1) := by decide +kernel
theorem dX13_operate_245 : decode cX13_operate 245 = .ok (.bipush 52, 2) := by decide +kernel
theorem dX13_operate_247 : decode cX13_operate 247 = .ok (.if_icmp .ge 12, 3) := by decide +kernel
theorem dX13_operate_250 : decode cX13_operate 250 = .ok (.aload_n 0, 1) := by decide +kernel
theorem dX13_operate_251 : decode cX13_operate 251 = .ok (.iload_n 1, 1) := by decide +kernel
theorem dX13_operate_252 : decode cX13_operate 252 = .ok (.iload_n 2, 1) := by decide +kernel
theorem dX13_operate_253 : decode cX13_operate 253 = .ok (.invokevirtual 214, 3) := by decide +kernel
theorem dX13_operate_256 : decode cX13_operate 256 = .ok (.goto 10, 3) := by decide +kernel
theorem dX13_operate_259 : decode cX13_operate 259 = .ok (.aload_n 0, 1) := by decide +kernel
theorem dX13_operate_260 : decode cX13_operate 260 = .ok (.iload_n 1, 1) := by decide +kernel
theorem dX13_operate_261 : decode cX13_operate 261 = .ok (.iload_n 2, 1) := by decide +kernel
theorem dX13_operate_262 : decode cX13_operate 262 = .ok (.iload_n 3, 1) := by decide +kernel
theorem dX13_operate_263 : decode cX13_operate 263 = .ok (.invokevirtual 217, 3) := by decide +kernel
theorem dX13_operate_266 : decode cX13_operate 266 = .ok (.return_, 1) := by decide +kernel
theorem dX13_pack_0 : decode cX13_pack 0 = .ok (.iload_n 1, 1) := by decide +kernel
theorem dX13_pack_1 : decode cX13_pack 1 = .ok (.ifCond .ne 11, 3) := by decide +kernel
theorem dX13_pack_4 : decode cX13_pack 4 = .ok (.aload_n 0, 1) := by decide +kernel
theorem dX13_pack_5 : decode cX13_pack 5 = .ok (.iload_n 2, 1) := by decide +kernel
theorem dX13_pack_6 : decode cX13_pack 6 = .ok (.invokestatic 151, 3) := by decide +kernel
theorem dX13_pack_9 : decode cX13_pack 9 = .ok (.invokevirtual 133, 3) := by decide +kernel
theorem dX13_pack_12 : decode cX13_pack 12 = .ok (.iconst 0, 1) := by decide +kernel
theorem dX13_pack_13 : decode cX13_pack 13 = .ok (.istore_n 3, 1) := by decide +kernel
theorem dX13_pack_14 : decode cX13_pack 14 = .ok (.iload_n 3, 1) := by decide +kernel
theorem dX13_pack_15 : decode cX13_pack 15 = .ok (.aload_n 0, 1) := by decide +kernel
theorem dX13_pack_16 : decode cX13_pack 16 = .ok (.getfield 72, 3) := by decide +kernel
theorem dX13_pack_19 : decode cX13_pack 19 = .ok (.iload_n 2, 1) := by decide +kernel
theorem dX13_pack_20 : decode cX13_pack 20 = .ok (.invokevirtual 85, 3) := by decide +kernel
theorem dX13_pack_23 : decode cX13_pack 23 = .ok (.if_icmp .ge 53, 3) := by decide +kernel
theorem dX13_pack_26 : decode cX13_pack 26 = .ok (.iload_n 1, 1) := by decide +kernel
theorem dX13_pack_27 : decode cX13_pack 27 = .ok (.ifCond .eq 30, 3) := by decide +kernel
theorem dX13_pack_30 : decode cX13_pack 30 = .ok (.aload_n 0, 1) := by decide +kernel
theorem dX13_pack_31 : decode cX13_pack 31 = .ok (.aload_n 0, 1) := by decide +kernel
theorem dX13_pack_32 : decode cX13_pack 32 = .ok (.getfield 72, 3) := by decide +kernel
theorem dX13_pack_35 : decode cX13_pack 35 = .ok (.iload_n 2, 1) := by decide +kernel
theorem dX13_pack_36 : decode cX13_pack 36 = .ok (.aload_n 0, 1) := by decide +kernel
theorem dX13_pack_37 : decode cX13_pack 37 = .ok (.getfield 72, 3) := by decide +kernel
theorem dX13_pack_40 : decode cX13_pack 40 = .ok (.iload_n 2, 1) := by decide +kernel
theorem dX13_pack_41 : decode cX13_pack 41 = .ok (.invokevirtual 85, 3) := by decide +kernel
theorem dX13_pack_44 : decode cX13_pack 44 = .ok (.iconst 1, 1) := by decide +kernel
theorem dX13_pack_45 : decode cX13_pack 45 = .ok (.isub, 1) := by decide +kernel
theorem dX13_pack_46 : decode cX13_pack 46 = .ok (.iload_n 3, 1) := by decide +kernel
theorem dX13_pack_47 : decode cX13_pack 47 = .ok (.isub, 1) := by decide +kernel
theorem dX13_pack_48 : decode cX13_pack 48 = .ok (.invokevirtual 88, 3) := by decide +kernel
theorem dX13_pack_51 : decode cX13_pack 51 = .ok (.invokevirtual 133, 3) := by decide +kernel
theorem dX13_pack_54 : decode cX13_pack 54 = .ok (.goto 16, 3) := by decide +kernel
theorem dX13_pack_57 : decode cX13_pack 57 = .ok (.aload_n 0, 1) := by decide +kernel
theorem dX13_pack_58 : decode cX13_pack 58 = .ok (.aload_n 0, 1) := by decide +kernel
theorem dX13_pack_59 : decode cX13_pack 59 = .ok (.getfield 72, 3) := by decide +kernel
theorem dX13_pack_62 : decode cX13_pack 62 = .ok (.iload_n 2, 1) := by decide +kernel
theorem dX13_pack_63 : decode cX13_pack 63 = .ok (.iload_n 3, 1) := by decide +kernel
theorem dX13_pack_64 : decode cX13_pack 64 = .ok (.invokevirtual 88, 3) := by decide +kernel
theorem dX13_pack_67 : decode cX13_pack 67 = .ok (.invokevirtual 159, 3) := by decide +kernel
theorem dX13_pack_70 : decode cX13_pack 70 = .ok (.iinc 3 1, 3) := by decide +kernel
theorem dX13_pack_73 : decode cX13_pack 73 = .ok (.goto (-59), 3) := by decide +kernel
theorem dX13_pack_76 : decode cX13_pack 76 = .ok (.iload_n 1, 1) := by decide +kernel
theorem dX13_pack_77 : decode cX13_pack 77 = .ok (.ifCond .eq 11, 3) := by decide +kernel
theorem dX13_pack_80 : decode cX13_pack 80 = .ok (.aload_n 0, 1) := by decide +kernel
theorem dX13_pack_81 : decode cX13_pack 81 = .ok (.iload_n 2, 1) := by decide +kernel
theorem dX13_pack_82 : decode cX13_pack 82 = .ok (.invokestatic 151, 3) := by decide +kernel
theorem dX13_pack_85 : decode cX13_pack 85 = .ok (.invokevirtual 159, 3) := by decide +kernel
theorem dX13_pack_88 : decode cX13_pack 88 = .ok (.return_, 1) := by decide +kernel
theorem dX13_come_0 : decode cX13_come 0 = .ok (.aload_n 0, 1) := by decide +kernel
theorem dX13_come_1 : decode cX13_come 1 = .ok (.getfield 48, 3) := by decide +kernel
theorem dX13_come_4 : decode cX13_come 4 = .ok (.ifCond .eq 4, 3) := by decide +kernel
theorem dX13_come_7 : decode cX13_come 7 = .ok (.return_, 1) := by decide +kernel
theorem dX13_come_8 : decode cX13_come 8 = .ok (.iload_n 2, 1) := by decide +kernel
theorem dX13_come_9 : decode cX13_come 9 = .ok (.iload_n 1, 1) := by decide +kernel
theorem dX13_come_10 : decode cX13_come 10 = .ok (.if_icmp .le 16, 3) := by decide +kernel
theorem dX13_come_13 : decode cX13_come 13 = .ok (.aload_n 0, 1) := by decide +kernel
theorem dX13_come_14 : decode cX13_come 14 = .ok (.getfield 13, 3) := by decide +kernel
theorem dX13_come_17 : decode cX13_come 17 = .ok (.iload_n 2, 1) := by decide +kernel
theorem dX13_come_18 : decode cX13_come 18 = .ok (.baload, 1) := by decide +kernel
theorem dX13_come_19 : decode cX13_come 19 = .ok (.ifCond .ne 7, 3) := by decide +kernel
theorem dX13_come_22 : decode cX13_come 22 = .ok (.iconst 1, 1) := by decide +kernel
theorem dX13_come_23 : decode cX13_come 23 = .ok (.goto 4, 3) := by decide +kernel
theorem dX13_come_26 : decode cX13_come 26 = .ok (.iconst 0, 1) := by decide +kernel
theorem dX13_come_27 : decode cX13_come 27 = .ok (.istore_n 3, 1) := by decide +kernel
theorem dX13_come_28 : decode cX13_come 28 = .ok (.aload_n 0, 1) := by decide +kernel
theorem dX13_come_29 : decode cX13_come 29 = .ok (.getfield 13, 3) := by decide +kernel
theorem dX13_come_32 : decode cX13_come 32 = .ok (.iload_n 2, 1) := by decide +kernel
theorem dX13_come_33 : decode cX13_come 33 = .ok (.iconst 1, 1) := by decide +kernel
theorem dX13_come_34 : decode cX13_come 34 = .ok (.bastore, 1) := by decide +kernel
theorem dX13_come_35 : decode cX13_come 35 = .ok (.iconst 0, 1) := by decide +kernel
theorem dX13_come_36 : decode cX13_come 36 = .ok (.istore 4, 2) := by decide +kernel
theorem dX13_come_38 : decode cX13_come 38 = .ok (.iload 4, 2) := by decide +kernel
theorem dX13_come_40 : decode cX13_come 40 = .ok (.aload_n 0, 1) := by decide +kernel
theorem dX13_come_41 : decode cX13_come 41 = .ok (.getfield 136, 3) := by decide +kernel
theorem dX13_come_44 : decode cX13_come 44 = .ok (.if_icmp .ge 130, 3) := by decide +kernel
theorem dX13_come_47 : decode cX13_come 47 = .ok (.aload_n 0, 1) := by decide +kernel
theorem dX13_come_48 : decode cX13_come 48 = .ok (.getfield 48, 3) := by decide +kernel
theorem dX13_come_51 : decode cX13_come 51 = .ok (.ifCond .ne 123, 3) := by decide +kernel
theorem dX13_come_54 : decode cX13_come 54 = .ok (.bipush 40, 2) := by decide +kernel
theorem dX13_come_56 : decode cX13_come 56 = .ok (.iload_n 2, 1) := by decide +kernel
theorem dX13_come_57 : decode cX13_come 57 = .ok (.imul, 1) := by decide +kernel
theorem dX13_come_58 : decode cX13_come 58 = .ok (.iload 4, 2) := by decide +kernel
theorem dX13_come_60 : decode cX13_come 60 = .ok (.iadd, 1) := by decide +kernel
theorem dX13_come_61 : decode cX13_come 61 = .ok (.istore 5, 2) := by decide +kernel
theorem dX13_come_63 : decode cX13_come 63 = .ok (.iload_n 3, 1) := by decide +kernel
theorem dX13_come_64 : decode cX13_come 64 = .ok (.ifCond .eq 80, 3) := by decide +kernel
theorem dX13_come_67 : decode cX13_come 67 = .ok (.aload_n 0, 1) := by decide +kernel
theorem dX13_come_68 : decode cX13_come 68 = .ok (.getfield 21, 3) := by decide +kernel
theorem dX13_come_71 : decode cX13_come 71 = .ok (.iload 5, 2) := by decide +kernel
theorem dX13_come_73 : decode cX13_come 73 = .ok (.aload_n 0, 1) := by decide +kernel
theorem dX13_come_74 : decode cX13_come 74 = .ok (.getfield 39, 3) := by decide +kernel
theorem dX13_come_77 : decode cX13_come 77 = .ok (.iload 4, 2) := by decide +kernel
theorem dX13_come_79 : decode cX13_come 79 = .ok (.baload, 1) := by decide +kernel
theorem dX13_come_80 : decode cX13_come 80 = .ok (.bastore, 1) := by decide +kernel
theorem dX13_come_81 : decode cX13_come 81 = .ok (.aload_n 0, 1) := by decide +kernel
theorem dX13_come_82 : decode cX13_come 82 = .ok (.getfield 24, 3) := by decide +kernel
theorem dX13_come_85 : decode cX13_come 85 = .ok (.iload 5, 2) := by decide +kernel
theorem dX13_come_87 : decode cX13_come 87 = .ok (.aload_n 0, 1) := by decide +kernel
theorem dX13_come_88 : decode cX13_come 88 = .ok (.getfield 39, 3) := by decide +kernel
theorem dX13_come_91 : decode cX13_come 91 = .ok (.iload 4, 2) := by decide +kernel
theorem dX13_come_93 : decode cX13_come 93 = .ok (.baload, 1) := by decide +kernel
theorem dX13_come_94 : decode cX13_come 94 = .ok (.ifCond .eq 13, 3) := by decide +kernel
theorem dX13_come_97 : decode cX13_come 97 = .ok (.aload_n 0, 1) := by decide +kernel
theorem dX13_come_98 : decode cX13_come 98 = .ok (.getfield 42, 3) := by decide +kernel
theorem dX13_come_101 : decode cX13_come 101 = .ok (.iload 4, 2) := by decide +kernel
theorem dX13_come_103 : decode cX13_come 103 = .ok (.laload, 1) := by decide +kernel
theorem dX13_come_104 : decode cX13_come 104 = .ok (.goto 4, 3) := by decide +kernel
theorem dX13_come_107 : decode cX13_come 107 = .ok (.lconst 0, 1) := by decide +kernel
theorem dX13_come_108 : decode cX13_come 108 = .ok (.lastore, 1) := by decide +kernel
theorem dX13_come_109 : decode cX13_come 109 = .ok (.aload_n 0, 1) := by decide +kernel
theorem dX13_come_110 : decode cX13_come 110 = .ok (.getfield 27, 3) := by decide +kernel
theorem dX13_come_113 : decode cX13_come 113 = .ok (.iload 5, 2) := by decide +kernel
theorem dX13_come_115 : decode cX13_come 115 = .ok (.aload_n 0, 1) := by decide +kernel
theorem dX13_come_116 : decode cX13_come 116 = .ok (.getfield 39, 3) := by decide +kernel
theorem dX13_come_119 : decode cX13_come 119 = .ok (.iload 4, 2) := by decide +kernel
theorem dX13_come_121 : decode cX13_come 121 = .ok (.baload, 1) := by decide +kernel
theorem dX13_come_122 : decode cX13_come 122 = .ok (.ifCond .eq 17, 3) := by decide +kernel
theorem dX13_come_125 : decode cX13_come 125 = .ok (.aload_n 0, 1) := by decide +kernel
theorem dX13_come_126 : decode cX13_come 126 = .ok (.getfield 45, 3) := by decide +kernel
theorem dX13_come_129 : decode cX13_come 129 = .ok (.iload 4, 2) := by decide +kernel
theorem dX13_come_131 : decode cX13_come 131 = .ok (.baload, 1) := by decide +kernel
theorem dX13_come_132 : decode cX13_come 132 = .ok (.ifCond .eq 7, 3) := by decide +kernel
theorem dX13_come_135 : decode cX13_come 135 = .ok (.iconst 1, 1) := by decide +kernel
theorem dX13_come_136 : decode cX13_come 136 = .ok (.goto 4, 3) := by decide +kernel
theorem dX13_come_139 : decode cX13_come 139 = .ok (.iconst 0, 1) := by decide +kernel
theorem dX13_come_140 : decode cX13_come 140 = .ok (.bastore, 1) := by decide +kernel
theorem dX13_come_141 : decode cX13_come 141 = .ok (.goto 27, 3) := by decide +kernel
theorem dX13_come_144 : decode cX13_come 144 = .ok (.iload_n 2, 1) := by decide +kernel
theorem dX13_come_145 : decode cX13_come 145 = .ok (.iload_n 1, 1) := by decide +kernel
theorem dX13_come_146 : decode cX13_come 146 = .ok (.if_icmp .le 14, 3) := by decide +kernel
theorem dX13_come_149 : decode cX13_come 149 = .ok (.aload_n 0, 1) := by decide +kernel
theorem dX13_come_150 : decode cX13_come 150 = .ok (.iload 5, 2) := by decide +kernel
theorem dX13_come_152 : decode cX13_come 152 = .ok (.iload 4, 2) := by decide +kernel
theorem dX13_come_154 : decode cX13_come 154 = .ok (.invokevirtual 220, 3) := by decide +kernel
theorem dX13_come_157 : decode cX13_come 157 = .ok (.goto 11, 3) := by decide +kernel
theorem dX13_come_160 : decode cX13_come 160 = .ok (.aload_n 0, 1) := by decide +kernel
theorem dX13_come_161 : decode cX13_come 161 = .ok (.iload 5, 2) := by decide +kernel
theorem dX13_come_163 : decode cX13_come 163 = .ok (.iload 4, 2) := by decide +kernel
theorem dX13_come_165 : decode cX13_come 165 = .ok (.invokevirtual 223, 3) := by decide +kernel
theorem dX13_come_168 : decode cX13_come 168 = .ok (.iinc 4 1, 3) := by decide +kernel
theorem dX13_come_171 : decode cX13_come 171 = .ok (.goto (-133), 3) := by decide +kernel
theorem dX13_come_174 : decode cX13_come 174 = .ok (.return_, 1) := by decide +kernel
theorem dX13_meet_0 : decode cX13_meet 0 = .ok (.aload_n 0, 1) := by decide +kernel
theorem dX13_meet_1 : decode cX13_meet 1 = .ok (.aload_n 0, 1) := by decide +kernel
theorem dX13_meet_2 : decode cX13_meet 2 = .ok (.getfield 21, 3) := by decide +kernel
theorem dX13_meet_5 : decode cX13_meet 5 = .ok (.iload_n 1, 1) := by decide +kernel
theorem dX13_meet_6 : decode cX13_meet 6 = .ok (.baload, 1) := by decide +kernel
theorem dX13_meet_7 : decode cX13_meet 7 = .ok (.aload_n 0, 1) := by decide +kernel
theorem dX13_meet_8 : decode cX13_meet 8 = .ok (.getfield 39, 3) := by decide +kernel
theorem dX13_meet_11 : decode cX13_meet 11 = .ok (.iload_n 2, 1) := by decide +kernel
theorem dX13_meet_12 : decode cX13_meet 12 = .ok (.baload, 1) := by decide +kernel
theorem dX13_meet_13 : decode cX13_meet 13 = .ok (.if_icmp .eq 17, 3) := by decide +kernel
theorem dX13_meet_16 : decode cX13_meet 16 = .ok (.aload_n 0, 1) := by decide +kernel
theorem dX13_meet_17 : decode cX13_meet 17 = .ok (.aload_n 0, 1) := by decide +kernel
theorem dX13_meet_18 : decode cX13_meet 18 = .ok (.getfield 7, 3) := by decide +kernel
theorem dX13_meet_21 : decode cX13_meet 21 = .ok (.iload_n 2, 1) := by decide +kernel
theorem dX13_meet_22 : decode cX13_meet 22 = .ok (.laload, 1) := by decide +kernel
theorem dX13_meet_23 : decode cX13_meet 23 = .ok (.iconst 2, 1) := by decide +kernel
theorem dX13_meet_24 : decode cX13_meet 24 = .ok (.invokevirtual 139, 3) := by decide +kernel
theorem dX13_meet_27 : decode cX13_meet 27 = .ok (.ifCond .eq 7, 3) := by decide +kernel
theorem dX13_meet_30 : decode cX13_meet 30 = .ok (.iconst 1, 1) := by decide +kernel
theorem dX13_meet_31 : decode cX13_meet 31 = .ok (.goto 4, 3) := by decide +kernel
theorem dX13_meet_34 : decode cX13_meet 34 = .ok (.iconst 0, 1) := by decide +kernel
theorem dX13_meet_35 : decode cX13_meet 35 = .ok (.bipush 9, 2) := by decide +kernel
theorem dX13_meet_37 : decode cX13_meet 37 = .ok (.invokevirtual 117, 3) := by decide +kernel
theorem dX13_meet_40 : decode cX13_meet 40 = .ok (.aload_n 0, 1) := by decide +kernel
theorem dX13_meet_41 : decode cX13_meet 41 = .ok (.getfield 21, 3) := by decide +kernel
theorem dX13_meet_44 : decode cX13_meet 44 = .ok (.iload_n 1, 1) := by decide +kernel
theorem dX13_meet_45 : decode cX13_meet 45 = .ok (.baload, 1) := by decide +kernel
theorem dX13_meet_46 : decode cX13_meet 46 = .ok (.ifCond .eq 16, 3) := by decide +kernel
theorem dX13_meet_49 : decode cX13_meet 49 = .ok (.aload_n 0, 1) := by decide +kernel
theorem dX13_meet_50 : decode cX13_meet 50 = .ok (.getfield 39, 3) := by decide +kernel
theorem dX13_meet_53 : decode cX13_meet 53 = .ok (.iload_n 2, 1) := by decide +kernel
theorem dX13_meet_54 : decode cX13_meet 54 = .ok (.baload, 1) := by decide +kernel
theorem dX13_meet_55 : decode cX13_meet 55 = .ok (.ifCond .eq 7, 3) := by decide +kernel
theorem dX13_meet_58 : decode cX13_meet 58 = .ok (.iconst 1, 1) := by decide +kernel
theorem dX13_meet_59 : decode cX13_meet 59 = .ok (.goto 4, 3) := by decide +kernel
theorem dX13_meet_62 : decode cX13_meet 62 = .ok (.iconst 0, 1) := by decide +kernel
theorem dX13_meet_63 : decode cX13_meet 63 = .ok (.istore_n 3, 1) := by decide +kernel
theorem dX13_meet_64 : decode cX13_meet 64 = .ok (.aload_n 0, 1) := by decide +kernel
theorem dX13_meet_65 : decode cX13_meet 65 = .ok (.getfield 21, 3) := by decide +kernel
theorem dX13_meet_68 : decode cX13_meet 68 = .ok (.iload_n 1, 1) := by decide +kernel
theorem dX13_meet_69 : decode cX13_meet 69 = .ok (.iload_n 3, 1) := by decide +kernel
theorem dX13_meet_70 : decode cX13_meet 70 = .ok (.bastore, 1) := by decide +kernel
theorem dX13_meet_71 : decode cX13_meet 71 = .ok (.aload_n 0, 1) := by decide +kernel
theorem dX13_meet_72 : decode cX13_meet 72 = .ok (.getfield 24, 3) := by decide +kernel
theorem dX13_meet_75 : decode cX13_meet 75 = .ok (.iload_n 1, 1) := by decide +kernel
theorem dX13_meet_76 : decode cX13_meet 76 = .ok (.iload_n 3, 1) := by decide +kernel
theorem dX13_meet_77 : decode cX13_meet 77 = .ok (.ifCond .eq 19, 3) := by decide +kernel
theorem dX13_meet_80 : decode cX13_meet 80 = .ok (.aload_n 0, 1) := by decide +kernel
theorem dX13_meet_81 : decode cX13_meet 81 = .ok (.getfield 24, 3) := by decide +kernel
theorem dX13_meet_84 : decode cX13_meet 84 = .ok (.iload_n 1, 1) := by decide +kernel
theorem dX13_meet_85 : decode cX13_meet 85 = .ok (.laload, 1) := by decide +kernel
theorem dX13_meet_86 : decode cX13_meet 86 = .ok (.aload_n 0, 1) := by decide +kernel
theorem dX13_meet_87 : decode cX13_meet 87 = .ok (.getfield 42, 3) := by decide +kernel
theorem dX13_meet_90 : decode cX13_meet 90 = .ok (.iload_n 2, 1) := by decide +kernel
theorem dX13_meet_91 : decode cX13_meet 91 = .ok (.laload, 1) := by decide +kernel
theorem dX13_meet_92 : decode cX13_meet 92 = .ok (.lor, 1) := by decide +kernel
theorem dX13_meet_93 : decode cX13_meet 93 = .ok (.goto 4, 3) := by decide +kernel
theorem dX13_meet_96 : decode cX13_meet 96 = .ok (.lconst 0, 1) := by decide +kernel
theorem dX13_meet_97 : decode cX13_meet 97 = .ok (.lastore, 1) := by decide +kernel
theorem dX13_meet_98 : decode cX13_meet 98 = .ok (.aload_n 0, 1) := by decide +kernel
theorem dX13_meet_99 : decode cX13_meet 99 = .ok (.getfield 27, 3) := by decide +kernel
theorem dX13_meet_102 : decode cX13_meet 102 = .ok (.iload_n 1, 1) := by decide +kernel
theorem dX13_meet_103 : decode cX13_meet 103 = .ok (.iload_n 3, 1) := by decide +kernel
theorem dX13_meet_104 : decode cX13_meet 104 = .ok (.ifCond .eq 25, 3) := by decide +kernel
theorem dX13_meet_107 : decode cX13_meet 107 = .ok (.aload_n 0, 1) := by decide +kernel
theorem dX13_meet_108 : decode cX13_meet 108 = .ok (.getfield 27, 3) := by decide +kernel
theorem dX13_meet_111 : decode cX13_meet 111 = .ok (.iload_n 1, 1) := by decide +kernel
theorem dX13_meet_112 : decode cX13_meet 112 = .ok (.baload, 1) := by decide +kernel
theorem dX13_meet_113 : decode cX13_meet 113 = .ok (.ifCond .ne 12, 3) := by decide +kernel
theorem dX13_meet_116 : decode cX13_meet 116 = .ok (.aload_n 0, 1) := by decide +kernel
theorem dX13_meet_117 : decode cX13_meet 117 = .ok (.getfield 45, 3) := by decide +kernel
theorem dX13_meet_120 : decode cX13_meet 120 = .ok (.iload_n 2, 1) := by decide +kernel
theorem dX13_meet_121 : decode cX13_meet 121 = .ok (.baload, 1) := by decide +kernel
theorem dX13_meet_122 : decode cX13_meet 122 = .ok (.ifCond .eq 7, 3) := by decide +kernel
theorem dX13_meet_125 : decode cX13_meet 125 = .ok (.iconst 1, 1) := by decide +kernel
theorem dX13_meet_126 : decode cX13_meet 126 = .ok (.goto 4, 3) := by decide +kernel
theorem dX13_meet_129 : decode cX13_meet 129 = .ok (.iconst 0, 1) := by decide +kernel
theorem dX13_meet_130 : decode cX13_meet 130 = .ok (.bastore, 1) := by decide +kernel
theorem dX13_meet_131 : decode cX13_meet 131 = .ok (.return_, 1) := by decide +kernel
theorem dX13_back_0 : decode cX13_back 0 = .ok (.aload_n 0, 1) := by decide +kernel
theorem dX13_back_1 : decode cX13_back 1 = .ok (.getfield 21, 3) := by decide +kernel
theorem dX13_back_4 : decode cX13_back 4 = .ok (.iload_n 1, 1) := by decide +kernel
theorem dX13_back_5 : decode cX13_back 5 = .ok (.baload, 1) := by decide +kernel
theorem dX13_back_6 : decode cX13_back 6 = .ok (.ifCond .eq 66, 3) := by decide +kernel
theorem dX13_back_9 : decode cX13_back 9 = .ok (.aload_n 0, 1) := by decide +kernel
theorem dX13_back_10 : decode cX13_back 10 = .ok (.aload_n 0, 1) := by decide +kernel
theorem dX13_back_11 : decode cX13_back 11 = .ok (.getfield 39, 3) := by decide +kernel
theorem dX13_back_14 : decode cX13_back 14 = .ok (.iload_n 2, 1) := by decide +kernel
theorem dX13_back_15 : decode cX13_back 15 = .ok (.baload, 1) := by decide +kernel
theorem dX13_back_16 : decode cX13_back 16 = .ok (.ifCond .eq 47, 3) := by decide +kernel
theorem dX13_back_19 : decode cX13_back 19 = .ok (.aload_n 0, 1) := by decide +kernel
theorem dX13_back_20 : decode cX13_back 20 = .ok (.getfield 42, 3) := by decide +kernel
theorem dX13_back_23 : decode cX13_back 23 = .ok (.iload_n 2, 1) := by decide +kernel
theorem dX13_back_24 : decode cX13_back 24 = .ok (.laload, 1) := by decide +kernel
theorem dX13_back_25 : decode cX13_back 25 = .ok (.aload_n 0, 1) := by decide +kernel
theorem dX13_back_26 : decode cX13_back 26 = .ok (.getfield 24, 3) := by decide +kernel
theorem dX13_back_29 : decode cX13_back 29 = .ok (.iload_n 1, 1) := by decide +kernel
theorem dX13_back_30 : decode cX13_back 30 = .ok (.laload, 1) := by decide +kernel
theorem dX13_back_31 : decode cX13_back 31 = .ok (.ldc2_w 226, 3) := by decide +kernel
theorem dX13_back_34 : decode cX13_back 34 = .ok (.lxor, 1) := by decide +kernel
theorem dX13_back_35 : decode cX13_back 35 = .ok (.land, 1) := by decide +kernel
theorem dX13_back_36 : decode cX13_back 36 = .ok (.lconst 0, 1) := by decide +kernel
theorem dX13_back_37 : decode cX13_back 37 = .ok (.lcmp, 1) := by decide +kernel
theorem dX13_back_38 : decode cX13_back 38 = .ok (.ifCond .ne 25, 3) := by decide +kernel
theorem dX13_back_41 : decode cX13_back 41 = .ok (.aload_n 0, 1) := by decide +kernel
theorem dX13_back_42 : decode cX13_back 42 = .ok (.getfield 45, 3) := by decide +kernel
theorem dX13_back_45 : decode cX13_back 45 = .ok (.iload_n 2, 1) := by decide +kernel
theorem dX13_back_46 : decode cX13_back 46 = .ok (.baload, 1) := by decide +kernel
theorem dX13_back_47 : decode cX13_back 47 = .ok (.ifCond .eq 12, 3) := by decide +kernel
theorem dX13_back_50 : decode cX13_back 50 = .ok (.aload_n 0, 1) := by decide +kernel
theorem dX13_back_51 : decode cX13_back 51 = .ok (.getfield 27, 3) := by decide +kernel
theorem dX13_back_54 : decode cX13_back 54 = .ok (.iload_n 1, 1) := by decide +kernel
theorem dX13_back_55 : decode cX13_back 55 = .ok (.baload, 1) := by decide +kernel
theorem dX13_back_56 : decode cX13_back 56 = .ok (.ifCond .eq 7, 3) := by decide +kernel
theorem dX13_back_59 : decode cX13_back 59 = .ok (.iconst 1, 1) := by decide +kernel
theorem dX13_back_60 : decode cX13_back 60 = .ok (.goto 4, 3) := by decide +kernel
theorem dX13_back_63 : decode cX13_back 63 = .ok (.iconst 0, 1) := by decide +kernel
theorem dX13_back_64 : decode cX13_back 64 = .ok (.bipush 9, 2) := by decide +kernel
theorem dX13_back_66 : decode cX13_back 66 = .ok (.invokevirtual 117, 3) := by decide +kernel
theorem dX13_back_69 : decode cX13_back 69 = .ok (.goto 37, 3) := by decide +kernel
theorem dX13_back_72 : decode cX13_back 72 = .ok (.aload_n 0, 1) := by decide +kernel
theorem dX13_back_73 : decode cX13_back 73 = .ok (.aload_n 0, 1) := by decide +kernel
theorem dX13_back_74 : decode cX13_back 74 = .ok (.getfield 39, 3) := by decide +kernel
theorem dX13_back_77 : decode cX13_back 77 = .ok (.iload_n 2, 1) := by decide +kernel
theorem dX13_back_78 : decode cX13_back 78 = .ok (.baload, 1) := by decide +kernel
theorem dX13_back_79 : decode cX13_back 79 = .ok (.ifCond .eq 17, 3) := by decide +kernel
theorem dX13_back_82 : decode cX13_back 82 = .ok (.aload_n 0, 1) := by decide +kernel
theorem dX13_back_83 : decode cX13_back 83 = .ok (.aload_n 0, 1) := by decide +kernel
theorem dX13_back_84 : decode cX13_back 84 = .ok (.getfield 7, 3) := by decide +kernel
theorem dX13_back_87 : decode cX13_back 87 = .ok (.iload_n 2, 1) := by decide +kernel
theorem dX13_back_88 : decode cX13_back 88 = .ok (.laload, 1) := by decide +kernel
theorem dX13_back_89 : decode cX13_back 89 = .ok (.iconst 2, 1) := by decide +kernel
theorem dX13_back_90 : decode cX13_back 90 = .ok (.invokevirtual 139, 3) := by decide +kernel
theorem dX13_back_93 : decode cX13_back 93 = .ok (.ifCond .eq 7, 3) := by decide +kernel
theorem dX13_back_96 : decode cX13_back 96 = .ok (.iconst 1, 1) := by decide +kernel
theorem dX13_back_97 : decode cX13_back 97 = .ok (.goto 4, 3) := by decide +kernel
theorem dX13_back_100 : decode cX13_back 100 = .ok (.iconst 0, 1) := by decide +kernel
theorem dX13_back_101 : decode cX13_back 101 = .ok (.bipush 9, 2) := by decide +kernel
theorem dX13_back_103 : decode cX13_back 103 = .ok (.invokevirtual 117, 3) := by decide +kernel
theorem dX13_back_106 : decode cX13_back 106 = .ok (.return_, 1) := by decide +kernel
theorem dX13_begin_0 : decode cX13_begin 0 = .ok (.aload_n 0, 1) := by decide +kernel
theorem dX13_begin_1 : decode cX13_begin 1 = .ok (.iconst 0, 1) := by decide +kernel
theorem dX13_begin_2 : decode cX13_begin 2 = .ok (.putfield 48, 3) := by decide +kernel
theorem dX13_begin_5 : decode cX13_begin 5 = .ok (.aload_n 0, 1) := by decide +kernel
theorem dX13_begin_6 : decode cX13_begin 6 = .ok (.iconst 0, 1) := by decide +kernel
theorem dX13_begin_7 : decode cX13_begin 7 = .ok (.putfield 92, 3) := by decide +kernel
theorem dX13_begin_10 : decode cX13_begin 10 = .ok (.aload_n 0, 1) := by decide +kernel
theorem dX13_begin_11 : decode cX13_begin 11 = .ok (.aload_n 0, 1) := by decide +kernel
theorem dX13_begin_12 : decode cX13_begin 12 = .ok (.getfield 72, 3) := by decide +kernel
theorem dX13_begin_15 : decode cX13_begin 15 = .ok (.aload_n 0, 1) := by decide +kernel
theorem dX13_begin_16 : decode cX13_begin 16 = .ok (.getfield 176, 3) := by decide +kernel
theorem dX13_begin_19 : decode cX13_begin 19 = .ok (.invokevirtual 228, 3) := by decide +kernel
theorem dX13_begin_22 : decode cX13_begin 22 = .ok (.putfield 231, 3) := by decide +kernel
theorem dX13_begin_25 : decode cX13_begin 25 = .ok (.aload_n 0, 1) := by decide +kernel
theorem dX13_begin_26 : decode cX13_begin 26 = .ok (.getfield 72, 3) := by decide +kernel
theorem dX13_begin_29 : decode cX13_begin 29 = .ok (.aload_n 0, 1) := by decide +kernel
theorem dX13_begin_30 : decode cX13_begin 30 = .ok (.getfield 176, 3) := by decide +kernel
theorem dX13_begin_33 : decode cX13_begin 33 = .ok (.iconst 0, 1) := by decide +kernel
theorem dX13_begin_34 : decode cX13_begin 34 = .ok (.invokevirtual 165, 3) := by decide +kernel
theorem dX13_begin_37 : decode cX13_begin 37 = .ok (.istore_n 1, 1) := by decide +kernel
theorem dX13_begin_38 : decode cX13_begin 38 = .ok (.aload_n 0, 1) := by decide +kernel
theorem dX13_begin_39 : decode cX13_begin 39 = .ok (.iload_n 1, 1) := by decide +kernel
theorem dX13_begin_40 : decode cX13_begin 40 = .ok (.aload_n 0, 1) := by decide +kernel
theorem dX13_begin_41 : decode cX13_begin 41 = .ok (.getfield 72, 3) := by decide +kernel
theorem dX13_begin_44 : decode cX13_begin 44 = .ok (.aload_n 0, 1) := by decide +kernel
theorem dX13_begin_45 : decode cX13_begin 45 = .ok (.getfield 176, 3) := by decide +kernel
theorem dX13_begin_48 : decode cX13_begin 48 = .ok (.iconst 2, 1) := by decide +kernel
theorem dX13_begin_49 : decode cX13_begin 49 = .ok (.invokevirtual 165, 3) := by decide +kernel
theorem dX13_begin_52 : decode cX13_begin 52 = .ok (.iadd, 1) := by decide +kernel
theorem dX13_begin_53 : decode cX13_begin 53 = .ok (.putfield 136, 3) := by decide +kernel
theorem dX13_begin_56 : decode cX13_begin 56 = .ok (.iconst 0, 1) := by decide +kernel
theorem dX13_begin_57 : decode cX13_begin 57 = .ok (.istore_n 2, 1) := by decide +kernel
theorem dX13_begin_58 : decode cX13_begin 58 = .ok (.iload_n 2, 1) := by decide +kernel
theorem dX13_begin_59 : decode cX13_begin 59 = .ok (.aload_n 0, 1) := by decide +kernel
theorem dX13_begin_60 : decode cX13_begin 60 = .ok (.getfield 136, 3) := by decide +kernel
theorem dX13_begin_63 : decode cX13_begin 63 = .ok (.if_icmp .ge 51, 3) := by decide +kernel
theorem dX13_begin_66 : decode cX13_begin 66 = .ok (.aload_n 0, 1) := by decide +kernel
theorem dX13_begin_67 : decode cX13_begin 67 = .ok (.getfield 7, 3) := by decide +kernel
theorem dX13_begin_70 : decode cX13_begin 70 = .ok (.iload_n 2, 1) := by decide +kernel
theorem dX13_begin_71 : decode cX13_begin 71 = .ok (.iload_n 2, 1) := by decide +kernel
theorem dX13_begin_72 : decode cX13_begin 72 = .ok (.iload_n 1, 1) := by decide +kernel
theorem dX13_begin_73 : decode cX13_begin 73 = .ok (.if_icmp .ge 19, 3) := by decide +kernel
theorem dX13_begin_76 : decode cX13_begin 76 = .ok (.aload_n 0, 1) := by decide +kernel
theorem dX13_begin_77 : decode cX13_begin 77 = .ok (.getfield 72, 3) := by decide +kernel
theorem dX13_begin_80 : decode cX13_begin 80 = .ok (.aload_n 0, 1) := by decide +kernel
theorem dX13_begin_81 : decode cX13_begin 81 = .ok (.getfield 176, 3) := by decide +kernel
theorem dX13_begin_84 : decode cX13_begin 84 = .ok (.iconst 0, 1) := by decide +kernel
theorem dX13_begin_85 : decode cX13_begin 85 = .ok (.iload_n 2, 1) := by decide +kernel
theorem dX13_begin_86 : decode cX13_begin 86 = .ok (.invokevirtual 169, 3) := by decide +kernel
theorem dX13_begin_89 : decode cX13_begin 89 = .ok (.goto 18, 3) := by decide +kernel
theorem dX13_begin_92 : decode cX13_begin 92 = .ok (.aload_n 0, 1) := by decide +kernel
theorem dX13_begin_93 : decode cX13_begin 93 = .ok (.getfield 72, 3) := by decide +kernel
theorem dX13_begin_96 : decode cX13_begin 96 = .ok (.aload_n 0, 1) := by decide +kernel
theorem dX13_begin_97 : decode cX13_begin 97 = .ok (.getfield 176, 3) := by decide +kernel
theorem dX13_begin_100 : decode cX13_begin 100 = .ok (.iconst 2, 1) := by decide +kernel
theorem dX13_begin_101 : decode cX13_begin 101 = .ok (.iload_n 2, 1) := by decide +kernel
theorem dX13_begin_102 : decode cX13_begin 102 = .ok (.iload_n 1, 1) := by decide +kernel
theorem dX13_begin_103 : decode cX13_begin 103 = .ok (.isub, 1) := by decide +kernel
theorem dX13_begin_104 : decode cX13_begin 104 = .ok (.invokevirtual 169, 3) := by decide +kernel
theorem dX13_begin_107 : decode cX13_begin 107 = .ok (.lastore, 1) := by decide +kernel
theorem dX13_begin_108 : decode cX13_begin 108 = .ok (.iinc 2 1, 3) := by decide +kernel
theorem dX13_begin_111 : decode cX13_begin 111 = .ok (.goto (-53), 3) := by decide +kernel
theorem dX13_begin_114 : decode cX13_begin 114 = .ok (.iconst 0, 1) := by decide +kernel
theorem dX13_begin_115 : decode cX13_begin 115 = .ok (.istore_n 2, 1) := by decide +kernel
theorem dX13_begin_116 : decode cX13_begin 116 = .ok (.iload_n 2, 1) := by decide +kernel
theorem dX13_begin_117 : decode cX13_begin 117 = .ok (.sipush 1024, 3) := by decide +kernel
theorem dX13_begin_120 : decode cX13_begin 120 = .ok (.if_icmp .gt 23, 3) := by decide +kernel
theorem dX13_begin_123 : decode cX13_begin 123 = .ok (.aload_n 0, 1) := by decide +kernel
theorem dX13_begin_124 : decode cX13_begin 124 = .ok (.getfield 13, 3) := by decide +kernel
theorem dX13_begin_127 : decode cX13_begin 127 = .ok (.iload_n 2, 1) := by decide +kernel
theorem dX13_begin_128 : decode cX13_begin 128 = .ok (.iconst 0, 1) := by decide +kernel
theorem dX13_begin_129 : decode cX13_begin 129 = .ok (.bastore, 1) := by decide +kernel
theorem dX13_begin_130 : decode cX13_begin 130 = .ok (.aload_n 0, 1) := by decide +kernel
theorem dX13_begin_131 : decode cX13_begin 131 = .ok (.getfield 17, 3) := by decide +kernel
theorem dX13_begin_134 : decode cX13_begin 134 = .ok (.iload_n 2, 1) := by decide +kernel
theorem dX13_begin_135 : decode cX13_begin 135 = .ok (.iconst 0, 1) := by decide +kernel
theorem dX13_begin_136 : decode cX13_begin 136 = .ok (.bastore, 1) := by decide +kernel
theorem dX13_begin_137 : decode cX13_begin 137 = .ok (.iinc 2 1, 3) := by decide +kernel
theorem dX13_begin_140 : decode cX13_begin 140 = .ok (.goto (-24), 3) := by decide +kernel
theorem dX13_begin_143 : decode cX13_begin 143 = .ok (.iconst 0, 1) := by decide +kernel
theorem dX13_begin_144 : decode cX13_begin 144 = .ok (.istore_n 2, 1) := by decide +kernel
theorem dX13_begin_145 : decode cX13_begin 145 = .ok (.iload_n 2, 1) := by decide +kernel
theorem dX13_begin_146 : decode cX13_begin 146 = .ok (.aload_n 0, 1) := by decide +kernel
theorem dX13_begin_147 : decode cX13_begin 147 = .ok (.getfield 231, 3) := by decide +kernel
theorem dX13_begin_150 : decode cX13_begin 150 = .ok (.if_icmp .ge 52, 3) := by decide +kernel
theorem dX13_begin_153 : decode cX13_begin 153 = .ok (.aload_n 0, 1) := by decide +kernel
theorem dX13_begin_154 : decode cX13_begin 154 = .ok (.getfield 72, 3) := by decide +kernel
theorem dX13_begin_157 : decode cX13_begin 157 = .ok (.aload_n 0, 1) := by decide +kernel
theorem dX13_begin_158 : decode cX13_begin 158 = .ok (.getfield 176, 3) := by decide +kernel
theorem dX13_begin_161 : decode cX13_begin 161 = .ok (.iload_n 2, 1) := by decide +kernel
theorem dX13_begin_162 : decode cX13_begin 162 = .ok (.invokevirtual 233, 3) := by decide +kernel
theorem dX13_begin_165 : decode cX13_begin 165 = .ok (.istore_n 3, 1) := by decide +kernel
theorem dX13_begin_166 : decode cX13_begin 166 = .ok (.iload_n 3, 1) := by decide +kernel
theorem dX13_begin_167 : decode cX13_begin 167 = .ok (.iconst 1, 1) := by decide +kernel
theorem dX13_begin_168 : decode cX13_begin 168 = .ok (.if_icmp .le 28, 3) := by decide +kernel
theorem dX13_begin_171 : decode cX13_begin 171 = .ok (.iload_n 3, 1) := by decide +kernel
theorem dX13_begin_172 : decode cX13_begin 172 = .ok (.iconst 5, 1) := by decide +kernel
theorem dX13_begin_173 : decode cX13_begin 173 = .ok (.if_icmp .ge 23, 3) := by decide +kernel
theorem dX13_begin_176 : decode cX13_begin 176 = .ok (.aload_n 0, 1) := by decide +kernel
theorem dX13_begin_177 : decode cX13_begin 177 = .ok (.getfield 17, 3) := by decide +kernel
theorem dX13_begin_180 : decode cX13_begin 180 = .ok (.aload_n 0, 1) := by decide +kernel
theorem dX13_begin_181 : decode cX13_begin 181 = .ok (.getfield 72, 3) := by decide +kernel
theorem dX13_begin_184 : decode cX13_begin 184 = .ok (.aload_n 0, 1) := by decide +kernel
theorem dX13_begin_185 : decode cX13_begin 185 = .ok (.getfield 176, 3) := by decide +kernel
theorem dX13_begin_188 : decode cX13_begin 188 = .ok (.iload_n 2, 1) := by decide +kernel
theorem dX13_begin_189 : decode cX13_begin 189 = .ok (.iconst 0, 1) := by decide +kernel
theorem dX13_begin_190 : decode cX13_begin 190 = .ok (.invokevirtual 236, 3) := by decide +kernel
theorem dX13_begin_193 : decode cX13_begin 193 = .ok (.l2i, 1) := by decide +kernel
theorem dX13_begin_194 : decode cX13_begin 194 = .ok (.iconst 1, 1) := by decide +kernel
theorem dX13_begin_195 : decode cX13_begin 195 = .ok (.bastore, 1) := by decide +kernel
theorem dX13_begin_196 : decode cX13_begin 196 = .ok (.iinc 2 1, 3) := by decide +kernel
theorem dX13_begin_199 : decode cX13_begin 199 = .ok (.goto (-54), 3) := by decide +kernel
theorem dX13_begin_202 : decode cX13_begin 202 = .ok (.aload_n 0, 1) := by decide +kernel
theorem dX13_begin_203 : decode cX13_begin 203 = .ok (.getfield 13, 3) := by decide +kernel
theorem dX13_begin_206 : decode cX13_begin 206 = .ok (.iconst 0, 1) := by decide +kernel
theorem dX13_begin_207 : decode cX13_begin 207 = .ok (.iconst 1, 1) := by decide +kernel
theorem dX13_begin_208 : decode cX13_begin 208 = .ok (.bastore, 1) := by decide +kernel
theorem dX13_begin_209 : decode cX13_begin 209 = .ok (.iconst 0, 1) := by decide +kernel
theorem dX13_begin_210 : decode cX13_begin 210 = .ok (.istore_n 2, 1) := by decide +kernel
theorem dX13_begin_211 : decode cX13_begin 211 = .ok (.iload_n 2, 1) := by decide +kernel
theorem dX13_begin_212 : decode cX13_begin 212 = .ok (.aload_n 0, 1) := by decide +kernel
theorem dX13_begin_213 : decode cX13_begin 213 = .ok (.getfield 136, 3) := by decide +kernel
theorem dX13_begin_216 : decode cX13_begin 216 = .ok (.if_icmp .ge 66, 3) := by decide +kernel
theorem dX13_begin_219 : decode cX13_begin 219 = .ok (.iload_n 2, 1) := by decide +kernel
theorem dX13_begin_220 : decode cX13_begin 220 = .ok (.iload_n 1, 1) := by decide +kernel
theorem dX13_begin_221 : decode cX13_begin 221 = .ok (.if_icmp .ge 7, 3) := by decide +kernel
theorem dX13_begin_224 : decode cX13_begin 224 = .ok (.iconst 1, 1) := by decide +kernel
theorem dX13_begin_225 : decode cX13_begin 225 = .ok (.goto 4, 3) := by decide +kernel
theorem dX13_begin_228 : decode cX13_begin 228 = .ok (.iconst 0, 1) := by decide +kernel
theorem dX13_begin_229 : decode cX13_begin 229 = .ok (.istore_n 3, 1) := by decide +kernel
theorem dX13_begin_230 : decode cX13_begin 230 = .ok (.aload_n 0, 1) := by decide +kernel
theorem dX13_begin_231 : decode cX13_begin 231 = .ok (.getfield 21, 3) := by decide +kernel
theorem dX13_begin_234 : decode cX13_begin 234 = .ok (.iload_n 2, 1) := by decide +kernel
theorem dX13_begin_235 : decode cX13_begin 235 = .ok (.iload_n 3, 1) := by decide +kernel
theorem dX13_begin_236 : decode cX13_begin 236 = .ok (.bastore, 1) := by decide +kernel
theorem dX13_begin_237 : decode cX13_begin 237 = .ok (.aload_n 0, 1) := by decide +kernel
theorem dX13_begin_238 : decode cX13_begin 238 = .ok (.getfield 24, 3) := by decide +kernel
theorem dX13_begin_241 : decode cX13_begin 241 = .ok (.iload_n 2, 1) := by decide +kernel
theorem dX13_begin_242 : decode cX13_begin 242 = .ok (.iload_n 3, 1) := by decide +kernel
theorem dX13_begin_243 : decode cX13_begin 243 = .ok (.ifCond .eq 24, 3) := by decide +kernel
theorem dX13_begin_246 : decode cX13_begin 246 = .ok (.aload_n 0, 1) := by decide +kernel
theorem dX13_begin_247 : decode cX13_begin 247 = .ok (.getfield 7, 3) := by decide +kernel
theorem dX13_begin_250 : decode cX13_begin 250 = .ok (.iload_n 2, 1) := by decide +kernel
theorem dX13_begin_251 : decode cX13_begin 251 = .ok (.laload, 1) := by decide +kernel
theorem dX13_begin_252 : decode cX13_begin 252 = .ok (.invokestatic 68, 3) := by decide +kernel
theorem dX13_begin_255 : decode cX13_begin 255 = .ok (.ifCond .eq 12, 3) := by decide +kernel
theorem dX13_begin_258 : decode cX13_begin 258 = .ok (.lconst 1, 1) := by decide +kernel
theorem dX13_begin_259 : decode cX13_begin 259 = .ok (.bipush 40, 2) := by decide +kernel
theorem dX13_begin_261 : decode cX13_begin 261 = .ok (.iload_n 2, 1) := by decide +kernel
theorem dX13_begin_262 : decode cX13_begin 262 = .ok (.iadd, 1) := by decide +kernel
theorem dX13_begin_263 : decode cX13_begin 263 = .ok (.lshl, 1) := by decide +kernel
theorem dX13_begin_264 : decode cX13_begin 264 = .ok (.goto 4, 3) := by decide +kernel
theorem dX13_begin_267 : decode cX13_begin 267 = .ok (.lconst 0, 1) := by decide +kernel
theorem dX13_begin_268 : decode cX13_begin 268 = .ok (.lastore, 1) := by decide +kernel
theorem dX13_begin_269 : decode cX13_begin 269 = .ok (.aload_n 0, 1) := by decide +kernel
theorem dX13_begin_270 : decode cX13_begin 270 = .ok (.getfield 27, 3) := by decide +kernel
theorem dX13_begin_273 : decode cX13_begin 273 = .ok (.iload_n 2, 1) := by decide +kernel
theorem dX13_begin_274 : decode cX13_begin 274 = .ok (.iconst 0, 1) := by decide +kernel
theorem dX13_begin_275 : decode cX13_begin 275 = .ok (.bastore, 1) := by decide +kernel
theorem dX13_begin_276 : decode cX13_begin 276 = .ok (.iinc 2 1, 3) := by decide +kernel
theorem dX13_begin_279 : decode cX13_begin 279 = .ok (.goto (-68), 3) := by decide +kernel
theorem dX13_begin_282 : decode cX13_begin 282 = .ok (.return_, 1) := by decide +kernel
theorem dX13_look_0 : decode cX13_look 0 = .ok (.aload_n 0, 1) := by decide +kernel
theorem dX13_look_1 : decode cX13_look 1 = .ok (.aload_n 0, 1) := by decide +kernel
theorem dX13_look_2 : decode cX13_look 2 = .ok (.getfield 13, 3) := by decide +kernel
theorem dX13_look_5 : decode cX13_look 5 = .ok (.iload_n 1, 1) := by decide +kernel
theorem dX13_look_6 : decode cX13_look 6 = .ok (.baload, 1) := by decide +kernel
theorem dX13_look_7 : decode cX13_look 7 = .ok (.bipush 10, 2) := by decide +kernel
theorem dX13_look_9 : decode cX13_look 9 = .ok (.invokevirtual 117, 3) := by decide +kernel
theorem dX13_look_12 : decode cX13_look 12 = .ok (.aload_n 0, 1) := by decide +kernel
theorem dX13_look_13 : decode cX13_look 13 = .ok (.aload_n 0, 1) := by decide +kernel
theorem dX13_look_14 : decode cX13_look 14 = .ok (.getfield 17, 3) := by decide +kernel
theorem dX13_look_17 : decode cX13_look 17 = .ok (.iload_n 1, 1) := by decide +kernel
theorem dX13_look_18 : decode cX13_look 18 = .ok (.baload, 1) := by decide +kernel
theorem dX13_look_19 : decode cX13_look 19 = .ok (.ifCond .eq 10, 3) := by decide +kernel
theorem dX13_look_22 : decode cX13_look 22 = .ok (.aload_n 0, 1) := by decide +kernel
theorem dX13_look_23 : decode cX13_look 23 = .ok (.getfield 92, 3) := by decide +kernel
theorem dX13_look_26 : decode cX13_look 26 = .ok (.ifCond .ne 7, 3) := by decide +kernel
theorem dX13_look_29 : decode cX13_look 29 = .ok (.iconst 1, 1) := by decide +kernel
theorem dX13_look_30 : decode cX13_look 30 = .ok (.goto 4, 3) := by decide +kernel
theorem dX13_look_33 : decode cX13_look 33 = .ok (.iconst 0, 1) := by decide +kernel
theorem dX13_look_34 : decode cX13_look 34 = .ok (.bipush 8, 2) := by decide +kernel
theorem dX13_look_36 : decode cX13_look 36 = .ok (.invokevirtual 117, 3) := by decide +kernel
theorem dX13_look_39 : decode cX13_look 39 = .ok (.aload_n 0, 1) := by decide +kernel
theorem dX13_look_40 : decode cX13_look 40 = .ok (.getfield 48, 3) := by decide +kernel
theorem dX13_look_43 : decode cX13_look 43 = .ok (.ifCond .eq 4, 3) := by decide +kernel
theorem dX13_look_46 : decode cX13_look 46 = .ok (.return_, 1) := by decide +kernel
theorem dX13_look_47 : decode cX13_look 47 = .ok (.iconst 0, 1) := by decide +kernel
theorem dX13_look_48 : decode cX13_look 48 = .ok (.istore_n 2, 1) := by decide +kernel
theorem dX13_look_49 : decode cX13_look 49 = .ok (.iload_n 2, 1) := by decide +kernel
theorem dX13_look_50 : decode cX13_look 50 = .ok (.aload_n 0, 1) := by decide +kernel
theorem dX13_look_51 : decode cX13_look 51 = .ok (.getfield 136, 3) := by decide +kernel
theorem dX13_look_54 : decode cX13_look 54 = .ok (.if_icmp .ge 60, 3) := by decide +kernel
theorem dX13_look_57 : decode cX13_look 57 = .ok (.aload_n 0, 1) := by decide +kernel
theorem dX13_look_58 : decode cX13_look 58 = .ok (.getfield 39, 3) := by decide +kernel
theorem dX13_look_61 : decode cX13_look 61 = .ok (.iload_n 2, 1) := by decide +kernel
theorem dX13_look_62 : decode cX13_look 62 = .ok (.aload_n 0, 1) := by decide +kernel
theorem dX13_look_63 : decode cX13_look 63 = .ok (.getfield 21, 3) := by decide +kernel
theorem dX13_look_66 : decode cX13_look 66 = .ok (.bipush 40, 2) := by decide +kernel
theorem dX13_look_68 : decode cX13_look 68 = .ok (.iload_n 1, 1) := by decide +kernel
theorem dX13_look_69 : decode cX13_look 69 = .ok (.imul, 1) := by decide +kernel
theorem dX13_look_70 : decode cX13_look 70 = .ok (.iload_n 2, 1) := by decide +kernel
theorem dX13_look_71 : decode cX13_look 71 = .ok (.iadd, 1) := by decide +kernel
theorem dX13_look_72 : decode cX13_look 72 = .ok (.baload, 1) := by decide +kernel
theorem dX13_look_73 : decode cX13_look 73 = .ok (.bastore, 1) := by decide +kernel
theorem dX13_look_74 : decode cX13_look 74 = .ok (.aload_n 0, 1) := by decide +kernel
theorem dX13_look_75 : decode cX13_look 75 = .ok (.getfield 42, 3) := by decide +kernel
theorem dX13_look_78 : decode cX13_look 78 = .ok (.iload_n 2, 1) := by decide +kernel
theorem dX13_look_79 : decode cX13_look 79 = .ok (.aload_n 0, 1) := by decide +kernel
theorem dX13_look_80 : decode cX13_look 80 = .ok (.getfield 24, 3) := by decide +kernel
theorem dX13_look_83 : decode cX13_look 83 = .ok (.bipush 40, 2) := by decide +kernel
theorem dX13_look_85 : decode cX13_look 85 = .ok (.iload_n 1, 1) := by decide +kernel
theorem dX13_look_86 : decode cX13_look 86 = .ok (.imul, 1) := by decide +kernel
theorem dX13_look_87 : decode cX13_look 87 = .ok (.iload_n 2, 1) := by decide +kernel
theorem dX13_look_88 : decode cX13_look 88 = .ok (.iadd, 1) := by decide +kernel
theorem dX13_look_89 : decode cX13_look 89 = .ok (.laload, 1) := by decide +kernel
theorem dX13_look_90 : decode cX13_look 90 = .ok (.lastore, 1) := by decide +kernel
theorem dX13_look_91 : decode cX13_look 91 = .ok (.aload_n 0, 1) := by decide +kernel
theorem dX13_look_92 : decode cX13_look 92 = .ok (.getfield 45, 3) := by decide +kernel
theorem dX13_look_95 : decode cX13_look 95 = .ok (.iload_n 2, 1) := by decide +kernel
theorem dX13_look_96 : decode cX13_look 96 = .ok (.aload_n 0, 1) := by decide +kernel
theorem dX13_look_97 : decode cX13_look 97 = .ok (.getfield 27, 3) := by decide +kernel
theorem dX13_look_100 : decode cX13_look 100 = .ok (.bipush 40, 2) := by decide +kernel
theorem dX13_look_102 : decode cX13_look 102 = .ok (.iload_n 1, 1) := by decide +kernel
theorem dX13_look_103 : decode cX13_look 103 = .ok (.imul, 1) := by decide +kernel
theorem dX13_look_104 : decode cX13_look 104 = .ok (.iload_n 2, 1) := by decide +kernel
theorem dX13_look_105 : decode cX13_look 105 = .ok (.iadd, 1) := by decide +kernel
theorem dX13_look_106 : decode cX13_look 106 = .ok (.baload, 1) := by decide +kernel
theorem dX13_look_107 : decode cX13_look 107 = .ok (.bastore, 1) := by decide +kernel
theorem dX13_look_108 : decode cX13_look 108 = .ok (.iinc 2 1, 3) := by decide +kernel
theorem dX13_look_111 : decode cX13_look 111 = .ok (.goto (-62), 3) := by decide +kernel
theorem dX13_look_114 : decode cX13_look 114 = .ok (.aload_n 0, 1) := by decide +kernel
theorem dX13_look_115 : decode cX13_look 115 = .ok (.getfield 72, 3) := by decide +kernel
theorem dX13_look_118 : decode cX13_look 118 = .ok (.aload_n 0, 1) := by decide +kernel
theorem dX13_look_119 : decode cX13_look 119 = .ok (.getfield 176, 3) := by decide +kernel
theorem dX13_look_122 : decode cX13_look 122 = .ok (.iload_n 1, 1) := by decide +kernel
theorem dX13_look_123 : decode cX13_look 123 = .ok (.invokevirtual 233, 3) := by decide +kernel
theorem dX13_look_126 : decode cX13_look 126 = .ok (.istore_n 2, 1) := by decide +kernel
theorem dX13_look_127 : decode cX13_look 127 = .ok (.aload_n 0, 1) := by decide +kernel
theorem dX13_look_128 : decode cX13_look 128 = .ok (.getfield 72, 3) := by decide +kernel
theorem dX13_look_131 : decode cX13_look 131 = .ok (.aload_n 0, 1) := by decide +kernel
theorem dX13_look_132 : decode cX13_look 132 = .ok (.getfield 176, 3) := by decide +kernel
theorem dX13_look_135 : decode cX13_look 135 = .ok (.iload_n 1, 1) := by decide +kernel
theorem dX13_look_136 : decode cX13_look 136 = .ok (.iconst 0, 1) := by decide +kernel
theorem dX13_look_137 : decode cX13_look 137 = .ok (.invokevirtual 236, 3) := by decide +kernel
theorem dX13_look_140 : decode cX13_look 140 = .ok (.l2i, 1) := by decide +kernel
theorem dX13_look_141 : decode cX13_look 141 = .ok (.istore_n 3, 1) := by decide +kernel
theorem dX13_look_142 : decode cX13_look 142 = .ok (.aload_n 0, 1) := by decide +kernel
theorem dX13_look_143 : decode cX13_look 143 = .ok (.iload_n 2, 1) := by decide +kernel
theorem dX13_look_144 : decode cX13_look 144 = .ok (.iload_n 3, 1) := by decide +kernel
theorem dX13_look_145 : decode cX13_look 145 = .ok (.aload_n 0, 1) := by decide +kernel
theorem dX13_look_146 : decode cX13_look 146 = .ok (.getfield 72, 3) := by decide +kernel
theorem dX13_look_149 : decode cX13_look 149 = .ok (.aload_n 0, 1) := by decide +kernel
theorem dX13_look_150 : decode cX13_look 150 = .ok (.getfield 176, 3) := by decide +kernel
theorem dX13_look_153 : decode cX13_look 153 = .ok (.iload_n 1, 1) := by decide +kernel
theorem dX13_look_154 : decode cX13_look 154 = .ok (.iconst 1, 1) := by decide +kernel
theorem dX13_look_155 : decode cX13_look 155 = .ok (.invokevirtual 236, 3) := by decide +kernel
theorem dX13_look_158 : decode cX13_look 158 = .ok (.l2i, 1) := by decide +kernel
theorem dX13_look_159 : decode cX13_look 159 = .ok (.invokevirtual 239, 3) := by decide +kernel
theorem dX13_look_162 : decode cX13_look 162 = .ok (.iload_n 2, 1) := by decide +kernel
theorem dX13_look_163 : decode cX13_look 163 = .ok (.iconst 1, 1) := by decide +kernel
theorem dX13_look_164 : decode cX13_look 164 = .ok (.if_icmp .le 14, 3) := by decide +kernel
theorem dX13_look_167 : decode cX13_look 167 = .ok (.iload_n 2, 1) := by decide +kernel
theorem dX13_look_168 : decode cX13_look 168 = .ok (.iconst 5, 1) := by decide +kernel
theorem dX13_look_169 : decode cX13_look 169 = .ok (.if_icmp .ge 9, 3) := by decide +kernel
theorem dX13_look_172 : decode cX13_look 172 = .ok (.aload_n 0, 1) := by decide +kernel
theorem dX13_look_173 : decode cX13_look 173 = .ok (.iload_n 1, 1) := by decide +kernel
theorem dX13_look_174 : decode cX13_look 174 = .ok (.iload_n 3, 1) := by decide +kernel
theorem dX13_look_175 : decode cX13_look 175 = .ok (.invokevirtual 242, 3) := by decide +kernel
theorem dX13_look_178 : decode cX13_look 178 = .ok (.iload_n 2, 1) := by decide +kernel
theorem dX13_look_179 : decode cX13_look 179 = .ok (.iconst 1, 1) := by decide +kernel
theorem dX13_look_180 : decode cX13_look 180 = .ok (.if_icmp .eq 14, 3) := by decide +kernel
theorem dX13_look_183 : decode cX13_look 183 = .ok (.iload_n 2, 1) := by decide +kernel
theorem dX13_look_184 : decode cX13_look 184 = .ok (.iconst 2, 1) := by decide +kernel
theorem dX13_look_185 : decode cX13_look 185 = .ok (.if_icmp .eq 9, 3) := by decide +kernel
theorem dX13_look_188 : decode cX13_look 188 = .ok (.iload_n 2, 1) := by decide +kernel
theorem dX13_look_189 : decode cX13_look 189 = .ok (.bipush 45, 2) := by decide +kernel
theorem dX13_look_191 : decode cX13_look 191 = .ok (.if_icmp .ne 9, 3) := by decide +kernel
theorem dX13_look_194 : decode cX13_look 194 = .ok (.aload_n 0, 1) := by decide +kernel
theorem dX13_look_195 : decode cX13_look 195 = .ok (.iconst 0, 1) := by decide +kernel
theorem dX13_look_196 : decode cX13_look 196 = .ok (.putfield 92, 3) := by decide +kernel
theorem dX13_look_199 : decode cX13_look 199 = .ok (.return_, 1) := by decide +kernel
theorem dX13_look_200 : decode cX13_look 200 = .ok (.aload_n 0, 1) := by decide +kernel
theorem dX13_look_201 : decode cX13_look 201 = .ok (.iload_n 1, 1) := by decide +kernel
theorem dX13_look_202 : decode cX13_look 202 = .ok (.iconst 1, 1) := by decide +kernel
theorem dX13_look_203 : decode cX13_look 203 = .ok (.iadd, 1) := by decide +kernel
theorem dX13_look_204 : decode cX13_look 204 = .ok (.aload_n 0, 1) := by decide +kernel
theorem dX13_look_205 : decode cX13_look 205 = .ok (.getfield 231, 3) := by decide +kernel
theorem dX13_look_208 : decode cX13_look 208 = .ok (.if_icmp .ge 7, 3) := by decide +kernel
theorem dX13_look_211 : decode cX13_look 211 = .ok (.iconst 1, 1) := by decide +kernel
theorem dX13_look_212 : decode cX13_look 212 = .ok (.goto 4, 3) := by decide +kernel
theorem dX13_look_215 : decode cX13_look 215 = .ok (.iconst 0, 1) := by decide +kernel
theorem dX13_look_216 : decode cX13_look 216 = .ok (.bipush 11, 2) := by decide +kernel
theorem dX13_look_218 : decode cX13_look 218 = .ok (.invokevirtual 117, 3) := by decide +kernel
theorem dX13_look_221 : decode cX13_look 221 = .ok (.aload_n 0, 1) := by decide +kernel
theorem dX13_look_222 : decode cX13_look 222 = .ok (.iload_n 1, 1) := by decide +kernel
theorem dX13_look_223 : decode cX13_look 223 = .ok (.iload_n 1, 1) := by decide +kernel
theorem dX13_look_224 : decode cX13_look 224 = .ok (.iconst 1, 1) := by decide +kernel
theorem dX13_look_225 : decode cX13_look 225 = .ok (.iadd, 1) := by decide +kernel
theorem dX13_look_226 : decode cX13_look 226 = .ok (.invokevirtual 242, 3) := by decide +kernel
theorem dX13_look_229 : decode cX13_look 229 = .ok (.return_, 1) := by decide +kernel
theorem dX13_check_0 : decode cX13_check 0 = .ok (.aload_n 0, 1) := by decide +kernel
theorem dX13_check_1 : decode cX13_check 1 = .ok (.aload_n 1, 1) := by decide +kernel
theorem dX13_check_2 : decode cX13_check 2 = .ok (.putfield 72, 3) := by decide +kernel
theorem dX13_check_5 : decode cX13_check 5 = .ok (.aload_n 0, 1) := by decide +kernel
theorem dX13_check_6 : decode cX13_check 6 = .ok (.iload_n 2, 1) := by decide +kernel
theorem dX13_check_7 : decode cX13_check 7 = .ok (.putfield 176, 3) := by decide +kernel
theorem dX13_check_10 : decode cX13_check 10 = .ok (.aload_n 0, 1) := by decide +kernel
theorem dX13_check_11 : decode cX13_check 11 = .ok (.invokevirtual 245, 3) := by decide +kernel
theorem dX13_check_14 : decode cX13_check 14 = .ok (.iconst 0, 1) := by decide +kernel
theorem dX13_check_15 : decode cX13_check 15 = .ok (.istore_n 3, 1) := by decide +kernel
theorem dX13_check_16 : decode cX13_check 16 = .ok (.iload_n 3, 1) := by decide +kernel
theorem dX13_check_17 : decode cX13_check 17 = .ok (.aload_n 0, 1) := by decide +kernel
theorem dX13_check_18 : decode cX13_check 18 = .ok (.getfield 231, 3) := by decide +kernel
theorem dX13_check_21 : decode cX13_check 21 = .ok (.if_icmp .ge 33, 3) := by decide +kernel
theorem dX13_check_24 : decode cX13_check 24 = .ok (.aload_n 0, 1) := by decide +kernel
theorem dX13_check_25 : decode cX13_check 25 = .ok (.getfield 48, 3) := by decide +kernel
theorem dX13_check_28 : decode cX13_check 28 = .ok (.ifCond .ne 26, 3) := by decide +kernel
theorem dX13_check_31 : decode cX13_check 31 = .ok (.aload_n 0, 1) := by decide +kernel
theorem dX13_check_32 : decode cX13_check 32 = .ok (.iload_n 3, 1) := by decide +kernel
theorem dX13_check_33 : decode cX13_check 33 = .ok (.invokevirtual 248, 3) := by decide +kernel
theorem dX13_check_36 : decode cX13_check 36 = .ok (.aload_n 0, 1) := by decide +kernel
theorem dX13_check_37 : decode cX13_check 37 = .ok (.getfield 48, 3) := by decide +kernel
theorem dX13_check_40 : decode cX13_check 40 = .ok (.ifCond .eq 8, 3) := by decide +kernel
theorem dX13_check_43 : decode cX13_check 43 = .ok (.aload_n 0, 1) := by decide +kernel
theorem dX13_check_44 : decode cX13_check 44 = .ok (.iload_n 3, 1) := by decide +kernel
theorem dX13_check_45 : decode cX13_check 45 = .ok (.putfield 251, 3) := by decide +kernel
theorem dX13_check_48 : decode cX13_check 48 = .ok (.iinc 3 1, 3) := by decide +kernel
theorem dX13_check_51 : decode cX13_check 51 = .ok (.goto (-35), 3) := by decide +kernel
theorem dX13_check_54 : decode cX13_check 54 = .ok (.aload_n 0, 1) := by decide +kernel
theorem dX13_check_55 : decode cX13_check 55 = .ok (.getfield 48, 3) := by decide +kernel
theorem dX13_check_58 : decode cX13_check 58 = .ok (.ireturn, 1) := by decide +kernel
theorem dX14_order_0 : decode cX14_order 0 = .ok (.lload_n 0, 1) := by decide +kernel
theorem dX14_order_1 : decode cX14_order 1 = .ok (.lload_n 2, 1) := by decide +kernel
theorem dX14_order_2 : decode cX14_order 2 = .ok (.lcmp, 1) := by decide +kernel
theorem dX14_order_3 : decode cX14_order 3 = .ok (.ifCond .ne 7, 3) := by decide +kernel
theorem dX14_order_6 : decode cX14_order 6 = .ok (.iconst 0, 1) := by decide +kernel
theorem dX14_order_7 : decode cX14_order 7 = .ok (.goto 22, 3) := by decide +kernel
theorem dX14_order_10 : decode cX14_order 10 = .ok (.lload_n 0, 1) := by decide +kernel
theorem dX14_order_11 : decode cX14_order 11 = .ok (.ldc2_w 45, 3) := by decide +kernel
theorem dX14_order_14 : decode cX14_order 14 = .ok (.ladd, 1) := by decide +kernel
theorem dX14_order_15 : decode cX14_order 15 = .ok (.lload_n 2, 1) := by decide +kernel
theorem dX14_order_16 : decode cX14_order 16 = .ok (.ldc2_w 45, 3) := by decide +kernel
theorem dX14_order_19 : decode cX14_order 19 = .ok (.ladd, 1) := by decide +kernel
theorem dX14_order_20 : decode cX14_order 20 = .ok (.lcmp, 1) := by decide +kernel
theorem dX14_order_21 : decode cX14_order 21 = .ok (.ifCond .ge 7, 3) := by decide +kernel
theorem dX14_order_24 : decode cX14_order 24 = .ok (.iconst (-1), 1) := by decide +kernel
theorem dX14_order_25 : decode cX14_order 25 = .ok (.goto 4, 3) := by decide +kernel
theorem dX14_order_28 : decode cX14_order 28 = .ok (.iconst 1, 1) := by decide +kernel
theorem dX14_order_29 : decode cX14_order 29 = .ok (.ireturn, 1) := by decide +kernel
theorem dX14_isBehind_0 : decode cX14_isBehind 0 = .ok (.iconst 0, 1) := by decide +kernel
theorem dX14_isBehind_1 : decode cX14_isBehind 1 = .ok (.istore_n 3, 1) := by decide +kernel
theorem dX14_isBehind_2 : decode cX14_isBehind 2 = .ok (.iload_n 3, 1) := by decide +kernel
theorem dX14_isBehind_3 : decode cX14_isBehind 3 = .ok (.iconst 4, 1) := by decide +kernel
theorem dX14_isBehind_4 : decode cX14_isBehind 4 = .ok (.if_icmp .ge 43, 3) := by decide +kernel
theorem dX14_isBehind_7 : decode cX14_isBehind 7 = .ok (.aload_n 0, 1) := by decide +kernel
theorem dX14_isBehind_8 : decode cX14_isBehind 8 = .ok (.getfield 7, 3) := by decide +kernel
theorem dX14_isBehind_11 : decode cX14_isBehind 11 = .ok (.iconst 4, 1) := by decide +kernel
theorem dX14_isBehind_12 : decode cX14_isBehind 12 = .ok (.iload_n 1, 1) := by decide +kernel
theorem dX14_isBehind_13 : decode cX14_isBehind 13 = .ok (.imul, 1) := by decide +kernel
theorem dX14_isBehind_14 : decode cX14_isBehind 14 = .ok (.iload_n 3, 1) := by decide +kernel
theorem dX14_isBehind_15 : decode cX14_isBehind 15 = .ok (.iadd, 1) := by decide +kernel
theorem dX14_isBehind_16 : decode cX14_isBehind 16 = .ok (.laload, 1) := by decide +kernel
theorem dX14_isBehind_17 : decode cX14_isBehind 17 = .ok (.aload_n 2, 1) := by decide +kernel
theorem dX14_isBehind_18 : decode cX14_isBehind 18 = .ok (.iload_n 3, 1) := by decide +kernel
theorem dX14_isBehind_19 : decode cX14_isBehind 19 = .ok (.laload, 1) := by decide +kernel
theorem dX14_isBehind_20 : decode cX14_isBehind 20 = .ok (.invokestatic 47, 3) := by decide +kernel
theorem dX14_isBehind_23 : decode cX14_isBehind 23 = .ok (.istore 4, 2) := by decide +kernel
theorem dX14_isBehind_25 : decode cX14_isBehind 25 = .ok (.iload 4, 2) := by decide +kernel
theorem dX14_isBehind_27 : decode cX14_isBehind 27 = .ok (.ifCond .eq 14, 3) := by decide +kernel
theorem dX14_isBehind_30 : decode cX14_isBehind 30 = .ok (.iload 4, 2) := by decide +kernel
theorem dX14_isBehind_32 : decode cX14_isBehind 32 = .ok (.ifCond .le 7, 3) := by decide +kernel
theorem dX14_isBehind_35 : decode cX14_isBehind 35 = .ok (.iconst 1, 1) := by decide +kernel
theorem dX14_isBehind_36 : decode cX14_isBehind 36 = .ok (.goto 4, 3) := by decide +kernel
theorem dX14_isBehind_39 : decode cX14_isBehind 39 = .ok (.iconst 0, 1) := by decide +kernel
theorem dX14_isBehind_40 : decode cX14_isBehind 40 = .ok (.ireturn, 1) := by decide +kernel
theorem dX14_isBehind_41 : decode cX14_isBehind 41 = .ok (.iinc 3 1, 3) := by decide +kernel
theorem dX14_isBehind_44 : decode cX14_isBehind 44 = .ok (.goto (-42), 3) := by decide +kernel
theorem dX14_isBehind_47 : decode cX14_isBehind 47 = .ok (.iconst 0, 1) := by decide +kernel
theorem dX14_isBehind_48 : decode cX14_isBehind 48 = .ok (.ireturn, 1) := by decide +kernel
theorem dX14_isAt_0 : decode cX14_isAt 0 = .ok (.iconst 1, 1) := by decide +kernel
theorem dX14_isAt_1 : decode cX14_isAt 1 = .ok (.istore_n 3, 1) := by decide +kernel
theorem dX14_isAt_2 : decode cX14_isAt 2 = .ok (.iconst 0, 1) := by decide +kernel
theorem dX14_isAt_3 : decode cX14_isAt 3 = .ok (.istore 4, 2) := by decide +kernel
theorem dX14_isAt_5 : decode cX14_isAt 5 = .ok (.iload 4, 2) := by decide +kernel
theorem dX14_isAt_7 : decode cX14_isAt 7 = .ok (.iconst 4, 1) := by decide +kernel
theorem dX14_isAt_8 : decode cX14_isAt 8 = .ok (.if_icmp .ge 38, 3) := by decide +kernel
theorem dX14_isAt_11 : decode cX14_isAt 11 = .ok (.iload_n 3, 1) := by decide +kernel
theorem dX14_isAt_12 : decode cX14_isAt 12 = .ok (.ifCond .eq 26, 3) := by decide +kernel
theorem dX14_isAt_15 : decode cX14_isAt 15 = .ok (.aload_n 0, 1) := by decide +kernel
theorem dX14_isAt_16 : decode cX14_isAt 16 = .ok (.getfield 7, 3) := by decide +kernel
theorem dX14_isAt_19 : decode cX14_isAt 19 = .ok (.iconst 4, 1) := by decide +kernel
theorem dX14_isAt_20 : decode cX14_isAt 20 = .ok (.iload_n 1, 1) := by decide +kernel
theorem dX14_isAt_21 : decode cX14_isAt 21 = .ok (.imul, 1) := by decide +kernel
theorem dX14_isAt_22 : decode cX14_isAt 22 = .ok (.iload 4, 2) := by decide +kernel
theorem dX14_isAt_24 : decode cX14_isAt 24 = .ok (.iadd, 1) := by decide +kernel
theorem dX14_isAt_25 : decode cX14_isAt 25 = .ok (.laload, 1) := by decide +kernel
theorem dX14_isAt_26 : decode cX14_isAt 26 = .ok (.aload_n 2, 1) := by decide +kernel
theorem dX14_isAt_27 : decode cX14_isAt 27 = .ok (.iload 4, 2) := by decide +kernel
theorem dX14_isAt_29 : decode cX14_isAt 29 = .ok (.laload, 1) := by decide +kernel
theorem dX14_isAt_30 : decode cX14_isAt 30 = .ok (.lcmp, 1) := by decide +kernel
theorem dX14_isAt_31 : decode cX14_isAt 31 = .ok (.ifCond .ne 7, 3) := by decide +kernel
theorem dX14_isAt_34 : decode cX14_isAt 34 = .ok (.iconst 1, 1) := by decide +kernel
theorem dX14_isAt_35 : decode cX14_isAt 35 = .ok (.goto 4, 3) := by decide +kernel
theorem dX14_isAt_38 : decode cX14_isAt 38 = .ok (.iconst 0, 1) := by decide +kernel
theorem dX14_isAt_39 : decode cX14_isAt 39 = .ok (.istore_n 3, 1) := by decide +kernel
theorem dX14_isAt_40 : decode cX14_isAt 40 = .ok (.iinc 4 1, 3) := by decide +kernel
theorem dX14_isAt_43 : decode cX14_isAt 43 = .ok (.goto (-38), 3) := by decide +kernel
theorem dX14_isAt_46 : decode cX14_isAt 46 = .ok (.iload_n 3, 1) := by decide +kernel
theorem dX14_isAt_47 : decode cX14_isAt 47 = .ok (.ireturn, 1) := by decide +kernel
theorem dX14_isLess_0 : decode cX14_isLess 0 = .ok (.aload_n 0, 1) := by decide +kernel
theorem dX14_isLess_1 : decode cX14_isLess 1 = .ok (.getfield 16, 3) := by decide +kernel
theorem dX14_isLess_4 : decode cX14_isLess 4 = .ok (.iload_n 1, 1) := by decide +kernel
theorem dX14_isLess_5 : decode cX14_isLess 5 = .ok (.iaload, 1) := by decide +kernel
theorem dX14_isLess_6 : decode cX14_isLess 6 = .ok (.iload_n 2, 1) := by decide +kernel
theorem dX14_isLess_7 : decode cX14_isLess 7 = .ok (.if_icmp .eq 19, 3) := by decide +kernel
theorem dX14_isLess_10 : decode cX14_isLess 10 = .ok (.aload_n 0, 1) := by decide +kernel
theorem dX14_isLess_11 : decode cX14_isLess 11 = .ok (.getfield 16, 3) := by decide +kernel
theorem dX14_isLess_14 : decode cX14_isLess 14 = .ok (.iload_n 1, 1) := by decide +kernel
theorem dX14_isLess_15 : decode cX14_isLess 15 = .ok (.iaload, 1) := by decide +kernel
theorem dX14_isLess_16 : decode cX14_isLess 16 = .ok (.iload_n 2, 1) := by decide +kernel
theorem dX14_isLess_17 : decode cX14_isLess 17 = .ok (.if_icmp .ge 7, 3) := by decide +kernel
theorem dX14_isLess_20 : decode cX14_isLess 20 = .ok (.iconst 1, 1) := by decide +kernel
theorem dX14_isLess_21 : decode cX14_isLess 21 = .ok (.goto 4, 3) := by decide +kernel
theorem dX14_isLess_24 : decode cX14_isLess 24 = .ok (.iconst 0, 1) := by decide +kernel
theorem dX14_isLess_25 : decode cX14_isLess 25 = .ok (.ireturn, 1) := by decide +kernel
theorem dX14_isLess_26 : decode cX14_isLess 26 = .ok (.aload_n 0, 1) := by decide +kernel
theorem dX14_isLess_27 : decode cX14_isLess 27 = .ok (.getfield 20, 3) := by decide +kernel
theorem dX14_isLess_30 : decode cX14_isLess 30 = .ok (.iload_n 1, 1) := by decide +kernel
theorem dX14_isLess_31 : decode cX14_isLess 31 = .ok (.laload, 1) := by decide +kernel
theorem dX14_isLess_32 : decode cX14_isLess 32 = .ok (.lload_n 3, 1) := by decide +kernel
theorem dX14_isLess_33 : decode cX14_isLess 33 = .ok (.lcmp, 1) := by decide +kernel
theorem dX14_isLess_34 : decode cX14_isLess 34 = .ok (.ifCond .eq 24, 3) := by decide +kernel
theorem dX14_isLess_37 : decode cX14_isLess 37 = .ok (.aload_n 0, 1) := by decide +kernel
theorem dX14_isLess_38 : decode cX14_isLess 38 = .ok (.getfield 20, 3) := by decide +kernel
theorem dX14_isLess_41 : decode cX14_isLess 41 = .ok (.iload_n 1, 1) := by decide +kernel
theorem dX14_isLess_42 : decode cX14_isLess 42 = .ok (.laload, 1) := by decide +kernel
theorem dX14_isLess_43 : decode cX14_isLess 43 = .ok (.lload_n 3, 1) := by decide +kernel
theorem dX14_isLess_44 : decode cX14_isLess 44 = .ok (.invokestatic 47, 3) := by decide +kernel
theorem dX14_isLess_47 : decode cX14_isLess 47 = .ok (.ifCond .ge 7, 3) := by decide +kernel
theorem dX14_isLess_50 : decode cX14_isLess 50 = .ok (.iconst 1, 1) := by decide +kernel
theorem dX14_isLess_51 : decode cX14_isLess 51 = .ok (.goto 23, 3) := by decide +kernel
theorem dX14_isLess_54 : decode cX14_isLess 54 = .ok (.iconst 0, 1) := by decide +kernel
theorem dX14_isLess_55 : decode cX14_isLess 55 = .ok (.goto 19, 3) := by decide +kernel
theorem dX14_isLess_58 : decode cX14_isLess 58 = .ok (.aload_n 0, 1) := by decide +kernel
theorem dX14_isLess_59 : decode cX14_isLess 59 = .ok (.getfield 23, 3) := by decide +kernel
theorem dX14_isLess_62 : decode cX14_isLess 62 = .ok (.iload_n 1, 1) := by decide +kernel
theorem dX14_isLess_63 : decode cX14_isLess 63 = .ok (.iaload, 1) := by decide +kernel
theorem dX14_isLess_64 : decode cX14_isLess 64 = .ok (.iload 5, 2) := by decide +kernel
theorem dX14_isLess_66 : decode cX14_isLess 66 = .ok (.if_icmp .gt 7, 3) := by decide +kernel
theorem dX14_isLess_69 : decode cX14_isLess 69 = .ok (.iconst 1, 1) := by decide +kernel
theorem dX14_isLess_70 : decode cX14_isLess 70 = .ok (.goto 4, 3) := by decide +kernel
theorem dX14_isLess_73 : decode cX14_isLess 73 = .ok (.iconst 0, 1) := by decide +kernel
theorem dX14_isLess_74 : decode cX14_isLess 74 = .ok (.ireturn, 1) := by decide +kernel
theorem dX14_put_0 : decode cX14_put 0 = .ok (.aload_n 0, 1) := by decide +kernel
theorem dX14_put_1 : decode cX14_put 1 = .ok (.getfield 39, 3) := by decide +kernel
theorem dX14_put_4 : decode cX14_put 4 = .ok (.istore 7, 2) := by decide +kernel
theorem dX14_put_6 : decode cX14_put 6 = .ok (.iload 7, 2) := by decide +kernel
theorem dX14_put_8 : decode cX14_put 8 = .ok (.ifCond .le 21, 3) := by decide +kernel
theorem dX14_put_11 : decode cX14_put 11 = .ok (.aload_n 0, 1) := by decide +kernel
theorem dX14_put_12 : decode cX14_put 12 = .ok (.iload 7, 2) := by decide +kernel
theorem dX14_put_14 : decode cX14_put 14 = .ok (.iconst 1, 1) := by decide +kernel
theorem dX14_put_15 : decode cX14_put 15 = .ok (.isub, 1) := by decide +kernel
theorem dX14_put_16 : decode cX14_put 16 = .ok (.aload_n 1, 1) := by decide +kernel
theorem dX14_put_17 : decode cX14_put 17 = .ok (.invokevirtual 51, 3) := by decide +kernel
theorem dX14_put_20 : decode cX14_put 20 = .ok (.ifCond .eq 9, 3) := by decide +kernel
theorem dX14_put_23 : decode cX14_put 23 = .ok (.iinc 7 (-1), 3) := by decide +kernel
theorem dX14_put_26 : decode cX14_put 26 = .ok (.goto (-20), 3) := by decide +kernel
theorem dX14_put_29 : decode cX14_put 29 = .ok (.iload 7, 2) := by decide +kernel
theorem dX14_put_31 : decode cX14_put 31 = .ok (.ifCond .le 47, 3) := by decide +kernel
theorem dX14_put_34 : decode cX14_put 34 = .ok (.aload_n 0, 1) := by decide +kernel
theorem dX14_put_35 : decode cX14_put 35 = .ok (.iload 7, 2) := by decide +kernel
theorem dX14_put_37 : decode cX14_put 37 = .ok (.iconst 1, 1) := by decide +kernel
theorem dX14_put_38 : decode cX14_put 38 = .ok (.isub, 1) := by decide +kernel
theorem dX14_put_39 : decode cX14_put 39 = .ok (.aload_n 1, 1) := by decide +kernel
theorem dX14_put_40 : decode cX14_put 40 = .ok (.invokevirtual 55, 3) := by decide +kernel
