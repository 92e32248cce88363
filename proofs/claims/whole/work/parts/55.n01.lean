theorem dX1_storeNode_9 : decode cX1_storeNode 9 = .ok (.iload 4, 2) := by decide +kernel
theorem dX1_storeNode_11 : decode cX1_storeNode 11 = .ok (.bipush 40, 2) := by decide +kernel
theorem dX1_storeNode_13 : decode cX1_storeNode 13 = .ok (.if_icmp .le 15, 3) := by decide +kernel
theorem dX1_storeNode_16 : decode cX1_storeNode 16 = .ok (.aload_n 0, 1) := by decide +kernel
theorem dX1_storeNode_17 : decode cX1_storeNode 17 = .ok (.dup, 1) := by decide +kernel
theorem dX1_storeNode_18 : decode cX1_storeNode 18 = .ok (.getfield 30, 3) := by decide +kernel
theorem dX1_storeNode_21 : decode cX1_storeNode 21 = .ok (.iconst 1, 1) := by decide +kernel
theorem dX1_storeNode_22 : decode cX1_storeNode 22 = .ok (.iadd, 1) := by decide +kernel
theorem dX1_storeNode_23 : decode cX1_storeNode 23 = .ok (.putfield 30, 3) := by decide +kernel
theorem dX1_storeNode_26 : decode cX1_storeNode 26 = .ok (.iload_n 3, 1) := by decide +kernel
theorem dX1_storeNode_27 : decode cX1_storeNode 27 = .ok (.ireturn, 1) := by decide +kernel
theorem dX1_storeNode_28 : decode cX1_storeNode 28 = .ok (.aload_n 0, 1) := by decide +kernel
theorem dX1_storeNode_29 : decode cX1_storeNode 29 = .ok (.getfield 11, 3) := by decide +kernel
theorem dX1_storeNode_32 : decode cX1_storeNode 32 = .ok (.iload_n 1, 1) := by decide +kernel
theorem dX1_storeNode_33 : decode cX1_storeNode 33 = .ok (.baload, 1) := by decide +kernel
theorem dX1_storeNode_34 : decode cX1_storeNode 34 = .ok (.invokestatic 33, 3) := by decide +kernel
theorem dX1_storeNode_37 : decode cX1_storeNode 37 = .ok (.istore 5, 2) := by decide +kernel
theorem dX1_storeNode_39 : decode cX1_storeNode 39 = .ok (.aload_n 2, 1) := by decide +kernel
theorem dX1_storeNode_40 : decode cX1_storeNode 40 = .ok (.getfield 60, 3) := by decide +kernel
theorem dX1_storeNode_43 : decode cX1_storeNode 43 = .ok (.iload_n 3, 1) := by decide +kernel
theorem dX1_storeNode_44 : decode cX1_storeNode 44 = .ok (.aload_n 0, 1) := by decide +kernel
theorem dX1_storeNode_45 : decode cX1_storeNode 45 = .ok (.getfield 11, 3) := by decide +kernel
theorem dX1_storeNode_48 : decode cX1_storeNode 48 = .ok (.iload_n 1, 1) := by decide +kernel
theorem dX1_storeNode_49 : decode cX1_storeNode 49 = .ok (.baload, 1) := by decide +kernel
theorem dX1_storeNode_50 : decode cX1_storeNode 50 = .ok (.bastore, 1) := by decide +kernel
theorem dX1_storeNode_51 : decode cX1_storeNode 51 = .ok (.aload_n 2, 1) := by decide +kernel
theorem dX1_storeNode_52 : decode cX1_storeNode 52 = .ok (.getfield 65, 3) := by decide +kernel
theorem dX1_storeNode_55 : decode cX1_storeNode 55 = .ok (.iload_n 3, 1) := by decide +kernel
theorem dX1_storeNode_56 : decode cX1_storeNode 56 = .ok (.aload_n 0, 1) := by decide +kernel
theorem dX1_storeNode_57 : decode cX1_storeNode 57 = .ok (.getfield 19, 3) := by decide +kernel
theorem dX1_storeNode_60 : decode cX1_storeNode 60 = .ok (.iload_n 1, 1) := by decide +kernel
theorem dX1_storeNode_61 : decode cX1_storeNode 61 = .ok (.laload, 1) := by decide +kernel
theorem dX1_storeNode_62 : decode cX1_storeNode 62 = .ok (.lastore, 1) := by decide +kernel
theorem dX1_storeNode_63 : decode cX1_storeNode 63 = .ok (.aload_n 2, 1) := by decide +kernel
theorem dX1_storeNode_64 : decode cX1_storeNode 64 = .ok (.getfield 68, 3) := by decide +kernel
theorem dX1_storeNode_67 : decode cX1_storeNode 67 = .ok (.iload_n 3, 1) := by decide +kernel
theorem dX1_storeNode_68 : decode cX1_storeNode 68 = .ok (.iload 5, 2) := by decide +kernel
theorem dX1_storeNode_70 : decode cX1_storeNode 70 = .ok (.ifCond .eq 7, 3) := by decide +kernel
theorem dX1_storeNode_73 : decode cX1_storeNode 73 = .ok (.lconst 0, 1) := by decide +kernel
theorem dX1_storeNode_74 : decode cX1_storeNode 74 = .ok (.goto 9, 3) := by decide +kernel
theorem dX1_storeNode_77 : decode cX1_storeNode 77 = .ok (.aload_n 0, 1) := by decide +kernel
theorem dX1_storeNode_78 : decode cX1_storeNode 78 = .ok (.getfield 15, 3) := by decide +kernel
theorem dX1_storeNode_81 : decode cX1_storeNode 81 = .ok (.iload_n 1, 1) := by decide +kernel
theorem dX1_storeNode_82 : decode cX1_storeNode 82 = .ok (.laload, 1) := by decide +kernel
theorem dX1_storeNode_83 : decode cX1_storeNode 83 = .ok (.lastore, 1) := by decide +kernel
theorem dX1_storeNode_84 : decode cX1_storeNode 84 = .ok (.iload_n 3, 1) := by decide +kernel
theorem dX1_storeNode_85 : decode cX1_storeNode 85 = .ok (.iconst 1, 1) := by decide +kernel
theorem dX1_storeNode_86 : decode cX1_storeNode 86 = .ok (.iadd, 1) := by decide +kernel
theorem dX1_storeNode_87 : decode cX1_storeNode 87 = .ok (.istore 6, 2) := by decide +kernel
theorem dX1_storeNode_89 : decode cX1_storeNode 89 = .ok (.iconst 0, 1) := by decide +kernel
theorem dX1_storeNode_90 : decode cX1_storeNode 90 = .ok (.istore 7, 2) := by decide +kernel
theorem dX1_storeNode_92 : decode cX1_storeNode 92 = .ok (.iload 5, 2) := by decide +kernel
theorem dX1_storeNode_94 : decode cX1_storeNode 94 = .ok (.ifCond .eq 43, 3) := by decide +kernel
theorem dX1_storeNode_97 : decode cX1_storeNode 97 = .ok (.iload 7, 2) := by decide +kernel
theorem dX1_storeNode_99 : decode cX1_storeNode 99 = .ok (.i2l, 1) := by decide +kernel
theorem dX1_storeNode_100 : decode cX1_storeNode 100 = .ok (.aload_n 0, 1) := by decide +kernel
theorem dX1_storeNode_101 : decode cX1_storeNode 101 = .ok (.getfield 19, 3) := by decide +kernel
theorem dX1_storeNode_104 : decode cX1_storeNode 104 = .ok (.iload_n 1, 1) := by decide +kernel
theorem dX1_storeNode_105 : decode cX1_storeNode 105 = .ok (.laload, 1) := by decide +kernel
theorem dX1_storeNode_106 : decode cX1_storeNode 106 = .ok (.lcmp, 1) := by decide +kernel
theorem dX1_storeNode_107 : decode cX1_storeNode 107 = .ok (.ifCond .ge 30, 3) := by decide +kernel
theorem dX1_storeNode_110 : decode cX1_storeNode 110 = .ok (.aload_n 0, 1) := by decide +kernel
theorem dX1_storeNode_111 : decode cX1_storeNode 111 = .ok (.aload_n 0, 1) := by decide +kernel
theorem dX1_storeNode_112 : decode cX1_storeNode 112 = .ok (.iload_n 1, 1) := by decide +kernel
theorem dX1_storeNode_113 : decode cX1_storeNode 113 = .ok (.iload 7, 2) := by decide +kernel
theorem dX1_storeNode_115 : decode cX1_storeNode 115 = .ok (.i2l, 1) := by decide +kernel
theorem dX1_storeNode_116 : decode cX1_storeNode 116 = .ok (.invokevirtual 71, 3) := by decide +kernel
theorem dX1_storeNode_119 : decode cX1_storeNode 119 = .ok (.aload_n 2, 1) := by decide +kernel
theorem dX1_storeNode_120 : decode cX1_storeNode 120 = .ok (.iload 6, 2) := by decide +kernel
theorem dX1_storeNode_122 : decode cX1_storeNode 122 = .ok (.iload 4, 2) := by decide +kernel
theorem dX1_storeNode_124 : decode cX1_storeNode 124 = .ok (.iconst 1, 1) := by decide +kernel
theorem dX1_storeNode_125 : decode cX1_storeNode 125 = .ok (.iadd, 1) := by decide +kernel
theorem dX1_storeNode_126 : decode cX1_storeNode 126 = .ok (.invokevirtual 56, 3) := by decide +kernel
theorem dX1_storeNode_129 : decode cX1_storeNode 129 = .ok (.istore 6, 2) := by decide +kernel
theorem dX1_storeNode_131 : decode cX1_storeNode 131 = .ok (.iinc 7 1, 3) := by decide +kernel
theorem dX1_storeNode_134 : decode cX1_storeNode 134 = .ok (.goto (-42), 3) := by decide +kernel
theorem dX1_storeNode_137 : decode cX1_storeNode 137 = .ok (.iload 6, 2) := by decide +kernel
theorem dX1_storeNode_139 : decode cX1_storeNode 139 = .ok (.ireturn, 1) := by decide +kernel
theorem dX1_load_0 : decode cX1_load 0 = .ok (.aload_n 0, 1) := by decide +kernel
theorem dX1_load_1 : decode cX1_load 1 = .ok (.iload_n 2, 1) := by decide +kernel
theorem dX1_load_2 : decode cX1_load 2 = .ok (.bipush 64, 2) := by decide +kernel
theorem dX1_load_4 : decode cX1_load 4 = .ok (.imul, 1) := by decide +kernel
theorem dX1_load_5 : decode cX1_load 5 = .ok (.putfield 75, 3) := by decide +kernel
theorem dX1_load_8 : decode cX1_load 8 = .ok (.aload_n 0, 1) := by decide +kernel
theorem dX1_load_9 : decode cX1_load 9 = .ok (.aload_n 1, 1) := by decide +kernel
theorem dX1_load_10 : decode cX1_load 10 = .ok (.iconst 0, 1) := by decide +kernel
theorem dX1_load_11 : decode cX1_load 11 = .ok (.invokevirtual 78, 3) := by decide +kernel
theorem dX1_load_14 : decode cX1_load 14 = .ok (.ireturn, 1) := by decide +kernel
theorem dX1_loadNode_0 : decode cX1_loadNode 0 = .ok (.aload_n 0, 1) := by decide +kernel
theorem dX1_loadNode_1 : decode cX1_loadNode 1 = .ok (.getfield 75, 3) := by decide +kernel
theorem dX1_loadNode_4 : decode cX1_loadNode 4 = .ok (.aload_n 1, 1) := by decide +kernel
theorem dX1_loadNode_5 : decode cX1_loadNode 5 = .ok (.getfield 60, 3) := by decide +kernel
theorem dX1_loadNode_8 : decode cX1_loadNode 8 = .ok (.arraylength, 1) := by decide +kernel
theorem dX1_loadNode_9 : decode cX1_loadNode 9 = .ok (.if_icmp .ge 9, 3) := by decide +kernel
theorem dX1_loadNode_12 : decode cX1_loadNode 12 = .ok (.iload_n 2, 1) := by decide +kernel
theorem dX1_loadNode_13 : decode cX1_loadNode 13 = .ok (.bipush 40, 2) := by decide +kernel
theorem dX1_loadNode_15 : decode cX1_loadNode 15 = .ok (.if_icmp .le 15, 3) := by decide +kernel
theorem dX1_loadNode_18 : decode cX1_loadNode 18 = .ok (.aload_n 0, 1) := by decide +kernel
theorem dX1_loadNode_19 : decode cX1_loadNode 19 = .ok (.dup, 1) := by decide +kernel
theorem dX1_loadNode_20 : decode cX1_loadNode 20 = .ok (.getfield 30, 3) := by decide +kernel
theorem dX1_loadNode_23 : decode cX1_loadNode 23 = .ok (.iconst 1, 1) := by decide +kernel
theorem dX1_loadNode_24 : decode cX1_loadNode 24 = .ok (.iadd, 1) := by decide +kernel
theorem dX1_loadNode_25 : decode cX1_loadNode 25 = .ok (.putfield 30, 3) := by decide +kernel
theorem dX1_loadNode_28 : decode cX1_loadNode 28 = .ok (.iconst 0, 1) := by decide +kernel
theorem dX1_loadNode_29 : decode cX1_loadNode 29 = .ok (.ireturn, 1) := by decide +kernel
theorem dX1_loadNode_30 : decode cX1_loadNode 30 = .ok (.aload_n 1, 1) := by decide +kernel
theorem dX1_loadNode_31 : decode cX1_loadNode 31 = .ok (.getfield 60, 3) := by decide +kernel
theorem dX1_loadNode_34 : decode cX1_loadNode 34 = .ok (.aload_n 0, 1) := by decide +kernel
theorem dX1_loadNode_35 : decode cX1_loadNode 35 = .ok (.getfield 75, 3) := by decide +kernel
theorem dX1_loadNode_38 : decode cX1_loadNode 38 = .ok (.baload, 1) := by decide +kernel
theorem dX1_loadNode_39 : decode cX1_loadNode 39 = .ok (.istore_n 3, 1) := by decide +kernel
theorem dX1_loadNode_40 : decode cX1_loadNode 40 = .ok (.aload_n 1, 1) := by decide +kernel
theorem dX1_loadNode_41 : decode cX1_loadNode 41 = .ok (.getfield 65, 3) := by decide +kernel
theorem dX1_loadNode_44 : decode cX1_loadNode 44 = .ok (.aload_n 0, 1) := by decide +kernel
theorem dX1_loadNode_45 : decode cX1_loadNode 45 = .ok (.getfield 75, 3) := by decide +kernel
theorem dX1_loadNode_48 : decode cX1_loadNode 48 = .ok (.laload, 1) := by decide +kernel
theorem dX1_loadNode_49 : decode cX1_loadNode 49 = .ok (.lstore 4, 2) := by decide +kernel
theorem dX1_loadNode_51 : decode cX1_loadNode 51 = .ok (.iload_n 3, 1) := by decide +kernel
theorem dX1_loadNode_52 : decode cX1_loadNode 52 = .ok (.invokestatic 33, 3) := by decide +kernel
theorem dX1_loadNode_55 : decode cX1_loadNode 55 = .ok (.istore 6, 2) := by decide +kernel
theorem dX1_loadNode_57 : decode cX1_loadNode 57 = .ok (.aload_n 0, 1) := by decide +kernel
theorem dX1_loadNode_58 : decode cX1_loadNode 58 = .ok (.iload_n 3, 1) := by decide +kernel
theorem dX1_loadNode_59 : decode cX1_loadNode 59 = .ok (.iload 6, 2) := by decide +kernel
theorem dX1_loadNode_61 : decode cX1_loadNode 61 = .ok (.ifCond .eq 7, 3) := by decide +kernel
theorem dX1_loadNode_64 : decode cX1_loadNode 64 = .ok (.lconst 0, 1) := by decide +kernel
theorem dX1_loadNode_65 : decode cX1_loadNode 65 = .ok (.goto 5, 3) := by decide +kernel
theorem dX1_loadNode_68 : decode cX1_loadNode 68 = .ok (.lload 4, 2) := by decide +kernel
theorem dX1_loadNode_70 : decode cX1_loadNode 70 = .ok (.aload_n 1, 1) := by decide +kernel
theorem dX1_loadNode_71 : decode cX1_loadNode 71 = .ok (.getfield 68, 3) := by decide +kernel
theorem dX1_loadNode_74 : decode cX1_loadNode 74 = .ok (.aload_n 0, 1) := by decide +kernel
theorem dX1_loadNode_75 : decode cX1_loadNode 75 = .ok (.getfield 75, 3) := by decide +kernel
theorem dX1_loadNode_78 : decode cX1_loadNode 78 = .ok (.laload, 1) := by decide +kernel
theorem dX1_loadNode_79 : decode cX1_loadNode 79 = .ok (.invokevirtual 52, 3) := by decide +kernel
theorem dX1_loadNode_82 : decode cX1_loadNode 82 = .ok (.istore 7, 2) := by decide +kernel
theorem dX1_loadNode_84 : decode cX1_loadNode 84 = .ok (.aload_n 0, 1) := by decide +kernel
theorem dX1_loadNode_85 : decode cX1_loadNode 85 = .ok (.dup, 1) := by decide +kernel
theorem dX1_loadNode_86 : decode cX1_loadNode 86 = .ok (.getfield 75, 3) := by decide +kernel
theorem dX1_loadNode_89 : decode cX1_loadNode 89 = .ok (.iconst 1, 1) := by decide +kernel
theorem dX1_loadNode_90 : decode cX1_loadNode 90 = .ok (.iadd, 1) := by decide +kernel
theorem dX1_loadNode_91 : decode cX1_loadNode 91 = .ok (.putfield 75, 3) := by decide +kernel
theorem dX1_loadNode_94 : decode cX1_loadNode 94 = .ok (.iconst 0, 1) := by decide +kernel
theorem dX1_loadNode_95 : decode cX1_loadNode 95 = .ok (.istore 8, 2) := by decide +kernel
theorem dX1_loadNode_97 : decode cX1_loadNode 97 = .ok (.iload 6, 2) := by decide +kernel
theorem dX1_loadNode_99 : decode cX1_loadNode 99 = .ok (.ifCond .eq 32, 3) := by decide +kernel
theorem dX1_loadNode_102 : decode cX1_loadNode 102 = .ok (.iload 8, 2) := by decide +kernel
theorem dX1_loadNode_104 : decode cX1_loadNode 104 = .ok (.i2l, 1) := by decide +kernel
theorem dX1_loadNode_105 : decode cX1_loadNode 105 = .ok (.lload 4, 2) := by decide +kernel
theorem dX1_loadNode_107 : decode cX1_loadNode 107 = .ok (.lcmp, 1) := by decide +kernel
theorem dX1_loadNode_108 : decode cX1_loadNode 108 = .ok (.ifCond .ge 23, 3) := by decide +kernel
theorem dX1_loadNode_111 : decode cX1_loadNode 111 = .ok (.aload_n 0, 1) := by decide +kernel
theorem dX1_loadNode_112 : decode cX1_loadNode 112 = .ok (.iload 7, 2) := by decide +kernel
theorem dX1_loadNode_114 : decode cX1_loadNode 114 = .ok (.aload_n 0, 1) := by decide +kernel
theorem dX1_loadNode_115 : decode cX1_loadNode 115 = .ok (.aload_n 1, 1) := by decide +kernel
theorem dX1_loadNode_116 : decode cX1_loadNode 116 = .ok (.iload_n 2, 1) := by decide +kernel
theorem dX1_loadNode_117 : decode cX1_loadNode 117 = .ok (.iconst 1, 1) := by decide +kernel
theorem dX1_loadNode_118 : decode cX1_loadNode 118 = .ok (.iadd, 1) := by decide +kernel
theorem dX1_loadNode_119 : decode cX1_loadNode 119 = .ok (.invokevirtual 78, 3) := by decide +kernel
theorem dX1_loadNode_122 : decode cX1_loadNode 122 = .ok (.invokevirtual 82, 3) := by decide +kernel
theorem dX1_loadNode_125 : decode cX1_loadNode 125 = .ok (.iinc 8 1, 3) := by decide +kernel
theorem dX1_loadNode_128 : decode cX1_loadNode 128 = .ok (.goto (-31), 3) := by decide +kernel
theorem dX1_loadNode_131 : decode cX1_loadNode 131 = .ok (.iload 7, 2) := by decide +kernel
theorem dX1_loadNode_133 : decode cX1_loadNode 133 = .ok (.ireturn, 1) := by decide +kernel
theorem dX2_open_0 : decode cX2_open 0 = .ok (.aload_n 0, 1) := by decide +kernel
theorem dX2_open_1 : decode cX2_open 1 = .ok (.iconst 0, 1) := by decide +kernel
theorem dX2_open_2 : decode cX2_open 2 = .ok (.putfield 46, 3) := by decide +kernel
theorem dX2_open_5 : decode cX2_open 5 = .ok (.aload_n 0, 1) := by decide +kernel
theorem dX2_open_6 : decode cX2_open 6 = .ok (.iconst 1, 1) := by decide +kernel
theorem dX2_open_7 : decode cX2_open 7 = .ok (.aload_n 1, 1) := by decide +kernel
theorem dX2_open_8 : decode cX2_open 8 = .ok (.getfield 50, 3) := by decide +kernel
theorem dX2_open_11 : decode cX2_open 11 = .ok (.iconst 0, 1) := by decide +kernel
theorem dX2_open_12 : decode cX2_open 12 = .ok (.iconst 0, 1) := by decide +kernel
theorem dX2_open_13 : decode cX2_open 13 = .ok (.invokevirtual 56, 3) := by decide +kernel
theorem dX2_open_16 : decode cX2_open 16 = .ok (.pop, 1) := by decide +kernel
theorem dX2_open_17 : decode cX2_open 17 = .ok (.aload_n 0, 1) := by decide +kernel
theorem dX2_open_18 : decode cX2_open 18 = .ok (.iconst 2, 1) := by decide +kernel
theorem dX2_open_19 : decode cX2_open 19 = .ok (.lconst 0, 1) := by decide +kernel
theorem dX2_open_20 : decode cX2_open 20 = .ok (.aload_n 1, 1) := by decide +kernel
theorem dX2_open_21 : decode cX2_open 21 = .ok (.getfield 60, 3) := by decide +kernel
theorem dX2_open_24 : decode cX2_open 24 = .ok (.iconst 0, 1) := by decide +kernel
theorem dX2_open_25 : decode cX2_open 25 = .ok (.invokevirtual 56, 3) := by decide +kernel
theorem dX2_open_28 : decode cX2_open 28 = .ok (.pop, 1) := by decide +kernel
theorem dX2_open_29 : decode cX2_open 29 = .ok (.return_, 1) := by decide +kernel
theorem dX2_ask_0 : decode cX2_ask 0 = .ok (.iconst 0, 1) := by decide +kernel
theorem dX2_ask_1 : decode cX2_ask 1 = .ok (.istore 6, 2) := by decide +kernel
theorem dX2_ask_3 : decode cX2_ask 3 = .ok (.iload 6, 2) := by decide +kernel
theorem dX2_ask_5 : decode cX2_ask 5 = .ok (.aload_n 0, 1) := by decide +kernel
theorem dX2_ask_6 : decode cX2_ask 6 = .ok (.getfield 46, 3) := by decide +kernel
theorem dX2_ask_9 : decode cX2_ask 9 = .ok (.if_icmp .ge 59, 3) := by decide +kernel
theorem dX2_ask_12 : decode cX2_ask 12 = .ok (.aload_n 0, 1) := by decide +kernel
theorem dX2_ask_13 : decode cX2_ask 13 = .ok (.getfield 11, 3) := by decide +kernel
theorem dX2_ask_16 : decode cX2_ask 16 = .ok (.iload 6, 2) := by decide +kernel
theorem dX2_ask_18 : decode cX2_ask 18 = .ok (.iaload, 1) := by decide +kernel
theorem dX2_ask_19 : decode cX2_ask 19 = .ok (.iload_n 1, 1) := by decide +kernel
theorem dX2_ask_20 : decode cX2_ask 20 = .ok (.if_icmp .ne 42, 3) := by decide +kernel
theorem dX2_ask_23 : decode cX2_ask 23 = .ok (.aload_n 0, 1) := by decide +kernel
theorem dX2_ask_24 : decode cX2_ask 24 = .ok (.getfield 15, 3) := by decide +kernel
theorem dX2_ask_27 : decode cX2_ask 27 = .ok (.iload 6, 2) := by decide +kernel
theorem dX2_ask_29 : decode cX2_ask 29 = .ok (.laload, 1) := by decide +kernel
theorem dX2_ask_30 : decode cX2_ask 30 = .ok (.lload_n 2, 1) := by decide +kernel
theorem dX2_ask_31 : decode cX2_ask 31 = .ok (.lcmp, 1) := by decide +kernel
theorem dX2_ask_32 : decode cX2_ask 32 = .ok (.ifCond .ne 30, 3) := by decide +kernel
theorem dX2_ask_35 : decode cX2_ask 35 = .ok (.aload_n 0, 1) := by decide +kernel
theorem dX2_ask_36 : decode cX2_ask 36 = .ok (.getfield 19, 3) := by decide +kernel
theorem dX2_ask_39 : decode cX2_ask 39 = .ok (.iload 6, 2) := by decide +kernel
theorem dX2_ask_41 : decode cX2_ask 41 = .ok (.iaload, 1) := by decide +kernel
theorem dX2_ask_42 : decode cX2_ask 42 = .ok (.iload 4, 2) := by decide +kernel
theorem dX2_ask_44 : decode cX2_ask 44 = .ok (.if_icmp .ne 18, 3) := by decide +kernel
theorem dX2_ask_47 : decode cX2_ask 47 = .ok (.aload_n 0, 1) := by decide +kernel
theorem dX2_ask_48 : decode cX2_ask 48 = .ok (.getfield 22, 3) := by decide +kernel
theorem dX2_ask_51 : decode cX2_ask 51 = .ok (.iload 6, 2) := by decide +kernel
theorem dX2_ask_53 : decode cX2_ask 53 = .ok (.iaload, 1) := by decide +kernel
theorem dX2_ask_54 : decode cX2_ask 54 = .ok (.iload 5, 2) := by decide +kernel
theorem dX2_ask_56 : decode cX2_ask 56 = .ok (.if_icmp .ne 6, 3) := by decide +kernel
theorem dX2_ask_59 : decode cX2_ask 59 = .ok (.iload 6, 2) := by decide +kernel
theorem dX2_ask_61 : decode cX2_ask 61 = .ok (.ireturn, 1) := by decide +kernel
theorem dX2_ask_62 : decode cX2_ask 62 = .ok (.iinc 6 1, 3) := by decide +kernel
theorem dX2_ask_65 : decode cX2_ask 65 = .ok (.goto (-62), 3) := by decide +kernel
theorem dX2_ask_68 : decode cX2_ask 68 = .ok (.aload_n 0, 1) := by decide +kernel
theorem dX2_ask_69 : decode cX2_ask 69 = .ok (.getfield 46, 3) := by decide +kernel
theorem dX2_ask_72 : decode cX2_ask 72 = .ok (.bipush 24, 2) := by decide +kernel
theorem dX2_ask_74 : decode cX2_ask 74 = .ok (.if_icmp .lt 5, 3) := by decide +kernel
theorem dX2_ask_77 : decode cX2_ask 77 = .ok (.iconst (-1), 1) := by decide +kernel
theorem dX2_ask_78 : decode cX2_ask 78 = .ok (.ireturn, 1) := by decide +kernel
theorem dX2_ask_79 : decode cX2_ask 79 = .ok (.aload_n 0, 1) := by decide +kernel
theorem dX2_ask_80 : decode cX2_ask 80 = .ok (.dup, 1) := by decide +kernel
theorem dX2_ask_81 : decode cX2_ask 81 = .ok (.getfield 46, 3) := by decide +kernel
theorem dX2_ask_84 : decode cX2_ask 84 = .ok (.dup_x1, 1) := by decide +kernel
theorem dX2_ask_85 : decode cX2_ask 85 = .ok (.iconst 1, 1) := by decide +kernel
theorem dX2_ask_86 : decode cX2_ask 86 = .ok (.iadd, 1) := by decide +kernel
theorem dX2_ask_87 : decode cX2_ask 87 = .ok (.putfield 46, 3) := by decide +kernel
theorem dX2_ask_90 : decode cX2_ask 90 = .ok (.istore 6, 2) := by decide +kernel
theorem dX2_ask_92 : decode cX2_ask 92 = .ok (.aload_n 0, 1) := by decide +kernel
theorem dX2_ask_93 : decode cX2_ask 93 = .ok (.getfield 11, 3) := by decide +kernel
theorem dX2_ask_96 : decode cX2_ask 96 = .ok (.iload 6, 2) := by decide +kernel
theorem dX2_ask_98 : decode cX2_ask 98 = .ok (.iload_n 1, 1) := by decide +kernel
theorem dX2_ask_99 : decode cX2_ask 99 = .ok (.iastore, 1) := by decide +kernel
theorem dX2_ask_100 : decode cX2_ask 100 = .ok (.aload_n 0, 1) := by decide +kernel
theorem dX2_ask_101 : decode cX2_ask 101 = .ok (.getfield 15, 3) := by decide +kernel
theorem dX2_ask_104 : decode cX2_ask 104 = .ok (.iload 6, 2) := by decide +kernel
theorem dX2_ask_106 : decode cX2_ask 106 = .ok (.lload_n 2, 1) := by decide +kernel
theorem dX2_ask_107 : decode cX2_ask 107 = .ok (.lastore, 1) := by decide +kernel
theorem dX2_ask_108 : decode cX2_ask 108 = .ok (.aload_n 0, 1) := by decide +kernel
theorem dX2_ask_109 : decode cX2_ask 109 = .ok (.getfield 19, 3) := by decide +kernel
theorem dX2_ask_112 : decode cX2_ask 112 = .ok (.iload 6, 2) := by decide +kernel
theorem dX2_ask_114 : decode cX2_ask 114 = .ok (.iload 4, 2) := by decide +kernel
theorem dX2_ask_116 : decode cX2_ask 116 = .ok (.iastore, 1) := by decide +kernel
theorem dX2_ask_117 : decode cX2_ask 117 = .ok (.aload_n 0, 1) := by decide +kernel
theorem dX2_ask_118 : decode cX2_ask 118 = .ok (.getfield 22, 3) := by decide +kernel
theorem dX2_ask_121 : decode cX2_ask 121 = .ok (.iload 6, 2) := by decide +kernel
theorem dX2_ask_123 : decode cX2_ask 123 = .ok (.iload 5, 2) := by decide +kernel
theorem dX2_ask_125 : decode cX2_ask 125 = .ok (.iastore, 1) := by decide +kernel
theorem dX2_ask_126 : decode cX2_ask 126 = .ok (.aload_n 0, 1) := by decide +kernel
theorem dX2_ask_127 : decode cX2_ask 127 = .ok (.getfield 32, 3) := by decide +kernel
theorem dX2_ask_130 : decode cX2_ask 130 = .ok (.iload 6, 2) := by decide +kernel
theorem dX2_ask_132 : decode cX2_ask 132 = .ok (.lconst 0, 1) := by decide +kernel
theorem dX2_ask_133 : decode cX2_ask 133 = .ok (.lastore, 1) := by decide +kernel
theorem dX2_ask_134 : decode cX2_ask 134 = .ok (.aload_n 0, 1) := by decide +kernel
theorem dX2_ask_135 : decode cX2_ask 135 = .ok (.getfield 35, 3) := by decide +kernel
theorem dX2_ask_138 : decode cX2_ask 138 = .ok (.iload 6, 2) := by decide +kernel
theorem dX2_ask_140 : decode cX2_ask 140 = .ok (.iconst 0, 1) := by decide +kernel
theorem dX2_ask_141 : decode cX2_ask 141 = .ok (.iastore, 1) := by decide +kernel
theorem dX2_ask_142 : decode cX2_ask 142 = .ok (.iconst 0, 1) := by decide +kernel
theorem dX2_ask_143 : decode cX2_ask 143 = .ok (.istore 7, 2) := by decide +kernel
theorem dX2_ask_145 : decode cX2_ask 145 = .ok (.iload_n 1, 1) := by decide +kernel
theorem dX2_ask_146 : decode cX2_ask 146 = .ok (.iconst 1, 1) := by decide +kernel
theorem dX2_ask_147 : decode cX2_ask 147 = .ok (.if_icmp .ne 42, 3) := by decide +kernel
theorem dX2_ask_150 : decode cX2_ask 150 = .ok (.aload_n 0, 1) := by decide +kernel
theorem dX2_ask_151 : decode cX2_ask 151 = .ok (.getfield 38, 3) := by decide +kernel
theorem dX2_ask_154 : decode cX2_ask 154 = .ok (.lload_n 2, 1) := by decide +kernel
theorem dX2_ask_155 : decode cX2_ask 155 = .ok (.invokevirtual 62, 3) := by decide +kernel
theorem dX2_ask_158 : decode cX2_ask 158 = .ok (.istore 7, 2) := by decide +kernel
theorem dX2_ask_160 : decode cX2_ask 160 = .ok (.aload_n 0, 1) := by decide +kernel
theorem dX2_ask_161 : decode cX2_ask 161 = .ok (.getfield 32, 3) := by decide +kernel
theorem dX2_ask_164 : decode cX2_ask 164 = .ok (.iload 6, 2) := by decide +kernel
theorem dX2_ask_166 : decode cX2_ask 166 = .ok (.iload 7, 2) := by decide +kernel
theorem dX2_ask_168 : decode cX2_ask 168 = .ok (.ifCond .ge 7, 3) := by decide +kernel
theorem dX2_ask_171 : decode cX2_ask 171 = .ok (.lconst 0, 1) := by decide +kernel
theorem dX2_ask_172 : decode cX2_ask 172 = .ok (.goto 13, 3) := by decide +kernel
theorem dX2_ask_175 : decode cX2_ask 175 = .ok (.aload_n 0, 1) := by decide +kernel
theorem dX2_ask_176 : decode cX2_ask 176 = .ok (.getfield 38, 3) := by decide +kernel
theorem dX2_ask_179 : decode cX2_ask 179 = .ok (.getfield 68, 3) := by decide +kernel
theorem dX2_ask_182 : decode cX2_ask 182 = .ok (.iload 7, 2) := by decide +kernel
theorem dX2_ask_184 : decode cX2_ask 184 = .ok (.laload, 1) := by decide +kernel
theorem dX2_ask_185 : decode cX2_ask 185 = .ok (.lastore, 1) := by decide +kernel
theorem dX2_ask_186 : decode cX2_ask 186 = .ok (.goto 51, 3) := by decide +kernel
theorem dX2_ask_189 : decode cX2_ask 189 = .ok (.iload_n 1, 1) := by decide +kernel
theorem dX2_ask_190 : decode cX2_ask 190 = .ok (.iconst 3, 1) := by decide +kernel
theorem dX2_ask_191 : decode cX2_ask 191 = .ok (.if_icmp .ne 46, 3) := by decide +kernel
theorem dX2_ask_194 : decode cX2_ask 194 = .ok (.aload_n 0, 1) := by decide +kernel
theorem dX2_ask_195 : decode cX2_ask 195 = .ok (.getfield 38, 3) := by decide +kernel
theorem dX2_ask_198 : decode cX2_ask 198 = .ok (.lload_n 2, 1) := by decide +kernel
theorem dX2_ask_199 : decode cX2_ask 199 = .ok (.iload 4, 2) := by decide +kernel
theorem dX2_ask_201 : decode cX2_ask 201 = .ok (.iload 5, 2) := by decide +kernel
theorem dX2_ask_203 : decode cX2_ask 203 = .ok (.invokevirtual 69, 3) := by decide +kernel
theorem dX2_ask_206 : decode cX2_ask 206 = .ok (.istore 7, 2) := by decide +kernel
theorem dX2_ask_208 : decode cX2_ask 208 = .ok (.aload_n 0, 1) := by decide +kernel
theorem dX2_ask_209 : decode cX2_ask 209 = .ok (.getfield 35, 3) := by decide +kernel
theorem dX2_ask_212 : decode cX2_ask 212 = .ok (.iload 6, 2) := by decide +kernel
theorem dX2_ask_214 : decode cX2_ask 214 = .ok (.iload 7, 2) := by decide +kernel
theorem dX2_ask_216 : decode cX2_ask 216 = .ok (.ifCond .ge 7, 3) := by decide +kernel
theorem dX2_ask_219 : decode cX2_ask 219 = .ok (.iconst 0, 1) := by decide +kernel
theorem dX2_ask_220 : decode cX2_ask 220 = .ok (.goto 16, 3) := by decide +kernel
theorem dX2_ask_223 : decode cX2_ask 223 = .ok (.aload_n 0, 1) := by decide +kernel
theorem dX2_ask_224 : decode cX2_ask 224 = .ok (.getfield 42, 3) := by decide +kernel
theorem dX2_ask_227 : decode cX2_ask 227 = .ok (.aload_n 0, 1) := by decide +kernel
theorem dX2_ask_228 : decode cX2_ask 228 = .ok (.getfield 38, 3) := by decide +kernel
theorem dX2_ask_231 : decode cX2_ask 231 = .ok (.iload 7, 2) := by decide +kernel
theorem dX2_ask_233 : decode cX2_ask 233 = .ok (.invokevirtual 73, 3) := by decide +kernel
theorem dX2_ask_236 : decode cX2_ask 236 = .ok (.iastore, 1) := by decide +kernel
theorem dX2_ask_237 : decode cX2_ask 237 = .ok (.aload_n 0, 1) := by decide +kernel
theorem dX2_ask_238 : decode cX2_ask 238 = .ok (.getfield 25, 3) := by decide +kernel
theorem dX2_ask_241 : decode cX2_ask 241 = .ok (.iload 6, 2) := by decide +kernel
theorem dX2_ask_243 : decode cX2_ask 243 = .ok (.iload 7, 2) := by decide +kernel
theorem dX2_ask_245 : decode cX2_ask 245 = .ok (.ifCond .lt 7, 3) := by decide +kernel
theorem dX2_ask_248 : decode cX2_ask 248 = .ok (.iconst 1, 1) := by decide +kernel
theorem dX2_ask_249 : decode cX2_ask 249 = .ok (.goto 4, 3) := by decide +kernel
theorem dX2_ask_252 : decode cX2_ask 252 = .ok (.iconst 0, 1) := by decide +kernel
theorem dX2_ask_253 : decode cX2_ask 253 = .ok (.bastore, 1) := by decide +kernel
theorem dX2_ask_254 : decode cX2_ask 254 = .ok (.aload_n 0, 1) := by decide +kernel
theorem dX2_ask_255 : decode cX2_ask 255 = .ok (.getfield 29, 3) := by decide +kernel
theorem dX2_ask_258 : decode cX2_ask 258 = .ok (.iload 6, 2) := by decide +kernel
theorem dX2_ask_260 : decode cX2_ask 260 = .ok (.iload 7, 2) := by decide +kernel
theorem dX2_ask_262 : decode cX2_ask 262 = .ok (.ifCond .lt 7, 3) := by decide +kernel
theorem dX2_ask_265 : decode cX2_ask 265 = .ok (.iconst 1, 1) := by decide +kernel
theorem dX2_ask_266 : decode cX2_ask 266 = .ok (.goto 4, 3) := by decide +kernel
theorem dX2_ask_269 : decode cX2_ask 269 = .ok (.iconst 0, 1) := by decide +kernel
theorem dX2_ask_270 : decode cX2_ask 270 = .ok (.bastore, 1) := by decide +kernel
theorem dX2_ask_271 : decode cX2_ask 271 = .ok (.iload 6, 2) := by decide +kernel
theorem dX2_ask_273 : decode cX2_ask 273 = .ok (.ireturn, 1) := by decide +kernel
theorem dX2_fits_0 : decode cX2_fits 0 = .ok (.aload_n 0, 1) := by decide +kernel
theorem dX2_fits_1 : decode cX2_fits 1 = .ok (.getfield 38, 3) := by decide +kernel
theorem dX2_fits_4 : decode cX2_fits 4 = .ok (.invokevirtual 79, 3) := by decide +kernel
theorem dX2_fits_7 : decode cX2_fits 7 = .ok (.istore_n 1, 1) := by decide +kernel
theorem dX2_fits_8 : decode cX2_fits 8 = .ok (.iconst 0, 1) := by decide +kernel
theorem dX2_fits_9 : decode cX2_fits 9 = .ok (.istore_n 2, 1) := by decide +kernel
theorem dX2_fits_10 : decode cX2_fits 10 = .ok (.iload_n 2, 1) := by decide +kernel
theorem dX2_fits_11 : decode cX2_fits 11 = .ok (.aload_n 0, 1) := by decide +kernel
theorem dX2_fits_12 : decode cX2_fits 12 = .ok (.getfield 46, 3) := by decide +kernel
theorem dX2_fits_15 : decode cX2_fits 15 = .ok (.if_icmp .ge 80, 3) := by decide +kernel
theorem dX2_fits_18 : decode cX2_fits 18 = .ok (.aload_n 0, 1) := by decide +kernel
theorem dX2_fits_19 : decode cX2_fits 19 = .ok (.getfield 11, 3) := by decide +kernel
theorem dX2_fits_22 : decode cX2_fits 22 = .ok (.iload_n 2, 1) := by decide +kernel
theorem dX2_fits_23 : decode cX2_fits 23 = .ok (.iaload, 1) := by decide +kernel
theorem dX2_fits_24 : decode cX2_fits 24 = .ok (.iconst 3, 1) := by decide +kernel
theorem dX2_fits_25 : decode cX2_fits 25 = .ok (.if_icmp .ne 32, 3) := by decide +kernel
theorem dX2_fits_28 : decode cX2_fits 28 = .ok (.aload_n 0, 1) := by decide +kernel
theorem dX2_fits_29 : decode cX2_fits 29 = .ok (.getfield 29, 3) := by decide +kernel
theorem dX2_fits_32 : decode cX2_fits 32 = .ok (.iload_n 2, 1) := by decide +kernel
theorem dX2_fits_33 : decode cX2_fits 33 = .ok (.baload, 1) := by decide +kernel
theorem dX2_fits_34 : decode cX2_fits 34 = .ok (.ifCond .eq 23, 3) := by decide +kernel
theorem dX2_fits_37 : decode cX2_fits 37 = .ok (.aload_n 0, 1) := by decide +kernel
theorem dX2_fits_38 : decode cX2_fits 38 = .ok (.getfield 42, 3) := by decide +kernel
theorem dX2_fits_41 : decode cX2_fits 41 = .ok (.aload_n 0, 1) := by decide +kernel
theorem dX2_fits_42 : decode cX2_fits 42 = .ok (.getfield 35, 3) := by decide +kernel
theorem dX2_fits_45 : decode cX2_fits 45 = .ok (.iload_n 2, 1) := by decide +kernel
theorem dX2_fits_46 : decode cX2_fits 46 = .ok (.iaload, 1) := by decide +kernel
theorem dX2_fits_47 : decode cX2_fits 47 = .ok (.invokevirtual 83, 3) := by decide +kernel
theorem dX2_fits_50 : decode cX2_fits 50 = .ok (.bipush 64, 2) := by decide +kernel
theorem dX2_fits_52 : decode cX2_fits 52 = .ok (.if_icmp .le 5, 3) := by decide +kernel
theorem dX2_fits_55 : decode cX2_fits 55 = .ok (.iconst 0, 1) := by decide +kernel
theorem dX2_fits_56 : decode cX2_fits 56 = .ok (.ireturn, 1) := by decide +kernel
theorem dX2_fits_57 : decode cX2_fits 57 = .ok (.iload_n 1, 1) := by decide +kernel
theorem dX2_fits_58 : decode cX2_fits 58 = .ok (.aload_n 0, 1) := by decide +kernel
theorem dX2_fits_59 : decode cX2_fits 59 = .ok (.getfield 29, 3) := by decide +kernel
theorem dX2_fits_62 : decode cX2_fits 62 = .ok (.iload_n 2, 1) := by decide +kernel
theorem dX2_fits_63 : decode cX2_fits 63 = .ok (.baload, 1) := by decide +kernel
theorem dX2_fits_64 : decode cX2_fits 64 = .ok (.ifCond .eq 7, 3) := by decide +kernel
theorem dX2_fits_67 : decode cX2_fits 67 = .ok (.iconst 1, 1) := by decide +kernel
theorem dX2_fits_68 : decode cX2_fits 68 = .ok (.goto 4, 3) := by decide +kernel
theorem dX2_fits_71 : decode cX2_fits 71 = .ok (.iconst 0, 1) := by decide +kernel
theorem dX2_fits_72 : decode cX2_fits 72 = .ok (.aload_n 0, 1) := by decide +kernel
theorem dX2_fits_73 : decode cX2_fits 73 = .ok (.getfield 25, 3) := by decide +kernel
theorem dX2_fits_76 : decode cX2_fits 76 = .ok (.iload_n 2, 1) := by decide +kernel
theorem dX2_fits_77 : decode cX2_fits 77 = .ok (.baload, 1) := by decide +kernel
theorem dX2_fits_78 : decode cX2_fits 78 = .ok (.ifCond .eq 7, 3) := by decide +kernel
theorem dX2_fits_81 : decode cX2_fits 81 = .ok (.iconst 1, 1) := by decide +kernel
theorem dX2_fits_82 : decode cX2_fits 82 = .ok (.goto 4, 3) := by decide +kernel
theorem dX2_fits_85 : decode cX2_fits 85 = .ok (.iconst 0, 1) := by decide +kernel
theorem dX2_fits_86 : decode cX2_fits 86 = .ok (.isub, 1) := by decide +kernel
theorem dX2_fits_87 : decode cX2_fits 87 = .ok (.iadd, 1) := by decide +kernel
theorem dX2_fits_88 : decode cX2_fits 88 = .ok (.istore_n 1, 1) := by decide +kernel
theorem dX2_fits_89 : decode cX2_fits 89 = .ok (.iinc 2 1, 3) := by decide +kernel
theorem dX2_fits_92 : decode cX2_fits 92 = .ok (.goto (-82), 3) := by decide +kernel
theorem dX2_fits_95 : decode cX2_fits 95 = .ok (.iload_n 1, 1) := by decide +kernel
theorem dX2_fits_96 : decode cX2_fits 96 = .ok (.sipush 256, 3) := by decide +kernel
theorem dX2_fits_99 : decode cX2_fits 99 = .ok (.if_icmp .gt 7, 3) := by decide +kernel
theorem dX2_fits_102 : decode cX2_fits 102 = .ok (.iconst 1, 1) := by decide +kernel
theorem dX2_fits_103 : decode cX2_fits 103 = .ok (.goto 4, 3) := by decide +kernel
theorem dX2_fits_106 : decode cX2_fits 106 = .ok (.iconst 0, 1) := by decide +kernel
theorem dX2_fits_107 : decode cX2_fits 107 = .ok (.ireturn, 1) := by decide +kernel
theorem dX2_commit_0 : decode cX2_commit 0 = .ok (.iconst 0, 1) := by decide +kernel
theorem dX2_commit_1 : decode cX2_commit 1 = .ok (.istore_n 1, 1) := by decide +kernel
theorem dX2_commit_2 : decode cX2_commit 2 = .ok (.iload_n 1, 1) := by decide +kernel
theorem dX2_commit_3 : decode cX2_commit 3 = .ok (.aload_n 0, 1) := by decide +kernel
theorem dX2_commit_4 : decode cX2_commit 4 = .ok (.getfield 46, 3) := by decide +kernel
theorem dX2_commit_7 : decode cX2_commit 7 = .ok (.if_icmp .ge 62, 3) := by decide +kernel
theorem dX2_commit_10 : decode cX2_commit 10 = .ok (.aload_n 0, 1) := by decide +kernel
theorem dX2_commit_11 : decode cX2_commit 11 = .ok (.getfield 11, 3) := by decide +kernel
theorem dX2_commit_14 : decode cX2_commit 14 = .ok (.iload_n 1, 1) := by decide +kernel
theorem dX2_commit_15 : decode cX2_commit 15 = .ok (.iaload, 1) := by decide +kernel
theorem dX2_commit_16 : decode cX2_commit 16 = .ok (.iconst 3, 1) := by decide +kernel
theorem dX2_commit_17 : decode cX2_commit 17 = .ok (.if_icmp .ne 46, 3) := by decide +kernel
theorem dX2_commit_20 : decode cX2_commit 20 = .ok (.aload_n 0, 1) := by decide +kernel
theorem dX2_commit_21 : decode cX2_commit 21 = .ok (.getfield 25, 3) := by decide +kernel
theorem dX2_commit_24 : decode cX2_commit 24 = .ok (.iload_n 1, 1) := by decide +kernel
theorem dX2_commit_25 : decode cX2_commit 25 = .ok (.baload, 1) := by decide +kernel
theorem dX2_commit_26 : decode cX2_commit 26 = .ok (.ifCond .eq 37, 3) := by decide +kernel
theorem dX2_commit_29 : decode cX2_commit 29 = .ok (.aload_n 0, 1) := by decide +kernel
theorem dX2_commit_30 : decode cX2_commit 30 = .ok (.getfield 29, 3) := by decide +kernel
theorem dX2_commit_33 : decode cX2_commit 33 = .ok (.iload_n 1, 1) := by decide +kernel
theorem dX2_commit_34 : decode cX2_commit 34 = .ok (.baload, 1) := by decide +kernel
theorem dX2_commit_35 : decode cX2_commit 35 = .ok (.ifCond .ne 28, 3) := by decide +kernel
theorem dX2_commit_38 : decode cX2_commit 38 = .ok (.aload_n 0, 1) := by decide +kernel
theorem dX2_commit_39 : decode cX2_commit 39 = .ok (.getfield 38, 3) := by decide +kernel
theorem dX2_commit_42 : decode cX2_commit 42 = .ok (.aload_n 0, 1) := by decide +kernel
theorem dX2_commit_43 : decode cX2_commit 43 = .ok (.getfield 15, 3) := by decide +kernel
theorem dX2_commit_46 : decode cX2_commit 46 = .ok (.iload_n 1, 1) := by decide +kernel
theorem dX2_commit_47 : decode cX2_commit 47 = .ok (.laload, 1) := by decide +kernel
theorem dX2_commit_48 : decode cX2_commit 48 = .ok (.aload_n 0, 1) := by decide +kernel
theorem dX2_commit_49 : decode cX2_commit 49 = .ok (.getfield 19, 3) := by decide +kernel
theorem dX2_commit_52 : decode cX2_commit 52 = .ok (.iload_n 1, 1) := by decide +kernel
theorem dX2_commit_53 : decode cX2_commit 53 = .ok (.iaload, 1) := by decide +kernel
theorem dX2_commit_54 : decode cX2_commit 54 = .ok (.aload_n 0, 1) := by decide +kernel
theorem dX2_commit_55 : decode cX2_commit 55 = .ok (.getfield 22, 3) := by decide +kernel
theorem dX2_commit_58 : decode cX2_commit 58 = .ok (.iload_n 1, 1) := by decide +kernel
theorem dX2_commit_59 : decode cX2_commit 59 = .ok (.iaload, 1) := by decide +kernel
theorem dX2_commit_60 : decode cX2_commit 60 = .ok (.invokevirtual 87, 3) := by decide +kernel
theorem dX2_commit_63 : decode cX2_commit 63 = .ok (.iinc 1 1, 3) := by decide +kernel
theorem dX2_commit_66 : decode cX2_commit 66 = .ok (.goto (-64), 3) := by decide +kernel
theorem dX2_commit_69 : decode cX2_commit 69 = .ok (.iconst 0, 1) := by decide +kernel
theorem dX2_commit_70 : decode cX2_commit 70 = .ok (.istore_n 1, 1) := by decide +kernel
theorem dX2_commit_71 : decode cX2_commit 71 = .ok (.iload_n 1, 1) := by decide +kernel
theorem dX2_commit_72 : decode cX2_commit 72 = .ok (.aload_n 0, 1) := by decide +kernel
theorem dX2_commit_73 : decode cX2_commit 73 = .ok (.getfield 46, 3) := by decide +kernel
theorem dX2_commit_76 : decode cX2_commit 76 = .ok (.if_icmp .ge 106, 3) := by decide +kernel
theorem dX2_commit_79 : decode cX2_commit 79 = .ok (.aload_n 0, 1) := by decide +kernel
theorem dX2_commit_80 : decode cX2_commit 80 = .ok (.getfield 11, 3) := by decide +kernel
theorem dX2_commit_83 : decode cX2_commit 83 = .ok (.iload_n 1, 1) := by decide +kernel
theorem dX2_commit_84 : decode cX2_commit 84 = .ok (.iaload, 1) := by decide +kernel
theorem dX2_commit_85 : decode cX2_commit 85 = .ok (.iconst 1, 1) := by decide +kernel
theorem dX2_commit_86 : decode cX2_commit 86 = .ok (.if_icmp .ne 66, 3) := by decide +kernel
theorem dX2_commit_89 : decode cX2_commit 89 = .ok (.aload_n 0, 1) := by decide +kernel
theorem dX2_commit_90 : decode cX2_commit 90 = .ok (.getfield 29, 3) := by decide +kernel
theorem dX2_commit_93 : decode cX2_commit 93 = .ok (.iload_n 1, 1) := by decide +kernel
theorem dX2_commit_94 : decode cX2_commit 94 = .ok (.baload, 1) := by decide +kernel
theorem dX2_commit_95 : decode cX2_commit 95 = .ok (.ifCond .eq 57, 3) := by decide +kernel
theorem dX2_commit_98 : decode cX2_commit 98 = .ok (.aload_n 0, 1) := by decide +kernel
theorem dX2_commit_99 : decode cX2_commit 99 = .ok (.getfield 38, 3) := by decide +kernel
theorem dX2_commit_102 : decode cX2_commit 102 = .ok (.aload_n 0, 1) := by decide +kernel
theorem dX2_commit_103 : decode cX2_commit 103 = .ok (.getfield 15, 3) := by decide +kernel
theorem dX2_commit_106 : decode cX2_commit 106 = .ok (.iload_n 1, 1) := by decide +kernel
theorem dX2_commit_107 : decode cX2_commit 107 = .ok (.laload, 1) := by decide +kernel
theorem dX2_commit_108 : decode cX2_commit 108 = .ok (.invokevirtual 62, 3) := by decide +kernel
theorem dX2_commit_111 : decode cX2_commit 111 = .ok (.istore_n 2, 1) := by decide +kernel
theorem dX2_commit_112 : decode cX2_commit 112 = .ok (.iload_n 2, 1) := by decide +kernel
theorem dX2_commit_113 : decode cX2_commit 113 = .ok (.ifCond .ge 19, 3) := by decide +kernel
theorem dX2_commit_116 : decode cX2_commit 116 = .ok (.aload_n 0, 1) := by decide +kernel
theorem dX2_commit_117 : decode cX2_commit 117 = .ok (.getfield 38, 3) := by decide +kernel
theorem dX2_commit_120 : decode cX2_commit 120 = .ok (.aload_n 0, 1) := by decide +kernel
theorem dX2_commit_121 : decode cX2_commit 121 = .ok (.getfield 15, 3) := by decide +kernel
theorem dX2_commit_124 : decode cX2_commit 124 = .ok (.iload_n 1, 1) := by decide +kernel
theorem dX2_commit_125 : decode cX2_commit 125 = .ok (.laload, 1) := by decide +kernel
theorem dX2_commit_126 : decode cX2_commit 126 = .ok (.invokevirtual 91, 3) := by decide +kernel
theorem dX2_commit_129 : decode cX2_commit 129 = .ok (.goto 4, 3) := by decide +kernel
theorem dX2_commit_132 : decode cX2_commit 132 = .ok (.iload_n 2, 1) := by decide +kernel
theorem dX2_commit_133 : decode cX2_commit 133 = .ok (.istore_n 2, 1) := by decide +kernel
theorem dX2_commit_134 : decode cX2_commit 134 = .ok (.aload_n 0, 1) := by decide +kernel
theorem dX2_commit_135 : decode cX2_commit 135 = .ok (.getfield 38, 3) := by decide +kernel
theorem dX2_commit_138 : decode cX2_commit 138 = .ok (.getfield 68, 3) := by decide +kernel
theorem dX2_commit_141 : decode cX2_commit 141 = .ok (.iload_n 2, 1) := by decide +kernel
theorem dX2_commit_142 : decode cX2_commit 142 = .ok (.aload_n 0, 1) := by decide +kernel
theorem dX2_commit_143 : decode cX2_commit 143 = .ok (.getfield 32, 3) := by decide +kernel
theorem dX2_commit_146 : decode cX2_commit 146 = .ok (.iload_n 1, 1) := by decide +kernel
theorem dX2_commit_147 : decode cX2_commit 147 = .ok (.laload, 1) := by decide +kernel
theorem dX2_commit_148 : decode cX2_commit 148 = .ok (.lastore, 1) := by decide +kernel
theorem dX2_commit_149 : decode cX2_commit 149 = .ok (.goto 27, 3) := by decide +kernel
theorem dX2_commit_152 : decode cX2_commit 152 = .ok (.aload_n 0, 1) := by decide +kernel
theorem dX2_commit_153 : decode cX2_commit 153 = .ok (.getfield 11, 3) := by decide +kernel
theorem dX2_commit_156 : decode cX2_commit 156 = .ok (.iload_n 1, 1) := by decide +kernel
theorem dX2_commit_157 : decode cX2_commit 157 = .ok (.iaload, 1) := by decide +kernel
theorem dX2_commit_158 : decode cX2_commit 158 = .ok (.iconst 3, 1) := by decide +kernel
theorem dX2_commit_159 : decode cX2_commit 159 = .ok (.if_icmp .ne 17, 3) := by decide +kernel
theorem dX2_commit_162 : decode cX2_commit 162 = .ok (.aload_n 0, 1) := by decide +kernel
theorem dX2_commit_163 : decode cX2_commit 163 = .ok (.getfield 29, 3) := by decide +kernel
theorem dX2_commit_166 : decode cX2_commit 166 = .ok (.iload_n 1, 1) := by decide +kernel
theorem dX2_commit_167 : decode cX2_commit 167 = .ok (.baload, 1) := by decide +kernel
theorem dX2_commit_168 : decode cX2_commit 168 = .ok (.ifCond .eq 8, 3) := by decide +kernel
theorem dX2_commit_171 : decode cX2_commit 171 = .ok (.aload_n 0, 1) := by decide +kernel
theorem dX2_commit_172 : decode cX2_commit 172 = .ok (.iload_n 1, 1) := by decide +kernel
theorem dX2_commit_173 : decode cX2_commit 173 = .ok (.invokevirtual 94, 3) := by decide +kernel
theorem dX2_commit_176 : decode cX2_commit 176 = .ok (.iinc 1 1, 3) := by decide +kernel
theorem dX2_commit_179 : decode cX2_commit 179 = .ok (.goto (-108), 3) := by decide +kernel
theorem dX2_commit_182 : decode cX2_commit 182 = .ok (.return_, 1) := by decide +kernel
theorem dX2_storeResource_0 : decode cX2_storeResource 0 = .ok (.aload_n 0, 1) := by decide +kernel
theorem dX2_storeResource_1 : decode cX2_storeResource 1 = .ok (.getfield 38, 3) := by decide +kernel
theorem dX2_storeResource_4 : decode cX2_storeResource 4 = .ok (.aload_n 0, 1) := by decide +kernel
theorem dX2_storeResource_5 : decode cX2_storeResource 5 = .ok (.getfield 15, 3) := by decide +kernel
theorem dX2_storeResource_8 : decode cX2_storeResource 8 = .ok (.iload_n 1, 1) := by decide +kernel
theorem dX2_storeResource_9 : decode cX2_storeResource 9 = .ok (.laload, 1) := by decide +kernel
theorem dX2_storeResource_10 : decode cX2_storeResource 10 = .ok (.aload_n 0, 1) := by decide +kernel
theorem dX2_storeResource_11 : decode cX2_storeResource 11 = .ok (.getfield 19, 3) := by decide +kernel
theorem dX2_storeResource_14 : decode cX2_storeResource 14 = .ok (.iload_n 1, 1) := by decide +kernel
theorem dX2_storeResource_15 : decode cX2_storeResource 15 = .ok (.iaload, 1) := by decide +kernel
theorem dX2_storeResource_16 : decode cX2_storeResource 16 = .ok (.aload_n 0, 1) := by decide +kernel
theorem dX2_storeResource_17 : decode cX2_storeResource 17 = .ok (.getfield 22, 3) := by decide +kernel
theorem dX2_storeResource_20 : decode cX2_storeResource 20 = .ok (.iload_n 1, 1) := by decide +kernel
theorem dX2_storeResource_21 : decode cX2_storeResource 21 = .ok (.iaload, 1) := by decide +kernel
theorem dX2_storeResource_22 : decode cX2_storeResource 22 = .ok (.invokevirtual 98, 3) := by decide +kernel
theorem dX2_storeResource_25 : decode cX2_storeResource 25 = .ok (.istore_n 2, 1) := by decide +kernel
theorem dX2_storeResource_26 : decode cX2_storeResource 26 = .ok (.iload_n 2, 1) := by decide +kernel
theorem dX2_storeResource_27 : decode cX2_storeResource 27 = .ok (.ifCond .lt 30, 3) := by decide +kernel
theorem dX2_storeResource_30 : decode cX2_storeResource 30 = .ok (.aload_n 0, 1) := by decide +kernel
theorem dX2_storeResource_31 : decode cX2_storeResource 31 = .ok (.getfield 38, 3) := by decide +kernel
theorem dX2_storeResource_34 : decode cX2_storeResource 34 = .ok (.getfield 101, 3) := by decide +kernel
theorem dX2_storeResource_37 : decode cX2_storeResource 37 = .ok (.iload_n 2, 1) := by decide +kernel
theorem dX2_storeResource_38 : decode cX2_storeResource 38 = .ok (.aload_n 0, 1) := by decide +kernel
theorem dX2_storeResource_39 : decode cX2_storeResource 39 = .ok (.getfield 42, 3) := by decide +kernel
theorem dX2_storeResource_42 : decode cX2_storeResource 42 = .ok (.aload_n 0, 1) := by decide +kernel
theorem dX2_storeResource_43 : decode cX2_storeResource 43 = .ok (.getfield 35, 3) := by decide +kernel
theorem dX2_storeResource_46 : decode cX2_storeResource 46 = .ok (.iload_n 1, 1) := by decide +kernel
theorem dX2_storeResource_47 : decode cX2_storeResource 47 = .ok (.iaload, 1) := by decide +kernel
theorem dX2_storeResource_48 : decode cX2_storeResource 48 = .ok (.aload_n 0, 1) := by decide +kernel
theorem dX2_storeResource_49 : decode cX2_storeResource 49 = .ok (.getfield 38, 3) := by decide +kernel
theorem dX2_storeResource_52 : decode cX2_storeResource 52 = .ok (.iload_n 2, 1) := by decide +kernel
theorem dX2_storeResource_53 : decode cX2_storeResource 53 = .ok (.invokevirtual 104, 3) := by decide +kernel
theorem dX2_storeResource_56 : decode cX2_storeResource 56 = .ok (.iastore, 1) := by decide +kernel
theorem dX2_storeResource_57 : decode cX2_storeResource 57 = .ok (.return_, 1) := by decide +kernel
theorem dX3_look_0 : decode cX3_look 0 = .ok (.aload_n 0, 1) := by decide +kernel
theorem dX3_look_1 : decode cX3_look 1 = .ok (.aload_n 1, 1) := by decide +kernel
theorem dX3_look_2 : decode cX3_look 2 = .ok (.putfield 44, 3) := by decide +kernel
theorem dX3_look_5 : decode cX3_look 5 = .ok (.aload_n 0, 1) := by decide +kernel
theorem dX3_look_6 : decode cX3_look 6 = .ok (.iconst 0, 1) := by decide +kernel
theorem dX3_look_7 : decode cX3_look 7 = .ok (.putfield 48, 3) := by decide +kernel
theorem dX3_look_10 : decode cX3_look 10 = .ok (.aload_n 0, 1) := by decide +kernel
theorem dX3_look_11 : decode cX3_look 11 = .ok (.iconst 0, 1) := by decide +kernel
theorem dX3_look_12 : decode cX3_look 12 = .ok (.putfield 52, 3) := by decide +kernel
theorem dX3_look_15 : decode cX3_look 15 = .ok (.iconst 0, 1) := by decide +kernel
theorem dX3_look_16 : decode cX3_look 16 = .ok (.istore_n 2, 1) := by decide +kernel
theorem dX3_look_17 : decode cX3_look 17 = .ok (.iload_n 2, 1) := by decide +kernel
theorem dX3_look_18 : decode cX3_look 18 = .ok (.aload_n 0, 1) := by decide +kernel
theorem dX3_look_19 : decode cX3_look 19 = .ok (.getfield 44, 3) := by decide +kernel
theorem dX3_look_22 : decode cX3_look 22 = .ok (.getfield 55, 3) := by decide +kernel
theorem dX3_look_25 : decode cX3_look 25 = .ok (.if_icmp .ge 91, 3) := by decide +kernel
theorem dX3_look_28 : decode cX3_look 28 = .ok (.aload_n 0, 1) := by decide +kernel
theorem dX3_look_29 : decode cX3_look 29 = .ok (.iload_n 2, 1) := by decide +kernel
theorem dX3_look_30 : decode cX3_look 30 = .ok (.invokevirtual 60, 3) := by decide +kernel
theorem dX3_look_33 : decode cX3_look 33 = .ok (.aload_n 0, 1) := by decide +kernel
theorem dX3_look_34 : decode cX3_look 34 = .ok (.iconst 0, 1) := by decide +kernel
theorem dX3_look_35 : decode cX3_look 35 = .ok (.putfield 64, 3) := by decide +kernel
theorem dX3_look_38 : decode cX3_look 38 = .ok (.aload_n 0, 1) := by decide +kernel
theorem dX3_look_39 : decode cX3_look 39 = .ok (.getfield 64, 3) := by decide +kernel
theorem dX3_look_42 : decode cX3_look 42 = .ok (.aload_n 0, 1) := by decide +kernel
theorem dX3_look_43 : decode cX3_look 43 = .ok (.getfield 44, 3) := by decide +kernel
theorem dX3_look_46 : decode cX3_look 46 = .ok (.iload_n 2, 1) := by decide +kernel
theorem dX3_look_47 : decode cX3_look 47 = .ok (.invokevirtual 67, 3) := by decide +kernel
theorem dX3_look_50 : decode cX3_look 50 = .ok (.if_icmp .ge 60, 3) := by decide +kernel
theorem dX3_look_53 : decode cX3_look 53 = .ok (.aload_n 0, 1) := by decide +kernel
theorem dX3_look_54 : decode cX3_look 54 = .ok (.invokevirtual 71, 3) := by decide +kernel
theorem dX3_look_57 : decode cX3_look 57 = .ok (.aload_n 0, 1) := by decide +kernel
theorem dX3_look_58 : decode cX3_look 58 = .ok (.getfield 48, 3) := by decide +kernel
theorem dX3_look_61 : decode cX3_look 61 = .ok (.ifCond .ne 7, 3) := by decide +kernel
theorem dX3_look_64 : decode cX3_look 64 = .ok (.aload_n 0, 1) := by decide +kernel
theorem dX3_look_65 : decode cX3_look 65 = .ok (.invokevirtual 74, 3) := by decide +kernel
theorem dX3_look_68 : decode cX3_look 68 = .ok (.aload_n 0, 1) := by decide +kernel
theorem dX3_look_69 : decode cX3_look 69 = .ok (.getfield 48, 3) := by decide +kernel
theorem dX3_look_72 : decode cX3_look 72 = .ok (.ifCond .eq 25, 3) := by decide +kernel
theorem dX3_look_75 : decode cX3_look 75 = .ok (.aload_n 0, 1) := by decide +kernel
theorem dX3_look_76 : decode cX3_look 76 = .ok (.sipush 1024, 3) := by decide +kernel
theorem dX3_look_79 : decode cX3_look 79 = .ok (.iload_n 2, 1) := by decide +kernel
theorem dX3_look_80 : decode cX3_look 80 = .ok (.imul, 1) := by decide +kernel
theorem dX3_look_81 : decode cX3_look 81 = .ok (.aload_n 0, 1) := by decide +kernel
theorem dX3_look_82 : decode cX3_look 82 = .ok (.getfield 64, 3) := by decide +kernel
theorem dX3_look_85 : decode cX3_look 85 = .ok (.iadd, 1) := by decide +kernel
theorem dX3_look_86 : decode cX3_look 86 = .ok (.putfield 52, 3) := by decide +kernel
theorem dX3_look_89 : decode cX3_look 89 = .ok (.bipush 30, 2) := by decide +kernel
theorem dX3_look_91 : decode cX3_look 91 = .ok (.aload_n 0, 1) := by decide +kernel
theorem dX3_look_92 : decode cX3_look 92 = .ok (.getfield 48, 3) := by decide +kernel
theorem dX3_look_95 : decode cX3_look 95 = .ok (.iadd, 1) := by decide +kernel
theorem dX3_look_96 : decode cX3_look 96 = .ok (.ireturn, 1) := by decide +kernel
theorem dX3_look_97 : decode cX3_look 97 = .ok (.aload_n 0, 1) := by decide +kernel
theorem dX3_look_98 : decode cX3_look 98 = .ok (.dup, 1) := by decide +kernel
theorem dX3_look_99 : decode cX3_look 99 = .ok (.getfield 64, 3) := by decide +kernel
theorem dX3_look_102 : decode cX3_look 102 = .ok (.iconst 1, 1) := by decide +kernel
theorem dX3_look_103 : decode cX3_look 103 = .ok (.iadd, 1) := by decide +kernel
theorem dX3_look_104 : decode cX3_look 104 = .ok (.putfield 64, 3) := by decide +kernel
theorem dX3_look_107 : decode cX3_look 107 = .ok (.goto (-69), 3) := by decide +kernel
theorem dX3_look_110 : decode cX3_look 110 = .ok (.iinc 2 1, 3) := by decide +kernel
theorem dX3_look_113 : decode cX3_look 113 = .ok (.goto (-96), 3) := by decide +kernel
theorem dX3_look_116 : decode cX3_look 116 = .ok (.iconst 0, 1) := by decide +kernel
theorem dX3_look_117 : decode cX3_look 117 = .ok (.ireturn, 1) := by decide +kernel
theorem dX3_prepare_0 : decode cX3_prepare 0 = .ok (.aload_n 0, 1) := by decide +kernel
theorem dX3_prepare_1 : decode cX3_prepare 1 = .ok (.iload_n 1, 1) := by decide +kernel
theorem dX3_prepare_2 : decode cX3_prepare 2 = .ok (.putfield 77, 3) := by decide +kernel
theorem dX3_prepare_5 : decode cX3_prepare 5 = .ok (.aload_n 0, 1) := by decide +kernel
theorem dX3_prepare_6 : decode cX3_prepare 6 = .ok (.getfield 44, 3) := by decide +kernel
theorem dX3_prepare_9 : decode cX3_prepare 9 = .ok (.iload_n 1, 1) := by decide +kernel
theorem dX3_prepare_10 : decode cX3_prepare 10 = .ok (.invokevirtual 67, 3) := by decide +kernel
theorem dX3_prepare_13 : decode cX3_prepare 13 = .ok (.sipush 1024, 3) := by decide +kernel
theorem dX3_prepare_16 : decode cX3_prepare 16 = .ok (.invokestatic 80, 3) := by decide +kernel
theorem dX3_prepare_19 : decode cX3_prepare 19 = .ok (.istore_n 2, 1) := by decide +kernel
theorem dX3_prepare_20 : decode cX3_prepare 20 = .ok (.iconst 0, 1) := by decide +kernel
theorem dX3_prepare_21 : decode cX3_prepare 21 = .ok (.istore_n 3, 1) := by decide +kernel
theorem dX3_prepare_22 : decode cX3_prepare 22 = .ok (.iload_n 3, 1) := by decide +kernel
theorem dX3_prepare_23 : decode cX3_prepare 23 = .ok (.iload_n 2, 1) := by decide +kernel
theorem dX3_prepare_24 : decode cX3_prepare 24 = .ok (.if_icmp .ge 23, 3) := by decide +kernel
theorem dX3_prepare_27 : decode cX3_prepare 27 = .ok (.aload_n 0, 1) := by decide +kernel
theorem dX3_prepare_28 : decode cX3_prepare 28 = .ok (.getfield 28, 3) := by decide +kernel
theorem dX3_prepare_31 : decode cX3_prepare 31 = .ok (.iload_n 3, 1) := by decide +kernel
theorem dX3_prepare_32 : decode cX3_prepare 32 = .ok (.iconst 0, 1) := by decide +kernel
theorem dX3_prepare_33 : decode cX3_prepare 33 = .ok (.bastore, 1) := by decide +kernel
theorem dX3_prepare_34 : decode cX3_prepare 34 = .ok (.aload_n 0, 1) := by decide +kernel
theorem dX3_prepare_35 : decode cX3_prepare 35 = .ok (.getfield 31, 3) := by decide +kernel
theorem dX3_prepare_38 : decode cX3_prepare 38 = .ok (.iload_n 3, 1) := by decide +kernel
theorem dX3_prepare_39 : decode cX3_prepare 39 = .ok (.iconst 0, 1) := by decide +kernel
theorem dX3_prepare_40 : decode cX3_prepare 40 = .ok (.bastore, 1) := by decide +kernel
theorem dX3_prepare_41 : decode cX3_prepare 41 = .ok (.iinc 3 1, 3) := by decide +kernel
theorem dX3_prepare_44 : decode cX3_prepare 44 = .ok (.goto (-22), 3) := by decide +kernel
theorem dX3_prepare_47 : decode cX3_prepare 47 = .ok (.iconst 0, 1) := by decide +kernel
theorem dX3_prepare_48 : decode cX3_prepare 48 = .ok (.istore_n 3, 1) := by decide +kernel
theorem dX3_prepare_49 : decode cX3_prepare 49 = .ok (.iload_n 3, 1) := by decide +kernel
theorem dX3_prepare_50 : decode cX3_prepare 50 = .ok (.iload_n 2, 1) := by decide +kernel
theorem dX3_prepare_51 : decode cX3_prepare 51 = .ok (.if_icmp .ge 75, 3) := by decide +kernel
theorem dX3_prepare_54 : decode cX3_prepare 54 = .ok (.aload_n 0, 1) := by decide +kernel
theorem dX3_prepare_55 : decode cX3_prepare 55 = .ok (.getfield 44, 3) := by decide +kernel
theorem dX3_prepare_58 : decode cX3_prepare 58 = .ok (.iload_n 1, 1) := by decide +kernel
theorem dX3_prepare_59 : decode cX3_prepare 59 = .ok (.iload_n 3, 1) := by decide +kernel
theorem dX3_prepare_60 : decode cX3_prepare 60 = .ok (.invokevirtual 86, 3) := by decide +kernel
theorem dX3_prepare_63 : decode cX3_prepare 63 = .ok (.istore 4, 2) := by decide +kernel
theorem dX3_prepare_65 : decode cX3_prepare 65 = .ok (.aload_n 0, 1) := by decide +kernel
theorem dX3_prepare_66 : decode cX3_prepare 66 = .ok (.getfield 44, 3) := by decide +kernel
theorem dX3_prepare_69 : decode cX3_prepare 69 = .ok (.iload 4, 2) := by decide +kernel
theorem dX3_prepare_71 : decode cX3_prepare 71 = .ok (.iconst 1, 1) := by decide +kernel
theorem dX3_prepare_72 : decode cX3_prepare 72 = .ok (.iadd, 1) := by decide +kernel
theorem dX3_prepare_73 : decode cX3_prepare 73 = .ok (.iconst 2, 1) := by decide +kernel
theorem dX3_prepare_74 : decode cX3_prepare 74 = .ok (.invokevirtual 89, 3) := by decide +kernel
theorem dX3_prepare_77 : decode cX3_prepare 77 = .ok (.l2i, 1) := by decide +kernel
theorem dX3_prepare_78 : decode cX3_prepare 78 = .ok (.istore 5, 2) := by decide +kernel
theorem dX3_prepare_80 : decode cX3_prepare 80 = .ok (.aload_n 0, 1) := by decide +kernel
theorem dX3_prepare_81 : decode cX3_prepare 81 = .ok (.getfield 44, 3) := by decide +kernel
theorem dX3_prepare_84 : decode cX3_prepare 84 = .ok (.iload 4, 2) := by decide +kernel
theorem dX3_prepare_86 : decode cX3_prepare 86 = .ok (.invokevirtual 93, 3) := by decide +kernel
theorem dX3_prepare_89 : decode cX3_prepare 89 = .ok (.iconst 2, 1) := by decide +kernel
theorem dX3_prepare_90 : decode cX3_prepare 90 = .ok (.if_icmp .lt 30, 3) := by decide +kernel
theorem dX3_prepare_93 : decode cX3_prepare 93 = .ok (.aload_n 0, 1) := by decide +kernel
theorem dX3_prepare_94 : decode cX3_prepare 94 = .ok (.getfield 44, 3) := by decide +kernel
theorem dX3_prepare_97 : decode cX3_prepare 97 = .ok (.iload 4, 2) := by decide +kernel
theorem dX3_prepare_99 : decode cX3_prepare 99 = .ok (.invokevirtual 93, 3) := by decide +kernel
theorem dX3_prepare_102 : decode cX3_prepare 102 = .ok (.iconst 4, 1) := by decide +kernel
theorem dX3_prepare_103 : decode cX3_prepare 103 = .ok (.if_icmp .gt 17, 3) := by decide +kernel
theorem dX3_prepare_106 : decode cX3_prepare 106 = .ok (.iload 5, 2) := by decide +kernel
theorem dX3_prepare_108 : decode cX3_prepare 108 = .ok (.iload_n 2, 1) := by decide +kernel
theorem dX3_prepare_109 : decode cX3_prepare 109 = .ok (.if_icmp .ge 11, 3) := by decide +kernel
theorem dX3_prepare_112 : decode cX3_prepare 112 = .ok (.aload_n 0, 1) := by decide +kernel
theorem dX3_prepare_113 : decode cX3_prepare 113 = .ok (.getfield 28, 3) := by decide +kernel
theorem dX3_prepare_116 : decode cX3_prepare 116 = .ok (.iload 5, 2) := by decide +kernel
theorem dX3_prepare_118 : decode cX3_prepare 118 = .ok (.iconst 1, 1) := by decide +kernel
theorem dX3_prepare_119 : decode cX3_prepare 119 = .ok (.bastore, 1) := by decide +kernel
theorem dX3_prepare_120 : decode cX3_prepare 120 = .ok (.iinc 3 1, 3) := by decide +kernel
theorem dX3_prepare_123 : decode cX3_prepare 123 = .ok (.goto (-74), 3) := by decide +kernel
theorem dX3_prepare_126 : decode cX3_prepare 126 = .ok (.aload_n 0, 1) := by decide +kernel
theorem dX3_prepare_127 : decode cX3_prepare 127 = .ok (.iconst 0, 1) := by decide +kernel
theorem dX3_prepare_128 : decode cX3_prepare 128 = .ok (.putfield 95, 3) := by decide +kernel
theorem dX3_prepare_131 : decode cX3_prepare 131 = .ok (.aload_n 0, 1) := by decide +kernel
theorem dX3_prepare_132 : decode cX3_prepare 132 = .ok (.lconst 0, 1) := by decide +kernel
theorem dX3_prepare_133 : decode cX3_prepare 133 = .ok (.putfield 98, 3) := by decide +kernel
theorem dX3_prepare_136 : decode cX3_prepare 136 = .ok (.aload_n 0, 1) := by decide +kernel
theorem dX3_prepare_137 : decode cX3_prepare 137 = .ok (.lconst 1, 1) := by decide +kernel
theorem dX3_prepare_138 : decode cX3_prepare 138 = .ok (.aload_n 0, 1) := by decide +kernel
theorem dX3_prepare_139 : decode cX3_prepare 139 = .ok (.getfield 44, 3) := by decide +kernel
theorem dX3_prepare_142 : decode cX3_prepare 142 = .ok (.iload_n 1, 1) := by decide +kernel
theorem dX3_prepare_143 : decode cX3_prepare 143 = .ok (.invokevirtual 102, 3) := by decide +kernel
theorem dX3_prepare_146 : decode cX3_prepare 146 = .ok (.lshl, 1) := by decide +kernel
theorem dX3_prepare_147 : decode cX3_prepare 147 = .ok (.lconst 1, 1) := by decide +kernel
theorem dX3_prepare_148 : decode cX3_prepare 148 = .ok (.lsub, 1) := by decide +kernel
theorem dX3_prepare_149 : decode cX3_prepare 149 = .ok (.putfield 105, 3) := by decide +kernel
theorem dX3_prepare_152 : decode cX3_prepare 152 = .ok (.aload_n 0, 1) := by decide +kernel
theorem dX3_prepare_153 : decode cX3_prepare 153 = .ok (.lconst 0, 1) := by decide +kernel
theorem dX3_prepare_154 : decode cX3_prepare 154 = .ok (.putfield 108, 3) := by decide +kernel
theorem dX3_prepare_157 : decode cX3_prepare 157 = .ok (.iconst 0, 1) := by decide +kernel
theorem dX3_prepare_158 : decode cX3_prepare 158 = .ok (.istore_n 3, 1) := by decide +kernel
theorem dX3_prepare_159 : decode cX3_prepare 159 = .ok (.iload_n 3, 1) := by decide +kernel
theorem dX3_prepare_160 : decode cX3_prepare 160 = .ok (.bipush 40, 2) := by decide +kernel
theorem dX3_prepare_162 : decode cX3_prepare 162 = .ok (.if_icmp .ge 110, 3) := by decide +kernel
theorem dX3_prepare_165 : decode cX3_prepare 165 = .ok (.iload_n 3, 1) := by decide +kernel
theorem dX3_prepare_166 : decode cX3_prepare 166 = .ok (.aload_n 0, 1) := by decide +kernel
theorem dX3_prepare_167 : decode cX3_prepare 167 = .ok (.getfield 44, 3) := by decide +kernel
theorem dX3_prepare_170 : decode cX3_prepare 170 = .ok (.iload_n 1, 1) := by decide +kernel
theorem dX3_prepare_171 : decode cX3_prepare 171 = .ok (.invokevirtual 111, 3) := by decide +kernel
theorem dX3_prepare_174 : decode cX3_prepare 174 = .ok (.if_icmp .ge 15, 3) := by decide +kernel
theorem dX3_prepare_177 : decode cX3_prepare 177 = .ok (.aload_n 0, 1) := by decide +kernel
theorem dX3_prepare_178 : decode cX3_prepare 178 = .ok (.getfield 44, 3) := by decide +kernel
theorem dX3_prepare_181 : decode cX3_prepare 181 = .ok (.iload_n 1, 1) := by decide +kernel
theorem dX3_prepare_182 : decode cX3_prepare 182 = .ok (.iload_n 3, 1) := by decide +kernel
theorem dX3_prepare_183 : decode cX3_prepare 183 = .ok (.invokevirtual 114, 3) := by decide +kernel
theorem dX3_prepare_186 : decode cX3_prepare 186 = .ok (.goto 4, 3) := by decide +kernel
theorem dX3_prepare_189 : decode cX3_prepare 189 = .ok (.lconst 1, 1) := by decide +kernel
theorem dX3_prepare_190 : decode cX3_prepare 190 = .ok (.lstore 4, 2) := by decide +kernel
theorem dX3_prepare_192 : decode cX3_prepare 192 = .ok (.aload_n 0, 1) := by decide +kernel
theorem dX3_prepare_193 : decode cX3_prepare 193 = .ok (.getfield 22, 3) := by decide +kernel
theorem dX3_prepare_196 : decode cX3_prepare 196 = .ok (.iload_n 3, 1) := by decide +kernel
theorem dX3_prepare_197 : decode cX3_prepare 197 = .ok (.lload 4, 2) := by decide +kernel
theorem dX3_prepare_199 : decode cX3_prepare 199 = .ok (.lastore, 1) := by decide +kernel
theorem dX3_prepare_200 : decode cX3_prepare 200 = .ok (.aload_n 0, 1) := by decide +kernel
theorem dX3_prepare_201 : decode cX3_prepare 201 = .ok (.getfield 25, 3) := by decide +kernel
theorem dX3_prepare_204 : decode cX3_prepare 204 = .ok (.iload_n 3, 1) := by decide +kernel
theorem dX3_prepare_205 : decode cX3_prepare 205 = .ok (.iload_n 3, 1) := by decide +kernel
theorem dX3_prepare_206 : decode cX3_prepare 206 = .ok (.aload_n 0, 1) := by decide +kernel
theorem dX3_prepare_207 : decode cX3_prepare 207 = .ok (.getfield 44, 3) := by decide +kernel
theorem dX3_prepare_210 : decode cX3_prepare 210 = .ok (.iload_n 1, 1) := by decide +kernel
theorem dX3_prepare_211 : decode cX3_prepare 211 = .ok (.invokevirtual 102, 3) := by decide +kernel
theorem dX3_prepare_214 : decode cX3_prepare 214 = .ok (.if_icmp .ge 20, 3) := by decide +kernel
theorem dX3_prepare_217 : decode cX3_prepare 217 = .ok (.lload 4, 2) := by decide +kernel
theorem dX3_prepare_219 : decode cX3_prepare 219 = .ok (.invokestatic 116, 3) := by decide +kernel
theorem dX3_prepare_222 : decode cX3_prepare 222 = .ok (.ifCond .eq 12, 3) := by decide +kernel
theorem dX3_prepare_225 : decode cX3_prepare 225 = .ok (.lconst 1, 1) := by decide +kernel
theorem dX3_prepare_226 : decode cX3_prepare 226 = .ok (.bipush 40, 2) := by decide +kernel
theorem dX3_prepare_228 : decode cX3_prepare 228 = .ok (.iload_n 3, 1) := by decide +kernel
theorem dX3_prepare_229 : decode cX3_prepare 229 = .ok (.iadd, 1) := by decide +kernel
theorem dX3_prepare_230 : decode cX3_prepare 230 = .ok (.lshl, 1) := by decide +kernel
theorem dX3_prepare_231 : decode cX3_prepare 231 = .ok (.goto 4, 3) := by decide +kernel
theorem dX3_prepare_234 : decode cX3_prepare 234 = .ok (.lconst 0, 1) := by decide +kernel
theorem dX3_prepare_235 : decode cX3_prepare 235 = .ok (.lastore, 1) := by decide +kernel
theorem dX3_prepare_236 : decode cX3_prepare 236 = .ok (.aload_n 0, 1) := by decide +kernel
theorem dX3_prepare_237 : decode cX3_prepare 237 = .ok (.dup, 1) := by decide +kernel
theorem dX3_prepare_238 : decode cX3_prepare 238 = .ok (.getfield 108, 3) := by decide +kernel
theorem dX3_prepare_241 : decode cX3_prepare 241 = .ok (.aload_n 0, 1) := by decide +kernel
theorem dX3_prepare_242 : decode cX3_prepare 242 = .ok (.getfield 44, 3) := by decide +kernel
theorem dX3_prepare_245 : decode cX3_prepare 245 = .ok (.lload 4, 2) := by decide +kernel
theorem dX3_prepare_247 : decode cX3_prepare 247 = .ok (.invokevirtual 120, 3) := by decide +kernel
theorem dX3_prepare_250 : decode cX3_prepare 250 = .ok (.iconst 2, 1) := by decide +kernel
theorem dX3_prepare_251 : decode cX3_prepare 251 = .ok (.iand, 1) := by decide +kernel
theorem dX3_prepare_252 : decode cX3_prepare 252 = .ok (.ifCond .eq 9, 3) := by decide +kernel
theorem dX3_prepare_255 : decode cX3_prepare 255 = .ok (.lconst 1, 1) := by decide +kernel
theorem dX3_prepare_256 : decode cX3_prepare 256 = .ok (.iload_n 3, 1) := by decide +kernel
theorem dX3_prepare_257 : decode cX3_prepare 257 = .ok (.lshl, 1) := by decide +kernel
theorem dX3_prepare_258 : decode cX3_prepare 258 = .ok (.goto 4, 3) := by decide +kernel
theorem dX3_prepare_261 : decode cX3_prepare 261 = .ok (.lconst 0, 1) := by decide +kernel
theorem dX3_prepare_262 : decode cX3_prepare 262 = .ok (.lor, 1) := by decide +kernel
theorem dX3_prepare_263 : decode cX3_prepare 263 = .ok (.putfield 108, 3) := by decide +kernel
theorem dX3_prepare_266 : decode cX3_prepare 266 = .ok (.iinc 3 1, 3) := by decide +kernel
theorem dX3_prepare_269 : decode cX3_prepare 269 = .ok (.goto (-110), 3) := by decide +kernel
theorem dX3_prepare_272 : decode cX3_prepare 272 = .ok (.aload_n 0, 1) := by decide +kernel
theorem dX3_prepare_273 : decode cX3_prepare 273 = .ok (.iconst 1, 1) := by decide +kernel
theorem dX3_prepare_274 : decode cX3_prepare 274 = .ok (.putfield 124, 3) := by decide +kernel
theorem dX3_prepare_277 : decode cX3_prepare 277 = .ok (.aload_n 0, 1) := by decide +kernel
theorem dX3_prepare_278 : decode cX3_prepare 278 = .ok (.getfield 28, 3) := by decide +kernel
theorem dX3_prepare_281 : decode cX3_prepare 281 = .ok (.iconst 0, 1) := by decide +kernel
theorem dX3_prepare_282 : decode cX3_prepare 282 = .ok (.baload, 1) := by decide +kernel
theorem dX3_prepare_283 : decode cX3_prepare 283 = .ok (.ifCond .eq 8, 3) := by decide +kernel
theorem dX3_prepare_286 : decode cX3_prepare 286 = .ok (.aload_n 0, 1) := by decide +kernel
theorem dX3_prepare_287 : decode cX3_prepare 287 = .ok (.iconst 0, 1) := by decide +kernel
theorem dX3_prepare_288 : decode cX3_prepare 288 = .ok (.invokevirtual 128, 3) := by decide +kernel
theorem dX3_prepare_291 : decode cX3_prepare 291 = .ok (.return_, 1) := by decide +kernel
theorem dX3_fail_0 : decode cX3_fail 0 = .ok (.aload_n 0, 1) := by decide +kernel
theorem dX3_fail_1 : decode cX3_fail 1 = .ok (.getfield 48, 3) := by decide +kernel
theorem dX3_fail_4 : decode cX3_fail 4 = .ok (.ifCond .ne 8, 3) := by decide +kernel
theorem dX3_fail_7 : decode cX3_fail 7 = .ok (.aload_n 0, 1) := by decide +kernel
theorem dX3_fail_8 : decode cX3_fail 8 = .ok (.iload_n 1, 1) := by decide +kernel
theorem dX3_fail_9 : decode cX3_fail 9 = .ok (.putfield 48, 3) := by decide +kernel
theorem dX3_fail_12 : decode cX3_fail 12 = .ok (.return_, 1) := by decide +kernel
theorem dX3_arrive_0 : decode cX3_arrive 0 = .ok (.aload_n 0, 1) := by decide +kernel
theorem dX3_arrive_1 : decode cX3_arrive 1 = .ok (.getfield 28, 3) := by decide +kernel
theorem dX3_arrive_4 : decode cX3_arrive 4 = .ok (.aload_n 0, 1) := by decide +kernel
theorem dX3_arrive_5 : decode cX3_arrive 5 = .ok (.getfield 64, 3) := by decide +kernel
theorem dX3_arrive_8 : decode cX3_arrive 8 = .ok (.baload, 1) := by decide +kernel
theorem dX3_arrive_9 : decode cX3_arrive 9 = .ok (.ifCond .eq 18, 3) := by decide +kernel
theorem dX3_arrive_12 : decode cX3_arrive 12 = .ok (.aload_n 0, 1) := by decide +kernel
theorem dX3_arrive_13 : decode cX3_arrive 13 = .ok (.getfield 31, 3) := by decide +kernel
theorem dX3_arrive_16 : decode cX3_arrive 16 = .ok (.aload_n 0, 1) := by decide +kernel
theorem dX3_arrive_17 : decode cX3_arrive 17 = .ok (.getfield 64, 3) := by decide +kernel
theorem dX3_arrive_20 : decode cX3_arrive 20 = .ok (.baload, 1) := by decide +kernel
theorem dX3_arrive_21 : decode cX3_arrive 21 = .ok (.ifCond .ne 22, 3) := by decide +kernel
theorem dX3_arrive_24 : decode cX3_arrive 24 = .ok (.goto 10, 3) := by decide +kernel
theorem dX3_arrive_27 : decode cX3_arrive 27 = .ok (.aload_n 0, 1) := by decide +kernel
theorem dX3_arrive_28 : decode cX3_arrive 28 = .ok (.getfield 124, 3) := by decide +kernel
theorem dX3_arrive_31 : decode cX3_arrive 31 = .ok (.ifCond .ne 12, 3) := by decide +kernel
theorem dX3_arrive_34 : decode cX3_arrive 34 = .ok (.aload_n 0, 1) := by decide +kernel
theorem dX3_arrive_35 : decode cX3_arrive 35 = .ok (.bipush 10, 2) := by decide +kernel
theorem dX3_arrive_37 : decode cX3_arrive 37 = .ok (.invokevirtual 131, 3) := by decide +kernel
theorem dX3_arrive_40 : decode cX3_arrive 40 = .ok (.goto 75, 3) := by decide +kernel
theorem dX3_arrive_43 : decode cX3_arrive 43 = .ok (.aload_n 0, 1) := by decide +kernel
theorem dX3_arrive_44 : decode cX3_arrive 44 = .ok (.getfield 28, 3) := by decide +kernel
theorem dX3_arrive_47 : decode cX3_arrive 47 = .ok (.aload_n 0, 1) := by decide +kernel
theorem dX3_arrive_48 : decode cX3_arrive 48 = .ok (.getfield 64, 3) := by decide +kernel
theorem dX3_arrive_51 : decode cX3_arrive 51 = .ok (.baload, 1) := by decide +kernel
theorem dX3_arrive_52 : decode cX3_arrive 52 = .ok (.ifCond .eq 63, 3) := by decide +kernel
theorem dX3_arrive_55 : decode cX3_arrive 55 = .ok (.aload_n 0, 1) := by decide +kernel
theorem dX3_arrive_56 : decode cX3_arrive 56 = .ok (.getfield 95, 3) := by decide +kernel
theorem dX3_arrive_59 : decode cX3_arrive 59 = .ok (.ifCond .le 9, 3) := by decide +kernel
theorem dX3_arrive_62 : decode cX3_arrive 62 = .ok (.aload_n 0, 1) := by decide +kernel
theorem dX3_arrive_63 : decode cX3_arrive 63 = .ok (.bipush 8, 2) := by decide +kernel
theorem dX3_arrive_65 : decode cX3_arrive 65 = .ok (.invokevirtual 131, 3) := by decide +kernel
theorem dX3_arrive_68 : decode cX3_arrive 68 = .ok (.aload_n 0, 1) := by decide +kernel
theorem dX3_arrive_69 : decode cX3_arrive 69 = .ok (.aload_n 0, 1) := by decide +kernel
theorem dX3_arrive_70 : decode cX3_arrive 70 = .ok (.getfield 34, 3) := by decide +kernel
theorem dX3_arrive_73 : decode cX3_arrive 73 = .ok (.aload_n 0, 1) := by decide +kernel
theorem dX3_arrive_74 : decode cX3_arrive 74 = .ok (.getfield 64, 3) := by decide +kernel
theorem dX3_arrive_77 : decode cX3_arrive 77 = .ok (.laload, 1) := by decide +kernel
theorem dX3_arrive_78 : decode cX3_arrive 78 = .ok (.putfield 105, 3) := by decide +kernel
theorem dX3_arrive_81 : decode cX3_arrive 81 = .ok (.aload_n 0, 1) := by decide +kernel
theorem dX3_arrive_82 : decode cX3_arrive 82 = .ok (.aload_n 0, 1) := by decide +kernel
theorem dX3_arrive_83 : decode cX3_arrive 83 = .ok (.getfield 37, 3) := by decide +kernel
theorem dX3_arrive_86 : decode cX3_arrive 86 = .ok (.aload_n 0, 1) := by decide +kernel
theorem dX3_arrive_87 : decode cX3_arrive 87 = .ok (.getfield 64, 3) := by decide +kernel
theorem dX3_arrive_90 : decode cX3_arrive 90 = .ok (.laload, 1) := by decide +kernel
theorem dX3_arrive_91 : decode cX3_arrive 91 = .ok (.putfield 98, 3) := by decide +kernel
theorem dX3_arrive_94 : decode cX3_arrive 94 = .ok (.aload_n 0, 1) := by decide +kernel
theorem dX3_arrive_95 : decode cX3_arrive 95 = .ok (.getfield 41, 3) := by decide +kernel
theorem dX3_arrive_98 : decode cX3_arrive 98 = .ok (.aload_n 0, 1) := by decide +kernel
theorem dX3_arrive_99 : decode cX3_arrive 99 = .ok (.getfield 64, 3) := by decide +kernel
theorem dX3_arrive_102 : decode cX3_arrive 102 = .ok (.bipush 40, 2) := by decide +kernel
theorem dX3_arrive_104 : decode cX3_arrive 104 = .ok (.imul, 1) := by decide +kernel
theorem dX3_arrive_105 : decode cX3_arrive 105 = .ok (.aload_n 0, 1) := by decide +kernel
theorem dX3_arrive_106 : decode cX3_arrive 106 = .ok (.getfield 25, 3) := by decide +kernel
theorem dX3_arrive_109 : decode cX3_arrive 109 = .ok (.iconst 0, 1) := by decide +kernel
theorem dX3_arrive_110 : decode cX3_arrive 110 = .ok (.bipush 40, 2) := by decide +kernel
theorem dX3_arrive_112 : decode cX3_arrive 112 = .ok (.invokestatic 134, 3) := by decide +kernel
theorem dX3_arrive_115 : decode cX3_arrive 115 = .ok (.return_, 1) := by decide +kernel
theorem dX3_operate_0 : decode cX3_operate 0 = .ok (.aload_n 0, 1) := by decide +kernel
theorem dX3_operate_1 : decode cX3_operate 1 = .ok (.getfield 44, 3) := by decide +kernel
theorem dX3_operate_4 : decode cX3_operate 4 = .ok (.aload_n 0, 1) := by decide +kernel
theorem dX3_operate_5 : decode cX3_operate 5 = .ok (.getfield 77, 3) := by decide +kernel
theorem dX3_operate_8 : decode cX3_operate 8 = .ok (.aload_n 0, 1) := by decide +kernel
theorem dX3_operate_9 : decode cX3_operate 9 = .ok (.getfield 64, 3) := by decide +kernel
theorem dX3_operate_12 : decode cX3_operate 12 = .ok (.invokevirtual 86, 3) := by decide +kernel
theorem dX3_operate_15 : decode cX3_operate 15 = .ok (.istore_n 1, 1) := by decide +kernel
theorem dX3_operate_16 : decode cX3_operate 16 = .ok (.aload_n 0, 1) := by decide +kernel
theorem dX3_operate_17 : decode cX3_operate 17 = .ok (.getfield 44, 3) := by decide +kernel
theorem dX3_operate_20 : decode cX3_operate 20 = .ok (.iload_n 1, 1) := by decide +kernel
theorem dX3_operate_21 : decode cX3_operate 21 = .ok (.invokevirtual 93, 3) := by decide +kernel
theorem dX3_operate_24 : decode cX3_operate 24 = .ok (.istore_n 2, 1) := by decide +kernel
theorem dX3_operate_25 : decode cX3_operate 25 = .ok (.aload_n 0, 1) := by decide +kernel
theorem dX3_operate_26 : decode cX3_operate 26 = .ok (.getfield 44, 3) := by decide +kernel
theorem dX3_operate_29 : decode cX3_operate 29 = .ok (.iload_n 1, 1) := by decide +kernel
theorem dX3_operate_30 : decode cX3_operate 30 = .ok (.iconst 1, 1) := by decide +kernel
theorem dX3_operate_31 : decode cX3_operate 31 = .ok (.iadd, 1) := by decide +kernel
theorem dX3_operate_32 : decode cX3_operate 32 = .ok (.invokevirtual 93, 3) := by decide +kernel
theorem dX3_operate_35 : decode cX3_operate 35 = .ok (.istore_n 3, 1) := by decide +kernel
theorem dX3_operate_36 : decode cX3_operate 36 = .ok (.aload_n 0, 1) := by decide +kernel
theorem dX3_operate_37 : decode cX3_operate 37 = .ok (.getfield 44, 3) := by decide +kernel
theorem dX3_operate_40 : decode cX3_operate 40 = .ok (.iload_n 1, 1) := by decide +kernel
theorem dX3_operate_41 : decode cX3_operate 41 = .ok (.iconst 2, 1) := by decide +kernel
theorem dX3_operate_42 : decode cX3_operate 42 = .ok (.iadd, 1) := by decide +kernel
theorem dX3_operate_43 : decode cX3_operate 43 = .ok (.invokevirtual 93, 3) := by decide +kernel
theorem dX3_operate_46 : decode cX3_operate 46 = .ok (.istore 4, 2) := by decide +kernel
theorem dX3_operate_48 : decode cX3_operate 48 = .ok (.iload_n 2, 1) := by decide +kernel
theorem dX3_operate_49 : decode cX3_operate 49 = .ok (.iconst 1, 1) := by decide +kernel
theorem dX3_operate_50 : decode cX3_operate 50 = .ok (.if_icmp .ne 10, 3) := by decide +kernel
theorem dX3_operate_53 : decode cX3_operate 53 = .ok (.aload_n 0, 1) := by decide +kernel
theorem dX3_operate_54 : decode cX3_operate 54 = .ok (.invokevirtual 140, 3) := by decide +kernel
theorem dX3_operate_57 : decode cX3_operate 57 = .ok (.goto 191, 3) := by decide +kernel
theorem dX3_operate_60 : decode cX3_operate 60 = .ok (.iload_n 2, 1) := by decide +kernel
theorem dX3_operate_61 : decode cX3_operate 61 = .ok (.iconst 4, 1) := by decide +kernel
theorem dX3_operate_62 : decode cX3_operate 62 = .ok (.if_icmp .le 9, 3) := by decide +kernel
theorem dX3_operate_65 : decode cX3_operate 65 = .ok (.iload_n 2, 1) := by decide +kernel
theorem dX3_operate_66 : decode cX3_operate 66 = .ok (.bipush 45, 2) := by decide +kernel
theorem dX3_operate_68 : decode cX3_operate 68 = .ok (.if_icmp .ne 11, 3) := by decide +kernel
theorem dX3_operate_71 : decode cX3_operate 71 = .ok (.aload_n 0, 1) := by decide +kernel
theorem dX3_operate_72 : decode cX3_operate 72 = .ok (.iload_n 2, 1) := by decide +kernel
theorem dX3_operate_73 : decode cX3_operate 73 = .ok (.invokevirtual 143, 3) := by decide +kernel
theorem dX3_operate_76 : decode cX3_operate 76 = .ok (.goto 172, 3) := by decide +kernel
theorem dX3_operate_79 : decode cX3_operate 79 = .ok (.iload_n 2, 1) := by decide +kernel
theorem dX3_operate_80 : decode cX3_operate 80 = .ok (.bipush 10, 2) := by decide +kernel
theorem dX3_operate_82 : decode cX3_operate 82 = .ok (.if_icmp .le 15, 3) := by decide +kernel
theorem dX3_operate_85 : decode cX3_operate 85 = .ok (.iload_n 2, 1) := by decide +kernel
theorem dX3_operate_86 : decode cX3_operate 86 = .ok (.bipush 35, 2) := by decide +kernel
theorem dX3_operate_88 : decode cX3_operate 88 = .ok (.if_icmp .eq 9, 3) := by decide +kernel
theorem dX3_operate_91 : decode cX3_operate 91 = .ok (.iload_n 2, 1) := by decide +kernel
theorem dX3_operate_92 : decode cX3_operate 92 = .ok (.bipush 46, 2) := by decide +kernel
theorem dX3_operate_94 : decode cX3_operate 94 = .ok (.if_icmp .ne 11, 3) := by decide +kernel
theorem dX3_operate_97 : decode cX3_operate 97 = .ok (.aload_n 0, 1) := by decide +kernel
theorem dX3_operate_98 : decode cX3_operate 98 = .ok (.iload_n 2, 1) := by decide +kernel
theorem dX3_operate_99 : decode cX3_operate 99 = .ok (.invokevirtual 146, 3) := by decide +kernel
theorem dX3_operate_102 : decode cX3_operate 102 = .ok (.goto 146, 3) := by decide +kernel
theorem dX3_operate_105 : decode cX3_operate 105 = .ok (.iload_n 2, 1) := by decide +kernel
theorem dX3_operate_106 : decode cX3_operate 106 = .ok (.bipush 13, 2) := by decide +kernel
theorem dX3_operate_108 : decode cX3_operate 108 = .ok (.if_icmp .gt 17, 3) := by decide +kernel
theorem dX3_operate_111 : decode cX3_operate 111 = .ok (.aload_n 0, 1) := by decide +kernel
theorem dX3_operate_112 : decode cX3_operate 112 = .ok (.iload_n 2, 1) := by decide +kernel
theorem dX3_operate_113 : decode cX3_operate 113 = .ok (.iload_n 3, 1) := by decide +kernel
theorem dX3_operate_114 : decode cX3_operate 114 = .ok (.bipush 39, 2) := by decide +kernel
theorem dX3_operate_116 : decode cX3_operate 116 = .ok (.invokestatic 80, 3) := by decide +kernel
theorem dX3_operate_119 : decode cX3_operate 119 = .ok (.invokevirtual 149, 3) := by decide +kernel
theorem dX3_operate_122 : decode cX3_operate 122 = .ok (.goto 126, 3) := by decide +kernel
theorem dX3_operate_125 : decode cX3_operate 125 = .ok (.iload_n 2, 1) := by decide +kernel
theorem dX3_operate_126 : decode cX3_operate 126 = .ok (.bipush 15, 2) := by decide +kernel
theorem dX3_operate_128 : decode cX3_operate 128 = .ok (.if_icmp .gt 27, 3) := by decide +kernel
theorem dX3_operate_131 : decode cX3_operate 131 = .ok (.aload_n 0, 1) := by decide +kernel
theorem dX3_operate_132 : decode cX3_operate 132 = .ok (.iload_n 2, 1) := by decide +kernel
theorem dX3_operate_133 : decode cX3_operate 133 = .ok (.bipush 15, 2) := by decide +kernel
theorem dX3_operate_135 : decode cX3_operate 135 = .ok (.if_icmp .ne 7, 3) := by decide +kernel
theorem dX3_operate_138 : decode cX3_operate 138 = .ok (.iconst 1, 1) := by decide +kernel
theorem dX3_operate_139 : decode cX3_operate 139 = .ok (.goto 4, 3) := by decide +kernel
theorem dX3_operate_142 : decode cX3_operate 142 = .ok (.iconst 0, 1) := by decide +kernel
theorem dX3_operate_143 : decode cX3_operate 143 = .ok (.iload_n 3, 1) := by decide +kernel
theorem dX3_operate_144 : decode cX3_operate 144 = .ok (.bipush 39, 2) := by decide +kernel
theorem dX3_operate_146 : decode cX3_operate 146 = .ok (.invokestatic 80, 3) := by decide +kernel
theorem dX3_operate_149 : decode cX3_operate 149 = .ok (.invokevirtual 153, 3) := by decide +kernel
theorem dX3_operate_152 : decode cX3_operate 152 = .ok (.goto 96, 3) := by decide +kernel
theorem dX3_operate_155 : decode cX3_operate 155 = .ok (.iload_n 2, 1) := by decide +kernel
theorem dX3_operate_156 : decode cX3_operate 156 = .ok (.bipush 20, 2) := by decide +kernel
theorem dX3_operate_158 : decode cX3_operate 158 = .ok (.if_icmp .gt 14, 3) := by decide +kernel
theorem dX3_operate_161 : decode cX3_operate 161 = .ok (.aload_n 0, 1) := by decide +kernel
theorem dX3_operate_162 : decode cX3_operate 162 = .ok (.iload_n 2, 1) := by decide +kernel
theorem dX3_operate_163 : decode cX3_operate 163 = .ok (.iload_n 3, 1) := by decide +kernel
theorem dX3_operate_164 : decode cX3_operate 164 = .ok (.iload 4, 2) := by decide +kernel
theorem dX3_operate_166 : decode cX3_operate 166 = .ok (.invokevirtual 157, 3) := by decide +kernel
theorem dX3_operate_169 : decode cX3_operate 169 = .ok (.goto 79, 3) := by decide +kernel
theorem dX3_operate_172 : decode cX3_operate 172 = .ok (.iload_n 2, 1) := by decide +kernel
theorem dX3_operate_173 : decode cX3_operate 173 = .ok (.bipush 22, 2) := by decide +kernel
theorem dX3_operate_175 : decode cX3_operate 175 = .ok (.if_icmp .gt 22, 3) := by decide +kernel
theorem dX3_operate_178 : decode cX3_operate 178 = .ok (.aload_n 0, 1) := by decide +kernel
theorem dX3_operate_179 : decode cX3_operate 179 = .ok (.iload_n 2, 1) := by decide +kernel
theorem dX3_operate_180 : decode cX3_operate 180 = .ok (.bipush 21, 2) := by decide +kernel
theorem dX3_operate_182 : decode cX3_operate 182 = .ok (.if_icmp .ne 7, 3) := by decide +kernel
theorem dX3_operate_185 : decode cX3_operate 185 = .ok (.iconst 1, 1) := by decide +kernel
theorem dX3_operate_186 : decode cX3_operate 186 = .ok (.goto 4, 3) := by decide +kernel
theorem dX3_operate_189 : decode cX3_operate 189 = .ok (.iconst 0, 1) := by decide +kernel
theorem dX3_operate_190 : decode cX3_operate 190 = .ok (.iload_n 3, 1) := by decide +kernel
theorem dX3_operate_191 : decode cX3_operate 191 = .ok (.invokevirtual 161, 3) := by decide +kernel
theorem dX3_operate_194 : decode cX3_operate 194 = .ok (.goto 54, 3) := by decide +kernel
theorem dX3_operate_197 : decode cX3_operate 197 = .ok (.iload_n 2, 1) := by decide +kernel
theorem dX3_operate_198 : decode cX3_operate 198 = .ok (.bipush 23, 2) := by decide +kernel
theorem dX3_operate_200 : decode cX3_operate 200 = .ok (.if_icmp .ne 11, 3) := by decide +kernel
theorem dX3_operate_203 : decode cX3_operate 203 = .ok (.aload_n 0, 1) := by decide +kernel
theorem dX3_operate_204 : decode cX3_operate 204 = .ok (.iload_n 3, 1) := by decide +kernel
theorem dX3_operate_205 : decode cX3_operate 205 = .ok (.invokevirtual 164, 3) := by decide +kernel
theorem dX3_operate_208 : decode cX3_operate 208 = .ok (.goto 40, 3) := by decide +kernel
theorem dX3_operate_211 : decode cX3_operate 211 = .ok (.iload_n 2, 1) := by decide +kernel
theorem dX3_operate_212 : decode cX3_operate 212 = .ok (.bipush 44, 2) := by decide +kernel
theorem dX3_operate_214 : decode cX3_operate 214 = .ok (.if_icmp .gt 11, 3) := by decide +kernel
theorem dX3_operate_217 : decode cX3_operate 217 = .ok (.aload_n 0, 1) := by decide +kernel
theorem dX3_operate_218 : decode cX3_operate 218 = .ok (.iload_n 2, 1) := by decide +kernel
theorem dX3_operate_219 : decode cX3_operate 219 = .ok (.invokevirtual 167, 3) := by decide +kernel
theorem dX3_operate_222 : decode cX3_operate 222 = .ok (.goto 26, 3) := by decide +kernel
theorem dX3_operate_225 : decode cX3_operate 225 = .ok (.iload_n 2, 1) := by decide +kernel
theorem dX3_operate_226 : decode cX3_operate 226 = .ok (.bipush 51, 2) := by decide +kernel
theorem dX3_operate_228 : decode cX3_operate 228 = .ok (.if_icmp .gt 12, 3) := by decide +kernel
theorem dX3_operate_231 : decode cX3_operate 231 = .ok (.aload_n 0, 1) := by decide +kernel
theorem dX3_operate_232 : decode cX3_operate 232 = .ok (.iload_n 2, 1) := by decide +kernel
theorem dX3_operate_233 : decode cX3_operate 233 = .ok (.iload_n 3, 1) := by decide +kernel
theorem dX3_operate_234 : decode cX3_operate 234 = .ok (.invokevirtual 170, 3) := by decide +kernel
theorem dX3_operate_237 : decode cX3_operate 237 = .ok (.goto 11, 3) := by decide +kernel
theorem dX3_operate_240 : decode cX3_operate 240 = .ok (.aload_n 0, 1) := by decide +kernel
theorem dX3_operate_241 : decode cX3_operate 241 = .ok (.iload_n 2, 1) := by decide +kernel
theorem dX3_operate_242 : decode cX3_operate 242 = .ok (.iload_n 3, 1) := by decide +kernel
theorem dX3_operate_243 : decode cX3_operate 243 = .ok (.iload 4, 2) := by decide +kernel
theorem dX3_operate_245 : decode cX3_operate 245 = .ok (.invokevirtual 173, 3) := by decide +kernel
theorem dX3_operate_248 : decode cX3_operate 248 = .ok (.aload_n 0, 1) := by decide +kernel
theorem dX3_operate_249 : decode cX3_operate 249 = .ok (.getfield 48, 3) := by decide +kernel
theorem dX3_operate_252 : decode cX3_operate 252 = .ok (.ifCond .ne 20, 3) := by decide +kernel
theorem dX3_operate_255 : decode cX3_operate 255 = .ok (.aload_n 0, 1) := by decide +kernel
theorem dX3_operate_256 : decode cX3_operate 256 = .ok (.iload_n 2, 1) := by decide +kernel
theorem dX3_operate_257 : decode cX3_operate 257 = .ok (.aload_n 0, 1) := by decide +kernel
theorem dX3_operate_258 : decode cX3_operate 258 = .ok (.getfield 44, 3) := by decide +kernel
theorem dX3_operate_261 : decode cX3_operate 261 = .ok (.iload_n 1, 1) := by decide +kernel
theorem dX3_operate_262 : decode cX3_operate 262 = .ok (.iconst 1, 1) := by decide +kernel
theorem dX3_operate_263 : decode cX3_operate 263 = .ok (.iadd, 1) := by decide +kernel
theorem dX3_operate_264 : decode cX3_operate 264 = .ok (.iconst 2, 1) := by decide +kernel
theorem dX3_operate_265 : decode cX3_operate 265 = .ok (.invokevirtual 89, 3) := by decide +kernel
theorem dX3_operate_268 : decode cX3_operate 268 = .ok (.l2i, 1) := by decide +kernel
theorem dX3_operate_269 : decode cX3_operate 269 = .ok (.invokevirtual 176, 3) := by decide +kernel
theorem dX3_operate_272 : decode cX3_operate 272 = .ok (.return_, 1) := by decide +kernel
theorem dX3_leave_0 : decode cX3_leave 0 = .ok (.iload_n 1, 1) := by decide +kernel
theorem dX3_leave_1 : decode cX3_leave 1 = .ok (.iconst 2, 1) := by decide +kernel
theorem dX3_leave_2 : decode cX3_leave 2 = .ok (.if_icmp .lt 13, 3) := by decide +kernel
theorem dX3_leave_5 : decode cX3_leave 5 = .ok (.iload_n 1, 1) := by decide +kernel
theorem dX3_leave_6 : decode cX3_leave 6 = .ok (.iconst 4, 1) := by decide +kernel
theorem dX3_leave_7 : decode cX3_leave 7 = .ok (.if_icmp .gt 8, 3) := by decide +kernel
theorem dX3_leave_10 : decode cX3_leave 10 = .ok (.aload_n 0, 1) := by decide +kernel
theorem dX3_leave_11 : decode cX3_leave 11 = .ok (.iload_n 2, 1) := by decide +kernel
theorem dX3_leave_12 : decode cX3_leave 12 = .ok (.invokevirtual 179, 3) := by decide +kernel
theorem dX3_leave_15 : decode cX3_leave 15 = .ok (.aload_n 0, 1) := by decide +kernel
theorem dX3_leave_16 : decode cX3_leave 16 = .ok (.iload_n 1, 1) := by decide +kernel
theorem dX3_leave_17 : decode cX3_leave 17 = .ok (.iconst 1, 1) := by decide +kernel
theorem dX3_leave_18 : decode cX3_leave 18 = .ok (.if_icmp .eq 18, 3) := by decide +kernel
theorem dX3_leave_21 : decode cX3_leave 21 = .ok (.iload_n 1, 1) := by decide +kernel
theorem dX3_leave_22 : decode cX3_leave 22 = .ok (.iconst 2, 1) := by decide +kernel
theorem dX3_leave_23 : decode cX3_leave 23 = .ok (.if_icmp .eq 13, 3) := by decide +kernel
theorem dX3_leave_26 : decode cX3_leave 26 = .ok (.iload_n 1, 1) := by decide +kernel
theorem dX3_leave_27 : decode cX3_leave 27 = .ok (.bipush 45, 2) := by decide +kernel
theorem dX3_leave_29 : decode cX3_leave 29 = .ok (.if_icmp .eq 7, 3) := by decide +kernel
theorem dX3_leave_32 : decode cX3_leave 32 = .ok (.iconst 1, 1) := by decide +kernel
theorem dX3_leave_33 : decode cX3_leave 33 = .ok (.goto 4, 3) := by decide +kernel
theorem dX3_leave_36 : decode cX3_leave 36 = .ok (.iconst 0, 1) := by decide +kernel
theorem dX3_leave_37 : decode cX3_leave 37 = .ok (.putfield 124, 3) := by decide +kernel
theorem dX3_leave_40 : decode cX3_leave 40 = .ok (.aload_n 0, 1) := by decide +kernel
theorem dX3_leave_41 : decode cX3_leave 41 = .ok (.getfield 124, 3) := by decide +kernel
theorem dX3_leave_44 : decode cX3_leave 44 = .ok (.ifCond .ne 11, 3) := by decide +kernel
theorem dX3_leave_47 : decode cX3_leave 47 = .ok (.aload_n 0, 1) := by decide +kernel
theorem dX3_leave_48 : decode cX3_leave 48 = .ok (.iconst 0, 1) := by decide +kernel
theorem dX3_leave_49 : decode cX3_leave 49 = .ok (.putfield 95, 3) := by decide +kernel
theorem dX3_leave_52 : decode cX3_leave 52 = .ok (.goto 42, 3) := by decide +kernel
theorem dX3_leave_55 : decode cX3_leave 55 = .ok (.aload_n 0, 1) := by decide +kernel
theorem dX3_leave_56 : decode cX3_leave 56 = .ok (.getfield 64, 3) := by decide +kernel
theorem dX3_leave_59 : decode cX3_leave 59 = .ok (.iconst 1, 1) := by decide +kernel
theorem dX3_leave_60 : decode cX3_leave 60 = .ok (.iadd, 1) := by decide +kernel
theorem dX3_leave_61 : decode cX3_leave 61 = .ok (.aload_n 0, 1) := by decide +kernel
theorem dX3_leave_62 : decode cX3_leave 62 = .ok (.getfield 44, 3) := by decide +kernel
theorem dX3_leave_65 : decode cX3_leave 65 = .ok (.aload_n 0, 1) := by decide +kernel
theorem dX3_leave_66 : decode cX3_leave 66 = .ok (.getfield 77, 3) := by decide +kernel
theorem dX3_leave_69 : decode cX3_leave 69 = .ok (.invokevirtual 67, 3) := by decide +kernel
theorem dX3_leave_72 : decode cX3_leave 72 = .ok (.if_icmp .lt 12, 3) := by decide +kernel
theorem dX3_leave_75 : decode cX3_leave 75 = .ok (.aload_n 0, 1) := by decide +kernel
theorem dX3_leave_76 : decode cX3_leave 76 = .ok (.bipush 11, 2) := by decide +kernel
theorem dX3_leave_78 : decode cX3_leave 78 = .ok (.invokevirtual 131, 3) := by decide +kernel
theorem dX3_leave_81 : decode cX3_leave 81 = .ok (.goto 13, 3) := by decide +kernel
theorem dX3_leave_84 : decode cX3_leave 84 = .ok (.aload_n 0, 1) := by decide +kernel
theorem dX3_leave_85 : decode cX3_leave 85 = .ok (.aload_n 0, 1) := by decide +kernel
theorem dX3_leave_86 : decode cX3_leave 86 = .ok (.getfield 64, 3) := by decide +kernel
theorem dX3_leave_89 : decode cX3_leave 89 = .ok (.iconst 1, 1) := by decide +kernel
theorem dX3_leave_90 : decode cX3_leave 90 = .ok (.iadd, 1) := by decide +kernel
theorem dX3_leave_91 : decode cX3_leave 91 = .ok (.invokevirtual 179, 3) := by decide +kernel
theorem dX3_leave_94 : decode cX3_leave 94 = .ok (.return_, 1) := by decide +kernel
theorem dX3_come_0 : decode cX3_come 0 = .ok (.iload_n 1, 1) := by decide +kernel
theorem dX3_come_1 : decode cX3_come 1 = .ok (.ifCond .lt 19, 3) := by decide +kernel
theorem dX3_come_4 : decode cX3_come 4 = .ok (.iload_n 1, 1) := by decide +kernel
theorem dX3_come_5 : decode cX3_come 5 = .ok (.sipush 1024, 3) := by decide +kernel
theorem dX3_come_8 : decode cX3_come 8 = .ok (.if_icmp .ge 12, 3) := by decide +kernel
theorem dX3_come_11 : decode cX3_come 11 = .ok (.aload_n 0, 1) := by decide +kernel
theorem dX3_come_12 : decode cX3_come 12 = .ok (.getfield 28, 3) := by decide +kernel
theorem dX3_come_15 : decode cX3_come 15 = .ok (.iload_n 1, 1) := by decide +kernel
theorem dX3_come_16 : decode cX3_come 16 = .ok (.baload, 1) := by decide +kernel
theorem dX3_come_17 : decode cX3_come 17 = .ok (.ifCond .ne 4, 3) := by decide +kernel
theorem dX3_come_20 : decode cX3_come 20 = .ok (.return_, 1) := by decide +kernel
theorem dX3_come_21 : decode cX3_come 21 = .ok (.iload_n 1, 1) := by decide +kernel
theorem dX3_come_22 : decode cX3_come 22 = .ok (.aload_n 0, 1) := by decide +kernel
theorem dX3_come_23 : decode cX3_come 23 = .ok (.getfield 64, 3) := by decide +kernel
theorem dX3_come_26 : decode cX3_come 26 = .ok (.if_icmp .le 11, 3) := by decide +kernel
theorem dX3_come_29 : decode cX3_come 29 = .ok (.aload_n 0, 1) := by decide +kernel
theorem dX3_come_30 : decode cX3_come 30 = .ok (.iload_n 1, 1) := by decide +kernel
theorem dX3_come_31 : decode cX3_come 31 = .ok (.invokevirtual 128, 3) := by decide +kernel
theorem dX3_come_34 : decode cX3_come 34 = .ok (.goto 8, 3) := by decide +kernel
theorem dX3_come_37 : decode cX3_come 37 = .ok (.aload_n 0, 1) := by decide +kernel
theorem dX3_come_38 : decode cX3_come 38 = .ok (.iload_n 1, 1) := by decide +kernel
theorem dX3_come_39 : decode cX3_come 39 = .ok (.invokevirtual 182, 3) := by decide +kernel
theorem dX3_come_42 : decode cX3_come 42 = .ok (.return_, 1) := by decide +kernel
theorem dX3_join_0 : decode cX3_join 0 = .ok (.iload_n 1, 1) := by decide +kernel
theorem dX3_join_1 : decode cX3_join 1 = .ok (.bipush 40, 2) := by decide +kernel
theorem dX3_join_3 : decode cX3_join 3 = .ok (.imul, 1) := by decide +kernel
theorem dX3_join_4 : decode cX3_join 4 = .ok (.istore_n 2, 1) := by decide +kernel
theorem dX3_join_5 : decode cX3_join 5 = .ok (.aload_n 0, 1) := by decide +kernel
theorem dX3_join_6 : decode cX3_join 6 = .ok (.getfield 31, 3) := by decide +kernel
theorem dX3_join_9 : decode cX3_join 9 = .ok (.iload_n 1, 1) := by decide +kernel
theorem dX3_join_10 : decode cX3_join 10 = .ok (.baload, 1) := by decide +kernel
theorem dX3_join_11 : decode cX3_join 11 = .ok (.ifCond .ne 46, 3) := by decide +kernel
theorem dX3_join_14 : decode cX3_join 14 = .ok (.aload_n 0, 1) := by decide +kernel
theorem dX3_join_15 : decode cX3_join 15 = .ok (.getfield 31, 3) := by decide +kernel
theorem dX3_join_18 : decode cX3_join 18 = .ok (.iload_n 1, 1) := by decide +kernel
theorem dX3_join_19 : decode cX3_join 19 = .ok (.iconst 1, 1) := by decide +kernel
theorem dX3_join_20 : decode cX3_join 20 = .ok (.bastore, 1) := by decide +kernel
theorem dX3_join_21 : decode cX3_join 21 = .ok (.aload_n 0, 1) := by decide +kernel
theorem dX3_join_22 : decode cX3_join 22 = .ok (.getfield 34, 3) := by decide +kernel
theorem dX3_join_25 : decode cX3_join 25 = .ok (.iload_n 1, 1) := by decide +kernel
theorem dX3_join_26 : decode cX3_join 26 = .ok (.aload_n 0, 1) := by decide +kernel
theorem dX3_join_27 : decode cX3_join 27 = .ok (.getfield 105, 3) := by decide +kernel
theorem dX3_join_30 : decode cX3_join 30 = .ok (.lastore, 1) := by decide +kernel
theorem dX3_join_31 : decode cX3_join 31 = .ok (.aload_n 0, 1) := by decide +kernel
theorem dX3_join_32 : decode cX3_join 32 = .ok (.getfield 37, 3) := by decide +kernel
theorem dX3_join_35 : decode cX3_join 35 = .ok (.iload_n 1, 1) := by decide +kernel
theorem dX3_join_36 : decode cX3_join 36 = .ok (.aload_n 0, 1) := by decide +kernel
theorem dX3_join_37 : decode cX3_join 37 = .ok (.getfield 98, 3) := by decide +kernel
theorem dX3_join_40 : decode cX3_join 40 = .ok (.lastore, 1) := by decide +kernel
theorem dX3_join_41 : decode cX3_join 41 = .ok (.aload_n 0, 1) := by decide +kernel
theorem dX3_join_42 : decode cX3_join 42 = .ok (.getfield 25, 3) := by decide +kernel
theorem dX3_join_45 : decode cX3_join 45 = .ok (.iconst 0, 1) := by decide +kernel
theorem dX3_join_46 : decode cX3_join 46 = .ok (.aload_n 0, 1) := by decide +kernel
theorem dX3_join_47 : decode cX3_join 47 = .ok (.getfield 41, 3) := by decide +kernel
theorem dX3_join_50 : decode cX3_join 50 = .ok (.iload_n 2, 1) := by decide +kernel
theorem dX3_join_51 : decode cX3_join 51 = .ok (.bipush 40, 2) := by decide +kernel
theorem dX3_join_53 : decode cX3_join 53 = .ok (.invokestatic 134, 3) := by decide +kernel
theorem dX3_join_56 : decode cX3_join 56 = .ok (.return_, 1) := by decide +kernel
theorem dX3_join_57 : decode cX3_join 57 = .ok (.aload_n 0, 1) := by decide +kernel
theorem dX3_join_58 : decode cX3_join 58 = .ok (.getfield 105, 3) := by decide +kernel
theorem dX3_join_61 : decode cX3_join 61 = .ok (.aload_n 0, 1) := by decide +kernel
theorem dX3_join_62 : decode cX3_join 62 = .ok (.getfield 34, 3) := by decide +kernel
theorem dX3_join_65 : decode cX3_join 65 = .ok (.iload_n 1, 1) := by decide +kernel
theorem dX3_join_66 : decode cX3_join 66 = .ok (.laload, 1) := by decide +kernel
theorem dX3_join_67 : decode cX3_join 67 = .ok (.lxor, 1) := by decide +kernel
theorem dX3_join_68 : decode cX3_join 68 = .ok (.aload_n 0, 1) := by decide +kernel
theorem dX3_join_69 : decode cX3_join 69 = .ok (.getfield 108, 3) := by decide +kernel
theorem dX3_join_72 : decode cX3_join 72 = .ok (.ldc2_w 185, 3) := by decide +kernel
theorem dX3_join_75 : decode cX3_join 75 = .ok (.lxor, 1) := by decide +kernel
theorem dX3_join_76 : decode cX3_join 76 = .ok (.land, 1) := by decide +kernel
theorem dX3_join_77 : decode cX3_join 77 = .ok (.lconst 0, 1) := by decide +kernel
theorem dX3_join_78 : decode cX3_join 78 = .ok (.lcmp, 1) := by decide +kernel
theorem dX3_join_79 : decode cX3_join 79 = .ok (.ifCond .eq 9, 3) := by decide +kernel
theorem dX3_join_82 : decode cX3_join 82 = .ok (.aload_n 0, 1) := by decide +kernel
theorem dX3_join_83 : decode cX3_join 83 = .ok (.bipush 9, 2) := by decide +kernel
theorem dX3_join_85 : decode cX3_join 85 = .ok (.invokevirtual 131, 3) := by decide +kernel
theorem dX3_join_88 : decode cX3_join 88 = .ok (.aload_n 0, 1) := by decide +kernel
theorem dX3_join_89 : decode cX3_join 89 = .ok (.getfield 34, 3) := by decide +kernel
theorem dX3_join_92 : decode cX3_join 92 = .ok (.iload_n 1, 1) := by decide +kernel
theorem dX3_join_93 : decode cX3_join 93 = .ok (.dup2, 1) := by decide +kernel
theorem dX3_join_94 : decode cX3_join 94 = .ok (.laload, 1) := by decide +kernel
theorem dX3_join_95 : decode cX3_join 95 = .ok (.aload_n 0, 1) := by decide +kernel
theorem dX3_join_96 : decode cX3_join 96 = .ok (.getfield 105, 3) := by decide +kernel
theorem dX3_join_99 : decode cX3_join 99 = .ok (.land, 1) := by decide +kernel
theorem dX3_join_100 : decode cX3_join 100 = .ok (.lastore, 1) := by decide +kernel
theorem dX3_join_101 : decode cX3_join 101 = .ok (.aload_n 0, 1) := by decide +kernel
theorem dX3_join_102 : decode cX3_join 102 = .ok (.getfield 37, 3) := by decide +kernel
theorem dX3_join_105 : decode cX3_join 105 = .ok (.iload_n 1, 1) := by decide +kernel
theorem dX3_join_106 : decode cX3_join 106 = .ok (.aload_n 0, 1) := by decide +kernel
theorem dX3_join_107 : decode cX3_join 107 = .ok (.getfield 37, 3) := by decide +kernel
theorem dX3_join_110 : decode cX3_join 110 = .ok (.iload_n 1, 1) := by decide +kernel
theorem dX3_join_111 : decode cX3_join 111 = .ok (.laload, 1) := by decide +kernel
theorem dX3_join_112 : decode cX3_join 112 = .ok (.aload_n 0, 1) := by decide +kernel
theorem dX3_join_113 : decode cX3_join 113 = .ok (.getfield 98, 3) := by decide +kernel
theorem dX3_join_116 : decode cX3_join 116 = .ok (.lor, 1) := by decide +kernel
theorem dX3_join_117 : decode cX3_join 117 = .ok (.aload_n 0, 1) := by decide +kernel
theorem dX3_join_118 : decode cX3_join 118 = .ok (.getfield 34, 3) := by decide +kernel
theorem dX3_join_121 : decode cX3_join 121 = .ok (.iload_n 1, 1) := by decide +kernel
theorem dX3_join_122 : decode cX3_join 122 = .ok (.laload, 1) := by decide +kernel
theorem dX3_join_123 : decode cX3_join 123 = .ok (.land, 1) := by decide +kernel
theorem dX3_join_124 : decode cX3_join 124 = .ok (.lastore, 1) := by decide +kernel
theorem dX3_join_125 : decode cX3_join 125 = .ok (.iconst 0, 1) := by decide +kernel
theorem dX3_join_126 : decode cX3_join 126 = .ok (.istore_n 3, 1) := by decide +kernel
theorem dX3_join_127 : decode cX3_join 127 = .ok (.iload_n 3, 1) := by decide +kernel
theorem dX3_join_128 : decode cX3_join 128 = .ok (.bipush 40, 2) := by decide +kernel
theorem dX3_join_130 : decode cX3_join 130 = .ok (.if_icmp .ge 63, 3) := by decide +kernel
theorem dX3_join_133 : decode cX3_join 133 = .ok (.aload_n 0, 1) := by decide +kernel
theorem dX3_join_134 : decode cX3_join 134 = .ok (.getfield 34, 3) := by decide +kernel
theorem dX3_join_137 : decode cX3_join 137 = .ok (.iload_n 1, 1) := by decide +kernel
theorem dX3_join_138 : decode cX3_join 138 = .ok (.laload, 1) := by decide +kernel
theorem dX3_join_139 : decode cX3_join 139 = .ok (.iload_n 3, 1) := by decide +kernel
theorem dX3_join_140 : decode cX3_join 140 = .ok (.lushr, 1) := by decide +kernel
theorem dX3_join_141 : decode cX3_join 141 = .ok (.lconst 1, 1) := by decide +kernel
theorem dX3_join_142 : decode cX3_join 142 = .ok (.land, 1) := by decide +kernel
theorem dX3_join_143 : decode cX3_join 143 = .ok (.lconst 0, 1) := by decide +kernel
theorem dX3_join_144 : decode cX3_join 144 = .ok (.lcmp, 1) := by decide +kernel
theorem dX3_join_145 : decode cX3_join 145 = .ok (.ifCond .eq 7, 3) := by decide +kernel
theorem dX3_join_148 : decode cX3_join 148 = .ok (.iconst 1, 1) := by decide +kernel
theorem dX3_join_149 : decode cX3_join 149 = .ok (.goto 4, 3) := by decide +kernel
theorem dX3_join_152 : decode cX3_join 152 = .ok (.iconst 0, 1) := by decide +kernel
theorem dX3_join_153 : decode cX3_join 153 = .ok (.istore 4, 2) := by decide +kernel
theorem dX3_join_155 : decode cX3_join 155 = .ok (.aload_n 0, 1) := by decide +kernel
theorem dX3_join_156 : decode cX3_join 156 = .ok (.getfield 41, 3) := by decide +kernel
theorem dX3_join_159 : decode cX3_join 159 = .ok (.iload_n 2, 1) := by decide +kernel
theorem dX3_join_160 : decode cX3_join 160 = .ok (.iload_n 3, 1) := by decide +kernel
theorem dX3_join_161 : decode cX3_join 161 = .ok (.iadd, 1) := by decide +kernel
theorem dX3_join_162 : decode cX3_join 162 = .ok (.iload 4, 2) := by decide +kernel
theorem dX3_join_164 : decode cX3_join 164 = .ok (.ifCond .eq 21, 3) := by decide +kernel
theorem dX3_join_167 : decode cX3_join 167 = .ok (.aload_n 0, 1) := by decide +kernel
theorem dX3_join_168 : decode cX3_join 168 = .ok (.getfield 41, 3) := by decide +kernel
theorem dX3_join_171 : decode cX3_join 171 = .ok (.iload_n 2, 1) := by decide +kernel
theorem dX3_join_172 : decode cX3_join 172 = .ok (.iload_n 3, 1) := by decide +kernel
theorem dX3_join_173 : decode cX3_join 173 = .ok (.iadd, 1) := by decide +kernel
theorem dX3_join_174 : decode cX3_join 174 = .ok (.laload, 1) := by decide +kernel
theorem dX3_join_175 : decode cX3_join 175 = .ok (.aload_n 0, 1) := by decide +kernel
theorem dX3_join_176 : decode cX3_join 176 = .ok (.getfield 25, 3) := by decide +kernel
theorem dX3_join_179 : decode cX3_join 179 = .ok (.iload_n 3, 1) := by decide +kernel
theorem dX3_join_180 : decode cX3_join 180 = .ok (.laload, 1) := by decide +kernel
theorem dX3_join_181 : decode cX3_join 181 = .ok (.lor, 1) := by decide +kernel
theorem dX3_join_182 : decode cX3_join 182 = .ok (.goto 4, 3) := by decide +kernel
theorem dX3_join_185 : decode cX3_join 185 = .ok (.lconst 0, 1) := by decide +kernel
theorem dX3_join_186 : decode cX3_join 186 = .ok (.lastore, 1) := by decide +kernel
theorem dX3_join_187 : decode cX3_join 187 = .ok (.iinc 3 1, 3) := by decide +kernel
theorem dX3_join_190 : decode cX3_join 190 = .ok (.goto (-63), 3) := by decide +kernel
theorem dX3_join_193 : decode cX3_join 193 = .ok (.return_, 1) := by decide +kernel
theorem dX3_comeBack_0 : decode cX3_comeBack 0 = .ok (.aload_n 0, 1) := by decide +kernel
theorem dX3_comeBack_1 : decode cX3_comeBack 1 = .ok (.getfield 34, 3) := by decide +kernel
theorem dX3_comeBack_4 : decode cX3_comeBack 4 = .ok (.iload_n 1, 1) := by decide +kernel
theorem dX3_comeBack_5 : decode cX3_comeBack 5 = .ok (.laload, 1) := by decide +kernel
theorem dX3_comeBack_6 : decode cX3_comeBack 6 = .ok (.aload_n 0, 1) := by decide +kernel
theorem dX3_comeBack_7 : decode cX3_comeBack 7 = .ok (.getfield 105, 3) := by decide +kernel
theorem dX3_comeBack_10 : decode cX3_comeBack 10 = .ok (.ldc2_w 185, 3) := by decide +kernel
theorem dX3_comeBack_13 : decode cX3_comeBack 13 = .ok (.lxor, 1) := by decide +kernel
theorem dX3_comeBack_14 : decode cX3_comeBack 14 = .ok (.land, 1) := by decide +kernel
theorem dX3_comeBack_15 : decode cX3_comeBack 15 = .ok (.lconst 0, 1) := by decide +kernel
theorem dX3_comeBack_16 : decode cX3_comeBack 16 = .ok (.lcmp, 1) := by decide +kernel
theorem dX3_comeBack_17 : decode cX3_comeBack 17 = .ok (.ifCond .ne 63, 3) := by decide +kernel
theorem dX3_comeBack_20 : decode cX3_comeBack 20 = .ok (.aload_n 0, 1) := by decide +kernel
theorem dX3_comeBack_21 : decode cX3_comeBack 21 = .ok (.getfield 105, 3) := by decide +kernel
theorem dX3_comeBack_24 : decode cX3_comeBack 24 = .ok (.aload_n 0, 1) := by decide +kernel
theorem dX3_comeBack_25 : decode cX3_comeBack 25 = .ok (.getfield 34, 3) := by decide +kernel
theorem dX3_comeBack_28 : decode cX3_comeBack 28 = .ok (.iload_n 1, 1) := by decide +kernel
theorem dX3_comeBack_29 : decode cX3_comeBack 29 = .ok (.laload, 1) := by decide +kernel
theorem dX3_comeBack_30 : decode cX3_comeBack 30 = .ok (.ldc2_w 185, 3) := by decide +kernel
theorem dX3_comeBack_33 : decode cX3_comeBack 33 = .ok (.lxor, 1) := by decide +kernel
theorem dX3_comeBack_34 : decode cX3_comeBack 34 = .ok (.land, 1) := by decide +kernel
theorem dX3_comeBack_35 : decode cX3_comeBack 35 = .ok (.aload_n 0, 1) := by decide +kernel
theorem dX3_comeBack_36 : decode cX3_comeBack 36 = .ok (.getfield 108, 3) := by decide +kernel
theorem dX3_comeBack_39 : decode cX3_comeBack 39 = .ok (.ldc2_w 185, 3) := by decide +kernel
theorem dX3_comeBack_42 : decode cX3_comeBack 42 = .ok (.lxor, 1) := by decide +kernel
theorem dX3_comeBack_43 : decode cX3_comeBack 43 = .ok (.land, 1) := by decide +kernel
theorem dX3_comeBack_44 : decode cX3_comeBack 44 = .ok (.lconst 0, 1) := by decide +kernel
theorem dX3_comeBack_45 : decode cX3_comeBack 45 = .ok (.lcmp, 1) := by decide +kernel
theorem dX3_comeBack_46 : decode cX3_comeBack 46 = .ok (.ifCond .ne 34, 3) := by decide +kernel
theorem dX3_comeBack_49 : decode cX3_comeBack 49 = .ok (.aload_n 0, 1) := by decide +kernel
theorem dX3_comeBack_50 : decode cX3_comeBack 50 = .ok (.getfield 98, 3) := by decide +kernel
theorem dX3_comeBack_53 : decode cX3_comeBack 53 = .ok (.aload_n 0, 1) := by decide +kernel
theorem dX3_comeBack_54 : decode cX3_comeBack 54 = .ok (.getfield 34, 3) := by decide +kernel
theorem dX3_comeBack_57 : decode cX3_comeBack 57 = .ok (.iload_n 1, 1) := by decide +kernel
theorem dX3_comeBack_58 : decode cX3_comeBack 58 = .ok (.laload, 1) := by decide +kernel
theorem dX3_comeBack_59 : decode cX3_comeBack 59 = .ok (.land, 1) := by decide +kernel
theorem dX3_comeBack_60 : decode cX3_comeBack 60 = .ok (.aload_n 0, 1) := by decide +kernel
theorem dX3_comeBack_61 : decode cX3_comeBack 61 = .ok (.getfield 37, 3) := by decide +kernel
theorem dX3_comeBack_64 : decode cX3_comeBack 64 = .ok (.iload_n 1, 1) := by decide +kernel
theorem dX3_comeBack_65 : decode cX3_comeBack 65 = .ok (.laload, 1) := by decide +kernel
theorem dX3_comeBack_66 : decode cX3_comeBack 66 = .ok (.ldc2_w 185, 3) := by decide +kernel
theorem dX3_comeBack_69 : decode cX3_comeBack 69 = .ok (.lxor, 1) := by decide +kernel
theorem dX3_comeBack_70 : decode cX3_comeBack 70 = .ok (.land, 1) := by decide +kernel
theorem dX3_comeBack_71 : decode cX3_comeBack 71 = .ok (.lconst 0, 1) := by decide +kernel
theorem dX3_comeBack_72 : decode cX3_comeBack 72 = .ok (.lcmp, 1) := by decide +kernel
theorem dX3_comeBack_73 : decode cX3_comeBack 73 = .ok (.ifCond .ne 7, 3) := by decide +kernel
theorem dX3_comeBack_76 : decode cX3_comeBack 76 = .ok (.iconst 1, 1) := by decide +kernel
theorem dX3_comeBack_77 : decode cX3_comeBack 77 = .ok (.goto 4, 3) := by decide +kernel
theorem dX3_comeBack_80 : decode cX3_comeBack 80 = .ok (.iconst 0, 1) := by decide +kernel
theorem dX3_comeBack_81 : decode cX3_comeBack 81 = .ok (.istore_n 2, 1) := by decide +kernel
theorem dX3_comeBack_82 : decode cX3_comeBack 82 = .ok (.iconst 0, 1) := by decide +kernel
theorem dX3_comeBack_83 : decode cX3_comeBack 83 = .ok (.istore_n 3, 1) := by decide +kernel
theorem dX3_comeBack_84 : decode cX3_comeBack 84 = .ok (.iload_n 3, 1) := by decide +kernel
theorem dX3_comeBack_85 : decode cX3_comeBack 85 = .ok (.bipush 40, 2) := by decide +kernel
theorem dX3_comeBack_87 : decode cX3_comeBack 87 = .ok (.if_icmp .ge 65, 3) := by decide +kernel
theorem dX3_comeBack_90 : decode cX3_comeBack 90 = .ok (.aload_n 0, 1) := by decide +kernel
theorem dX3_comeBack_91 : decode cX3_comeBack 91 = .ok (.getfield 34, 3) := by decide +kernel
theorem dX3_comeBack_94 : decode cX3_comeBack 94 = .ok (.iload_n 1, 1) := by decide +kernel
theorem dX3_comeBack_95 : decode cX3_comeBack 95 = .ok (.laload, 1) := by decide +kernel
theorem dX3_comeBack_96 : decode cX3_comeBack 96 = .ok (.iload_n 3, 1) := by decide +kernel
theorem dX3_comeBack_97 : decode cX3_comeBack 97 = .ok (.lushr, 1) := by decide +kernel
theorem dX3_comeBack_98 : decode cX3_comeBack 98 = .ok (.lconst 1, 1) := by decide +kernel
theorem dX3_comeBack_99 : decode cX3_comeBack 99 = .ok (.land, 1) := by decide +kernel
theorem dX3_comeBack_100 : decode cX3_comeBack 100 = .ok (.lconst 0, 1) := by decide +kernel
theorem dX3_comeBack_101 : decode cX3_comeBack 101 = .ok (.lcmp, 1) := by decide +kernel
theorem dX3_comeBack_102 : decode cX3_comeBack 102 = .ok (.ifCond .eq 7, 3) := by decide +kernel
theorem dX3_comeBack_105 : decode cX3_comeBack 105 = .ok (.iconst 1, 1) := by decide +kernel
theorem dX3_comeBack_106 : decode cX3_comeBack 106 = .ok (.goto 4, 3) := by decide +kernel
theorem dX3_comeBack_109 : decode cX3_comeBack 109 = .ok (.iconst 0, 1) := by decide +kernel
theorem dX3_comeBack_110 : decode cX3_comeBack 110 = .ok (.istore 4, 2) := by decide +kernel
theorem dX3_comeBack_112 : decode cX3_comeBack 112 = .ok (.iload 4, 2) := by decide +kernel
theorem dX3_comeBack_114 : decode cX3_comeBack 114 = .ok (.ifCond .eq 32, 3) := by decide +kernel
theorem dX3_comeBack_117 : decode cX3_comeBack 117 = .ok (.aload_n 0, 1) := by decide +kernel
theorem dX3_comeBack_118 : decode cX3_comeBack 118 = .ok (.getfield 25, 3) := by decide +kernel
theorem dX3_comeBack_121 : decode cX3_comeBack 121 = .ok (.iload_n 3, 1) := by decide +kernel
theorem dX3_comeBack_122 : decode cX3_comeBack 122 = .ok (.laload, 1) := by decide +kernel
theorem dX3_comeBack_123 : decode cX3_comeBack 123 = .ok (.aload_n 0, 1) := by decide +kernel
theorem dX3_comeBack_124 : decode cX3_comeBack 124 = .ok (.getfield 41, 3) := by decide +kernel
theorem dX3_comeBack_127 : decode cX3_comeBack 127 = .ok (.iload_n 1, 1) := by decide +kernel
theorem dX3_comeBack_128 : decode cX3_comeBack 128 = .ok (.bipush 40, 2) := by decide +kernel
theorem dX3_comeBack_130 : decode cX3_comeBack 130 = .ok (.imul, 1) := by decide +kernel
theorem dX3_comeBack_131 : decode cX3_comeBack 131 = .ok (.iload_n 3, 1) := by decide +kernel
theorem dX3_comeBack_132 : decode cX3_comeBack 132 = .ok (.iadd, 1) := by decide +kernel
theorem dX3_comeBack_133 : decode cX3_comeBack 133 = .ok (.laload, 1) := by decide +kernel
theorem dX3_comeBack_134 : decode cX3_comeBack 134 = .ok (.ldc2_w 185, 3) := by decide +kernel
theorem dX3_comeBack_137 : decode cX3_comeBack 137 = .ok (.lxor, 1) := by decide +kernel
theorem dX3_comeBack_138 : decode cX3_comeBack 138 = .ok (.land, 1) := by decide +kernel
theorem dX3_comeBack_139 : decode cX3_comeBack 139 = .ok (.lconst 0, 1) := by decide +kernel
theorem dX3_comeBack_140 : decode cX3_comeBack 140 = .ok (.lcmp, 1) := by decide +kernel
theorem dX3_comeBack_141 : decode cX3_comeBack 141 = .ok (.ifCond .eq 5, 3) := by decide +kernel
theorem dX3_comeBack_144 : decode cX3_comeBack 144 = .ok (.iconst 0, 1) := by decide +kernel
theorem dX3_comeBack_145 : decode cX3_comeBack 145 = .ok (.istore_n 2, 1) := by decide +kernel
theorem dX3_comeBack_146 : decode cX3_comeBack 146 = .ok (.iinc 3 1, 3) := by decide +kernel
theorem dX3_comeBack_149 : decode cX3_comeBack 149 = .ok (.goto (-65), 3) := by decide +kernel
theorem dX3_comeBack_152 : decode cX3_comeBack 152 = .ok (.iload_n 2, 1) := by decide +kernel
theorem dX3_comeBack_153 : decode cX3_comeBack 153 = .ok (.ifCond .ne 9, 3) := by decide +kernel
theorem dX3_comeBack_156 : decode cX3_comeBack 156 = .ok (.aload_n 0, 1) := by decide +kernel
theorem dX3_comeBack_157 : decode cX3_comeBack 157 = .ok (.bipush 9, 2) := by decide +kernel
theorem dX3_comeBack_159 : decode cX3_comeBack 159 = .ok (.invokevirtual 131, 3) := by decide +kernel
theorem dX3_comeBack_162 : decode cX3_comeBack 162 = .ok (.return_, 1) := by decide +kernel
theorem dX3_has_0 : decode cX3_has 0 = .ok (.aload_n 0, 1) := by decide +kernel
theorem dX3_has_1 : decode cX3_has 1 = .ok (.getfield 44, 3) := by decide +kernel
theorem dX3_has_4 : decode cX3_has 4 = .ok (.lload_n 1, 1) := by decide +kernel
theorem dX3_has_5 : decode cX3_has 5 = .ok (.invokevirtual 120, 3) := by decide +kernel
theorem dX3_has_8 : decode cX3_has 8 = .ok (.iload_n 3, 1) := by decide +kernel
theorem dX3_has_9 : decode cX3_has 9 = .ok (.iand, 1) := by decide +kernel
theorem dX3_has_10 : decode cX3_has 10 = .ok (.ifCond .eq 7, 3) := by decide +kernel
theorem dX3_has_13 : decode cX3_has 13 = .ok (.iconst 1, 1) := by decide +kernel
theorem dX3_has_14 : decode cX3_has 14 = .ok (.goto 4, 3) := by decide +kernel
theorem dX3_has_17 : decode cX3_has 17 = .ok (.iconst 0, 1) := by decide +kernel
theorem dX3_has_18 : decode cX3_has 18 = .ok (.ireturn, 1) := by decide +kernel
theorem dX3_writes_0 : decode cX3_writes 0 = .ok (.lload_n 0, 1) := by decide +kernel
theorem dX3_writes_1 : decode cX3_writes 1 = .ok (.invokestatic 187, 3) := by decide +kernel
theorem dX3_writes_4 : decode cX3_writes 4 = .ok (.bipush 9, 2) := by decide +kernel
theorem dX3_writes_6 : decode cX3_writes 6 = .ok (.if_icmp .ne 7, 3) := by decide +kernel
theorem dX3_writes_9 : decode cX3_writes 9 = .ok (.iconst 1, 1) := by decide +kernel
theorem dX3_writes_10 : decode cX3_writes 10 = .ok (.goto 4, 3) := by decide +kernel
theorem dX3_writes_13 : decode cX3_writes 13 = .ok (.iconst 0, 1) := by decide +kernel
theorem dX3_writes_14 : decode cX3_writes 14 = .ok (.ireturn, 1) := by decide +kernel
theorem dX3_isNumber_0 : decode cX3_isNumber 0 = .ok (.lload_n 0, 1) := by decide +kernel
theorem dX3_isNumber_1 : decode cX3_isNumber 1 = .ok (.ldc2_w 190, 3) := by decide +kernel
theorem dX3_isNumber_4 : decode cX3_isNumber 4 = .ok (.lcmp, 1) := by decide +kernel
theorem dX3_isNumber_5 : decode cX3_isNumber 5 = .ok (.ifCond .lt 15, 3) := by decide +kernel
theorem dX3_isNumber_8 : decode cX3_isNumber 8 = .ok (.lload_n 0, 1) := by decide +kernel
theorem dX3_isNumber_9 : decode cX3_isNumber 9 = .ok (.ldc2_w 192, 3) := by decide +kernel
theorem dX3_isNumber_12 : decode cX3_isNumber 12 = .ok (.lcmp, 1) := by decide +kernel
theorem dX3_isNumber_13 : decode cX3_isNumber 13 = .ok (.ifCond .gt 7, 3) := by decide +kernel
theorem dX3_isNumber_16 : decode cX3_isNumber 16 = .ok (.iconst 1, 1) := by decide +kernel
theorem dX3_isNumber_17 : decode cX3_isNumber 17 = .ok (.goto 4, 3) := by decide +kernel
theorem dX3_isNumber_20 : decode cX3_isNumber 20 = .ok (.iconst 0, 1) := by decide +kernel
theorem dX3_isNumber_21 : decode cX3_isNumber 21 = .ok (.ireturn, 1) := by decide +kernel
theorem dX3_take_0 : decode cX3_take 0 = .ok (.aload_n 0, 1) := by decide +kernel
theorem dX3_take_1 : decode cX3_take 1 = .ok (.getfield 95, 3) := by decide +kernel
theorem dX3_take_4 : decode cX3_take 4 = .ok (.ifCond .ne 10, 3) := by decide +kernel
theorem dX3_take_7 : decode cX3_take 7 = .ok (.aload_n 0, 1) := by decide +kernel
theorem dX3_take_8 : decode cX3_take 8 = .ok (.iconst 1, 1) := by decide +kernel
theorem dX3_take_9 : decode cX3_take 9 = .ok (.invokevirtual 131, 3) := by decide +kernel
theorem dX3_take_12 : decode cX3_take 12 = .ok (.lconst 0, 1) := by decide +kernel
theorem dX3_take_13 : decode cX3_take 13 = .ok (.lreturn, 1) := by decide +kernel
theorem dX3_take_14 : decode cX3_take 14 = .ok (.aload_n 0, 1) := by decide +kernel
theorem dX3_take_15 : decode cX3_take 15 = .ok (.dup, 1) := by decide +kernel
theorem dX3_take_16 : decode cX3_take 16 = .ok (.getfield 95, 3) := by decide +kernel
theorem dX3_take_19 : decode cX3_take 19 = .ok (.iconst 1, 1) := by decide +kernel
theorem dX3_take_20 : decode cX3_take 20 = .ok (.isub, 1) := by decide +kernel
theorem dX3_take_21 : decode cX3_take 21 = .ok (.putfield 95, 3) := by decide +kernel
theorem dX3_take_24 : decode cX3_take 24 = .ok (.aload_n 0, 1) := by decide +kernel
theorem dX3_take_25 : decode cX3_take 25 = .ok (.aload_n 0, 1) := by decide +kernel
theorem dX3_take_26 : decode cX3_take 26 = .ok (.getfield 15, 3) := by decide +kernel
theorem dX3_take_29 : decode cX3_take 29 = .ok (.aload_n 0, 1) := by decide +kernel
theorem dX3_take_30 : decode cX3_take 30 = .ok (.getfield 95, 3) := by decide +kernel
theorem dX3_take_33 : decode cX3_take 33 = .ok (.laload, 1) := by decide +kernel
theorem dX3_take_34 : decode cX3_take 34 = .ok (.putfield 194, 3) := by decide +kernel
theorem dX3_take_37 : decode cX3_take 37 = .ok (.aload_n 0, 1) := by decide +kernel
theorem dX3_take_38 : decode cX3_take 38 = .ok (.aload_n 0, 1) := by decide +kernel
theorem dX3_take_39 : decode cX3_take 39 = .ok (.getfield 18, 3) := by decide +kernel
theorem dX3_take_42 : decode cX3_take 42 = .ok (.aload_n 0, 1) := by decide +kernel
theorem dX3_take_43 : decode cX3_take 43 = .ok (.getfield 95, 3) := by decide +kernel
theorem dX3_take_46 : decode cX3_take 46 = .ok (.baload, 1) := by decide +kernel
theorem dX3_take_47 : decode cX3_take 47 = .ok (.putfield 197, 3) := by decide +kernel
theorem dX3_take_50 : decode cX3_take 50 = .ok (.aload_n 0, 1) := by decide +kernel
theorem dX3_take_51 : decode cX3_take 51 = .ok (.getfield 11, 3) := by decide +kernel
theorem dX3_take_54 : decode cX3_take 54 = .ok (.aload_n 0, 1) := by decide +kernel
theorem dX3_take_55 : decode cX3_take 55 = .ok (.getfield 95, 3) := by decide +kernel
theorem dX3_take_58 : decode cX3_take 58 = .ok (.laload, 1) := by decide +kernel
theorem dX3_take_59 : decode cX3_take 59 = .ok (.lreturn, 1) := by decide +kernel
theorem dX3_takeOnly_0 : decode cX3_takeOnly 0 = .ok (.aload_n 0, 1) := by decide +kernel
theorem dX3_takeOnly_1 : decode cX3_takeOnly 1 = .ok (.invokevirtual 200, 3) := by decide +kernel
theorem dX3_takeOnly_4 : decode cX3_takeOnly 4 = .ok (.lload_n 1, 1) := by decide +kernel
theorem dX3_takeOnly_5 : decode cX3_takeOnly 5 = .ok (.lcmp, 1) := by decide +kernel
theorem dX3_takeOnly_6 : decode cX3_takeOnly 6 = .ok (.ifCond .eq 8, 3) := by decide +kernel
theorem dX3_takeOnly_9 : decode cX3_takeOnly 9 = .ok (.aload_n 0, 1) := by decide +kernel
theorem dX3_takeOnly_10 : decode cX3_takeOnly 10 = .ok (.iconst 3, 1) := by decide +kernel
theorem dX3_takeOnly_11 : decode cX3_takeOnly 11 = .ok (.invokevirtual 131, 3) := by decide +kernel
theorem dX3_takeOnly_14 : decode cX3_takeOnly 14 = .ok (.return_, 1) := by decide +kernel
theorem dX3_takeReference_0 : decode cX3_takeReference 0 = .ok (.aload_n 0, 1) := by decide +kernel
theorem dX3_takeReference_1 : decode cX3_takeReference 1 = .ok (.invokevirtual 200, 3) := by decide +kernel
theorem dX3_takeReference_4 : decode cX3_takeReference 4 = .ok (.lstore_n 2, 1) := by decide +kernel
theorem dX3_takeReference_5 : decode cX3_takeReference 5 = .ok (.lload_n 2, 1) := by decide +kernel
theorem dX3_takeReference_6 : decode cX3_takeReference 6 = .ok (.invokestatic 116, 3) := by decide +kernel
theorem dX3_takeReference_9 : decode cX3_takeReference 9 = .ok (.ifCond .ne 11, 3) := by decide +kernel
theorem dX3_takeReference_12 : decode cX3_takeReference 12 = .ok (.aload_n 0, 1) := by decide +kernel
theorem dX3_takeReference_13 : decode cX3_takeReference 13 = .ok (.iconst 3, 1) := by decide +kernel
theorem dX3_takeReference_14 : decode cX3_takeReference 14 = .ok (.invokevirtual 131, 3) := by decide +kernel
theorem dX3_takeReference_17 : decode cX3_takeReference 17 = .ok (.goto 20, 3) := by decide +kernel
theorem dX3_takeReference_20 : decode cX3_takeReference 20 = .ok (.iload_n 1, 1) := by decide +kernel
theorem dX3_takeReference_21 : decode cX3_takeReference 21 = .ok (.ifCond .eq 16, 3) := by decide +kernel
theorem dX3_takeReference_24 : decode cX3_takeReference 24 = .ok (.lload_n 2, 1) := by decide +kernel
theorem dX3_takeReference_25 : decode cX3_takeReference 25 = .ok (.invokestatic 204, 3) := by decide +kernel
theorem dX3_takeReference_28 : decode cX3_takeReference 28 = .ok (.ifCond .ne 9, 3) := by decide +kernel
theorem dX3_takeReference_31 : decode cX3_takeReference 31 = .ok (.aload_n 0, 1) := by decide +kernel
theorem dX3_takeReference_32 : decode cX3_takeReference 32 = .ok (.bipush 7, 2) := by decide +kernel
theorem dX3_takeReference_34 : decode cX3_takeReference 34 = .ok (.invokevirtual 131, 3) := by decide +kernel
theorem dX3_takeReference_37 : decode cX3_takeReference 37 = .ok (.lload_n 2, 1) := by decide +kernel
theorem dX3_takeReference_38 : decode cX3_takeReference 38 = .ok (.invokestatic 207, 3) := by decide +kernel
theorem dX3_takeReference_41 : decode cX3_takeReference 41 = .ok (.lreturn, 1) := by decide +kernel
theorem dX3_takeReferenceTo_0 : decode cX3_takeReferenceTo 0 = .ok (.aload_n 0, 1) := by decide +kernel
theorem dX3_takeReferenceTo_1 : decode cX3_takeReferenceTo 1 = .ok (.invokevirtual 200, 3) := by decide +kernel
theorem dX3_takeReferenceTo_4 : decode cX3_takeReferenceTo 4 = .ok (.lstore 4, 2) := by decide +kernel
theorem dX3_takeReferenceTo_6 : decode cX3_takeReferenceTo 6 = .ok (.lload 4, 2) := by decide +kernel
theorem dX3_takeReferenceTo_8 : decode cX3_takeReferenceTo 8 = .ok (.invokestatic 116, 3) := by decide +kernel
theorem dX3_takeReferenceTo_11 : decode cX3_takeReferenceTo 11 = .ok (.ifCond .eq 13, 3) := by decide +kernel
theorem dX3_takeReferenceTo_14 : decode cX3_takeReferenceTo 14 = .ok (.lload 4, 2) := by decide +kernel
theorem dX3_takeReferenceTo_16 : decode cX3_takeReferenceTo 16 = .ok (.invokestatic 207, 3) := by decide +kernel
theorem dX3_takeReferenceTo_19 : decode cX3_takeReferenceTo 19 = .ok (.lload_n 1, 1) := by decide +kernel
theorem dX3_takeReferenceTo_20 : decode cX3_takeReferenceTo 20 = .ok (.lcmp, 1) := by decide +kernel
theorem dX3_takeReferenceTo_21 : decode cX3_takeReferenceTo 21 = .ok (.ifCond .eq 11, 3) := by decide +kernel
theorem dX3_takeReferenceTo_24 : decode cX3_takeReferenceTo 24 = .ok (.aload_n 0, 1) := by decide +kernel
theorem dX3_takeReferenceTo_25 : decode cX3_takeReferenceTo 25 = .ok (.iconst 3, 1) := by decide +kernel
theorem dX3_takeReferenceTo_26 : decode cX3_takeReferenceTo 26 = .ok (.invokevirtual 131, 3) := by decide +kernel
theorem dX3_takeReferenceTo_29 : decode cX3_takeReferenceTo 29 = .ok (.goto 21, 3) := by decide +kernel
theorem dX3_takeReferenceTo_32 : decode cX3_takeReferenceTo 32 = .ok (.iload_n 3, 1) := by decide +kernel
theorem dX3_takeReferenceTo_33 : decode cX3_takeReferenceTo 33 = .ok (.ifCond .eq 17, 3) := by decide +kernel
theorem dX3_takeReferenceTo_36 : decode cX3_takeReferenceTo 36 = .ok (.lload 4, 2) := by decide +kernel
theorem dX3_takeReferenceTo_38 : decode cX3_takeReferenceTo 38 = .ok (.invokestatic 204, 3) := by decide +kernel
theorem dX3_takeReferenceTo_41 : decode cX3_takeReferenceTo 41 = .ok (.ifCond .ne 9, 3) := by decide +kernel
theorem dX3_takeReferenceTo_44 : decode cX3_takeReferenceTo 44 = .ok (.aload_n 0, 1) := by decide +kernel
theorem dX3_takeReferenceTo_45 : decode cX3_takeReferenceTo 45 = .ok (.bipush 7, 2) := by decide +kernel
theorem dX3_takeReferenceTo_47 : decode cX3_takeReferenceTo 47 = .ok (.invokevirtual 131, 3) := by decide +kernel
theorem dX3_takeReferenceTo_50 : decode cX3_takeReferenceTo 50 = .ok (.return_, 1) := by decide +kernel
theorem dX3_put_0 : decode cX3_put 0 = .ok (.aload_n 0, 1) := by decide +kernel
theorem dX3_put_1 : decode cX3_put 1 = .ok (.lload_n 1, 1) := by decide +kernel
theorem dX3_put_2 : decode cX3_put 2 = .ok (.lconst 0, 1) := by decide +kernel
theorem dX3_put_3 : decode cX3_put 3 = .ok (.iconst 0, 1) := by decide +kernel
theorem dX3_put_4 : decode cX3_put 4 = .ok (.invokevirtual 211, 3) := by decide +kernel
theorem dX3_put_7 : decode cX3_put 7 = .ok (.return_, 1) := by decide +kernel
theorem dX3_putReference_0 : decode cX3_putReference 0 = .ok (.aload_n 0, 1) := by decide +kernel
theorem dX3_putReference_1 : decode cX3_putReference 1 = .ok (.getfield 95, 3) := by decide +kernel
theorem dX3_putReference_4 : decode cX3_putReference 4 = .ok (.bipush 64, 2) := by decide +kernel
theorem dX3_putReference_6 : decode cX3_putReference 6 = .ok (.if_icmp .lt 9, 3) := by decide +kernel
theorem dX3_putReference_9 : decode cX3_putReference 9 = .ok (.aload_n 0, 1) := by decide +kernel
theorem dX3_putReference_10 : decode cX3_putReference 10 = .ok (.iconst 2, 1) := by decide +kernel
theorem dX3_putReference_11 : decode cX3_putReference 11 = .ok (.invokevirtual 131, 3) := by decide +kernel
theorem dX3_putReference_14 : decode cX3_putReference 14 = .ok (.return_, 1) := by decide +kernel
theorem dX3_putReference_15 : decode cX3_putReference 15 = .ok (.aload_n 0, 1) := by decide +kernel
theorem dX3_putReference_16 : decode cX3_putReference 16 = .ok (.getfield 11, 3) := by decide +kernel
theorem dX3_putReference_19 : decode cX3_putReference 19 = .ok (.aload_n 0, 1) := by decide +kernel
theorem dX3_putReference_20 : decode cX3_putReference 20 = .ok (.getfield 95, 3) := by decide +kernel
theorem dX3_putReference_23 : decode cX3_putReference 23 = .ok (.lload_n 1, 1) := by decide +kernel
theorem dX3_putReference_24 : decode cX3_putReference 24 = .ok (.lastore, 1) := by decide +kernel
theorem dX3_putReference_25 : decode cX3_putReference 25 = .ok (.aload_n 0, 1) := by decide +kernel
theorem dX3_putReference_26 : decode cX3_putReference 26 = .ok (.getfield 15, 3) := by decide +kernel
theorem dX3_putReference_29 : decode cX3_putReference 29 = .ok (.aload_n 0, 1) := by decide +kernel
theorem dX3_putReference_30 : decode cX3_putReference 30 = .ok (.getfield 95, 3) := by decide +kernel
theorem dX3_putReference_33 : decode cX3_putReference 33 = .ok (.lload_n 3, 1) := by decide +kernel
theorem dX3_putReference_34 : decode cX3_putReference 34 = .ok (.lastore, 1) := by decide +kernel
theorem dX3_putReference_35 : decode cX3_putReference 35 = .ok (.aload_n 0, 1) := by decide +kernel
theorem dX3_putReference_36 : decode cX3_putReference 36 = .ok (.getfield 18, 3) := by decide +kernel
theorem dX3_putReference_39 : decode cX3_putReference 39 = .ok (.aload_n 0, 1) := by decide +kernel
theorem dX3_putReference_40 : decode cX3_putReference 40 = .ok (.getfield 95, 3) := by decide +kernel
theorem dX3_putReference_43 : decode cX3_putReference 43 = .ok (.iload 5, 2) := by decide +kernel
theorem dX3_putReference_45 : decode cX3_putReference 45 = .ok (.bastore, 1) := by decide +kernel
theorem dX3_putReference_46 : decode cX3_putReference 46 = .ok (.aload_n 0, 1) := by decide +kernel
theorem dX3_putReference_47 : decode cX3_putReference 47 = .ok (.dup, 1) := by decide +kernel
theorem dX3_putReference_48 : decode cX3_putReference 48 = .ok (.getfield 95, 3) := by decide +kernel
theorem dX3_putReference_51 : decode cX3_putReference 51 = .ok (.iconst 1, 1) := by decide +kernel
theorem dX3_putReference_52 : decode cX3_putReference 52 = .ok (.iadd, 1) := by decide +kernel
theorem dX3_putReference_53 : decode cX3_putReference 53 = .ok (.putfield 95, 3) := by decide +kernel
theorem dX3_putReference_56 : decode cX3_putReference 56 = .ok (.return_, 1) := by decide +kernel
theorem dX3_isThere_0 : decode cX3_isThere 0 = .ok (.aload_n 0, 1) := by decide +kernel
theorem dX3_isThere_1 : decode cX3_isThere 1 = .ok (.getfield 105, 3) := by decide +kernel
theorem dX3_isThere_4 : decode cX3_isThere 4 = .ok (.iload_n 1, 1) := by decide +kernel
theorem dX3_isThere_5 : decode cX3_isThere 5 = .ok (.lushr, 1) := by decide +kernel
theorem dX3_isThere_6 : decode cX3_isThere 6 = .ok (.lconst 1, 1) := by decide +kernel
theorem dX3_isThere_7 : decode cX3_isThere 7 = .ok (.land, 1) := by decide +kernel
theorem dX3_isThere_8 : decode cX3_isThere 8 = .ok (.lconst 0, 1) := by decide +kernel
theorem dX3_isThere_9 : decode cX3_isThere 9 = .ok (.lcmp, 1) := by decide +kernel
theorem dX3_isThere_10 : decode cX3_isThere 10 = .ok (.ifCond .eq 7, 3) := by decide +kernel
theorem dX3_isThere_13 : decode cX3_isThere 13 = .ok (.iconst 1, 1) := by decide +kernel
theorem dX3_isThere_14 : decode cX3_isThere 14 = .ok (.goto 4, 3) := by decide +kernel
theorem dX3_isThere_17 : decode cX3_isThere 17 = .ok (.iconst 0, 1) := by decide +kernel
theorem dX3_isThere_18 : decode cX3_isThere 18 = .ok (.ireturn, 1) := by decide +kernel
theorem dX3_isLive_0 : decode cX3_isLive 0 = .ok (.iconst 0, 1) := by decide +kernel
theorem dX3_isLive_1 : decode cX3_isLive 1 = .ok (.istore 4, 2) := by decide +kernel
theorem dX3_isLive_3 : decode cX3_isLive 3 = .ok (.iload 4, 2) := by decide +kernel
theorem dX3_isLive_5 : decode cX3_isLive 5 = .ok (.aload_n 0, 1) := by decide +kernel
theorem dX3_isLive_6 : decode cX3_isLive 6 = .ok (.getfield 95, 3) := by decide +kernel
theorem dX3_isLive_9 : decode cX3_isLive 9 = .ok (.if_icmp .ge 42, 3) := by decide +kernel
theorem dX3_isLive_12 : decode cX3_isLive 12 = .ok (.aload_n 0, 1) := by decide +kernel
theorem dX3_isLive_13 : decode cX3_isLive 13 = .ok (.getfield 15, 3) := by decide +kernel
theorem dX3_isLive_16 : decode cX3_isLive 16 = .ok (.iload 4, 2) := by decide +kernel
theorem dX3_isLive_18 : decode cX3_isLive 18 = .ok (.laload, 1) := by decide +kernel
theorem dX3_isLive_19 : decode cX3_isLive 19 = .ok (.lload_n 1, 1) := by decide +kernel
theorem dX3_isLive_20 : decode cX3_isLive 20 = .ok (.land, 1) := by decide +kernel
theorem dX3_isLive_21 : decode cX3_isLive 21 = .ok (.lconst 0, 1) := by decide +kernel
theorem dX3_isLive_22 : decode cX3_isLive 22 = .ok (.lcmp, 1) := by decide +kernel
theorem dX3_isLive_23 : decode cX3_isLive 23 = .ok (.ifCond .eq 22, 3) := by decide +kernel
theorem dX3_isLive_26 : decode cX3_isLive 26 = .ok (.iload_n 3, 1) := by decide +kernel
theorem dX3_isLive_27 : decode cX3_isLive 27 = .ok (.ifCond .eq 16, 3) := by decide +kernel
theorem dX3_isLive_30 : decode cX3_isLive 30 = .ok (.aload_n 0, 1) := by decide +kernel
theorem dX3_isLive_31 : decode cX3_isLive 31 = .ok (.getfield 11, 3) := by decide +kernel
theorem dX3_isLive_34 : decode cX3_isLive 34 = .ok (.iload 4, 2) := by decide +kernel
theorem dX3_isLive_36 : decode cX3_isLive 36 = .ok (.laload, 1) := by decide +kernel
theorem dX3_isLive_37 : decode cX3_isLive 37 = .ok (.invokestatic 204, 3) := by decide +kernel
theorem dX3_isLive_40 : decode cX3_isLive 40 = .ok (.ifCond .eq 5, 3) := by decide +kernel
theorem dX3_isLive_43 : decode cX3_isLive 43 = .ok (.iconst 1, 1) := by decide +kernel
theorem dX3_isLive_44 : decode cX3_isLive 44 = .ok (.ireturn, 1) := by decide +kernel
theorem dX3_isLive_45 : decode cX3_isLive 45 = .ok (.iinc 4 1, 3) := by decide +kernel
theorem dX3_isLive_48 : decode cX3_isLive 48 = .ok (.goto (-45), 3) := by decide +kernel
theorem dX3_isLive_51 : decode cX3_isLive 51 = .ok (.iconst 0, 1) := by decide +kernel
theorem dX3_isLive_52 : decode cX3_isLive 52 = .ok (.istore 4, 2) := by decide +kernel
theorem dX3_isLive_54 : decode cX3_isLive 54 = .ok (.iload 4, 2) := by decide +kernel
theorem dX3_isLive_56 : decode cX3_isLive 56 = .ok (.bipush 40, 2) := by decide +kernel
theorem dX3_isLive_58 : decode cX3_isLive 58 = .ok (.if_icmp .ge 42, 3) := by decide +kernel
theorem dX3_isLive_61 : decode cX3_isLive 61 = .ok (.aload_n 0, 1) := by decide +kernel
theorem dX3_isLive_62 : decode cX3_isLive 62 = .ok (.getfield 25, 3) := by decide +kernel
theorem dX3_isLive_65 : decode cX3_isLive 65 = .ok (.iload 4, 2) := by decide +kernel
theorem dX3_isLive_67 : decode cX3_isLive 67 = .ok (.laload, 1) := by decide +kernel
theorem dX3_isLive_68 : decode cX3_isLive 68 = .ok (.lload_n 1, 1) := by decide +kernel
theorem dX3_isLive_69 : decode cX3_isLive 69 = .ok (.land, 1) := by decide +kernel
theorem dX3_isLive_70 : decode cX3_isLive 70 = .ok (.lconst 0, 1) := by decide +kernel
theorem dX3_isLive_71 : decode cX3_isLive 71 = .ok (.lcmp, 1) := by decide +kernel
theorem dX3_isLive_72 : decode cX3_isLive 72 = .ok (.ifCond .eq 22, 3) := by decide +kernel
theorem dX3_isLive_75 : decode cX3_isLive 75 = .ok (.iload_n 3, 1) := by decide +kernel
theorem dX3_isLive_76 : decode cX3_isLive 76 = .ok (.ifCond .eq 16, 3) := by decide +kernel
theorem dX3_isLive_79 : decode cX3_isLive 79 = .ok (.aload_n 0, 1) := by decide +kernel
theorem dX3_isLive_80 : decode cX3_isLive 80 = .ok (.getfield 22, 3) := by decide +kernel
theorem dX3_isLive_83 : decode cX3_isLive 83 = .ok (.iload 4, 2) := by decide +kernel
theorem dX3_isLive_85 : decode cX3_isLive 85 = .ok (.laload, 1) := by decide +kernel
theorem dX3_isLive_86 : decode cX3_isLive 86 = .ok (.invokestatic 204, 3) := by decide +kernel
theorem dX3_isLive_89 : decode cX3_isLive 89 = .ok (.ifCond .eq 5, 3) := by decide +kernel
theorem dX3_isLive_92 : decode cX3_isLive 92 = .ok (.iconst 1, 1) := by decide +kernel
theorem dX3_isLive_93 : decode cX3_isLive 93 = .ok (.ireturn, 1) := by decide +kernel
theorem dX3_isLive_94 : decode cX3_isLive 94 = .ok (.iinc 4 1, 3) := by decide +kernel
theorem dX3_isLive_97 : decode cX3_isLive 97 = .ok (.goto (-43), 3) := by decide +kernel
theorem dX3_isLive_100 : decode cX3_isLive 100 = .ok (.iconst 0, 1) := by decide +kernel
theorem dX3_isLive_101 : decode cX3_isLive 101 = .ok (.ireturn, 1) := by decide +kernel
theorem dX3_isSole_0 : decode cX3_isSole 0 = .ok (.iconst 0, 1) := by decide +kernel
theorem dX3_isSole_1 : decode cX3_isSole 1 = .ok (.istore_n 3, 1) := by decide +kernel
theorem dX3_isSole_2 : decode cX3_isSole 2 = .ok (.iload_n 3, 1) := by decide +kernel
theorem dX3_isSole_3 : decode cX3_isSole 3 = .ok (.aload_n 0, 1) := by decide +kernel
theorem dX3_isSole_4 : decode cX3_isSole 4 = .ok (.getfield 95, 3) := by decide +kernel
theorem dX3_isSole_7 : decode cX3_isSole 7 = .ok (.if_icmp .ge 45, 3) := by decide +kernel
theorem dX3_isSole_10 : decode cX3_isSole 10 = .ok (.aload_n 0, 1) := by decide +kernel
theorem dX3_isSole_11 : decode cX3_isSole 11 = .ok (.getfield 15, 3) := by decide +kernel
theorem dX3_isSole_14 : decode cX3_isSole 14 = .ok (.iload_n 3, 1) := by decide +kernel
theorem dX3_isSole_15 : decode cX3_isSole 15 = .ok (.laload, 1) := by decide +kernel
theorem dX3_isSole_16 : decode cX3_isSole 16 = .ok (.lload_n 1, 1) := by decide +kernel
theorem dX3_isSole_17 : decode cX3_isSole 17 = .ok (.land, 1) := by decide +kernel
theorem dX3_isSole_18 : decode cX3_isSole 18 = .ok (.lconst 0, 1) := by decide +kernel
theorem dX3_isSole_19 : decode cX3_isSole 19 = .ok (.lcmp, 1) := by decide +kernel
theorem dX3_isSole_20 : decode cX3_isSole 20 = .ok (.ifCond .eq 26, 3) := by decide +kernel
theorem dX3_isSole_23 : decode cX3_isSole 23 = .ok (.aload_n 0, 1) := by decide +kernel
theorem dX3_isSole_24 : decode cX3_isSole 24 = .ok (.getfield 18, 3) := by decide +kernel
theorem dX3_isSole_27 : decode cX3_isSole 27 = .ok (.iload_n 3, 1) := by decide +kernel
theorem dX3_isSole_28 : decode cX3_isSole 28 = .ok (.baload, 1) := by decide +kernel
theorem dX3_isSole_29 : decode cX3_isSole 29 = .ok (.ifCond .ne 15, 3) := by decide +kernel
theorem dX3_isSole_32 : decode cX3_isSole 32 = .ok (.aload_n 0, 1) := by decide +kernel
theorem dX3_isSole_33 : decode cX3_isSole 33 = .ok (.getfield 11, 3) := by decide +kernel
theorem dX3_isSole_36 : decode cX3_isSole 36 = .ok (.iload_n 3, 1) := by decide +kernel
theorem dX3_isSole_37 : decode cX3_isSole 37 = .ok (.laload, 1) := by decide +kernel
theorem dX3_isSole_38 : decode cX3_isSole 38 = .ok (.invokestatic 204, 3) := by decide +kernel
theorem dX3_isSole_41 : decode cX3_isSole 41 = .ok (.ifCond .ne 5, 3) := by decide +kernel
theorem dX3_isSole_44 : decode cX3_isSole 44 = .ok (.iconst 0, 1) := by decide +kernel
theorem dX3_isSole_45 : decode cX3_isSole 45 = .ok (.ireturn, 1) := by decide +kernel
theorem dX3_isSole_46 : decode cX3_isSole 46 = .ok (.iinc 3 1, 3) := by decide +kernel
theorem dX3_isSole_49 : decode cX3_isSole 49 = .ok (.goto (-47), 3) := by decide +kernel
theorem dX3_isSole_52 : decode cX3_isSole 52 = .ok (.iconst 0, 1) := by decide +kernel
theorem dX3_isSole_53 : decode cX3_isSole 53 = .ok (.istore_n 3, 1) := by decide +kernel
theorem dX3_isSole_54 : decode cX3_isSole 54 = .ok (.iload_n 3, 1) := by decide +kernel
theorem dX3_isSole_55 : decode cX3_isSole 55 = .ok (.bipush 40, 2) := by decide +kernel
theorem dX3_isSole_57 : decode cX3_isSole 57 = .ok (.if_icmp .ge 49, 3) := by decide +kernel
theorem dX3_isSole_60 : decode cX3_isSole 60 = .ok (.aload_n 0, 1) := by decide +kernel
theorem dX3_isSole_61 : decode cX3_isSole 61 = .ok (.getfield 25, 3) := by decide +kernel
theorem dX3_isSole_64 : decode cX3_isSole 64 = .ok (.iload_n 3, 1) := by decide +kernel
theorem dX3_isSole_65 : decode cX3_isSole 65 = .ok (.laload, 1) := by decide +kernel
theorem dX3_isSole_66 : decode cX3_isSole 66 = .ok (.lload_n 1, 1) := by decide +kernel
theorem dX3_isSole_67 : decode cX3_isSole 67 = .ok (.land, 1) := by decide +kernel
theorem dX3_isSole_68 : decode cX3_isSole 68 = .ok (.lconst 0, 1) := by decide +kernel
theorem dX3_isSole_69 : decode cX3_isSole 69 = .ok (.lcmp, 1) := by decide +kernel
theorem dX3_isSole_70 : decode cX3_isSole 70 = .ok (.ifCond .eq 30, 3) := by decide +kernel
theorem dX3_isSole_73 : decode cX3_isSole 73 = .ok (.aload_n 0, 1) := by decide +kernel
theorem dX3_isSole_74 : decode cX3_isSole 74 = .ok (.getfield 98, 3) := by decide +kernel
theorem dX3_isSole_77 : decode cX3_isSole 77 = .ok (.iload_n 3, 1) := by decide +kernel
theorem dX3_isSole_78 : decode cX3_isSole 78 = .ok (.lushr, 1) := by decide +kernel
theorem dX3_isSole_79 : decode cX3_isSole 79 = .ok (.lconst 1, 1) := by decide +kernel
theorem dX3_isSole_80 : decode cX3_isSole 80 = .ok (.land, 1) := by decide +kernel
theorem dX3_isSole_81 : decode cX3_isSole 81 = .ok (.lconst 0, 1) := by decide +kernel
theorem dX3_isSole_82 : decode cX3_isSole 82 = .ok (.lcmp, 1) := by decide +kernel
theorem dX3_isSole_83 : decode cX3_isSole 83 = .ok (.ifCond .ne 15, 3) := by decide +kernel
theorem dX3_isSole_86 : decode cX3_isSole 86 = .ok (.aload_n 0, 1) := by decide +kernel
theorem dX3_isSole_87 : decode cX3_isSole 87 = .ok (.getfield 22, 3) := by decide +kernel
theorem dX3_isSole_90 : decode cX3_isSole 90 = .ok (.iload_n 3, 1) := by decide +kernel
theorem dX3_isSole_91 : decode cX3_isSole 91 = .ok (.laload, 1) := by decide +kernel
theorem dX3_isSole_92 : decode cX3_isSole 92 = .ok (.invokestatic 204, 3) := by decide +kernel
theorem dX3_isSole_95 : decode cX3_isSole 95 = .ok (.ifCond .ne 5, 3) := by decide +kernel
theorem dX3_isSole_98 : decode cX3_isSole 98 = .ok (.iconst 0, 1) := by decide +kernel
theorem dX3_isSole_99 : decode cX3_isSole 99 = .ok (.ireturn, 1) := by decide +kernel
theorem dX3_isSole_100 : decode cX3_isSole 100 = .ok (.iinc 3 1, 3) := by decide +kernel
theorem dX3_isSole_103 : decode cX3_isSole 103 = .ok (.goto (-49), 3) := by decide +kernel
theorem dX3_isSole_106 : decode cX3_isSole 106 = .ok (.iconst 1, 1) := by decide +kernel
theorem dX3_isSole_107 : decode cX3_isSole 107 = .ok (.ireturn, 1) := by decide +kernel
theorem dX3_steer_0 : decode cX3_steer 0 = .ok (.iload_n 1, 1) := by decide +kernel
theorem dX3_steer_1 : decode cX3_steer 1 = .ok (.ifCond .ne 23, 3) := by decide +kernel
theorem dX3_steer_4 : decode cX3_steer 4 = .ok (.aload_n 0, 1) := by decide +kernel
theorem dX3_steer_5 : decode cX3_steer 5 = .ok (.aload_n 0, 1) := by decide +kernel
theorem dX3_steer_6 : decode cX3_steer 6 = .ok (.invokevirtual 200, 3) := by decide +kernel
theorem dX3_steer_9 : decode cX3_steer 9 = .ok (.iconst 2, 1) := by decide +kernel
theorem dX3_steer_10 : decode cX3_steer 10 = .ok (.invokevirtual 215, 3) := by decide +kernel
theorem dX3_steer_13 : decode cX3_steer 13 = .ok (.ifCond .ne 50, 3) := by decide +kernel
theorem dX3_steer_16 : decode cX3_steer 16 = .ok (.aload_n 0, 1) := by decide +kernel
theorem dX3_steer_17 : decode cX3_steer 17 = .ok (.iconst 4, 1) := by decide +kernel
theorem dX3_steer_18 : decode cX3_steer 18 = .ok (.invokevirtual 131, 3) := by decide +kernel
theorem dX3_steer_21 : decode cX3_steer 21 = .ok (.goto 42, 3) := by decide +kernel
theorem dX3_steer_24 : decode cX3_steer 24 = .ok (.iload_n 1, 1) := by decide +kernel
theorem dX3_steer_25 : decode cX3_steer 25 = .ok (.bipush 45, 2) := by decide +kernel
theorem dX3_steer_27 : decode cX3_steer 27 = .ok (.if_icmp .ne 13, 3) := by decide +kernel
theorem dX3_steer_30 : decode cX3_steer 30 = .ok (.aload_n 0, 1) := by decide +kernel
theorem dX3_steer_31 : decode cX3_steer 31 = .ok (.ldc2_w 219, 3) := by decide +kernel
theorem dX3_steer_34 : decode cX3_steer 34 = .ok (.invokevirtual 221, 3) := by decide +kernel
theorem dX3_steer_37 : decode cX3_steer 37 = .ok (.goto 26, 3) := by decide +kernel
theorem dX3_steer_40 : decode cX3_steer 40 = .ok (.iload_n 1, 1) := by decide +kernel
theorem dX3_steer_41 : decode cX3_steer 41 = .ok (.iconst 2, 1) := by decide +kernel
theorem dX3_steer_42 : decode cX3_steer 42 = .ok (.if_icmp .eq 8, 3) := by decide +kernel
theorem dX3_steer_45 : decode cX3_steer 45 = .ok (.aload_n 0, 1) := by decide +kernel
theorem dX3_steer_46 : decode cX3_steer 46 = .ok (.lconst 1, 1) := by decide +kernel
theorem dX3_steer_47 : decode cX3_steer 47 = .ok (.invokevirtual 221, 3) := by decide +kernel
theorem dX3_steer_50 : decode cX3_steer 50 = .ok (.aload_n 0, 1) := by decide +kernel
theorem dX3_steer_51 : decode cX3_steer 51 = .ok (.getfield 95, 3) := by decide +kernel
theorem dX3_steer_54 : decode cX3_steer 54 = .ok (.ifCond .le 9, 3) := by decide +kernel
theorem dX3_steer_57 : decode cX3_steer 57 = .ok (.aload_n 0, 1) := by decide +kernel
theorem dX3_steer_58 : decode cX3_steer 58 = .ok (.bipush 8, 2) := by decide +kernel
theorem dX3_steer_60 : decode cX3_steer 60 = .ok (.invokevirtual 131, 3) := by decide +kernel
theorem dX3_steer_63 : decode cX3_steer 63 = .ok (.return_, 1) := by decide +kernel
theorem dX3_giveBack_0 : decode cX3_giveBack 0 = .ok (.aload_n 0, 1) := by decide +kernel
theorem dX3_giveBack_1 : decode cX3_giveBack 1 = .ok (.getfield 95, 3) := by decide +kernel
theorem dX3_giveBack_4 : decode cX3_giveBack 4 = .ok (.aload_n 0, 1) := by decide +kernel
theorem dX3_giveBack_5 : decode cX3_giveBack 5 = .ok (.getfield 44, 3) := by decide +kernel
theorem dX3_giveBack_8 : decode cX3_giveBack 8 = .ok (.aload_n 0, 1) := by decide +kernel
theorem dX3_giveBack_9 : decode cX3_giveBack 9 = .ok (.getfield 77, 3) := by decide +kernel
theorem dX3_giveBack_12 : decode cX3_giveBack 12 = .ok (.invokevirtual 225, 3) := by decide +kernel
theorem dX3_giveBack_15 : decode cX3_giveBack 15 = .ok (.if_icmp .ne 7, 3) := by decide +kernel
theorem dX3_giveBack_18 : decode cX3_giveBack 18 = .ok (.iconst 1, 1) := by decide +kernel
theorem dX3_giveBack_19 : decode cX3_giveBack 19 = .ok (.goto 4, 3) := by decide +kernel
theorem dX3_giveBack_22 : decode cX3_giveBack 22 = .ok (.iconst 0, 1) := by decide +kernel
theorem dX3_giveBack_23 : decode cX3_giveBack 23 = .ok (.istore_n 1, 1) := by decide +kernel
theorem dX3_giveBack_24 : decode cX3_giveBack 24 = .ok (.iconst 1, 1) := by decide +kernel
theorem dX3_giveBack_25 : decode cX3_giveBack 25 = .ok (.istore_n 2, 1) := by decide +kernel
theorem dX3_giveBack_26 : decode cX3_giveBack 26 = .ok (.iconst 0, 1) := by decide +kernel
theorem dX3_giveBack_27 : decode cX3_giveBack 27 = .ok (.istore_n 3, 1) := by decide +kernel
theorem dX3_giveBack_28 : decode cX3_giveBack 28 = .ok (.iload_n 3, 1) := by decide +kernel
theorem dX3_giveBack_29 : decode cX3_giveBack 29 = .ok (.aload_n 0, 1) := by decide +kernel
theorem dX3_giveBack_30 : decode cX3_giveBack 30 = .ok (.getfield 95, 3) := by decide +kernel
theorem dX3_giveBack_33 : decode cX3_giveBack 33 = .ok (.if_icmp .ge 66, 3) := by decide +kernel
theorem dX3_giveBack_36 : decode cX3_giveBack 36 = .ok (.iload_n 1, 1) := by decide +kernel
theorem dX3_giveBack_37 : decode cX3_giveBack 37 = .ok (.ifCond .eq 62, 3) := by decide +kernel
theorem dX3_giveBack_40 : decode cX3_giveBack 40 = .ok (.aload_n 0, 1) := by decide +kernel
theorem dX3_giveBack_41 : decode cX3_giveBack 41 = .ok (.getfield 11, 3) := by decide +kernel
theorem dX3_giveBack_44 : decode cX3_giveBack 44 = .ok (.iload_n 3, 1) := by decide +kernel
theorem dX3_giveBack_45 : decode cX3_giveBack 45 = .ok (.laload, 1) := by decide +kernel
theorem dX3_giveBack_46 : decode cX3_giveBack 46 = .ok (.aload_n 0, 1) := by decide +kernel
theorem dX3_giveBack_47 : decode cX3_giveBack 47 = .ok (.getfield 44, 3) := by decide +kernel
theorem dX3_giveBack_50 : decode cX3_giveBack 50 = .ok (.aload_n 0, 1) := by decide +kernel
theorem dX3_giveBack_51 : decode cX3_giveBack 51 = .ok (.getfield 77, 3) := by decide +kernel
theorem dX3_giveBack_54 : decode cX3_giveBack 54 = .ok (.iload_n 3, 1) := by decide +kernel
theorem dX3_giveBack_55 : decode cX3_giveBack 55 = .ok (.invokevirtual 228, 3) := by decide +kernel
theorem dX3_giveBack_58 : decode cX3_giveBack 58 = .ok (.lcmp, 1) := by decide +kernel
theorem dX3_giveBack_59 : decode cX3_giveBack 59 = .ok (.ifCond .ne 7, 3) := by decide +kernel
theorem dX3_giveBack_62 : decode cX3_giveBack 62 = .ok (.iconst 1, 1) := by decide +kernel
theorem dX3_giveBack_63 : decode cX3_giveBack 63 = .ok (.goto 4, 3) := by decide +kernel
theorem dX3_giveBack_66 : decode cX3_giveBack 66 = .ok (.iconst 0, 1) := by decide +kernel
theorem dX3_giveBack_67 : decode cX3_giveBack 67 = .ok (.istore_n 1, 1) := by decide +kernel
theorem dX3_giveBack_68 : decode cX3_giveBack 68 = .ok (.iload_n 2, 1) := by decide +kernel
theorem dX3_giveBack_69 : decode cX3_giveBack 69 = .ok (.ifCond .eq 22, 3) := by decide +kernel
theorem dX3_giveBack_72 : decode cX3_giveBack 72 = .ok (.aload_n 0, 1) := by decide +kernel
theorem dX3_giveBack_73 : decode cX3_giveBack 73 = .ok (.getfield 15, 3) := by decide +kernel
theorem dX3_giveBack_76 : decode cX3_giveBack 76 = .ok (.iload_n 3, 1) := by decide +kernel
theorem dX3_giveBack_77 : decode cX3_giveBack 77 = .ok (.laload, 1) := by decide +kernel
theorem dX3_giveBack_78 : decode cX3_giveBack 78 = .ok (.ldc2_w 231, 3) := by decide +kernel
theorem dX3_giveBack_81 : decode cX3_giveBack 81 = .ok (.land, 1) := by decide +kernel
theorem dX3_giveBack_82 : decode cX3_giveBack 82 = .ok (.lconst 0, 1) := by decide +kernel
theorem dX3_giveBack_83 : decode cX3_giveBack 83 = .ok (.lcmp, 1) := by decide +kernel
theorem dX3_giveBack_84 : decode cX3_giveBack 84 = .ok (.ifCond .ne 7, 3) := by decide +kernel
theorem dX3_giveBack_87 : decode cX3_giveBack 87 = .ok (.iconst 1, 1) := by decide +kernel
theorem dX3_giveBack_88 : decode cX3_giveBack 88 = .ok (.goto 4, 3) := by decide +kernel
theorem dX3_giveBack_91 : decode cX3_giveBack 91 = .ok (.iconst 0, 1) := by decide +kernel
theorem dX3_giveBack_92 : decode cX3_giveBack 92 = .ok (.istore_n 2, 1) := by decide +kernel
theorem dX3_giveBack_93 : decode cX3_giveBack 93 = .ok (.iinc 3 1, 3) := by decide +kernel
theorem dX3_giveBack_96 : decode cX3_giveBack 96 = .ok (.goto (-68), 3) := by decide +kernel
theorem dX3_giveBack_99 : decode cX3_giveBack 99 = .ok (.iload_n 1, 1) := by decide +kernel
theorem dX3_giveBack_100 : decode cX3_giveBack 100 = .ok (.ifCond .ne 9, 3) := by decide +kernel
theorem dX3_giveBack_103 : decode cX3_giveBack 103 = .ok (.aload_n 0, 1) := by decide +kernel
theorem dX3_giveBack_104 : decode cX3_giveBack 104 = .ok (.bipush 12, 2) := by decide +kernel
theorem dX3_giveBack_106 : decode cX3_giveBack 106 = .ok (.invokevirtual 131, 3) := by decide +kernel
theorem dX3_giveBack_109 : decode cX3_giveBack 109 = .ok (.iload_n 2, 1) := by decide +kernel
theorem dX3_giveBack_110 : decode cX3_giveBack 110 = .ok (.ifCond .ne 9, 3) := by decide +kernel
theorem dX3_giveBack_113 : decode cX3_giveBack 113 = .ok (.aload_n 0, 1) := by decide +kernel
theorem dX3_giveBack_114 : decode cX3_giveBack 114 = .ok (.bipush 14, 2) := by decide +kernel
theorem dX3_giveBack_116 : decode cX3_giveBack 116 = .ok (.invokevirtual 131, 3) := by decide +kernel
theorem dX3_giveBack_119 : decode cX3_giveBack 119 = .ok (.aload_n 0, 1) := by decide +kernel
theorem dX3_giveBack_120 : decode cX3_giveBack 120 = .ok (.getfield 105, 3) := by decide +kernel
theorem dX3_giveBack_123 : decode cX3_giveBack 123 = .ok (.aload_n 0, 1) := by decide +kernel
theorem dX3_giveBack_124 : decode cX3_giveBack 124 = .ok (.getfield 108, 3) := by decide +kernel
theorem dX3_giveBack_127 : decode cX3_giveBack 127 = .ok (.ldc2_w 185, 3) := by decide +kernel
theorem dX3_giveBack_130 : decode cX3_giveBack 130 = .ok (.lxor, 1) := by decide +kernel
theorem dX3_giveBack_131 : decode cX3_giveBack 131 = .ok (.land, 1) := by decide +kernel
theorem dX3_giveBack_132 : decode cX3_giveBack 132 = .ok (.lconst 0, 1) := by decide +kernel
theorem dX3_giveBack_133 : decode cX3_giveBack 133 = .ok (.lcmp, 1) := by decide +kernel
theorem dX3_giveBack_134 : decode cX3_giveBack 134 = .ok (.ifCond .eq 9, 3) := by decide +kernel
theorem dX3_giveBack_137 : decode cX3_giveBack 137 = .ok (.aload_n 0, 1) := by decide +kernel
theorem dX3_giveBack_138 : decode cX3_giveBack 138 = .ok (.bipush 13, 2) := by decide +kernel
theorem dX3_giveBack_140 : decode cX3_giveBack 140 = .ok (.invokevirtual 131, 3) := by decide +kernel
theorem dX3_giveBack_143 : decode cX3_giveBack 143 = .ok (.return_, 1) := by decide +kernel
theorem dX3_set_0 : decode cX3_set 0 = .ok (.iload_n 1, 1) := by decide +kernel
theorem dX3_set_1 : decode cX3_set 1 = .ok (.lookupswitch 115 #[(5, 67), (6, 77), (7, 87), (8, 97), (9, 97), (10, 105), (46, 105)], 67) := by decide +kernel
theorem dX3_set_68 : decode cX3_set 68 = .ok (.aload_n 0, 1) := by decide +kernel
theorem dX3_set_69 : decode cX3_set 69 = .ok (.ldc2_w 190, 3) := by decide +kernel
theorem dX3_set_72 : decode cX3_set 72 = .ok (.invokevirtual 233, 3) := by decide +kernel
theorem dX3_set_75 : decode cX3_set 75 = .ok (.goto 41, 3) := by decide +kernel
theorem dX3_set_78 : decode cX3_set 78 = .ok (.aload_n 0, 1) := by decide +kernel
theorem dX3_set_79 : decode cX3_set 79 = .ok (.ldc2_w 219, 3) := by decide +kernel
theorem dX3_set_82 : decode cX3_set 82 = .ok (.invokevirtual 233, 3) := by decide +kernel
theorem dX3_set_85 : decode cX3_set 85 = .ok (.goto 31, 3) := by decide +kernel
theorem dX3_set_88 : decode cX3_set 88 = .ok (.aload_n 0, 1) := by decide +kernel
theorem dX3_set_89 : decode cX3_set 89 = .ok (.ldc2_w 192, 3) := by decide +kernel
theorem dX3_set_92 : decode cX3_set 92 = .ok (.invokevirtual 233, 3) := by decide +kernel
theorem dX3_set_95 : decode cX3_set 95 = .ok (.goto 21, 3) := by decide +kernel
theorem dX3_set_98 : decode cX3_set 98 = .ok (.aload_n 0, 1) := by decide +kernel
theorem dX3_set_99 : decode cX3_set 99 = .ok (.lconst 1, 1) := by decide +kernel
theorem dX3_set_100 : decode cX3_set 100 = .ok (.invokevirtual 233, 3) := by decide +kernel
theorem dX3_set_103 : decode cX3_set 103 = .ok (.goto 13, 3) := by decide +kernel
theorem dX3_set_106 : decode cX3_set 106 = .ok (.aload_n 0, 1) := by decide +kernel
theorem dX3_set_107 : decode cX3_set 107 = .ok (.ldc2_w 236, 3) := by decide +kernel
theorem dX3_set_110 : decode cX3_set 110 = .ok (.invokevirtual 233, 3) := by decide +kernel
theorem dX3_set_113 : decode cX3_set 113 = .ok (.goto 3, 3) := by decide +kernel
theorem dX3_set_116 : decode cX3_set 116 = .ok (.return_, 1) := by decide +kernel
theorem dX3_useLocal_0 : decode cX3_useLocal 0 = .ok (.aload_n 0, 1) := by decide +kernel
theorem dX3_useLocal_1 : decode cX3_useLocal 1 = .ok (.getfield 22, 3) := by decide +kernel
theorem dX3_useLocal_4 : decode cX3_useLocal 4 = .ok (.iload_n 2, 1) := by decide +kernel
theorem dX3_useLocal_5 : decode cX3_useLocal 5 = .ok (.laload, 1) := by decide +kernel
theorem dX3_useLocal_6 : decode cX3_useLocal 6 = .ok (.lstore_n 3, 1) := by decide +kernel
theorem dX3_useLocal_7 : decode cX3_useLocal 7 = .ok (.lload_n 3, 1) := by decide +kernel
theorem dX3_useLocal_8 : decode cX3_useLocal 8 = .ok (.invokestatic 116, 3) := by decide +kernel
theorem dX3_useLocal_11 : decode cX3_useLocal 11 = .ok (.ifCond .ne 7, 3) := by decide +kernel
theorem dX3_useLocal_14 : decode cX3_useLocal 14 = .ok (.iconst 1, 1) := by decide +kernel
theorem dX3_useLocal_15 : decode cX3_useLocal 15 = .ok (.goto 4, 3) := by decide +kernel
theorem dX3_useLocal_18 : decode cX3_useLocal 18 = .ok (.iconst 0, 1) := by decide +kernel
theorem dX3_useLocal_19 : decode cX3_useLocal 19 = .ok (.istore 5, 2) := by decide +kernel
theorem dX3_useLocal_21 : decode cX3_useLocal 21 = .ok (.iload_n 1, 1) := by decide +kernel
theorem dX3_useLocal_22 : decode cX3_useLocal 22 = .ok (.bipush 13, 2) := by decide +kernel
theorem dX3_useLocal_24 : decode cX3_useLocal 24 = .ok (.if_icmp .ne 33, 3) := by decide +kernel
theorem dX3_useLocal_27 : decode cX3_useLocal 27 = .ok (.aload_n 0, 1) := by decide +kernel
theorem dX3_useLocal_28 : decode cX3_useLocal 28 = .ok (.lload_n 3, 1) := by decide +kernel
theorem dX3_useLocal_29 : decode cX3_useLocal 29 = .ok (.invokevirtual 221, 3) := by decide +kernel
theorem dX3_useLocal_32 : decode cX3_useLocal 32 = .ok (.aload_n 0, 1) := by decide +kernel
theorem dX3_useLocal_33 : decode cX3_useLocal 33 = .ok (.iload_n 2, 1) := by decide +kernel
theorem dX3_useLocal_34 : decode cX3_useLocal 34 = .ok (.invokevirtual 238, 3) := by decide +kernel
theorem dX3_useLocal_37 : decode cX3_useLocal 37 = .ok (.ifCond .eq 33, 3) := by decide +kernel
theorem dX3_useLocal_40 : decode cX3_useLocal 40 = .ok (.aload_n 0, 1) := by decide +kernel
theorem dX3_useLocal_41 : decode cX3_useLocal 41 = .ok (.lload_n 3, 1) := by decide +kernel
theorem dX3_useLocal_42 : decode cX3_useLocal 42 = .ok (.iconst 2, 1) := by decide +kernel
theorem dX3_useLocal_43 : decode cX3_useLocal 43 = .ok (.invokevirtual 215, 3) := by decide +kernel
theorem dX3_useLocal_46 : decode cX3_useLocal 46 = .ok (.ifCond .ne 24, 3) := by decide +kernel
theorem dX3_useLocal_49 : decode cX3_useLocal 49 = .ok (.aload_n 0, 1) := by decide +kernel
theorem dX3_useLocal_50 : decode cX3_useLocal 50 = .ok (.iconst 4, 1) := by decide +kernel
theorem dX3_useLocal_51 : decode cX3_useLocal 51 = .ok (.invokevirtual 131, 3) := by decide +kernel
theorem dX3_useLocal_54 : decode cX3_useLocal 54 = .ok (.goto 16, 3) := by decide +kernel
theorem dX3_useLocal_57 : decode cX3_useLocal 57 = .ok (.aload_n 0, 1) := by decide +kernel
theorem dX3_useLocal_58 : decode cX3_useLocal 58 = .ok (.iload_n 2, 1) := by decide +kernel
theorem dX3_useLocal_59 : decode cX3_useLocal 59 = .ok (.invokevirtual 238, 3) := by decide +kernel
theorem dX3_useLocal_62 : decode cX3_useLocal 62 = .ok (.ifCond .ne 8, 3) := by decide +kernel
theorem dX3_useLocal_65 : decode cX3_useLocal 65 = .ok (.aload_n 0, 1) := by decide +kernel
theorem dX3_useLocal_66 : decode cX3_useLocal 66 = .ok (.iconst 5, 1) := by decide +kernel
theorem dX3_useLocal_67 : decode cX3_useLocal 67 = .ok (.invokevirtual 131, 3) := by decide +kernel
theorem dX3_useLocal_70 : decode cX3_useLocal 70 = .ok (.iload_n 1, 1) := by decide +kernel
theorem dX3_useLocal_71 : decode cX3_useLocal 71 = .ok (.bipush 11, 2) := by decide +kernel
theorem dX3_useLocal_73 : decode cX3_useLocal 73 = .ok (.if_icmp .ne 17, 3) := by decide +kernel
theorem dX3_useLocal_76 : decode cX3_useLocal 76 = .ok (.aload_n 0, 1) := by decide +kernel
theorem dX3_useLocal_77 : decode cX3_useLocal 77 = .ok (.lload_n 3, 1) := by decide +kernel
theorem dX3_useLocal_78 : decode cX3_useLocal 78 = .ok (.iconst 1, 1) := by decide +kernel
theorem dX3_useLocal_79 : decode cX3_useLocal 79 = .ok (.invokevirtual 215, 3) := by decide +kernel
theorem dX3_useLocal_82 : decode cX3_useLocal 82 = .ok (.ifCond .ne 8, 3) := by decide +kernel
theorem dX3_useLocal_85 : decode cX3_useLocal 85 = .ok (.aload_n 0, 1) := by decide +kernel
theorem dX3_useLocal_86 : decode cX3_useLocal 86 = .ok (.iconst 4, 1) := by decide +kernel
theorem dX3_useLocal_87 : decode cX3_useLocal 87 = .ok (.invokevirtual 131, 3) := by decide +kernel
theorem dX3_useLocal_90 : decode cX3_useLocal 90 = .ok (.iload 5, 2) := by decide +kernel
theorem dX3_useLocal_92 : decode cX3_useLocal 92 = .ok (.ifCond .eq 30, 3) := by decide +kernel
theorem dX3_useLocal_95 : decode cX3_useLocal 95 = .ok (.aload_n 0, 1) := by decide +kernel
theorem dX3_useLocal_96 : decode cX3_useLocal 96 = .ok (.lconst 1, 1) := by decide +kernel
theorem dX3_useLocal_97 : decode cX3_useLocal 97 = .ok (.iload_n 2, 1) := by decide +kernel
theorem dX3_useLocal_98 : decode cX3_useLocal 98 = .ok (.lshl, 1) := by decide +kernel
theorem dX3_useLocal_99 : decode cX3_useLocal 99 = .ok (.iload_n 1, 1) := by decide +kernel
theorem dX3_useLocal_100 : decode cX3_useLocal 100 = .ok (.bipush 11, 2) := by decide +kernel
theorem dX3_useLocal_102 : decode cX3_useLocal 102 = .ok (.if_icmp .ne 7, 3) := by decide +kernel
theorem dX3_useLocal_105 : decode cX3_useLocal 105 = .ok (.iconst 1, 1) := by decide +kernel
theorem dX3_useLocal_106 : decode cX3_useLocal 106 = .ok (.goto 4, 3) := by decide +kernel
theorem dX3_useLocal_109 : decode cX3_useLocal 109 = .ok (.iconst 0, 1) := by decide +kernel
theorem dX3_useLocal_110 : decode cX3_useLocal 110 = .ok (.invokevirtual 242, 3) := by decide +kernel
theorem dX3_useLocal_113 : decode cX3_useLocal 113 = .ok (.ifCond .eq 9, 3) := by decide +kernel
theorem dX3_useLocal_116 : decode cX3_useLocal 116 = .ok (.aload_n 0, 1) := by decide +kernel
theorem dX3_useLocal_117 : decode cX3_useLocal 117 = .ok (.bipush 6, 2) := by decide +kernel
theorem dX3_useLocal_119 : decode cX3_useLocal 119 = .ok (.invokevirtual 131, 3) := by decide +kernel
theorem dX3_useLocal_122 : decode cX3_useLocal 122 = .ok (.aload_n 0, 1) := by decide +kernel
theorem dX3_useLocal_123 : decode cX3_useLocal 123 = .ok (.getfield 48, 3) := by decide +kernel
theorem dX3_useLocal_126 : decode cX3_useLocal 126 = .ok (.ifCond .eq 4, 3) := by decide +kernel
theorem dX3_useLocal_129 : decode cX3_useLocal 129 = .ok (.return_, 1) := by decide +kernel
theorem dX3_useLocal_130 : decode cX3_useLocal 130 = .ok (.iload_n 1, 1) := by decide +kernel
theorem dX3_useLocal_131 : decode cX3_useLocal 131 = .ok (.bipush 13, 2) := by decide +kernel
theorem dX3_useLocal_133 : decode cX3_useLocal 133 = .ok (.if_icmp .ne 29, 3) := by decide +kernel
theorem dX3_useLocal_136 : decode cX3_useLocal 136 = .ok (.aload_n 0, 1) := by decide +kernel
theorem dX3_useLocal_137 : decode cX3_useLocal 137 = .ok (.iload_n 2, 1) := by decide +kernel
theorem dX3_useLocal_138 : decode cX3_useLocal 138 = .ok (.aload_n 0, 1) := by decide +kernel
theorem dX3_useLocal_139 : decode cX3_useLocal 139 = .ok (.getfield 194, 3) := by decide +kernel
theorem dX3_useLocal_142 : decode cX3_useLocal 142 = .ok (.aload_n 0, 1) := by decide +kernel
theorem dX3_useLocal_143 : decode cX3_useLocal 143 = .ok (.getfield 197, 3) := by decide +kernel
theorem dX3_useLocal_146 : decode cX3_useLocal 146 = .ok (.invokevirtual 246, 3) := by decide +kernel
theorem dX3_useLocal_149 : decode cX3_useLocal 149 = .ok (.aload_n 0, 1) := by decide +kernel
theorem dX3_useLocal_150 : decode cX3_useLocal 150 = .ok (.dup, 1) := by decide +kernel
theorem dX3_useLocal_151 : decode cX3_useLocal 151 = .ok (.getfield 105, 3) := by decide +kernel
theorem dX3_useLocal_154 : decode cX3_useLocal 154 = .ok (.lconst 1, 1) := by decide +kernel
theorem dX3_useLocal_155 : decode cX3_useLocal 155 = .ok (.iload_n 2, 1) := by decide +kernel
theorem dX3_useLocal_156 : decode cX3_useLocal 156 = .ok (.lshl, 1) := by decide +kernel
theorem dX3_useLocal_157 : decode cX3_useLocal 157 = .ok (.lor, 1) := by decide +kernel
theorem dX3_useLocal_158 : decode cX3_useLocal 158 = .ok (.putfield 105, 3) := by decide +kernel
theorem dX3_useLocal_161 : decode cX3_useLocal 161 = .ok (.return_, 1) := by decide +kernel
theorem dX3_useLocal_162 : decode cX3_useLocal 162 = .ok (.aload_n 0, 1) := by decide +kernel
theorem dX3_useLocal_163 : decode cX3_useLocal 163 = .ok (.lload_n 3, 1) := by decide +kernel
theorem dX3_useLocal_164 : decode cX3_useLocal 164 = .ok (.aload_n 0, 1) := by decide +kernel
theorem dX3_useLocal_165 : decode cX3_useLocal 165 = .ok (.getfield 25, 3) := by decide +kernel
theorem dX3_useLocal_168 : decode cX3_useLocal 168 = .ok (.iload_n 2, 1) := by decide +kernel
theorem dX3_useLocal_169 : decode cX3_useLocal 169 = .ok (.laload, 1) := by decide +kernel
theorem dX3_useLocal_170 : decode cX3_useLocal 170 = .ok (.aload_n 0, 1) := by decide +kernel
theorem dX3_useLocal_171 : decode cX3_useLocal 171 = .ok (.getfield 98, 3) := by decide +kernel
theorem dX3_useLocal_174 : decode cX3_useLocal 174 = .ok (.iload_n 2, 1) := by decide +kernel
theorem dX3_useLocal_175 : decode cX3_useLocal 175 = .ok (.lushr, 1) := by decide +kernel
theorem dX3_useLocal_176 : decode cX3_useLocal 176 = .ok (.lconst 1, 1) := by decide +kernel
theorem dX3_useLocal_177 : decode cX3_useLocal 177 = .ok (.land, 1) := by decide +kernel
theorem dX3_useLocal_178 : decode cX3_useLocal 178 = .ok (.lconst 0, 1) := by decide +kernel
theorem dX3_useLocal_179 : decode cX3_useLocal 179 = .ok (.lcmp, 1) := by decide +kernel
theorem dX3_useLocal_180 : decode cX3_useLocal 180 = .ok (.ifCond .eq 7, 3) := by decide +kernel
theorem dX3_useLocal_183 : decode cX3_useLocal 183 = .ok (.iconst 1, 1) := by decide +kernel
theorem dX3_useLocal_184 : decode cX3_useLocal 184 = .ok (.goto 4, 3) := by decide +kernel
theorem dX3_useLocal_187 : decode cX3_useLocal 187 = .ok (.iconst 0, 1) := by decide +kernel
theorem dX3_useLocal_188 : decode cX3_useLocal 188 = .ok (.invokevirtual 211, 3) := by decide +kernel
theorem dX3_useLocal_191 : decode cX3_useLocal 191 = .ok (.iload_n 1, 1) := by decide +kernel
theorem dX3_useLocal_192 : decode cX3_useLocal 192 = .ok (.bipush 12, 2) := by decide +kernel
theorem dX3_useLocal_194 : decode cX3_useLocal 194 = .ok (.if_icmp .ne 26, 3) := by decide +kernel
theorem dX3_useLocal_197 : decode cX3_useLocal 197 = .ok (.aload_n 0, 1) := by decide +kernel
theorem dX3_useLocal_198 : decode cX3_useLocal 198 = .ok (.iload_n 2, 1) := by decide +kernel
theorem dX3_useLocal_199 : decode cX3_useLocal 199 = .ok (.lconst 0, 1) := by decide +kernel
theorem dX3_useLocal_200 : decode cX3_useLocal 200 = .ok (.iconst 0, 1) := by decide +kernel
theorem dX3_useLocal_201 : decode cX3_useLocal 201 = .ok (.invokevirtual 246, 3) := by decide +kernel
theorem dX3_useLocal_204 : decode cX3_useLocal 204 = .ok (.aload_n 0, 1) := by decide +kernel
theorem dX3_useLocal_205 : decode cX3_useLocal 205 = .ok (.dup, 1) := by decide +kernel
theorem dX3_useLocal_206 : decode cX3_useLocal 206 = .ok (.getfield 105, 3) := by decide +kernel
theorem dX3_useLocal_209 : decode cX3_useLocal 209 = .ok (.lconst 1, 1) := by decide +kernel
theorem dX3_useLocal_210 : decode cX3_useLocal 210 = .ok (.iload_n 2, 1) := by decide +kernel
theorem dX3_useLocal_211 : decode cX3_useLocal 211 = .ok (.lshl, 1) := by decide +kernel
theorem dX3_useLocal_212 : decode cX3_useLocal 212 = .ok (.ldc2_w 185, 3) := by decide +kernel
theorem dX3_useLocal_215 : decode cX3_useLocal 215 = .ok (.lxor, 1) := by decide +kernel
theorem dX3_useLocal_216 : decode cX3_useLocal 216 = .ok (.land, 1) := by decide +kernel
theorem dX3_useLocal_217 : decode cX3_useLocal 217 = .ok (.putfield 105, 3) := by decide +kernel
theorem dX3_useLocal_220 : decode cX3_useLocal 220 = .ok (.return_, 1) := by decide +kernel
theorem dX3_setLocal_0 : decode cX3_setLocal 0 = .ok (.aload_n 0, 1) := by decide +kernel
theorem dX3_setLocal_1 : decode cX3_setLocal 1 = .ok (.getfield 25, 3) := by decide +kernel
theorem dX3_setLocal_4 : decode cX3_setLocal 4 = .ok (.iload_n 1, 1) := by decide +kernel
theorem dX3_setLocal_5 : decode cX3_setLocal 5 = .ok (.lload_n 2, 1) := by decide +kernel
theorem dX3_setLocal_6 : decode cX3_setLocal 6 = .ok (.lastore, 1) := by decide +kernel
theorem dX3_setLocal_7 : decode cX3_setLocal 7 = .ok (.aload_n 0, 1) := by decide +kernel
theorem dX3_setLocal_8 : decode cX3_setLocal 8 = .ok (.iload 4, 2) := by decide +kernel
theorem dX3_setLocal_10 : decode cX3_setLocal 10 = .ok (.ifCond .eq 14, 3) := by decide +kernel
theorem dX3_setLocal_13 : decode cX3_setLocal 13 = .ok (.aload_n 0, 1) := by decide +kernel
theorem dX3_setLocal_14 : decode cX3_setLocal 14 = .ok (.getfield 98, 3) := by decide +kernel
theorem dX3_setLocal_17 : decode cX3_setLocal 17 = .ok (.lconst 1, 1) := by decide +kernel
theorem dX3_setLocal_18 : decode cX3_setLocal 18 = .ok (.iload_n 1, 1) := by decide +kernel
theorem dX3_setLocal_19 : decode cX3_setLocal 19 = .ok (.lshl, 1) := by decide +kernel
theorem dX3_setLocal_20 : decode cX3_setLocal 20 = .ok (.lor, 1) := by decide +kernel
theorem dX3_setLocal_21 : decode cX3_setLocal 21 = .ok (.goto 15, 3) := by decide +kernel
theorem dX3_setLocal_24 : decode cX3_setLocal 24 = .ok (.aload_n 0, 1) := by decide +kernel
theorem dX3_setLocal_25 : decode cX3_setLocal 25 = .ok (.getfield 98, 3) := by decide +kernel
theorem dX3_setLocal_28 : decode cX3_setLocal 28 = .ok (.lconst 1, 1) := by decide +kernel
theorem dX3_setLocal_29 : decode cX3_setLocal 29 = .ok (.iload_n 1, 1) := by decide +kernel
theorem dX3_setLocal_30 : decode cX3_setLocal 30 = .ok (.lshl, 1) := by decide +kernel
theorem dX3_setLocal_31 : decode cX3_setLocal 31 = .ok (.ldc2_w 185, 3) := by decide +kernel
theorem dX3_setLocal_34 : decode cX3_setLocal 34 = .ok (.lxor, 1) := by decide +kernel
theorem dX3_setLocal_35 : decode cX3_setLocal 35 = .ok (.land, 1) := by decide +kernel
theorem dX3_setLocal_36 : decode cX3_setLocal 36 = .ok (.putfield 98, 3) := by decide +kernel
theorem dX3_setLocal_39 : decode cX3_setLocal 39 = .ok (.return_, 1) := by decide +kernel
theorem dX3_borrowLocal_0 : decode cX3_borrowLocal 0 = .ok (.aload_n 0, 1) := by decide +kernel
theorem dX3_borrowLocal_1 : decode cX3_borrowLocal 1 = .ok (.getfield 22, 3) := by decide +kernel
theorem dX3_borrowLocal_4 : decode cX3_borrowLocal 4 = .ok (.iload_n 2, 1) := by decide +kernel
theorem dX3_borrowLocal_5 : decode cX3_borrowLocal 5 = .ok (.laload, 1) := by decide +kernel
theorem dX3_borrowLocal_6 : decode cX3_borrowLocal 6 = .ok (.lstore_n 3, 1) := by decide +kernel
theorem dX3_borrowLocal_7 : decode cX3_borrowLocal 7 = .ok (.aload_n 0, 1) := by decide +kernel
theorem dX3_borrowLocal_8 : decode cX3_borrowLocal 8 = .ok (.iload_n 2, 1) := by decide +kernel
theorem dX3_borrowLocal_9 : decode cX3_borrowLocal 9 = .ok (.invokevirtual 238, 3) := by decide +kernel
theorem dX3_borrowLocal_12 : decode cX3_borrowLocal 12 = .ok (.ifCond .ne 8, 3) := by decide +kernel
theorem dX3_borrowLocal_15 : decode cX3_borrowLocal 15 = .ok (.aload_n 0, 1) := by decide +kernel
theorem dX3_borrowLocal_16 : decode cX3_borrowLocal 16 = .ok (.iconst 5, 1) := by decide +kernel
theorem dX3_borrowLocal_17 : decode cX3_borrowLocal 17 = .ok (.invokevirtual 131, 3) := by decide +kernel
theorem dX3_borrowLocal_20 : decode cX3_borrowLocal 20 = .ok (.lload_n 3, 1) := by decide +kernel
theorem dX3_borrowLocal_21 : decode cX3_borrowLocal 21 = .ok (.invokestatic 116, 3) := by decide +kernel
theorem dX3_borrowLocal_24 : decode cX3_borrowLocal 24 = .ok (.ifCond .eq 8, 3) := by decide +kernel
theorem dX3_borrowLocal_27 : decode cX3_borrowLocal 27 = .ok (.aload_n 0, 1) := by decide +kernel
theorem dX3_borrowLocal_28 : decode cX3_borrowLocal 28 = .ok (.iconst 3, 1) := by decide +kernel
theorem dX3_borrowLocal_29 : decode cX3_borrowLocal 29 = .ok (.invokevirtual 131, 3) := by decide +kernel
theorem dX3_borrowLocal_32 : decode cX3_borrowLocal 32 = .ok (.aload_n 0, 1) := by decide +kernel
theorem dX3_borrowLocal_33 : decode cX3_borrowLocal 33 = .ok (.lconst 1, 1) := by decide +kernel
theorem dX3_borrowLocal_34 : decode cX3_borrowLocal 34 = .ok (.iload_n 2, 1) := by decide +kernel
theorem dX3_borrowLocal_35 : decode cX3_borrowLocal 35 = .ok (.lshl, 1) := by decide +kernel
theorem dX3_borrowLocal_36 : decode cX3_borrowLocal 36 = .ok (.iload_n 1, 1) := by decide +kernel
theorem dX3_borrowLocal_37 : decode cX3_borrowLocal 37 = .ok (.ifCond .ne 7, 3) := by decide +kernel
theorem dX3_borrowLocal_40 : decode cX3_borrowLocal 40 = .ok (.iconst 1, 1) := by decide +kernel
theorem dX3_borrowLocal_41 : decode cX3_borrowLocal 41 = .ok (.goto 4, 3) := by decide +kernel
theorem dX3_borrowLocal_44 : decode cX3_borrowLocal 44 = .ok (.iconst 0, 1) := by decide +kernel
theorem dX3_borrowLocal_45 : decode cX3_borrowLocal 45 = .ok (.invokevirtual 242, 3) := by decide +kernel
theorem dX3_borrowLocal_48 : decode cX3_borrowLocal 48 = .ok (.ifCond .eq 9, 3) := by decide +kernel
theorem dX3_borrowLocal_51 : decode cX3_borrowLocal 51 = .ok (.aload_n 0, 1) := by decide +kernel
theorem dX3_borrowLocal_52 : decode cX3_borrowLocal 52 = .ok (.bipush 6, 2) := by decide +kernel
theorem dX3_borrowLocal_54 : decode cX3_borrowLocal 54 = .ok (.invokevirtual 131, 3) := by decide +kernel
theorem dX3_borrowLocal_57 : decode cX3_borrowLocal 57 = .ok (.aload_n 0, 1) := by decide +kernel
theorem dX3_borrowLocal_58 : decode cX3_borrowLocal 58 = .ok (.iload_n 1, 1) := by decide +kernel
theorem dX3_borrowLocal_59 : decode cX3_borrowLocal 59 = .ok (.ifCond .eq 8, 3) := by decide +kernel
theorem dX3_borrowLocal_62 : decode cX3_borrowLocal 62 = .ok (.bipush 9, 2) := by decide +kernel
theorem dX3_borrowLocal_64 : decode cX3_borrowLocal 64 = .ok (.goto 5, 3) := by decide +kernel
theorem dX3_borrowLocal_67 : decode cX3_borrowLocal 67 = .ok (.bipush 8, 2) := by decide +kernel
theorem dX3_borrowLocal_69 : decode cX3_borrowLocal 69 = .ok (.lload_n 3, 1) := by decide +kernel
theorem dX3_borrowLocal_70 : decode cX3_borrowLocal 70 = .ok (.invokestatic 250, 3) := by decide +kernel
theorem dX3_borrowLocal_73 : decode cX3_borrowLocal 73 = .ok (.lconst 1, 1) := by decide +kernel
theorem dX3_borrowLocal_74 : decode cX3_borrowLocal 74 = .ok (.iload_n 2, 1) := by decide +kernel
theorem dX3_borrowLocal_75 : decode cX3_borrowLocal 75 = .ok (.lshl, 1) := by decide +kernel
theorem dX3_borrowLocal_76 : decode cX3_borrowLocal 76 = .ok (.iconst 0, 1) := by decide +kernel
theorem dX3_borrowLocal_77 : decode cX3_borrowLocal 77 = .ok (.invokevirtual 211, 3) := by decide +kernel
theorem dX3_borrowLocal_80 : decode cX3_borrowLocal 80 = .ok (.return_, 1) := by decide +kernel
theorem dX3_refer_0 : decode cX3_refer 0 = .ok (.iload_n 1, 1) := by decide +kernel
theorem dX3_refer_1 : decode cX3_refer 1 = .ok (.bipush 17, 2) := by decide +kernel
theorem dX3_refer_3 : decode cX3_refer 3 = .ok (.if_icmp .gt 63, 3) := by decide +kernel
theorem dX3_refer_6 : decode cX3_refer 6 = .ok (.aload_n 0, 1) := by decide +kernel
theorem dX3_refer_7 : decode cX3_refer 7 = .ok (.iload_n 2, 1) := by decide +kernel
theorem dX3_refer_8 : decode cX3_refer 8 = .ok (.invokestatic 254, 3) := by decide +kernel
theorem dX3_refer_11 : decode cX3_refer 11 = .ok (.iload_n 1, 1) := by decide +kernel
theorem dX3_refer_12 : decode cX3_refer 12 = .ok (.bipush 17, 2) := by decide +kernel
theorem dX3_refer_14 : decode cX3_refer 14 = .ok (.if_icmp .ne 7, 3) := by decide +kernel
theorem dX3_refer_17 : decode cX3_refer 17 = .ok (.iconst 1, 1) := by decide +kernel
theorem dX3_refer_18 : decode cX3_refer 18 = .ok (.goto 4, 3) := by decide +kernel
theorem dX3_refer_21 : decode cX3_refer 21 = .ok (.iconst 0, 1) := by decide +kernel
theorem dX3_refer_22 : decode cX3_refer 22 = .ok (.invokevirtual 258, 3) := by decide +kernel
theorem dX3_refer_25 : decode cX3_refer 25 = .ok (.iload_n 1, 1) := by decide +kernel
theorem dX3_refer_26 : decode cX3_refer 26 = .ok (.bipush 17, 2) := by decide +kernel
theorem dX3_refer_28 : decode cX3_refer 28 = .ok (.if_icmp .ne 8, 3) := by decide +kernel
theorem dX3_refer_31 : decode cX3_refer 31 = .ok (.bipush 9, 2) := by decide +kernel
theorem dX3_refer_33 : decode cX3_refer 33 = .ok (.goto 5, 3) := by decide +kernel
theorem dX3_refer_36 : decode cX3_refer 36 = .ok (.bipush 8, 2) := by decide +kernel
theorem dX3_refer_38 : decode cX3_refer 38 = .ok (.aload_n 0, 1) := by decide +kernel
theorem dX3_refer_39 : decode cX3_refer 39 = .ok (.getfield 44, 3) := by decide +kernel
theorem dX3_refer_42 : decode cX3_refer 42 = .ok (.iload_n 2, 1) := by decide +kernel
theorem dX3_refer_43 : decode cX3_refer 43 = .ok (.iload_n 3, 1) := by decide +kernel
theorem dX3_refer_44 : decode cX3_refer 44 = .ok (.invokevirtual 262, 3) := by decide +kernel
theorem dX3_refer_47 : decode cX3_refer 47 = .ok (.invokestatic 250, 3) := by decide +kernel
theorem dX3_refer_50 : decode cX3_refer 50 = .ok (.lstore 4, 2) := by decide +kernel
theorem dX3_refer_52 : decode cX3_refer 52 = .ok (.aload_n 0, 1) := by decide +kernel
theorem dX3_refer_53 : decode cX3_refer 53 = .ok (.lload 4, 2) := by decide +kernel
theorem dX3_refer_55 : decode cX3_refer 55 = .ok (.aload_n 0, 1) := by decide +kernel
theorem dX3_refer_56 : decode cX3_refer 56 = .ok (.getfield 194, 3) := by decide +kernel
theorem dX3_refer_59 : decode cX3_refer 59 = .ok (.iconst 1, 1) := by decide +kernel
theorem dX3_refer_60 : decode cX3_refer 60 = .ok (.invokevirtual 211, 3) := by decide +kernel
theorem dX3_refer_63 : decode cX3_refer 63 = .ok (.goto 128, 3) := by decide +kernel
theorem dX3_refer_66 : decode cX3_refer 66 = .ok (.iload_n 1, 1) := by decide +kernel
theorem dX3_refer_67 : decode cX3_refer 67 = .ok (.bipush 18, 2) := by decide +kernel
theorem dX3_refer_69 : decode cX3_refer 69 = .ok (.if_icmp .ne 34, 3) := by decide +kernel
theorem dX3_refer_72 : decode cX3_refer 72 = .ok (.aload_n 0, 1) := by decide +kernel
theorem dX3_refer_73 : decode cX3_refer 73 = .ok (.iconst 0, 1) := by decide +kernel
theorem dX3_refer_74 : decode cX3_refer 74 = .ok (.invokevirtual 265, 3) := by decide +kernel
theorem dX3_refer_77 : decode cX3_refer 77 = .ok (.lstore 4, 2) := by decide +kernel
theorem dX3_refer_79 : decode cX3_refer 79 = .ok (.aload_n 0, 1) := by decide +kernel
theorem dX3_refer_80 : decode cX3_refer 80 = .ok (.lload 4, 2) := by decide +kernel
theorem dX3_refer_82 : decode cX3_refer 82 = .ok (.iconst 1, 1) := by decide +kernel
theorem dX3_refer_83 : decode cX3_refer 83 = .ok (.invokevirtual 215, 3) := by decide +kernel
theorem dX3_refer_86 : decode cX3_refer 86 = .ok (.ifCond .ne 8, 3) := by decide +kernel
theorem dX3_refer_89 : decode cX3_refer 89 = .ok (.aload_n 0, 1) := by decide +kernel
theorem dX3_refer_90 : decode cX3_refer 90 = .ok (.iconst 4, 1) := by decide +kernel
theorem dX3_refer_91 : decode cX3_refer 91 = .ok (.invokevirtual 131, 3) := by decide +kernel
theorem dX3_refer_94 : decode cX3_refer 94 = .ok (.aload_n 0, 1) := by decide +kernel
theorem dX3_refer_95 : decode cX3_refer 95 = .ok (.lload 4, 2) := by decide +kernel
theorem dX3_refer_97 : decode cX3_refer 97 = .ok (.invokevirtual 233, 3) := by decide +kernel
theorem dX3_refer_100 : decode cX3_refer 100 = .ok (.goto 91, 3) := by decide +kernel
theorem dX3_refer_103 : decode cX3_refer 103 = .ok (.iload_n 1, 1) := by decide +kernel
theorem dX3_refer_104 : decode cX3_refer 104 = .ok (.bipush 19, 2) := by decide +kernel
theorem dX3_refer_106 : decode cX3_refer 106 = .ok (.if_icmp .ne 59, 3) := by decide +kernel
theorem dX3_refer_109 : decode cX3_refer 109 = .ok (.aload_n 0, 1) := by decide +kernel
theorem dX3_refer_110 : decode cX3_refer 110 = .ok (.iconst 1, 1) := by decide +kernel
theorem dX3_refer_111 : decode cX3_refer 111 = .ok (.invokevirtual 265, 3) := by decide +kernel
theorem dX3_refer_114 : decode cX3_refer 114 = .ok (.lstore 4, 2) := by decide +kernel
theorem dX3_refer_116 : decode cX3_refer 116 = .ok (.aload_n 0, 1) := by decide +kernel
theorem dX3_refer_117 : decode cX3_refer 117 = .ok (.getfield 194, 3) := by decide +kernel
theorem dX3_refer_120 : decode cX3_refer 120 = .ok (.lstore 6, 2) := by decide +kernel
theorem dX3_refer_122 : decode cX3_refer 122 = .ok (.aload_n 0, 1) := by decide +kernel
theorem dX3_refer_123 : decode cX3_refer 123 = .ok (.lload 4, 2) := by decide +kernel
theorem dX3_refer_125 : decode cX3_refer 125 = .ok (.invokevirtual 221, 3) := by decide +kernel
theorem dX3_refer_128 : decode cX3_refer 128 = .ok (.aload_n 0, 1) := by decide +kernel
theorem dX3_refer_129 : decode cX3_refer 129 = .ok (.getfield 44, 3) := by decide +kernel
theorem dX3_refer_132 : decode cX3_refer 132 = .ok (.lload 4, 2) := by decide +kernel
theorem dX3_refer_134 : decode cX3_refer 134 = .ok (.invokevirtual 120, 3) := by decide +kernel
theorem dX3_refer_137 : decode cX3_refer 137 = .ok (.iconst 2, 1) := by decide +kernel
theorem dX3_refer_138 : decode cX3_refer 138 = .ok (.iand, 1) := by decide +kernel
theorem dX3_refer_139 : decode cX3_refer 139 = .ok (.ifCond .ne 8, 3) := by decide +kernel
theorem dX3_refer_142 : decode cX3_refer 142 = .ok (.aload_n 0, 1) := by decide +kernel
theorem dX3_refer_143 : decode cX3_refer 143 = .ok (.iconst 4, 1) := by decide +kernel
theorem dX3_refer_144 : decode cX3_refer 144 = .ok (.invokevirtual 131, 3) := by decide +kernel
theorem dX3_refer_147 : decode cX3_refer 147 = .ok (.aload_n 0, 1) := by decide +kernel
theorem dX3_refer_148 : decode cX3_refer 148 = .ok (.lload 6, 2) := by decide +kernel
theorem dX3_refer_150 : decode cX3_refer 150 = .ok (.invokevirtual 269, 3) := by decide +kernel
theorem dX3_refer_153 : decode cX3_refer 153 = .ok (.ifCond .ne 9, 3) := by decide +kernel
theorem dX3_refer_156 : decode cX3_refer 156 = .ok (.aload_n 0, 1) := by decide +kernel
theorem dX3_refer_157 : decode cX3_refer 157 = .ok (.bipush 6, 2) := by decide +kernel
theorem dX3_refer_159 : decode cX3_refer 159 = .ok (.invokevirtual 131, 3) := by decide +kernel
theorem dX3_refer_162 : decode cX3_refer 162 = .ok (.goto 29, 3) := by decide +kernel
theorem dX3_refer_165 : decode cX3_refer 165 = .ok (.aload_n 0, 1) := by decide +kernel
theorem dX3_refer_166 : decode cX3_refer 166 = .ok (.iconst 1, 1) := by decide +kernel
theorem dX3_refer_167 : decode cX3_refer 167 = .ok (.invokevirtual 265, 3) := by decide +kernel
theorem dX3_refer_170 : decode cX3_refer 170 = .ok (.lstore 4, 2) := by decide +kernel
theorem dX3_refer_172 : decode cX3_refer 172 = .ok (.aload_n 0, 1) := by decide +kernel
theorem dX3_refer_173 : decode cX3_refer 173 = .ok (.bipush 8, 2) := by decide +kernel
theorem dX3_refer_175 : decode cX3_refer 175 = .ok (.lload 4, 2) := by decide +kernel
theorem dX3_refer_177 : decode cX3_refer 177 = .ok (.invokestatic 250, 3) := by decide +kernel
theorem dX3_refer_180 : decode cX3_refer 180 = .ok (.aload_n 0, 1) := by decide +kernel
theorem dX3_refer_181 : decode cX3_refer 181 = .ok (.getfield 194, 3) := by decide +kernel
theorem dX3_refer_184 : decode cX3_refer 184 = .ok (.aload_n 0, 1) := by decide +kernel
theorem dX3_refer_185 : decode cX3_refer 185 = .ok (.getfield 197, 3) := by decide +kernel
theorem dX3_refer_188 : decode cX3_refer 188 = .ok (.invokevirtual 211, 3) := by decide +kernel
theorem dX3_refer_191 : decode cX3_refer 191 = .ok (.return_, 1) := by decide +kernel
theorem dX3_pack_0 : decode cX3_pack 0 = .ok (.aload_n 0, 1) := by decide +kernel
theorem dX3_pack_1 : decode cX3_pack 1 = .ok (.getfield 44, 3) := by decide +kernel
theorem dX3_pack_4 : decode cX3_pack 4 = .ok (.iload_n 2, 1) := by decide +kernel
theorem dX3_pack_5 : decode cX3_pack 5 = .ok (.invokevirtual 272, 3) := by decide +kernel
theorem dX3_pack_8 : decode cX3_pack 8 = .ok (.istore_n 3, 1) := by decide +kernel
theorem dX3_pack_9 : decode cX3_pack 9 = .ok (.iload_n 1, 1) := by decide +kernel
theorem dX3_pack_10 : decode cX3_pack 10 = .ok (.ifCond .eq 42, 3) := by decide +kernel
theorem dX3_pack_13 : decode cX3_pack 13 = .ok (.iload_n 3, 1) := by decide +kernel
theorem dX3_pack_14 : decode cX3_pack 14 = .ok (.iconst 1, 1) := by decide +kernel
theorem dX3_pack_15 : decode cX3_pack 15 = .ok (.isub, 1) := by decide +kernel
theorem dX3_pack_16 : decode cX3_pack 16 = .ok (.istore 4, 2) := by decide +kernel
theorem dX3_pack_18 : decode cX3_pack 18 = .ok (.iload 4, 2) := by decide +kernel
theorem dX3_pack_20 : decode cX3_pack 20 = .ok (.ifCond .lt 23, 3) := by decide +kernel
theorem dX3_pack_23 : decode cX3_pack 23 = .ok (.aload_n 0, 1) := by decide +kernel
theorem dX3_pack_24 : decode cX3_pack 24 = .ok (.aload_n 0, 1) := by decide +kernel
theorem dX3_pack_25 : decode cX3_pack 25 = .ok (.getfield 44, 3) := by decide +kernel
theorem dX3_pack_28 : decode cX3_pack 28 = .ok (.iload_n 2, 1) := by decide +kernel
theorem dX3_pack_29 : decode cX3_pack 29 = .ok (.iload 4, 2) := by decide +kernel
theorem dX3_pack_31 : decode cX3_pack 31 = .ok (.invokevirtual 262, 3) := by decide +kernel
theorem dX3_pack_34 : decode cX3_pack 34 = .ok (.invokevirtual 221, 3) := by decide +kernel
theorem dX3_pack_37 : decode cX3_pack 37 = .ok (.iinc 4 (-1), 3) := by decide +kernel
