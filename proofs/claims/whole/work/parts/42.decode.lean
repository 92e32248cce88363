theorem dX0_init_0 : decode cX0_init 0 = .ok (.aload_n 0, 1) := by decide +kernel
theorem dX0_init_1 : decode cX0_init 1 = .ok (.invokespecial 1, 3) := by decide +kernel
theorem dX0_init_4 : decode cX0_init 4 = .ok (.aload_n 0, 1) := by decide +kernel
theorem dX0_init_5 : decode cX0_init 5 = .ok (.bipush 8, 2) := by decide +kernel
theorem dX0_init_7 : decode cX0_init 7 = .ok (.newarray .int, 2) := by decide +kernel
theorem dX0_init_9 : decode cX0_init 9 = .ok (.putfield 7, 3) := by decide +kernel
theorem dX0_init_12 : decode cX0_init 12 = .ok (.aload_n 0, 1) := by decide +kernel
theorem dX0_init_13 : decode cX0_init 13 = .ok (.bipush 64, 2) := by decide +kernel
theorem dX0_init_15 : decode cX0_init 15 = .ok (.newarray .int, 2) := by decide +kernel
theorem dX0_init_17 : decode cX0_init 17 = .ok (.putfield 13, 3) := by decide +kernel
theorem dX0_init_20 : decode cX0_init 20 = .ok (.return_, 1) := by decide +kernel
theorem dX1_init_0 : decode cX1_init 0 = .ok (.aload_n 0, 1) := by decide +kernel
theorem dX1_init_1 : decode cX1_init 1 = .ok (.invokespecial 3, 3) := by decide +kernel
theorem dX1_init_4 : decode cX1_init 4 = .ok (.aload_n 0, 1) := by decide +kernel
theorem dX1_init_5 : decode cX1_init 5 = .ok (.sipush 21600, 3) := by decide +kernel
theorem dX1_init_8 : decode cX1_init 8 = .ok (.newarray .byte, 2) := by decide +kernel
theorem dX1_init_10 : decode cX1_init 10 = .ok (.putfield 11, 3) := by decide +kernel
theorem dX1_init_13 : decode cX1_init 13 = .ok (.aload_n 0, 1) := by decide +kernel
theorem dX1_init_14 : decode cX1_init 14 = .ok (.sipush 21600, 3) := by decide +kernel
theorem dX1_init_17 : decode cX1_init 17 = .ok (.newarray .long, 2) := by decide +kernel
theorem dX1_init_19 : decode cX1_init 19 = .ok (.putfield 15, 3) := by decide +kernel
theorem dX1_init_22 : decode cX1_init 22 = .ok (.aload_n 0, 1) := by decide +kernel
theorem dX1_init_23 : decode cX1_init 23 = .ok (.sipush 21600, 3) := by decide +kernel
theorem dX1_init_26 : decode cX1_init 26 = .ok (.newarray .long, 2) := by decide +kernel
theorem dX1_init_28 : decode cX1_init 28 = .ok (.putfield 19, 3) := by decide +kernel
theorem dX1_init_31 : decode cX1_init 31 = .ok (.aload_n 0, 1) := by decide +kernel
theorem dX1_init_32 : decode cX1_init 32 = .ok (.sipush 21600, 3) := by decide +kernel
theorem dX1_init_35 : decode cX1_init 35 = .ok (.newarray .int, 2) := by decide +kernel
theorem dX1_init_37 : decode cX1_init 37 = .ok (.putfield 22, 3) := by decide +kernel
theorem dX1_init_40 : decode cX1_init 40 = .ok (.return_, 1) := by decide +kernel
theorem dX2_init_0 : decode cX2_init 0 = .ok (.aload_n 0, 1) := by decide +kernel
theorem dX2_init_1 : decode cX2_init 1 = .ok (.invokespecial 3, 3) := by decide +kernel
theorem dX2_init_4 : decode cX2_init 4 = .ok (.aload_n 0, 1) := by decide +kernel
theorem dX2_init_5 : decode cX2_init 5 = .ok (.bipush 24, 2) := by decide +kernel
theorem dX2_init_7 : decode cX2_init 7 = .ok (.newarray .int, 2) := by decide +kernel
theorem dX2_init_9 : decode cX2_init 9 = .ok (.putfield 11, 3) := by decide +kernel
theorem dX2_init_12 : decode cX2_init 12 = .ok (.aload_n 0, 1) := by decide +kernel
theorem dX2_init_13 : decode cX2_init 13 = .ok (.bipush 24, 2) := by decide +kernel
theorem dX2_init_15 : decode cX2_init 15 = .ok (.newarray .long, 2) := by decide +kernel
theorem dX2_init_17 : decode cX2_init 17 = .ok (.putfield 15, 3) := by decide +kernel
theorem dX2_init_20 : decode cX2_init 20 = .ok (.aload_n 0, 1) := by decide +kernel
theorem dX2_init_21 : decode cX2_init 21 = .ok (.bipush 24, 2) := by decide +kernel
theorem dX2_init_23 : decode cX2_init 23 = .ok (.newarray .int, 2) := by decide +kernel
theorem dX2_init_25 : decode cX2_init 25 = .ok (.putfield 19, 3) := by decide +kernel
theorem dX2_init_28 : decode cX2_init 28 = .ok (.aload_n 0, 1) := by decide +kernel
theorem dX2_init_29 : decode cX2_init 29 = .ok (.bipush 24, 2) := by decide +kernel
theorem dX2_init_31 : decode cX2_init 31 = .ok (.newarray .int, 2) := by decide +kernel
theorem dX2_init_33 : decode cX2_init 33 = .ok (.putfield 22, 3) := by decide +kernel
theorem dX2_init_36 : decode cX2_init 36 = .ok (.aload_n 0, 1) := by decide +kernel
theorem dX2_init_37 : decode cX2_init 37 = .ok (.bipush 24, 2) := by decide +kernel
theorem dX2_init_39 : decode cX2_init 39 = .ok (.newarray .boolean, 2) := by decide +kernel
theorem dX2_init_41 : decode cX2_init 41 = .ok (.putfield 25, 3) := by decide +kernel
theorem dX2_init_44 : decode cX2_init 44 = .ok (.aload_n 0, 1) := by decide +kernel
theorem dX2_init_45 : decode cX2_init 45 = .ok (.bipush 24, 2) := by decide +kernel
theorem dX2_init_47 : decode cX2_init 47 = .ok (.newarray .boolean, 2) := by decide +kernel
theorem dX2_init_49 : decode cX2_init 49 = .ok (.putfield 29, 3) := by decide +kernel
theorem dX2_init_52 : decode cX2_init 52 = .ok (.aload_n 0, 1) := by decide +kernel
theorem dX2_init_53 : decode cX2_init 53 = .ok (.bipush 24, 2) := by decide +kernel
theorem dX2_init_55 : decode cX2_init 55 = .ok (.newarray .long, 2) := by decide +kernel
theorem dX2_init_57 : decode cX2_init 57 = .ok (.putfield 32, 3) := by decide +kernel
theorem dX2_init_60 : decode cX2_init 60 = .ok (.aload_n 0, 1) := by decide +kernel
theorem dX2_init_61 : decode cX2_init 61 = .ok (.bipush 24, 2) := by decide +kernel
theorem dX2_init_63 : decode cX2_init 63 = .ok (.newarray .int, 2) := by decide +kernel
theorem dX2_init_65 : decode cX2_init 65 = .ok (.putfield 35, 3) := by decide +kernel
theorem dX2_init_68 : decode cX2_init 68 = .ok (.aload_n 0, 1) := by decide +kernel
theorem dX2_init_69 : decode cX2_init 69 = .ok (.aload_n 1, 1) := by decide +kernel
theorem dX2_init_70 : decode cX2_init 70 = .ok (.putfield 38, 3) := by decide +kernel
theorem dX2_init_73 : decode cX2_init 73 = .ok (.aload_n 0, 1) := by decide +kernel
theorem dX2_init_74 : decode cX2_init 74 = .ok (.aload_n 2, 1) := by decide +kernel
theorem dX2_init_75 : decode cX2_init 75 = .ok (.putfield 42, 3) := by decide +kernel
theorem dX2_init_78 : decode cX2_init 78 = .ok (.return_, 1) := by decide +kernel
theorem dX3_init_0 : decode cX3_init 0 = .ok (.aload_n 0, 1) := by decide +kernel
theorem dX3_init_1 : decode cX3_init 1 = .ok (.invokespecial 3, 3) := by decide +kernel
theorem dX3_init_4 : decode cX3_init 4 = .ok (.aload_n 0, 1) := by decide +kernel
theorem dX3_init_5 : decode cX3_init 5 = .ok (.bipush 64, 2) := by decide +kernel
theorem dX3_init_7 : decode cX3_init 7 = .ok (.newarray .long, 2) := by decide +kernel
theorem dX3_init_9 : decode cX3_init 9 = .ok (.putfield 11, 3) := by decide +kernel
theorem dX3_init_12 : decode cX3_init 12 = .ok (.aload_n 0, 1) := by decide +kernel
theorem dX3_init_13 : decode cX3_init 13 = .ok (.bipush 64, 2) := by decide +kernel
theorem dX3_init_15 : decode cX3_init 15 = .ok (.newarray .long, 2) := by decide +kernel
theorem dX3_init_17 : decode cX3_init 17 = .ok (.putfield 15, 3) := by decide +kernel
theorem dX3_init_20 : decode cX3_init 20 = .ok (.aload_n 0, 1) := by decide +kernel
theorem dX3_init_21 : decode cX3_init 21 = .ok (.bipush 64, 2) := by decide +kernel
theorem dX3_init_23 : decode cX3_init 23 = .ok (.newarray .boolean, 2) := by decide +kernel
theorem dX3_init_25 : decode cX3_init 25 = .ok (.putfield 18, 3) := by decide +kernel
theorem dX3_init_28 : decode cX3_init 28 = .ok (.aload_n 0, 1) := by decide +kernel
theorem dX3_init_29 : decode cX3_init 29 = .ok (.bipush 40, 2) := by decide +kernel
theorem dX3_init_31 : decode cX3_init 31 = .ok (.newarray .long, 2) := by decide +kernel
theorem dX3_init_33 : decode cX3_init 33 = .ok (.putfield 22, 3) := by decide +kernel
theorem dX3_init_36 : decode cX3_init 36 = .ok (.aload_n 0, 1) := by decide +kernel
theorem dX3_init_37 : decode cX3_init 37 = .ok (.bipush 40, 2) := by decide +kernel
theorem dX3_init_39 : decode cX3_init 39 = .ok (.newarray .long, 2) := by decide +kernel
theorem dX3_init_41 : decode cX3_init 41 = .ok (.putfield 25, 3) := by decide +kernel
theorem dX3_init_44 : decode cX3_init 44 = .ok (.aload_n 0, 1) := by decide +kernel
theorem dX3_init_45 : decode cX3_init 45 = .ok (.sipush 1024, 3) := by decide +kernel
theorem dX3_init_48 : decode cX3_init 48 = .ok (.newarray .boolean, 2) := by decide +kernel
theorem dX3_init_50 : decode cX3_init 50 = .ok (.putfield 28, 3) := by decide +kernel
theorem dX3_init_53 : decode cX3_init 53 = .ok (.aload_n 0, 1) := by decide +kernel
theorem dX3_init_54 : decode cX3_init 54 = .ok (.sipush 1024, 3) := by decide +kernel
theorem dX3_init_57 : decode cX3_init 57 = .ok (.newarray .boolean, 2) := by decide +kernel
theorem dX3_init_59 : decode cX3_init 59 = .ok (.putfield 31, 3) := by decide +kernel
theorem dX3_init_62 : decode cX3_init 62 = .ok (.aload_n 0, 1) := by decide +kernel
theorem dX3_init_63 : decode cX3_init 63 = .ok (.sipush 1024, 3) := by decide +kernel
theorem dX3_init_66 : decode cX3_init 66 = .ok (.newarray .long, 2) := by decide +kernel
theorem dX3_init_68 : decode cX3_init 68 = .ok (.putfield 34, 3) := by decide +kernel
theorem dX3_init_71 : decode cX3_init 71 = .ok (.aload_n 0, 1) := by decide +kernel
theorem dX3_init_72 : decode cX3_init 72 = .ok (.sipush 1024, 3) := by decide +kernel
theorem dX3_init_75 : decode cX3_init 75 = .ok (.newarray .long, 2) := by decide +kernel
theorem dX3_init_77 : decode cX3_init 77 = .ok (.putfield 37, 3) := by decide +kernel
theorem dX3_init_80 : decode cX3_init 80 = .ok (.aload_n 0, 1) := by decide +kernel
theorem dX3_init_81 : decode cX3_init 81 = .ok (.ldc 40, 2) := by decide +kernel
theorem dX3_init_83 : decode cX3_init 83 = .ok (.newarray .long, 2) := by decide +kernel
theorem dX3_init_85 : decode cX3_init 85 = .ok (.putfield 41, 3) := by decide +kernel
theorem dX3_init_88 : decode cX3_init 88 = .ok (.return_, 1) := by decide +kernel
set_option maxRecDepth 20000 in
theorem ggX4_init_X1_init : GoodIn wsX4_init wsX1_init := goodIn_r _ [32, 33, 2, 3, 16, 34, 35, 36, 37, 20, 38, 62, 63, 64, 65, 66, 67, 68] rfl (by decide +kernel)
set_option maxRecDepth 20000 in
theorem ggX4_init_X10_init : GoodIn wsX4_init wsX10_init := goodIn_r _ [40, 41, 2, 3] rfl (by decide +kernel)
set_option maxRecDepth 20000 in
theorem ggX4_init_X0_init : GoodIn wsX4_init wsX0_init := goodIn_r _ [43, 44, 2, 3, 20, 45, 46, 92, 93, 94, 95] rfl (by decide +kernel)
set_option maxRecDepth 20000 in
theorem ggX4_init_X2_init : GoodIn wsX4_init wsX2_init := goodIn_r _ [49, 50, 2, 3, 20, 51, 35, 52, 53, 54, 55, 56, 57, 58, 59, 60, 61, 96, 97, 98, 99, 100, 101, 102, 103, 104, 105, 106] rfl (by decide +kernel)
set_option maxRecDepth 20000 in
theorem gX4_init_X2_init : GoodIn wsX4_init (wsX2_init) := ggX4_init_X2_init
theorem dX4_init_0 : decode cX4_init 0 = .ok (.aload_n 0, 1) := by decide +kernel
theorem dX4_init_1 : decode cX4_init 1 = .ok (.invokespecial 3, 3) := by decide +kernel
theorem dX4_init_4 : decode cX4_init 4 = .ok (.aload_n 0, 1) := by decide +kernel
theorem dX4_init_5 : decode cX4_init 5 = .ok (.new 9, 3) := by decide +kernel
theorem dX4_init_8 : decode cX4_init 8 = .ok (.dup, 1) := by decide +kernel
theorem dX4_init_9 : decode cX4_init 9 = .ok (.invokespecial 11, 3) := by decide +kernel
theorem dX4_init_12 : decode cX4_init 12 = .ok (.putfield 12, 3) := by decide +kernel
theorem dX4_init_15 : decode cX4_init 15 = .ok (.aload_n 0, 1) := by decide +kernel
theorem dX4_init_16 : decode cX4_init 16 = .ok (.new 18, 3) := by decide +kernel
theorem dX4_init_19 : decode cX4_init 19 = .ok (.dup, 1) := by decide +kernel
theorem dX4_init_20 : decode cX4_init 20 = .ok (.invokespecial 20, 3) := by decide +kernel
theorem dX4_init_23 : decode cX4_init 23 = .ok (.putfield 21, 3) := by decide +kernel
theorem dX4_init_26 : decode cX4_init 26 = .ok (.aload_n 0, 1) := by decide +kernel
theorem dX4_init_27 : decode cX4_init 27 = .ok (.new 25, 3) := by decide +kernel
theorem dX4_init_30 : decode cX4_init 30 = .ok (.dup, 1) := by decide +kernel
theorem dX4_init_31 : decode cX4_init 31 = .ok (.invokespecial 27, 3) := by decide +kernel
theorem dX4_init_34 : decode cX4_init 34 = .ok (.putfield 28, 3) := by decide +kernel
theorem dX4_init_37 : decode cX4_init 37 = .ok (.aload_n 0, 1) := by decide +kernel
theorem dX4_init_38 : decode cX4_init 38 = .ok (.sipush 256, 3) := by decide +kernel
theorem dX4_init_41 : decode cX4_init 41 = .ok (.newarray .byte, 2) := by decide +kernel
theorem dX4_init_43 : decode cX4_init 43 = .ok (.putfield 32, 3) := by decide +kernel
theorem dX4_init_46 : decode cX4_init 46 = .ok (.aload_n 0, 1) := by decide +kernel
theorem dX4_init_47 : decode cX4_init 47 = .ok (.bipush 32, 2) := by decide +kernel
theorem dX4_init_49 : decode cX4_init 49 = .ok (.anewarray 36, 3) := by decide +kernel
theorem dX4_init_52 : decode cX4_init 52 = .ok (.putfield 38, 3) := by decide +kernel
theorem dX4_init_55 : decode cX4_init 55 = .ok (.aload_n 0, 1) := by decide +kernel
theorem dX4_init_56 : decode cX4_init 56 = .ok (.bipush 32, 2) := by decide +kernel
theorem dX4_init_58 : decode cX4_init 58 = .ok (.newarray .int, 2) := by decide +kernel
theorem dX4_init_60 : decode cX4_init 60 = .ok (.putfield 42, 3) := by decide +kernel
theorem dX4_init_63 : decode cX4_init 63 = .ok (.aload_n 0, 1) := by decide +kernel
theorem dX4_init_64 : decode cX4_init 64 = .ok (.bipush 32, 2) := by decide +kernel
theorem dX4_init_66 : decode cX4_init 66 = .ok (.newarray .int, 2) := by decide +kernel
theorem dX4_init_68 : decode cX4_init 68 = .ok (.putfield 46, 3) := by decide +kernel
theorem dX4_init_71 : decode cX4_init 71 = .ok (.aload_n 0, 1) := by decide +kernel
theorem dX4_init_72 : decode cX4_init 72 = .ok (.bipush 32, 2) := by decide +kernel
theorem dX4_init_74 : decode cX4_init 74 = .ok (.newarray .int, 2) := by decide +kernel
theorem dX4_init_76 : decode cX4_init 76 = .ok (.putfield 49, 3) := by decide +kernel
theorem dX4_init_79 : decode cX4_init 79 = .ok (.aload_n 0, 1) := by decide +kernel
theorem dX4_init_80 : decode cX4_init 80 = .ok (.sipush 1280, 3) := by decide +kernel
theorem dX4_init_83 : decode cX4_init 83 = .ok (.newarray .int, 2) := by decide +kernel
theorem dX4_init_85 : decode cX4_init 85 = .ok (.putfield 52, 3) := by decide +kernel
theorem dX4_init_88 : decode cX4_init 88 = .ok (.aload_n 0, 1) := by decide +kernel
theorem dX4_init_89 : decode cX4_init 89 = .ok (.sipush 2048, 3) := by decide +kernel
theorem dX4_init_92 : decode cX4_init 92 = .ok (.newarray .int, 2) := by decide +kernel
theorem dX4_init_94 : decode cX4_init 94 = .ok (.putfield 55, 3) := by decide +kernel
theorem dX4_init_97 : decode cX4_init 97 = .ok (.aload_n 0, 1) := by decide +kernel
theorem dX4_init_98 : decode cX4_init 98 = .ok (.aload_n 1, 1) := by decide +kernel
theorem dX4_init_99 : decode cX4_init 99 = .ok (.putfield 58, 3) := by decide +kernel
theorem dX4_init_102 : decode cX4_init 102 = .ok (.aload_n 0, 1) := by decide +kernel
theorem dX4_init_103 : decode cX4_init 103 = .ok (.new 62, 3) := by decide +kernel
theorem dX4_init_106 : decode cX4_init 106 = .ok (.dup, 1) := by decide +kernel
theorem dX4_init_107 : decode cX4_init 107 = .ok (.aload_n 1, 1) := by decide +kernel
theorem dX4_init_108 : decode cX4_init 108 = .ok (.aload_n 0, 1) := by decide +kernel
theorem dX4_init_109 : decode cX4_init 109 = .ok (.getfield 12, 3) := by decide +kernel
theorem dX4_init_112 : decode cX4_init 112 = .ok (.invokespecial 64, 3) := by decide +kernel
theorem dX4_init_115 : decode cX4_init 115 = .ok (.putfield 67, 3) := by decide +kernel
theorem dX4_init_118 : decode cX4_init 118 = .ok (.return_, 1) := by decide +kernel
theorem dX5_init_0 : decode cX5_init 0 = .ok (.aload_n 0, 1) := by decide +kernel
theorem dX5_init_1 : decode cX5_init 1 = .ok (.invokespecial 3, 3) := by decide +kernel
theorem dX5_init_4 : decode cX5_init 4 = .ok (.aload_n 0, 1) := by decide +kernel
theorem dX5_init_5 : decode cX5_init 5 = .ok (.sipush 2048, 3) := by decide +kernel
theorem dX5_init_8 : decode cX5_init 8 = .ok (.newarray .long, 2) := by decide +kernel
theorem dX5_init_10 : decode cX5_init 10 = .ok (.putfield 9, 3) := by decide +kernel
theorem dX5_init_13 : decode cX5_init 13 = .ok (.aload_n 0, 1) := by decide +kernel
theorem dX5_init_14 : decode cX5_init 14 = .ok (.sipush 2048, 3) := by decide +kernel
theorem dX5_init_17 : decode cX5_init 17 = .ok (.newarray .int, 2) := by decide +kernel
theorem dX5_init_19 : decode cX5_init 19 = .ok (.putfield 15, 3) := by decide +kernel
theorem dX5_init_22 : decode cX5_init 22 = .ok (.aload_n 0, 1) := by decide +kernel
theorem dX5_init_23 : decode cX5_init 23 = .ok (.sipush 448, 3) := by decide +kernel
theorem dX5_init_26 : decode cX5_init 26 = .ok (.newarray .int, 2) := by decide +kernel
theorem dX5_init_28 : decode cX5_init 28 = .ok (.putfield 19, 3) := by decide +kernel
theorem dX5_init_31 : decode cX5_init 31 = .ok (.aload_n 0, 1) := by decide +kernel
theorem dX5_init_32 : decode cX5_init 32 = .ok (.sipush 864, 3) := by decide +kernel
theorem dX5_init_35 : decode cX5_init 35 = .ok (.newarray .int, 2) := by decide +kernel
theorem dX5_init_37 : decode cX5_init 37 = .ok (.putfield 22, 3) := by decide +kernel
theorem dX5_init_40 : decode cX5_init 40 = .ok (.return_, 1) := by decide +kernel
theorem dX6_init_0 : decode cX6_init 0 = .ok (.aload_n 0, 1) := by decide +kernel
theorem dX6_init_1 : decode cX6_init 1 = .ok (.invokespecial 3, 3) := by decide +kernel
theorem dX6_init_4 : decode cX6_init 4 = .ok (.aload_n 0, 1) := by decide +kernel
theorem dX6_init_5 : decode cX6_init 5 = .ok (.bipush 32, 2) := by decide +kernel
theorem dX6_init_7 : decode cX6_init 7 = .ok (.newarray .int, 2) := by decide +kernel
theorem dX6_init_9 : decode cX6_init 9 = .ok (.putfield 11, 3) := by decide +kernel
theorem dX6_init_12 : decode cX6_init 12 = .ok (.return_, 1) := by decide +kernel
set_option maxRecDepth 20000 in
theorem ggX7_init_X5_init : GoodIn wsX7_init wsX5_init := goodIn_r _ [22, 23, 2, 3, 4, 24, 11, 25, 26, 27, 44, 45, 46, 47, 48, 49, 50, 51, 52, 53, 54, 55, 56, 57, 58] rfl (by decide +kernel)
theorem dX7_init_0 : decode cX7_init 0 = .ok (.aload_n 0, 1) := by decide +kernel
theorem dX7_init_1 : decode cX7_init 1 = .ok (.invokespecial 3, 3) := by decide +kernel
theorem dX7_init_4 : decode cX7_init 4 = .ok (.aload_n 0, 1) := by decide +kernel
theorem dX7_init_5 : decode cX7_init 5 = .ok (.sipush 256, 3) := by decide +kernel
theorem dX7_init_8 : decode cX7_init 8 = .ok (.newarray .long, 2) := by decide +kernel
theorem dX7_init_10 : decode cX7_init 10 = .ok (.putfield 9, 3) := by decide +kernel
theorem dX7_init_13 : decode cX7_init 13 = .ok (.aload_n 0, 1) := by decide +kernel
theorem dX7_init_14 : decode cX7_init 14 = .ok (.sipush 256, 3) := by decide +kernel
theorem dX7_init_17 : decode cX7_init 17 = .ok (.newarray .long, 2) := by decide +kernel
theorem dX7_init_19 : decode cX7_init 19 = .ok (.putfield 15, 3) := by decide +kernel
theorem dX7_init_22 : decode cX7_init 22 = .ok (.aload_n 0, 1) := by decide +kernel
theorem dX7_init_23 : decode cX7_init 23 = .ok (.sipush 256, 3) := by decide +kernel
theorem dX7_init_26 : decode cX7_init 26 = .ok (.newarray .long, 2) := by decide +kernel
theorem dX7_init_28 : decode cX7_init 28 = .ok (.putfield 18, 3) := by decide +kernel
theorem dX7_init_31 : decode cX7_init 31 = .ok (.aload_n 0, 1) := by decide +kernel
theorem dX7_init_32 : decode cX7_init 32 = .ok (.bipush 9, 2) := by decide +kernel
theorem dX7_init_34 : decode cX7_init 34 = .ok (.anewarray 21, 3) := by decide +kernel
theorem dX7_init_37 : decode cX7_init 37 = .ok (.putfield 23, 3) := by decide +kernel
theorem dX7_init_40 : decode cX7_init 40 = .ok (.aload_n 0, 1) := by decide +kernel
theorem dX7_init_41 : decode cX7_init 41 = .ok (.sipush 256, 3) := by decide +kernel
theorem dX7_init_44 : decode cX7_init 44 = .ok (.newarray .long, 2) := by decide +kernel
theorem dX7_init_46 : decode cX7_init 46 = .ok (.putfield 27, 3) := by decide +kernel
theorem dX7_init_49 : decode cX7_init 49 = .ok (.aload_n 0, 1) := by decide +kernel
theorem dX7_init_50 : decode cX7_init 50 = .ok (.sipush 256, 3) := by decide +kernel
theorem dX7_init_53 : decode cX7_init 53 = .ok (.newarray .int, 2) := by decide +kernel
theorem dX7_init_55 : decode cX7_init 55 = .ok (.putfield 30, 3) := by decide +kernel
theorem dX7_init_58 : decode cX7_init 58 = .ok (.aload_n 0, 1) := by decide +kernel
theorem dX7_init_59 : decode cX7_init 59 = .ok (.sipush 256, 3) := by decide +kernel
theorem dX7_init_62 : decode cX7_init 62 = .ok (.newarray .int, 2) := by decide +kernel
theorem dX7_init_64 : decode cX7_init 64 = .ok (.putfield 34, 3) := by decide +kernel
theorem dX7_init_67 : decode cX7_init 67 = .ok (.aload_n 0, 1) := by decide +kernel
theorem dX7_init_68 : decode cX7_init 68 = .ok (.sipush 256, 3) := by decide +kernel
theorem dX7_init_71 : decode cX7_init 71 = .ok (.newarray .int, 2) := by decide +kernel
theorem dX7_init_73 : decode cX7_init 73 = .ok (.putfield 37, 3) := by decide +kernel
theorem dX7_init_76 : decode cX7_init 76 = .ok (.aload_n 0, 1) := by decide +kernel
theorem dX7_init_77 : decode cX7_init 77 = .ok (.sipush 16384, 3) := by decide +kernel
theorem dX7_init_80 : decode cX7_init 80 = .ok (.newarray .byte, 2) := by decide +kernel
theorem dX7_init_82 : decode cX7_init 82 = .ok (.putfield 40, 3) := by decide +kernel
theorem dX7_init_85 : decode cX7_init 85 = .ok (.aload_n 0, 1) := by decide +kernel
theorem dX7_init_86 : decode cX7_init 86 = .ok (.sipush 16384, 3) := by decide +kernel
theorem dX7_init_89 : decode cX7_init 89 = .ok (.newarray .long, 2) := by decide +kernel
theorem dX7_init_91 : decode cX7_init 91 = .ok (.putfield 44, 3) := by decide +kernel
theorem dX7_init_94 : decode cX7_init 94 = .ok (.aload_n 0, 1) := by decide +kernel
theorem dX7_init_95 : decode cX7_init 95 = .ok (.sipush 16384, 3) := by decide +kernel
theorem dX7_init_98 : decode cX7_init 98 = .ok (.newarray .long, 2) := by decide +kernel
theorem dX7_init_100 : decode cX7_init 100 = .ok (.putfield 47, 3) := by decide +kernel
theorem dX7_init_103 : decode cX7_init 103 = .ok (.iconst 0, 1) := by decide +kernel
theorem dX7_init_104 : decode cX7_init 104 = .ok (.istore_n 1, 1) := by decide +kernel
theorem dX7_init_105 : decode cX7_init 105 = .ok (.iload_n 1, 1) := by decide +kernel
theorem dX7_init_106 : decode cX7_init 106 = .ok (.bipush 8, 2) := by decide +kernel
theorem dX7_init_108 : decode cX7_init 108 = .ok (.if_icmp .gt 22, 3) := by decide +kernel
theorem dX7_init_111 : decode cX7_init 111 = .ok (.aload_n 0, 1) := by decide +kernel
theorem dX7_init_112 : decode cX7_init 112 = .ok (.getfield 23, 3) := by decide +kernel
theorem dX7_init_115 : decode cX7_init 115 = .ok (.iload_n 1, 1) := by decide +kernel
theorem dX7_init_116 : decode cX7_init 116 = .ok (.new 21, 3) := by decide +kernel
theorem dX7_init_119 : decode cX7_init 119 = .ok (.dup, 1) := by decide +kernel
theorem dX7_init_120 : decode cX7_init 120 = .ok (.invokespecial 50, 3) := by decide +kernel
theorem dX7_init_123 : decode cX7_init 123 = .ok (.aastore, 1) := by decide +kernel
theorem dX7_init_124 : decode cX7_init 124 = .ok (.iinc 1 1, 3) := by decide +kernel
theorem dX7_init_127 : decode cX7_init 127 = .ok (.goto (-22), 3) := by decide +kernel
theorem dX7_init_130 : decode cX7_init 130 = .ok (.return_, 1) := by decide +kernel
theorem dX8_init_0 : decode cX8_init 0 = .ok (.aload_n 0, 1) := by decide +kernel
theorem dX8_init_1 : decode cX8_init 1 = .ok (.invokespecial 3, 3) := by decide +kernel
theorem dX8_init_4 : decode cX8_init 4 = .ok (.aload_n 0, 1) := by decide +kernel
theorem dX8_init_5 : decode cX8_init 5 = .ok (.bipush 8, 2) := by decide +kernel
theorem dX8_init_7 : decode cX8_init 7 = .ok (.newarray .int, 2) := by decide +kernel
theorem dX8_init_9 : decode cX8_init 9 = .ok (.putfield 9, 3) := by decide +kernel
theorem dX8_init_12 : decode cX8_init 12 = .ok (.aload_n 0, 1) := by decide +kernel
theorem dX8_init_13 : decode cX8_init 13 = .ok (.bipush 8, 2) := by decide +kernel
theorem dX8_init_15 : decode cX8_init 15 = .ok (.newarray .long, 2) := by decide +kernel
theorem dX8_init_17 : decode cX8_init 17 = .ok (.putfield 15, 3) := by decide +kernel
theorem dX8_init_20 : decode cX8_init 20 = .ok (.aload_n 0, 1) := by decide +kernel
theorem dX8_init_21 : decode cX8_init 21 = .ok (.bipush 8, 2) := by decide +kernel
theorem dX8_init_23 : decode cX8_init 23 = .ok (.newarray .long, 2) := by decide +kernel
theorem dX8_init_25 : decode cX8_init 25 = .ok (.putfield 19, 3) := by decide +kernel
theorem dX8_init_28 : decode cX8_init 28 = .ok (.aload_n 0, 1) := by decide +kernel
theorem dX8_init_29 : decode cX8_init 29 = .ok (.bipush 8, 2) := by decide +kernel
theorem dX8_init_31 : decode cX8_init 31 = .ok (.newarray .int, 2) := by decide +kernel
theorem dX8_init_33 : decode cX8_init 33 = .ok (.putfield 22, 3) := by decide +kernel
theorem dX8_init_36 : decode cX8_init 36 = .ok (.aload_n 0, 1) := by decide +kernel
theorem dX8_init_37 : decode cX8_init 37 = .ok (.bipush 8, 2) := by decide +kernel
theorem dX8_init_39 : decode cX8_init 39 = .ok (.newarray .long, 2) := by decide +kernel
theorem dX8_init_41 : decode cX8_init 41 = .ok (.putfield 25, 3) := by decide +kernel
theorem dX8_init_44 : decode cX8_init 44 = .ok (.aload_n 0, 1) := by decide +kernel
theorem dX8_init_45 : decode cX8_init 45 = .ok (.bipush 8, 2) := by decide +kernel
theorem dX8_init_47 : decode cX8_init 47 = .ok (.newarray .long, 2) := by decide +kernel
theorem dX8_init_49 : decode cX8_init 49 = .ok (.putfield 28, 3) := by decide +kernel
theorem dX8_init_52 : decode cX8_init 52 = .ok (.return_, 1) := by decide +kernel
set_option maxRecDepth 20000 in
theorem ggX9_init_X0_init : GoodIn wsX9_init wsX0_init := goodIn_r _ [21, 22, 2, 3, 13, 23, 24, 38, 39, 40, 41] rfl (by decide +kernel)
theorem dX9_init_0 : decode cX9_init 0 = .ok (.aload_n 0, 1) := by decide +kernel
theorem dX9_init_1 : decode cX9_init 1 = .ok (.invokespecial 3, 3) := by decide +kernel
theorem dX9_init_4 : decode cX9_init 4 = .ok (.aload_n 0, 1) := by decide +kernel
theorem dX9_init_5 : decode cX9_init 5 = .ok (.iconst 4, 1) := by decide +kernel
theorem dX9_init_6 : decode cX9_init 6 = .ok (.newarray .long, 2) := by decide +kernel
theorem dX9_init_8 : decode cX9_init 8 = .ok (.putfield 9, 3) := by decide +kernel
theorem dX9_init_11 : decode cX9_init 11 = .ok (.aload_n 0, 1) := by decide +kernel
theorem dX9_init_12 : decode cX9_init 12 = .ok (.new 15, 3) := by decide +kernel
theorem dX9_init_15 : decode cX9_init 15 = .ok (.dup, 1) := by decide +kernel
theorem dX9_init_16 : decode cX9_init 16 = .ok (.invokespecial 17, 3) := by decide +kernel
theorem dX9_init_19 : decode cX9_init 19 = .ok (.putfield 18, 3) := by decide +kernel
theorem dX9_init_22 : decode cX9_init 22 = .ok (.aload_n 0, 1) := by decide +kernel
theorem dX9_init_23 : decode cX9_init 23 = .ok (.sipush 1792, 3) := by decide +kernel
theorem dX9_init_26 : decode cX9_init 26 = .ok (.newarray .long, 2) := by decide +kernel
theorem dX9_init_28 : decode cX9_init 28 = .ok (.putfield 22, 3) := by decide +kernel
theorem dX9_init_31 : decode cX9_init 31 = .ok (.aload_n 0, 1) := by decide +kernel
theorem dX9_init_32 : decode cX9_init 32 = .ok (.sipush 1024, 3) := by decide +kernel
theorem dX9_init_35 : decode cX9_init 35 = .ok (.newarray .long, 2) := by decide +kernel
theorem dX9_init_37 : decode cX9_init 37 = .ok (.putfield 25, 3) := by decide +kernel
theorem dX9_init_40 : decode cX9_init 40 = .ok (.aload_n 0, 1) := by decide +kernel
theorem dX9_init_41 : decode cX9_init 41 = .ok (.iconst 4, 1) := by decide +kernel
theorem dX9_init_42 : decode cX9_init 42 = .ok (.newarray .long, 2) := by decide +kernel
theorem dX9_init_44 : decode cX9_init 44 = .ok (.putfield 28, 3) := by decide +kernel
theorem dX9_init_47 : decode cX9_init 47 = .ok (.aload_n 0, 1) := by decide +kernel
theorem dX9_init_48 : decode cX9_init 48 = .ok (.sipush 256, 3) := by decide +kernel
theorem dX9_init_51 : decode cX9_init 51 = .ok (.newarray .int, 2) := by decide +kernel
theorem dX9_init_53 : decode cX9_init 53 = .ok (.putfield 31, 3) := by decide +kernel
theorem dX9_init_56 : decode cX9_init 56 = .ok (.aload_n 0, 1) := by decide +kernel
theorem dX9_init_57 : decode cX9_init 57 = .ok (.sipush 1024, 3) := by decide +kernel
theorem dX9_init_60 : decode cX9_init 60 = .ok (.newarray .byte, 2) := by decide +kernel
theorem dX9_init_62 : decode cX9_init 62 = .ok (.putfield 35, 3) := by decide +kernel
theorem dX9_init_65 : decode cX9_init 65 = .ok (.aload_n 0, 1) := by decide +kernel
theorem dX9_init_66 : decode cX9_init 66 = .ok (.iconst 4, 1) := by decide +kernel
theorem dX9_init_67 : decode cX9_init 67 = .ok (.newarray .long, 2) := by decide +kernel
theorem dX9_init_69 : decode cX9_init 69 = .ok (.putfield 39, 3) := by decide +kernel
theorem dX9_init_72 : decode cX9_init 72 = .ok (.aload_n 0, 1) := by decide +kernel
theorem dX9_init_73 : decode cX9_init 73 = .ok (.sipush 1028, 3) := by decide +kernel
theorem dX9_init_76 : decode cX9_init 76 = .ok (.newarray .long, 2) := by decide +kernel
theorem dX9_init_78 : decode cX9_init 78 = .ok (.putfield 42, 3) := by decide +kernel
theorem dX9_init_81 : decode cX9_init 81 = .ok (.aload_n 0, 1) := by decide +kernel
theorem dX9_init_82 : decode cX9_init 82 = .ok (.sipush 257, 3) := by decide +kernel
theorem dX9_init_85 : decode cX9_init 85 = .ok (.newarray .int, 2) := by decide +kernel
theorem dX9_init_87 : decode cX9_init 87 = .ok (.putfield 45, 3) := by decide +kernel
theorem dX9_init_90 : decode cX9_init 90 = .ok (.return_, 1) := by decide +kernel
theorem dX10_init_0 : decode cX10_init 0 = .ok (.aload_n 0, 1) := by decide +kernel
theorem dX10_init_1 : decode cX10_init 1 = .ok (.invokespecial 3, 3) := by decide +kernel
theorem dX10_init_4 : decode cX10_init 4 = .ok (.return_, 1) := by decide +kernel
set_option maxRecDepth 20000 in
theorem ggX11_init_X7_init : GoodIn wsX11_init wsX7_init := goodIn_r _ [35, 36, 2, 3, 37, 38, 39, 40, 41, 42, 43, 44, 45, 46, 47, 4, 48, 49, 50, 51, 52, 53, 54, 55, 56, 57, 58, 59, 346, 347, 348, 349, 350, 351, 352, 353, 354, 355, 356, 357, 358, 359, 360, 361, 443, 444, 445, 446, 447, 448, 449, 450, 451, 452, 453, 454, 455, 456, 457] rfl (by decide +kernel)
set_option maxRecDepth 20000 in
theorem gX11_init_X7_init : GoodIn wsX11_init (wsX7_init) := ggX11_init_X7_init
set_option maxRecDepth 20000 in
theorem ggX11_init_X6_init : GoodIn wsX11_init wsX6_init := goodIn_r _ [61, 62, 2, 3, 44, 63, 362, 363, 364, 365, 366, 367, 368, 369, 370] rfl (by decide +kernel)
set_option maxRecDepth 20000 in
theorem ggX11_init_X3_init : GoodIn wsX11_init wsX3_init := goodIn_r _ [65, 66, 2, 3, 37, 67, 68, 69, 70, 71, 72, 73, 74, 75, 76, 77, 78, 371, 372, 373, 374, 375, 376, 377, 378, 379, 380, 381, 382, 383, 384, 385, 386, 387, 388, 389, 390, 391, 392] rfl (by decide +kernel)
set_option maxRecDepth 20000 in
theorem ggX11_init_X9_init : GoodIn wsX11_init wsX9_init := goodIn_r _ [80, 81, 2, 3, 37, 82, 83, 84, 85, 86, 87, 88, 89, 44, 90, 4, 91, 92, 93, 94, 95, 96, 97, 98, 99, 393, 394, 395, 396, 397, 398, 399, 400, 401, 402, 403, 404, 405, 458, 459, 460, 461] rfl (by decide +kernel)
set_option maxRecDepth 20000 in
theorem ggX11_init_X4_init : GoodIn wsX11_init wsX4_init := goodIn_r _ [102, 103, 2, 3, 104, 105, 106, 107, 108, 109, 110, 111, 112, 84, 85, 113, 4, 114, 115, 116, 44, 117, 118, 119, 120, 121, 122, 123, 124, 125, 126, 127, 128, 129, 130, 37, 131, 132, 133, 134, 135, 136, 95, 96, 97, 98, 99, 137, 138, 139, 140, 141, 142, 143, 144, 69, 145, 146, 147, 148, 149, 150, 462, 463, 464, 465, 466, 467, 468, 406, 407, 408, 409, 410, 411, 412, 413, 414, 415, 416, 417, 418, 419, 420, 421, 422, 423, 469, 470, 471, 472, 473, 458, 459, 460, 461, 474, 475, 476, 477, 478, 479, 480, 481, 482, 483, 484] rfl (by decide +kernel)
set_option maxRecDepth 20000 in
theorem gX11_init_X4_init : GoodIn wsX11_init (wsX4_init) := ggX11_init_X4_init
set_option maxRecDepth 20000 in
theorem ggX11_init_X8_init : GoodIn wsX11_init wsX8_init := goodIn_r _ [152, 153, 2, 3, 44, 154, 37, 155, 156, 157, 158, 159, 424, 425, 426, 427, 428, 429, 430, 431, 432, 433, 434, 435, 436, 437, 438, 439, 440, 441, 442] rfl (by decide +kernel)
theorem dX11_init_0 : decode cX11_init 0 = .ok (.aload_n 0, 1) := by decide +kernel
theorem dX11_init_1 : decode cX11_init 1 = .ok (.invokespecial 1, 3) := by decide +kernel
theorem dX11_init_4 : decode cX11_init 4 = .ok (.aload_n 0, 1) := by decide +kernel
theorem dX11_init_5 : decode cX11_init 5 = .ok (.sipush 2048, 3) := by decide +kernel
theorem dX11_init_8 : decode cX11_init 8 = .ok (.newarray .byte, 2) := by decide +kernel
theorem dX11_init_10 : decode cX11_init 10 = .ok (.putfield 9, 3) := by decide +kernel
theorem dX11_init_13 : decode cX11_init 13 = .ok (.aload_n 0, 1) := by decide +kernel
theorem dX11_init_14 : decode cX11_init 14 = .ok (.bipush 32, 2) := by decide +kernel
theorem dX11_init_16 : decode cX11_init 16 = .ok (.anewarray 13, 3) := by decide +kernel
theorem dX11_init_19 : decode cX11_init 19 = .ok (.putfield 15, 3) := by decide +kernel
theorem dX11_init_22 : decode cX11_init 22 = .ok (.aload_n 0, 1) := by decide +kernel
theorem dX11_init_23 : decode cX11_init 23 = .ok (.new 19, 3) := by decide +kernel
theorem dX11_init_26 : decode cX11_init 26 = .ok (.dup, 1) := by decide +kernel
theorem dX11_init_27 : decode cX11_init 27 = .ok (.invokespecial 21, 3) := by decide +kernel
theorem dX11_init_30 : decode cX11_init 30 = .ok (.putfield 22, 3) := by decide +kernel
theorem dX11_init_33 : decode cX11_init 33 = .ok (.aload_n 0, 1) := by decide +kernel
theorem dX11_init_34 : decode cX11_init 34 = .ok (.new 26, 3) := by decide +kernel
theorem dX11_init_37 : decode cX11_init 37 = .ok (.dup, 1) := by decide +kernel
theorem dX11_init_38 : decode cX11_init 38 = .ok (.invokespecial 28, 3) := by decide +kernel
theorem dX11_init_41 : decode cX11_init 41 = .ok (.putfield 29, 3) := by decide +kernel
theorem dX11_init_44 : decode cX11_init 44 = .ok (.aload_n 0, 1) := by decide +kernel
theorem dX11_init_45 : decode cX11_init 45 = .ok (.new 33, 3) := by decide +kernel
theorem dX11_init_48 : decode cX11_init 48 = .ok (.dup, 1) := by decide +kernel
theorem dX11_init_49 : decode cX11_init 49 = .ok (.invokespecial 35, 3) := by decide +kernel
theorem dX11_init_52 : decode cX11_init 52 = .ok (.putfield 36, 3) := by decide +kernel
theorem dX11_init_55 : decode cX11_init 55 = .ok (.aload_n 0, 1) := by decide +kernel
theorem dX11_init_56 : decode cX11_init 56 = .ok (.new 40, 3) := by decide +kernel
theorem dX11_init_59 : decode cX11_init 59 = .ok (.dup, 1) := by decide +kernel
theorem dX11_init_60 : decode cX11_init 60 = .ok (.invokespecial 42, 3) := by decide +kernel
theorem dX11_init_63 : decode cX11_init 63 = .ok (.putfield 43, 3) := by decide +kernel
theorem dX11_init_66 : decode cX11_init 66 = .ok (.aload_n 0, 1) := by decide +kernel
theorem dX11_init_67 : decode cX11_init 67 = .ok (.sipush 1024, 3) := by decide +kernel
theorem dX11_init_70 : decode cX11_init 70 = .ok (.newarray .byte, 2) := by decide +kernel
theorem dX11_init_72 : decode cX11_init 72 = .ok (.putfield 47, 3) := by decide +kernel
theorem dX11_init_75 : decode cX11_init 75 = .ok (.aload_n 0, 1) := by decide +kernel
theorem dX11_init_76 : decode cX11_init 76 = .ok (.new 50, 3) := by decide +kernel
theorem dX11_init_79 : decode cX11_init 79 = .ok (.dup, 1) := by decide +kernel
theorem dX11_init_80 : decode cX11_init 80 = .ok (.aload_n 0, 1) := by decide +kernel
theorem dX11_init_81 : decode cX11_init 81 = .ok (.getfield 22, 3) := by decide +kernel
theorem dX11_init_84 : decode cX11_init 84 = .ok (.invokespecial 52, 3) := by decide +kernel
theorem dX11_init_87 : decode cX11_init 87 = .ok (.putfield 55, 3) := by decide +kernel
theorem dX11_init_90 : decode cX11_init 90 = .ok (.iconst 0, 1) := by decide +kernel
theorem dX11_init_91 : decode cX11_init 91 = .ok (.istore_n 2, 1) := by decide +kernel
theorem dX11_init_92 : decode cX11_init 92 = .ok (.iload_n 2, 1) := by decide +kernel
theorem dX11_init_93 : decode cX11_init 93 = .ok (.bipush 32, 2) := by decide +kernel
theorem dX11_init_95 : decode cX11_init 95 = .ok (.if_icmp .ge 22, 3) := by decide +kernel
theorem dX11_init_98 : decode cX11_init 98 = .ok (.aload_n 0, 1) := by decide +kernel
theorem dX11_init_99 : decode cX11_init 99 = .ok (.getfield 15, 3) := by decide +kernel
theorem dX11_init_102 : decode cX11_init 102 = .ok (.iload_n 2, 1) := by decide +kernel
theorem dX11_init_103 : decode cX11_init 103 = .ok (.new 13, 3) := by decide +kernel
theorem dX11_init_106 : decode cX11_init 106 = .ok (.dup, 1) := by decide +kernel
theorem dX11_init_107 : decode cX11_init 107 = .ok (.invokespecial 59, 3) := by decide +kernel
theorem dX11_init_110 : decode cX11_init 110 = .ok (.aastore, 1) := by decide +kernel
theorem dX11_init_111 : decode cX11_init 111 = .ok (.iinc 2 1, 3) := by decide +kernel
theorem dX11_init_114 : decode cX11_init 114 = .ok (.goto (-22), 3) := by decide +kernel
theorem dX11_init_117 : decode cX11_init 117 = .ok (.aload_n 0, 1) := by decide +kernel
theorem dX11_init_118 : decode cX11_init 118 = .ok (.getfield 22, 3) := by decide +kernel
theorem dX11_init_121 : decode cX11_init 121 = .ok (.getfield 60, 3) := by decide +kernel
theorem dX11_init_124 : decode cX11_init 124 = .ok (.iconst 0, 1) := by decide +kernel
theorem dX11_init_125 : decode cX11_init 125 = .ok (.aaload, 1) := by decide +kernel
theorem dX11_init_126 : decode cX11_init 126 = .ok (.astore_n 2, 1) := by decide +kernel
theorem dX11_init_127 : decode cX11_init 127 = .ok (.aload_n 2, 1) := by decide +kernel
theorem dX11_init_128 : decode cX11_init 128 = .ok (.getstatic 64, 3) := by decide +kernel
theorem dX11_init_131 : decode cX11_init 131 = .ok (.invokevirtual 69, 3) := by decide +kernel
theorem dX11_init_134 : decode cX11_init 134 = .ok (.aload_n 0, 1) := by decide +kernel
theorem dX11_init_135 : decode cX11_init 135 = .ok (.getfield 29, 3) := by decide +kernel
theorem dX11_init_138 : decode cX11_init 138 = .ok (.aload_n 2, 1) := by decide +kernel
theorem dX11_init_139 : decode cX11_init 139 = .ok (.invokevirtual 73, 3) := by decide +kernel
theorem dX11_init_142 : decode cX11_init 142 = .ok (.pop, 1) := by decide +kernel
theorem dX11_init_143 : decode cX11_init 143 = .ok (.aload_n 2, 1) := by decide +kernel
theorem dX11_init_144 : decode cX11_init 144 = .ok (.aload_n 0, 1) := by decide +kernel
theorem dX11_init_145 : decode cX11_init 145 = .ok (.getfield 22, 3) := by decide +kernel
theorem dX11_init_148 : decode cX11_init 148 = .ok (.invokevirtual 77, 3) := by decide +kernel
theorem dX11_init_151 : decode cX11_init 151 = .ok (.return_, 1) := by decide +kernel
theorem dX12_init_0 : decode cX12_init 0 = .ok (.aload_n 0, 1) := by decide +kernel
theorem dX12_init_1 : decode cX12_init 1 = .ok (.invokespecial 1, 3) := by decide +kernel
theorem dX12_init_4 : decode cX12_init 4 = .ok (.aload_n 0, 1) := by decide +kernel
theorem dX12_init_5 : decode cX12_init 5 = .ok (.sipush 4096, 3) := by decide +kernel
theorem dX12_init_8 : decode cX12_init 8 = .ok (.newarray .byte, 2) := by decide +kernel
theorem dX12_init_10 : decode cX12_init 10 = .ok (.putfield 7, 3) := by decide +kernel
theorem dX12_init_13 : decode cX12_init 13 = .ok (.aload_n 0, 1) := by decide +kernel
theorem dX12_init_14 : decode cX12_init 14 = .ok (.bipush 8, 2) := by decide +kernel
theorem dX12_init_16 : decode cX12_init 16 = .ok (.newarray .long, 2) := by decide +kernel
theorem dX12_init_18 : decode cX12_init 18 = .ok (.putfield 13, 3) := by decide +kernel
theorem dX12_init_21 : decode cX12_init 21 = .ok (.aload_n 0, 1) := by decide +kernel
theorem dX12_init_22 : decode cX12_init 22 = .ok (.bipush 64, 2) := by decide +kernel
theorem dX12_init_24 : decode cX12_init 24 = .ok (.newarray .long, 2) := by decide +kernel
theorem dX12_init_26 : decode cX12_init 26 = .ok (.putfield 17, 3) := by decide +kernel
theorem dX12_init_29 : decode cX12_init 29 = .ok (.return_, 1) := by decide +kernel
theorem dX13_init_0 : decode cX13_init 0 = .ok (.aload_n 0, 1) := by decide +kernel
theorem dX13_init_1 : decode cX13_init 1 = .ok (.invokespecial 1, 3) := by decide +kernel
theorem dX13_init_4 : decode cX13_init 4 = .ok (.aload_n 0, 1) := by decide +kernel
theorem dX13_init_5 : decode cX13_init 5 = .ok (.bipush 40, 2) := by decide +kernel
theorem dX13_init_7 : decode cX13_init 7 = .ok (.newarray .long, 2) := by decide +kernel
theorem dX13_init_9 : decode cX13_init 9 = .ok (.putfield 7, 3) := by decide +kernel
theorem dX13_init_12 : decode cX13_init 12 = .ok (.aload_n 0, 1) := by decide +kernel
theorem dX13_init_13 : decode cX13_init 13 = .ok (.sipush 1025, 3) := by decide +kernel
theorem dX13_init_16 : decode cX13_init 16 = .ok (.newarray .boolean, 2) := by decide +kernel
theorem dX13_init_18 : decode cX13_init 18 = .ok (.putfield 13, 3) := by decide +kernel
theorem dX13_init_21 : decode cX13_init 21 = .ok (.aload_n 0, 1) := by decide +kernel
theorem dX13_init_22 : decode cX13_init 22 = .ok (.sipush 1025, 3) := by decide +kernel
theorem dX13_init_25 : decode cX13_init 25 = .ok (.newarray .boolean, 2) := by decide +kernel
theorem dX13_init_27 : decode cX13_init 27 = .ok (.putfield 17, 3) := by decide +kernel
theorem dX13_init_30 : decode cX13_init 30 = .ok (.aload_n 0, 1) := by decide +kernel
theorem dX13_init_31 : decode cX13_init 31 = .ok (.ldc 20, 2) := by decide +kernel
theorem dX13_init_33 : decode cX13_init 33 = .ok (.newarray .boolean, 2) := by decide +kernel
theorem dX13_init_35 : decode cX13_init 35 = .ok (.putfield 21, 3) := by decide +kernel
theorem dX13_init_38 : decode cX13_init 38 = .ok (.aload_n 0, 1) := by decide +kernel
theorem dX13_init_39 : decode cX13_init 39 = .ok (.ldc 20, 2) := by decide +kernel
theorem dX13_init_41 : decode cX13_init 41 = .ok (.newarray .long, 2) := by decide +kernel
theorem dX13_init_43 : decode cX13_init 43 = .ok (.putfield 24, 3) := by decide +kernel
theorem dX13_init_46 : decode cX13_init 46 = .ok (.aload_n 0, 1) := by decide +kernel
theorem dX13_init_47 : decode cX13_init 47 = .ok (.ldc 20, 2) := by decide +kernel
theorem dX13_init_49 : decode cX13_init 49 = .ok (.newarray .boolean, 2) := by decide +kernel
theorem dX13_init_51 : decode cX13_init 51 = .ok (.putfield 27, 3) := by decide +kernel
theorem dX13_init_54 : decode cX13_init 54 = .ok (.aload_n 0, 1) := by decide +kernel
theorem dX13_init_55 : decode cX13_init 55 = .ok (.sipush 200, 3) := by decide +kernel
theorem dX13_init_58 : decode cX13_init 58 = .ok (.newarray .long, 2) := by decide +kernel
theorem dX13_init_60 : decode cX13_init 60 = .ok (.putfield 30, 3) := by decide +kernel
theorem dX13_init_63 : decode cX13_init 63 = .ok (.aload_n 0, 1) := by decide +kernel
theorem dX13_init_64 : decode cX13_init 64 = .ok (.sipush 200, 3) := by decide +kernel
theorem dX13_init_67 : decode cX13_init 67 = .ok (.newarray .long, 2) := by decide +kernel
theorem dX13_init_69 : decode cX13_init 69 = .ok (.putfield 33, 3) := by decide +kernel
theorem dX13_init_72 : decode cX13_init 72 = .ok (.aload_n 0, 1) := by decide +kernel
theorem dX13_init_73 : decode cX13_init 73 = .ok (.sipush 200, 3) := by decide +kernel
theorem dX13_init_76 : decode cX13_init 76 = .ok (.newarray .boolean, 2) := by decide +kernel
theorem dX13_init_78 : decode cX13_init 78 = .ok (.putfield 36, 3) := by decide +kernel
theorem dX13_init_81 : decode cX13_init 81 = .ok (.aload_n 0, 1) := by decide +kernel
theorem dX13_init_82 : decode cX13_init 82 = .ok (.bipush 40, 2) := by decide +kernel
theorem dX13_init_84 : decode cX13_init 84 = .ok (.newarray .boolean, 2) := by decide +kernel
theorem dX13_init_86 : decode cX13_init 86 = .ok (.putfield 39, 3) := by decide +kernel
theorem dX13_init_89 : decode cX13_init 89 = .ok (.aload_n 0, 1) := by decide +kernel
theorem dX13_init_90 : decode cX13_init 90 = .ok (.bipush 40, 2) := by decide +kernel
theorem dX13_init_92 : decode cX13_init 92 = .ok (.newarray .long, 2) := by decide +kernel
theorem dX13_init_94 : decode cX13_init 94 = .ok (.putfield 42, 3) := by decide +kernel
theorem dX13_init_97 : decode cX13_init 97 = .ok (.aload_n 0, 1) := by decide +kernel
theorem dX13_init_98 : decode cX13_init 98 = .ok (.bipush 40, 2) := by decide +kernel
theorem dX13_init_100 : decode cX13_init 100 = .ok (.newarray .boolean, 2) := by decide +kernel
theorem dX13_init_102 : decode cX13_init 102 = .ok (.putfield 45, 3) := by decide +kernel
theorem dX13_init_105 : decode cX13_init 105 = .ok (.return_, 1) := by decide +kernel
theorem dX14_init_0 : decode cX14_init 0 = .ok (.aload_n 0, 1) := by decide +kernel
theorem dX14_init_1 : decode cX14_init 1 = .ok (.invokespecial 1, 3) := by decide +kernel
theorem dX14_init_4 : decode cX14_init 4 = .ok (.aload_n 0, 1) := by decide +kernel
theorem dX14_init_5 : decode cX14_init 5 = .ok (.sipush 1024, 3) := by decide +kernel
theorem dX14_init_8 : decode cX14_init 8 = .ok (.newarray .long, 2) := by decide +kernel
theorem dX14_init_10 : decode cX14_init 10 = .ok (.putfield 7, 3) := by decide +kernel
theorem dX14_init_13 : decode cX14_init 13 = .ok (.aload_n 0, 1) := by decide +kernel
theorem dX14_init_14 : decode cX14_init 14 = .ok (.sipush 1024, 3) := by decide +kernel
theorem dX14_init_17 : decode cX14_init 17 = .ok (.newarray .long, 2) := by decide +kernel
theorem dX14_init_19 : decode cX14_init 19 = .ok (.putfield 13, 3) := by decide +kernel
theorem dX14_init_22 : decode cX14_init 22 = .ok (.aload_n 0, 1) := by decide +kernel
theorem dX14_init_23 : decode cX14_init 23 = .ok (.sipush 256, 3) := by decide +kernel
theorem dX14_init_26 : decode cX14_init 26 = .ok (.newarray .int, 2) := by decide +kernel
theorem dX14_init_28 : decode cX14_init 28 = .ok (.putfield 16, 3) := by decide +kernel
theorem dX14_init_31 : decode cX14_init 31 = .ok (.aload_n 0, 1) := by decide +kernel
theorem dX14_init_32 : decode cX14_init 32 = .ok (.sipush 256, 3) := by decide +kernel
theorem dX14_init_35 : decode cX14_init 35 = .ok (.newarray .long, 2) := by decide +kernel
theorem dX14_init_37 : decode cX14_init 37 = .ok (.putfield 20, 3) := by decide +kernel
theorem dX14_init_40 : decode cX14_init 40 = .ok (.aload_n 0, 1) := by decide +kernel
theorem dX14_init_41 : decode cX14_init 41 = .ok (.sipush 256, 3) := by decide +kernel
theorem dX14_init_44 : decode cX14_init 44 = .ok (.newarray .int, 2) := by decide +kernel
theorem dX14_init_46 : decode cX14_init 46 = .ok (.putfield 23, 3) := by decide +kernel
theorem dX14_init_49 : decode cX14_init 49 = .ok (.aload_n 0, 1) := by decide +kernel
theorem dX14_init_50 : decode cX14_init 50 = .ok (.sipush 1024, 3) := by decide +kernel
theorem dX14_init_53 : decode cX14_init 53 = .ok (.newarray .long, 2) := by decide +kernel
theorem dX14_init_55 : decode cX14_init 55 = .ok (.putfield 26, 3) := by decide +kernel
theorem dX14_init_58 : decode cX14_init 58 = .ok (.aload_n 0, 1) := by decide +kernel
theorem dX14_init_59 : decode cX14_init 59 = .ok (.sipush 256, 3) := by decide +kernel
theorem dX14_init_62 : decode cX14_init 62 = .ok (.newarray .int, 2) := by decide +kernel
theorem dX14_init_64 : decode cX14_init 64 = .ok (.putfield 29, 3) := by decide +kernel
theorem dX14_init_67 : decode cX14_init 67 = .ok (.aload_n 0, 1) := by decide +kernel
theorem dX14_init_68 : decode cX14_init 68 = .ok (.sipush 256, 3) := by decide +kernel
theorem dX14_init_71 : decode cX14_init 71 = .ok (.newarray .int, 2) := by decide +kernel
theorem dX14_init_73 : decode cX14_init 73 = .ok (.putfield 32, 3) := by decide +kernel
theorem dX14_init_76 : decode cX14_init 76 = .ok (.aload_n 0, 1) := by decide +kernel
theorem dX14_init_77 : decode cX14_init 77 = .ok (.aload_n 1, 1) := by decide +kernel
theorem dX14_init_78 : decode cX14_init 78 = .ok (.putfield 35, 3) := by decide +kernel
theorem dX14_init_81 : decode cX14_init 81 = .ok (.return_, 1) := by decide +kernel
theorem dX15_init_0 : decode cX15_init 0 = .ok (.aload_n 0, 1) := by decide +kernel
theorem dX15_init_1 : decode cX15_init 1 = .ok (.invokespecial 1, 3) := by decide +kernel
theorem dX15_init_4 : decode cX15_init 4 = .ok (.aload_n 0, 1) := by decide +kernel
theorem dX15_init_5 : decode cX15_init 5 = .ok (.sipush 24576, 3) := by decide +kernel
theorem dX15_init_8 : decode cX15_init 8 = .ok (.newarray .byte, 2) := by decide +kernel
theorem dX15_init_10 : decode cX15_init 10 = .ok (.putfield 7, 3) := by decide +kernel
theorem dX15_init_13 : decode cX15_init 13 = .ok (.aload_n 0, 1) := by decide +kernel
theorem dX15_init_14 : decode cX15_init 14 = .ok (.sipush 24576, 3) := by decide +kernel
theorem dX15_init_17 : decode cX15_init 17 = .ok (.newarray .long, 2) := by decide +kernel
theorem dX15_init_19 : decode cX15_init 19 = .ok (.putfield 13, 3) := by decide +kernel
theorem dX15_init_22 : decode cX15_init 22 = .ok (.aload_n 0, 1) := by decide +kernel
theorem dX15_init_23 : decode cX15_init 23 = .ok (.sipush 24576, 3) := by decide +kernel
theorem dX15_init_26 : decode cX15_init 26 = .ok (.newarray .long, 2) := by decide +kernel
theorem dX15_init_28 : decode cX15_init 28 = .ok (.putfield 17, 3) := by decide +kernel
theorem dX15_init_31 : decode cX15_init 31 = .ok (.aload_n 0, 1) := by decide +kernel
theorem dX15_init_32 : decode cX15_init 32 = .ok (.sipush 24576, 3) := by decide +kernel
theorem dX15_init_35 : decode cX15_init 35 = .ok (.newarray .int, 2) := by decide +kernel
theorem dX15_init_37 : decode cX15_init 37 = .ok (.putfield 20, 3) := by decide +kernel
theorem dX15_init_40 : decode cX15_init 40 = .ok (.aload_n 0, 1) := by decide +kernel
theorem dX15_init_41 : decode cX15_init 41 = .ok (.sipush 24576, 3) := by decide +kernel
theorem dX15_init_44 : decode cX15_init 44 = .ok (.newarray .int, 2) := by decide +kernel
theorem dX15_init_46 : decode cX15_init 46 = .ok (.putfield 24, 3) := by decide +kernel
theorem dX15_init_49 : decode cX15_init 49 = .ok (.return_, 1) := by decide +kernel
theorem dX16_init_0 : decode cX16_init 0 = .ok (.aload_n 0, 1) := by decide +kernel
theorem dX16_init_1 : decode cX16_init 1 = .ok (.invokespecial 1, 3) := by decide +kernel
theorem dX16_init_4 : decode cX16_init 4 = .ok (.aload_n 0, 1) := by decide +kernel
theorem dX16_init_5 : decode cX16_init 5 = .ok (.sipush 2048, 3) := by decide +kernel
theorem dX16_init_8 : decode cX16_init 8 = .ok (.newarray .byte, 2) := by decide +kernel
theorem dX16_init_10 : decode cX16_init 10 = .ok (.putfield 7, 3) := by decide +kernel
theorem dX16_init_13 : decode cX16_init 13 = .ok (.aload_n 0, 1) := by decide +kernel
theorem dX16_init_14 : decode cX16_init 14 = .ok (.bipush 64, 2) := by decide +kernel
theorem dX16_init_16 : decode cX16_init 16 = .ok (.newarray .int, 2) := by decide +kernel
theorem dX16_init_18 : decode cX16_init 18 = .ok (.putfield 13, 3) := by decide +kernel
theorem dX16_init_21 : decode cX16_init 21 = .ok (.aload_n 0, 1) := by decide +kernel
theorem dX16_init_22 : decode cX16_init 22 = .ok (.bipush 32, 2) := by decide +kernel
theorem dX16_init_24 : decode cX16_init 24 = .ok (.newarray .int, 2) := by decide +kernel
theorem dX16_init_26 : decode cX16_init 26 = .ok (.putfield 17, 3) := by decide +kernel
theorem dX16_init_29 : decode cX16_init 29 = .ok (.aload_n 0, 1) := by decide +kernel
theorem dX16_init_30 : decode cX16_init 30 = .ok (.bipush 32, 2) := by decide +kernel
theorem dX16_init_32 : decode cX16_init 32 = .ok (.newarray .int, 2) := by decide +kernel
theorem dX16_init_34 : decode cX16_init 34 = .ok (.putfield 20, 3) := by decide +kernel
theorem dX16_init_37 : decode cX16_init 37 = .ok (.aload_n 0, 1) := by decide +kernel
theorem dX16_init_38 : decode cX16_init 38 = .ok (.bipush 64, 2) := by decide +kernel
theorem dX16_init_40 : decode cX16_init 40 = .ok (.newarray .int, 2) := by decide +kernel
theorem dX16_init_42 : decode cX16_init 42 = .ok (.putfield 23, 3) := by decide +kernel
theorem dX16_init_45 : decode cX16_init 45 = .ok (.aload_n 0, 1) := by decide +kernel
theorem dX16_init_46 : decode cX16_init 46 = .ok (.bipush 65, 2) := by decide +kernel
theorem dX16_init_48 : decode cX16_init 48 = .ok (.newarray .int, 2) := by decide +kernel
theorem dX16_init_50 : decode cX16_init 50 = .ok (.putfield 26, 3) := by decide +kernel
theorem dX16_init_53 : decode cX16_init 53 = .ok (.aload_n 0, 1) := by decide +kernel
theorem dX16_init_54 : decode cX16_init 54 = .ok (.sipush 2049, 3) := by decide +kernel
theorem dX16_init_57 : decode cX16_init 57 = .ok (.newarray .int, 2) := by decide +kernel
theorem dX16_init_59 : decode cX16_init 59 = .ok (.putfield 29, 3) := by decide +kernel
theorem dX16_init_62 : decode cX16_init 62 = .ok (.aload_n 0, 1) := by decide +kernel
theorem dX16_init_63 : decode cX16_init 63 = .ok (.bipush 32, 2) := by decide +kernel
theorem dX16_init_65 : decode cX16_init 65 = .ok (.newarray .boolean, 2) := by decide +kernel
theorem dX16_init_67 : decode cX16_init 67 = .ok (.putfield 32, 3) := by decide +kernel
theorem dX16_init_70 : decode cX16_init 70 = .ok (.return_, 1) := by decide +kernel
theorem dX17_init_0 : decode cX17_init 0 = .ok (.aload_n 0, 1) := by decide +kernel
theorem dX17_init_1 : decode cX17_init 1 = .ok (.invokespecial 1, 3) := by decide +kernel
theorem dX17_init_4 : decode cX17_init 4 = .ok (.aload_n 0, 1) := by decide +kernel
theorem dX17_init_5 : decode cX17_init 5 = .ok (.bipush 16, 2) := by decide +kernel
theorem dX17_init_7 : decode cX17_init 7 = .ok (.newarray .int, 2) := by decide +kernel
theorem dX17_init_9 : decode cX17_init 9 = .ok (.putfield 7, 3) := by decide +kernel
theorem dX17_init_12 : decode cX17_init 12 = .ok (.aload_n 0, 1) := by decide +kernel
theorem dX17_init_13 : decode cX17_init 13 = .ok (.bipush 16, 2) := by decide +kernel
theorem dX17_init_15 : decode cX17_init 15 = .ok (.newarray .int, 2) := by decide +kernel
theorem dX17_init_17 : decode cX17_init 17 = .ok (.putfield 13, 3) := by decide +kernel
theorem dX17_init_20 : decode cX17_init 20 = .ok (.aload_n 0, 1) := by decide +kernel
theorem dX17_init_21 : decode cX17_init 21 = .ok (.bipush 33, 2) := by decide +kernel
theorem dX17_init_23 : decode cX17_init 23 = .ok (.newarray .int, 2) := by decide +kernel
theorem dX17_init_25 : decode cX17_init 25 = .ok (.putfield 16, 3) := by decide +kernel
theorem dX17_init_28 : decode cX17_init 28 = .ok (.return_, 1) := by decide +kernel
set_option maxRecDepth 20000 in
theorem ggX18_init_X15_init : GoodIn wsX18_init wsX15_init := goodIn_r _ [82, 83, 2, 3, 14, 84, 4, 85, 86, 10, 87, 88, 219, 220, 221, 222, 223, 224] rfl (by decide +kernel)
set_option maxRecDepth 20000 in
theorem ggX18_init_X13_init : GoodIn wsX18_init wsX13_init := goodIn_r _ [90, 91, 2, 3, 4, 92, 44, 93, 94, 95, 96, 97, 98, 99, 100, 101, 102, 103, 104, 225, 226, 227, 228, 229, 230, 231, 232, 233, 234, 235, 236, 237, 238, 239, 240, 241, 242, 243, 244, 245, 246] rfl (by decide +kernel)
set_option maxRecDepth 20000 in
theorem ggX18_init_X17_init : GoodIn wsX18_init wsX17_init := goodIn_r _ [106, 107, 2, 3, 10, 108, 109, 110, 247, 248, 249, 250, 251] rfl (by decide +kernel)
set_option maxRecDepth 20000 in
theorem ggX18_init_X12_init : GoodIn wsX18_init wsX12_init := goodIn_r _ [112, 113, 2, 3, 14, 114, 4, 115, 116, 252, 253, 254, 255] rfl (by decide +kernel)
set_option maxRecDepth 20000 in
theorem ggX18_init_X14_init : GoodIn wsX18_init wsX14_init := goodIn_r _ [119, 120, 2, 3, 4, 121, 122, 10, 123, 124, 125, 126, 127, 128, 129, 256, 257, 258, 259, 260, 261, 262, 263, 264, 265, 266] rfl (by decide +kernel)
set_option maxRecDepth 20000 in
theorem gX18_init_X14_init : GoodIn wsX18_init (wsX14_init) := ggX18_init_X14_init
set_option maxRecDepth 20000 in
theorem ggX18_init_X16_init : GoodIn wsX18_init wsX16_init := goodIn_r _ [131, 132, 2, 3, 14, 133, 10, 134, 135, 136, 137, 138, 139, 44, 140, 267, 268, 269, 270, 271, 272, 273, 274, 275, 276, 277, 278, 279, 280, 281, 282, 283, 284] rfl (by decide +kernel)
theorem dX18_init_0 : decode cX18_init 0 = .ok (.aload_n 0, 1) := by decide +kernel
theorem dX18_init_1 : decode cX18_init 1 = .ok (.invokespecial 514, 3) := by decide +kernel
theorem dX18_init_4 : decode cX18_init 4 = .ok (.aload_n 0, 1) := by decide +kernel
theorem dX18_init_5 : decode cX18_init 5 = .ok (.sipush 256, 3) := by decide +kernel
theorem dX18_init_8 : decode cX18_init 8 = .ok (.newarray .long, 2) := by decide +kernel
theorem dX18_init_10 : decode cX18_init 10 = .ok (.putfield 13, 3) := by decide +kernel
theorem dX18_init_13 : decode cX18_init 13 = .ok (.aload_n 0, 1) := by decide +kernel
theorem dX18_init_14 : decode cX18_init 14 = .ok (.sipush 256, 3) := by decide +kernel
theorem dX18_init_17 : decode cX18_init 17 = .ok (.newarray .long, 2) := by decide +kernel
theorem dX18_init_19 : decode cX18_init 19 = .ok (.putfield 303, 3) := by decide +kernel
theorem dX18_init_22 : decode cX18_init 22 = .ok (.aload_n 0, 1) := by decide +kernel
theorem dX18_init_23 : decode cX18_init 23 = .ok (.sipush 256, 3) := by decide +kernel
theorem dX18_init_26 : decode cX18_init 26 = .ok (.newarray .long, 2) := by decide +kernel
theorem dX18_init_28 : decode cX18_init 28 = .ok (.putfield 519, 3) := by decide +kernel
theorem dX18_init_31 : decode cX18_init 31 = .ok (.aload_n 0, 1) := by decide +kernel
theorem dX18_init_32 : decode cX18_init 32 = .ok (.bipush 10, 2) := by decide +kernel
theorem dX18_init_34 : decode cX18_init 34 = .ok (.anewarray 22, 3) := by decide +kernel
theorem dX18_init_37 : decode cX18_init 37 = .ok (.putfield 17, 3) := by decide +kernel
theorem dX18_init_40 : decode cX18_init 40 = .ok (.aload_n 0, 1) := by decide +kernel
theorem dX18_init_41 : decode cX18_init 41 = .ok (.sipush 640, 3) := by decide +kernel
theorem dX18_init_44 : decode cX18_init 44 = .ok (.newarray .int, 2) := by decide +kernel
theorem dX18_init_46 : decode cX18_init 46 = .ok (.putfield 189, 3) := by decide +kernel
theorem dX18_init_49 : decode cX18_init 49 = .ok (.aload_n 0, 1) := by decide +kernel
theorem dX18_init_50 : decode cX18_init 50 = .ok (.sipush 256, 3) := by decide +kernel
theorem dX18_init_53 : decode cX18_init 53 = .ok (.newarray .long, 2) := by decide +kernel
theorem dX18_init_55 : decode cX18_init 55 = .ok (.putfield 27, 3) := by decide +kernel
theorem dX18_init_58 : decode cX18_init 58 = .ok (.aload_n 0, 1) := by decide +kernel
theorem dX18_init_59 : decode cX18_init 59 = .ok (.sipush 256, 3) := by decide +kernel
theorem dX18_init_62 : decode cX18_init 62 = .ok (.newarray .int, 2) := by decide +kernel
theorem dX18_init_64 : decode cX18_init 64 = .ok (.putfield 30, 3) := by decide +kernel
theorem dX18_init_67 : decode cX18_init 67 = .ok (.aload_n 0, 1) := by decide +kernel
theorem dX18_init_68 : decode cX18_init 68 = .ok (.sipush 16384, 3) := by decide +kernel
theorem dX18_init_71 : decode cX18_init 71 = .ok (.newarray .byte, 2) := by decide +kernel
theorem dX18_init_73 : decode cX18_init 73 = .ok (.putfield 44, 3) := by decide +kernel
theorem dX18_init_76 : decode cX18_init 76 = .ok (.aload_n 0, 1) := by decide +kernel
theorem dX18_init_77 : decode cX18_init 77 = .ok (.sipush 16384, 3) := by decide +kernel
theorem dX18_init_80 : decode cX18_init 80 = .ok (.newarray .long, 2) := by decide +kernel
theorem dX18_init_82 : decode cX18_init 82 = .ok (.putfield 48, 3) := by decide +kernel
theorem dX18_init_85 : decode cX18_init 85 = .ok (.aload_n 0, 1) := by decide +kernel
theorem dX18_init_86 : decode cX18_init 86 = .ok (.sipush 16384, 3) := by decide +kernel
theorem dX18_init_89 : decode cX18_init 89 = .ok (.newarray .long, 2) := by decide +kernel
theorem dX18_init_91 : decode cX18_init 91 = .ok (.putfield 51, 3) := by decide +kernel
theorem dX18_init_94 : decode cX18_init 94 = .ok (.aload_n 0, 1) := by decide +kernel
theorem dX18_init_95 : decode cX18_init 95 = .ok (.sipush 16384, 3) := by decide +kernel
theorem dX18_init_98 : decode cX18_init 98 = .ok (.newarray .int, 2) := by decide +kernel
theorem dX18_init_100 : decode cX18_init 100 = .ok (.putfield 60, 3) := by decide +kernel
theorem dX18_init_103 : decode cX18_init 103 = .ok (.aload_n 0, 1) := by decide +kernel
theorem dX18_init_104 : decode cX18_init 104 = .ok (.new 55, 3) := by decide +kernel
theorem dX18_init_107 : decode cX18_init 107 = .ok (.dup, 1) := by decide +kernel
theorem dX18_init_108 : decode cX18_init 108 = .ok (.invokespecial 522, 3) := by decide +kernel
theorem dX18_init_111 : decode cX18_init 111 = .ok (.putfield 40, 3) := by decide +kernel
theorem dX18_init_114 : decode cX18_init 114 = .ok (.aload_n 0, 1) := by decide +kernel
theorem dX18_init_115 : decode cX18_init 115 = .ok (.new 236, 3) := by decide +kernel
theorem dX18_init_118 : decode cX18_init 118 = .ok (.dup, 1) := by decide +kernel
theorem dX18_init_119 : decode cX18_init 119 = .ok (.invokespecial 523, 3) := by decide +kernel
theorem dX18_init_122 : decode cX18_init 122 = .ok (.putfield 231, 3) := by decide +kernel
theorem dX18_init_125 : decode cX18_init 125 = .ok (.aload_n 0, 1) := by decide +kernel
theorem dX18_init_126 : decode cX18_init 126 = .ok (.new 381, 3) := by decide +kernel
theorem dX18_init_129 : decode cX18_init 129 = .ok (.dup, 1) := by decide +kernel
theorem dX18_init_130 : decode cX18_init 130 = .ok (.invokespecial 524, 3) := by decide +kernel
theorem dX18_init_133 : decode cX18_init 133 = .ok (.putfield 373, 3) := by decide +kernel
theorem dX18_init_136 : decode cX18_init 136 = .ok (.aload_n 0, 1) := by decide +kernel
theorem dX18_init_137 : decode cX18_init 137 = .ok (.new 99, 3) := by decide +kernel
theorem dX18_init_140 : decode cX18_init 140 = .ok (.dup, 1) := by decide +kernel
theorem dX18_init_141 : decode cX18_init 141 = .ok (.invokespecial 525, 3) := by decide +kernel
theorem dX18_init_144 : decode cX18_init 144 = .ok (.putfield 94, 3) := by decide +kernel
theorem dX18_init_147 : decode cX18_init 147 = .ok (.aload_n 0, 1) := by decide +kernel
theorem dX18_init_148 : decode cX18_init 148 = .ok (.new 526, 3) := by decide +kernel
theorem dX18_init_151 : decode cX18_init 151 = .ok (.dup, 1) := by decide +kernel
theorem dX18_init_152 : decode cX18_init 152 = .ok (.aload_n 0, 1) := by decide +kernel
theorem dX18_init_153 : decode cX18_init 153 = .ok (.getfield 94, 3) := by decide +kernel
theorem dX18_init_156 : decode cX18_init 156 = .ok (.invokespecial 528, 3) := by decide +kernel
theorem dX18_init_159 : decode cX18_init 159 = .ok (.putfield 531, 3) := by decide +kernel
theorem dX18_init_162 : decode cX18_init 162 = .ok (.aload_n 0, 1) := by decide +kernel
theorem dX18_init_163 : decode cX18_init 163 = .ok (.bipush 24, 2) := by decide +kernel
theorem dX18_init_165 : decode cX18_init 165 = .ok (.newarray .int, 2) := by decide +kernel
theorem dX18_init_167 : decode cX18_init 167 = .ok (.putfield 274, 3) := by decide +kernel
theorem dX18_init_170 : decode cX18_init 170 = .ok (.aload_n 0, 1) := by decide +kernel
theorem dX18_init_171 : decode cX18_init 171 = .ok (.bipush 24, 2) := by decide +kernel
theorem dX18_init_173 : decode cX18_init 173 = .ok (.newarray .long, 2) := by decide +kernel
theorem dX18_init_175 : decode cX18_init 175 = .ok (.putfield 277, 3) := by decide +kernel
theorem dX18_init_178 : decode cX18_init 178 = .ok (.aload_n 0, 1) := by decide +kernel
theorem dX18_init_179 : decode cX18_init 179 = .ok (.bipush 24, 2) := by decide +kernel
theorem dX18_init_181 : decode cX18_init 181 = .ok (.newarray .int, 2) := by decide +kernel
theorem dX18_init_183 : decode cX18_init 183 = .ok (.putfield 280, 3) := by decide +kernel
theorem dX18_init_186 : decode cX18_init 186 = .ok (.aload_n 0, 1) := by decide +kernel
theorem dX18_init_187 : decode cX18_init 187 = .ok (.bipush 24, 2) := by decide +kernel
theorem dX18_init_189 : decode cX18_init 189 = .ok (.newarray .long, 2) := by decide +kernel
theorem dX18_init_191 : decode cX18_init 191 = .ok (.putfield 300, 3) := by decide +kernel
theorem dX18_init_194 : decode cX18_init 194 = .ok (.aload_n 0, 1) := by decide +kernel
theorem dX18_init_195 : decode cX18_init 195 = .ok (.bipush 24, 2) := by decide +kernel
theorem dX18_init_197 : decode cX18_init 197 = .ok (.newarray .int, 2) := by decide +kernel
theorem dX18_init_199 : decode cX18_init 199 = .ok (.putfield 285, 3) := by decide +kernel
theorem dX18_init_202 : decode cX18_init 202 = .ok (.aload_n 0, 1) := by decide +kernel
theorem dX18_init_203 : decode cX18_init 203 = .ok (.bipush 24, 2) := by decide +kernel
theorem dX18_init_205 : decode cX18_init 205 = .ok (.newarray .boolean, 2) := by decide +kernel
theorem dX18_init_207 : decode cX18_init 207 = .ok (.putfield 296, 3) := by decide +kernel
theorem dX18_init_210 : decode cX18_init 210 = .ok (.aload_n 0, 1) := by decide +kernel
theorem dX18_init_211 : decode cX18_init 211 = .ok (.bipush 32, 2) := by decide +kernel
theorem dX18_init_213 : decode cX18_init 213 = .ok (.newarray .int, 2) := by decide +kernel
theorem dX18_init_215 : decode cX18_init 215 = .ok (.putfield 441, 3) := by decide +kernel
theorem dX18_init_218 : decode cX18_init 218 = .ok (.aload_n 0, 1) := by decide +kernel
theorem dX18_init_219 : decode cX18_init 219 = .ok (.bipush 32, 2) := by decide +kernel
theorem dX18_init_221 : decode cX18_init 221 = .ok (.newarray .int, 2) := by decide +kernel
theorem dX18_init_223 : decode cX18_init 223 = .ok (.putfield 444, 3) := by decide +kernel
theorem dX18_init_226 : decode cX18_init 226 = .ok (.aload_n 0, 1) := by decide +kernel
theorem dX18_init_227 : decode cX18_init 227 = .ok (.bipush 32, 2) := by decide +kernel
theorem dX18_init_229 : decode cX18_init 229 = .ok (.newarray .int, 2) := by decide +kernel
theorem dX18_init_231 : decode cX18_init 231 = .ok (.putfield 447, 3) := by decide +kernel
theorem dX18_init_234 : decode cX18_init 234 = .ok (.aload_n 0, 1) := by decide +kernel
theorem dX18_init_235 : decode cX18_init 235 = .ok (.bipush 32, 2) := by decide +kernel
theorem dX18_init_237 : decode cX18_init 237 = .ok (.newarray .int, 2) := by decide +kernel
theorem dX18_init_239 : decode cX18_init 239 = .ok (.putfield 325, 3) := by decide +kernel
theorem dX18_init_242 : decode cX18_init 242 = .ok (.aload_n 0, 1) := by decide +kernel
theorem dX18_init_243 : decode cX18_init 243 = .ok (.sipush 1280, 3) := by decide +kernel
theorem dX18_init_246 : decode cX18_init 246 = .ok (.newarray .int, 2) := by decide +kernel
theorem dX18_init_248 : decode cX18_init 248 = .ok (.putfield 347, 3) := by decide +kernel
theorem dX18_init_251 : decode cX18_init 251 = .ok (.aload_n 0, 1) := by decide +kernel
theorem dX18_init_252 : decode cX18_init 252 = .ok (.sipush 1280, 3) := by decide +kernel
theorem dX18_init_255 : decode cX18_init 255 = .ok (.newarray .boolean, 2) := by decide +kernel
theorem dX18_init_257 : decode cX18_init 257 = .ok (.putfield 350, 3) := by decide +kernel
theorem dX18_init_260 : decode cX18_init 260 = .ok (.aload_n 0, 1) := by decide +kernel
theorem dX18_init_261 : decode cX18_init 261 = .ok (.sipush 2200, 3) := by decide +kernel
theorem dX18_init_264 : decode cX18_init 264 = .ok (.newarray .int, 2) := by decide +kernel
theorem dX18_init_266 : decode cX18_init 266 = .ok (.putfield 309, 3) := by decide +kernel
theorem dX18_init_269 : decode cX18_init 269 = .ok (.aload_n 0, 1) := by decide +kernel
theorem dX18_init_270 : decode cX18_init 270 = .ok (.sipush 2200, 3) := by decide +kernel
theorem dX18_init_273 : decode cX18_init 273 = .ok (.newarray .boolean, 2) := by decide +kernel
theorem dX18_init_275 : decode cX18_init 275 = .ok (.putfield 315, 3) := by decide +kernel
theorem dX18_init_278 : decode cX18_init 278 = .ok (.aload_n 0, 1) := by decide +kernel
theorem dX18_init_279 : decode cX18_init 279 = .ok (.sipush 2048, 3) := by decide +kernel
theorem dX18_init_282 : decode cX18_init 282 = .ok (.newarray .byte, 2) := by decide +kernel
theorem dX18_init_284 : decode cX18_init 284 = .ok (.putfield 535, 3) := by decide +kernel
theorem dX18_init_287 : decode cX18_init 287 = .ok (.aload_n 0, 1) := by decide +kernel
theorem dX18_init_288 : decode cX18_init 288 = .ok (.bipush 32, 2) := by decide +kernel
theorem dX18_init_290 : decode cX18_init 290 = .ok (.newarray .int, 2) := by decide +kernel
theorem dX18_init_292 : decode cX18_init 292 = .ok (.putfield 538, 3) := by decide +kernel
theorem dX18_init_295 : decode cX18_init 295 = .ok (.aload_n 0, 1) := by decide +kernel
theorem dX18_init_296 : decode cX18_init 296 = .ok (.bipush 32, 2) := by decide +kernel
theorem dX18_init_298 : decode cX18_init 298 = .ok (.newarray .long, 2) := by decide +kernel
theorem dX18_init_300 : decode cX18_init 300 = .ok (.putfield 541, 3) := by decide +kernel
theorem dX18_init_303 : decode cX18_init 303 = .ok (.aload_n 0, 1) := by decide +kernel
theorem dX18_init_304 : decode cX18_init 304 = .ok (.bipush 32, 2) := by decide +kernel
theorem dX18_init_306 : decode cX18_init 306 = .ok (.newarray .long, 2) := by decide +kernel
theorem dX18_init_308 : decode cX18_init 308 = .ok (.putfield 544, 3) := by decide +kernel
theorem dX18_init_311 : decode cX18_init 311 = .ok (.aload_n 0, 1) := by decide +kernel
theorem dX18_init_312 : decode cX18_init 312 = .ok (.bipush 32, 2) := by decide +kernel
theorem dX18_init_314 : decode cX18_init 314 = .ok (.newarray .int, 2) := by decide +kernel
theorem dX18_init_316 : decode cX18_init 316 = .ok (.putfield 547, 3) := by decide +kernel
theorem dX18_init_319 : decode cX18_init 319 = .ok (.aload_n 0, 1) := by decide +kernel
theorem dX18_init_320 : decode cX18_init 320 = .ok (.bipush 32, 2) := by decide +kernel
theorem dX18_init_322 : decode cX18_init 322 = .ok (.newarray .int, 2) := by decide +kernel
theorem dX18_init_324 : decode cX18_init 324 = .ok (.putfield 550, 3) := by decide +kernel
theorem dX18_init_327 : decode cX18_init 327 = .ok (.aload_n 0, 1) := by decide +kernel
theorem dX18_init_328 : decode cX18_init 328 = .ok (.bipush 32, 2) := by decide +kernel
theorem dX18_init_330 : decode cX18_init 330 = .ok (.newarray .int, 2) := by decide +kernel
theorem dX18_init_332 : decode cX18_init 332 = .ok (.putfield 553, 3) := by decide +kernel
theorem dX18_init_335 : decode cX18_init 335 = .ok (.aload_n 0, 1) := by decide +kernel
theorem dX18_init_336 : decode cX18_init 336 = .ok (.bipush 32, 2) := by decide +kernel
theorem dX18_init_338 : decode cX18_init 338 = .ok (.newarray .int, 2) := by decide +kernel
theorem dX18_init_340 : decode cX18_init 340 = .ok (.putfield 556, 3) := by decide +kernel
theorem dX18_init_343 : decode cX18_init 343 = .ok (.aload_n 0, 1) := by decide +kernel
theorem dX18_init_344 : decode cX18_init 344 = .ok (.sipush 256, 3) := by decide +kernel
theorem dX18_init_347 : decode cX18_init 347 = .ok (.newarray .byte, 2) := by decide +kernel
theorem dX18_init_349 : decode cX18_init 349 = .ok (.putfield 559, 3) := by decide +kernel
theorem dX18_init_352 : decode cX18_init 352 = .ok (.aload_n 0, 1) := by decide +kernel
theorem dX18_init_353 : decode cX18_init 353 = .ok (.sipush 256, 3) := by decide +kernel
theorem dX18_init_356 : decode cX18_init 356 = .ok (.newarray .long, 2) := by decide +kernel
theorem dX18_init_358 : decode cX18_init 358 = .ok (.putfield 562, 3) := by decide +kernel
theorem dX18_init_361 : decode cX18_init 361 = .ok (.aload_n 0, 1) := by decide +kernel
theorem dX18_init_362 : decode cX18_init 362 = .ok (.sipush 256, 3) := by decide +kernel
theorem dX18_init_365 : decode cX18_init 365 = .ok (.newarray .long, 2) := by decide +kernel
theorem dX18_init_367 : decode cX18_init 367 = .ok (.putfield 565, 3) := by decide +kernel
theorem dX18_init_370 : decode cX18_init 370 = .ok (.aload_n 0, 1) := by decide +kernel
theorem dX18_init_371 : decode cX18_init 371 = .ok (.ldc_w 568, 3) := by decide +kernel
theorem dX18_init_374 : decode cX18_init 374 = .ok (.newarray .byte, 2) := by decide +kernel
theorem dX18_init_376 : decode cX18_init 376 = .ok (.putfield 569, 3) := by decide +kernel
theorem dX18_init_379 : decode cX18_init 379 = .ok (.aload_n 0, 1) := by decide +kernel
theorem dX18_init_380 : decode cX18_init 380 = .ok (.bipush 32, 2) := by decide +kernel
theorem dX18_init_382 : decode cX18_init 382 = .ok (.newarray .int, 2) := by decide +kernel
theorem dX18_init_384 : decode cX18_init 384 = .ok (.putfield 572, 3) := by decide +kernel
theorem dX18_init_387 : decode cX18_init 387 = .ok (.aload_n 0, 1) := by decide +kernel
theorem dX18_init_388 : decode cX18_init 388 = .ok (.bipush 32, 2) := by decide +kernel
theorem dX18_init_390 : decode cX18_init 390 = .ok (.newarray .int, 2) := by decide +kernel
theorem dX18_init_392 : decode cX18_init 392 = .ok (.putfield 575, 3) := by decide +kernel
theorem dX18_init_395 : decode cX18_init 395 = .ok (.aload_n 0, 1) := by decide +kernel
theorem dX18_init_396 : decode cX18_init 396 = .ok (.bipush 32, 2) := by decide +kernel
theorem dX18_init_398 : decode cX18_init 398 = .ok (.newarray .int, 2) := by decide +kernel
theorem dX18_init_400 : decode cX18_init 400 = .ok (.putfield 578, 3) := by decide +kernel
theorem dX18_init_403 : decode cX18_init 403 = .ok (.aload_n 0, 1) := by decide +kernel
theorem dX18_init_404 : decode cX18_init 404 = .ok (.bipush 32, 2) := by decide +kernel
theorem dX18_init_406 : decode cX18_init 406 = .ok (.newarray .int, 2) := by decide +kernel
theorem dX18_init_408 : decode cX18_init 408 = .ok (.putfield 581, 3) := by decide +kernel
theorem dX18_init_411 : decode cX18_init 411 = .ok (.aload_n 0, 1) := by decide +kernel
theorem dX18_init_412 : decode cX18_init 412 = .ok (.bipush 32, 2) := by decide +kernel
theorem dX18_init_414 : decode cX18_init 414 = .ok (.newarray .long, 2) := by decide +kernel
theorem dX18_init_416 : decode cX18_init 416 = .ok (.putfield 584, 3) := by decide +kernel
theorem dX18_init_419 : decode cX18_init 419 = .ok (.aload_n 0, 1) := by decide +kernel
theorem dX18_init_420 : decode cX18_init 420 = .ok (.bipush 32, 2) := by decide +kernel
theorem dX18_init_422 : decode cX18_init 422 = .ok (.newarray .int, 2) := by decide +kernel
theorem dX18_init_424 : decode cX18_init 424 = .ok (.putfield 587, 3) := by decide +kernel
theorem dX18_init_427 : decode cX18_init 427 = .ok (.aload_n 0, 1) := by decide +kernel
theorem dX18_init_428 : decode cX18_init 428 = .ok (.sipush 256, 3) := by decide +kernel
theorem dX18_init_431 : decode cX18_init 431 = .ok (.newarray .byte, 2) := by decide +kernel
theorem dX18_init_433 : decode cX18_init 433 = .ok (.putfield 590, 3) := by decide +kernel
theorem dX18_init_436 : decode cX18_init 436 = .ok (.aload_n 0, 1) := by decide +kernel
theorem dX18_init_437 : decode cX18_init 437 = .ok (.sipush 256, 3) := by decide +kernel
theorem dX18_init_440 : decode cX18_init 440 = .ok (.newarray .long, 2) := by decide +kernel
theorem dX18_init_442 : decode cX18_init 442 = .ok (.putfield 593, 3) := by decide +kernel
theorem dX18_init_445 : decode cX18_init 445 = .ok (.aload_n 0, 1) := by decide +kernel
theorem dX18_init_446 : decode cX18_init 446 = .ok (.sipush 256, 3) := by decide +kernel
theorem dX18_init_449 : decode cX18_init 449 = .ok (.newarray .long, 2) := by decide +kernel
theorem dX18_init_451 : decode cX18_init 451 = .ok (.putfield 596, 3) := by decide +kernel
theorem dX18_init_454 : decode cX18_init 454 = .ok (.aload_n 0, 1) := by decide +kernel
theorem dX18_init_455 : decode cX18_init 455 = .ok (.sipush 1200, 3) := by decide +kernel
theorem dX18_init_458 : decode cX18_init 458 = .ok (.newarray .byte, 2) := by decide +kernel
theorem dX18_init_460 : decode cX18_init 460 = .ok (.putfield 599, 3) := by decide +kernel
theorem dX18_init_463 : decode cX18_init 463 = .ok (.aload_n 0, 1) := by decide +kernel
theorem dX18_init_464 : decode cX18_init 464 = .ok (.iconst 4, 1) := by decide +kernel
theorem dX18_init_465 : decode cX18_init 465 = .ok (.newarray .long, 2) := by decide +kernel
theorem dX18_init_467 : decode cX18_init 467 = .ok (.putfield 602, 3) := by decide +kernel
theorem dX18_init_470 : decode cX18_init 470 = .ok (.aload_n 0, 1) := by decide +kernel
theorem dX18_init_471 : decode cX18_init 471 = .ok (.iconst 4, 1) := by decide +kernel
theorem dX18_init_472 : decode cX18_init 472 = .ok (.newarray .long, 2) := by decide +kernel
theorem dX18_init_474 : decode cX18_init 474 = .ok (.putfield 605, 3) := by decide +kernel
theorem dX18_init_477 : decode cX18_init 477 = .ok (.iconst 0, 1) := by decide +kernel
theorem dX18_init_478 : decode cX18_init 478 = .ok (.istore_n 2, 1) := by decide +kernel
theorem dX18_init_479 : decode cX18_init 479 = .ok (.iload_n 2, 1) := by decide +kernel
theorem dX18_init_480 : decode cX18_init 480 = .ok (.bipush 10, 2) := by decide +kernel
theorem dX18_init_482 : decode cX18_init 482 = .ok (.if_icmp .ge 22, 3) := by decide +kernel
theorem dX18_init_485 : decode cX18_init 485 = .ok (.aload_n 0, 1) := by decide +kernel
theorem dX18_init_486 : decode cX18_init 486 = .ok (.getfield 17, 3) := by decide +kernel
theorem dX18_init_489 : decode cX18_init 489 = .ok (.iload_n 2, 1) := by decide +kernel
theorem dX18_init_490 : decode cX18_init 490 = .ok (.new 22, 3) := by decide +kernel
theorem dX18_init_493 : decode cX18_init 493 = .ok (.dup, 1) := by decide +kernel
theorem dX18_init_494 : decode cX18_init 494 = .ok (.invokespecial 608, 3) := by decide +kernel
theorem dX18_init_497 : decode cX18_init 497 = .ok (.aastore, 1) := by decide +kernel
theorem dX18_init_498 : decode cX18_init 498 = .ok (.iinc 2 1, 3) := by decide +kernel
theorem dX18_init_501 : decode cX18_init 501 = .ok (.goto (-22), 3) := by decide +kernel
theorem dX18_init_504 : decode cX18_init 504 = .ok (.return_, 1) := by decide +kernel
