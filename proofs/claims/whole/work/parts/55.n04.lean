theorem dX9_addPlace_214 : decode cX9_addPlace 214 = .ok (.getfield 52, 3) := by decide +kernel
theorem dX9_addPlace_217 : decode cX9_addPlace 217 = .ok (.iconst 1, 1) := by decide +kernel
theorem dX9_addPlace_218 : decode cX9_addPlace 218 = .ok (.iadd, 1) := by decide +kernel
theorem dX9_addPlace_219 : decode cX9_addPlace 219 = .ok (.putfield 52, 3) := by decide +kernel
theorem dX9_addPlace_222 : decode cX9_addPlace 222 = .ok (.return_, 1) := by decide +kernel
theorem dX9_isBelow_0 : decode cX9_isBelow 0 = .ok (.iconst 0, 1) := by decide +kernel
theorem dX9_isBelow_1 : decode cX9_isBelow 1 = .ok (.istore_n 3, 1) := by decide +kernel
theorem dX9_isBelow_2 : decode cX9_isBelow 2 = .ok (.iload_n 3, 1) := by decide +kernel
theorem dX9_isBelow_3 : decode cX9_isBelow 3 = .ok (.bipush 7, 2) := by decide +kernel
theorem dX9_isBelow_5 : decode cX9_isBelow 5 = .ok (.if_icmp .ge 51, 3) := by decide +kernel
theorem dX9_isBelow_8 : decode cX9_isBelow 8 = .ok (.aload_n 0, 1) := by decide +kernel
theorem dX9_isBelow_9 : decode cX9_isBelow 9 = .ok (.getfield 22, 3) := by decide +kernel
theorem dX9_isBelow_12 : decode cX9_isBelow 12 = .ok (.iload_n 1, 1) := by decide +kernel
theorem dX9_isBelow_13 : decode cX9_isBelow 13 = .ok (.bipush 7, 2) := by decide +kernel
theorem dX9_isBelow_15 : decode cX9_isBelow 15 = .ok (.imul, 1) := by decide +kernel
theorem dX9_isBelow_16 : decode cX9_isBelow 16 = .ok (.iload_n 3, 1) := by decide +kernel
theorem dX9_isBelow_17 : decode cX9_isBelow 17 = .ok (.iadd, 1) := by decide +kernel
theorem dX9_isBelow_18 : decode cX9_isBelow 18 = .ok (.laload, 1) := by decide +kernel
theorem dX9_isBelow_19 : decode cX9_isBelow 19 = .ok (.lstore 4, 2) := by decide +kernel
theorem dX9_isBelow_21 : decode cX9_isBelow 21 = .ok (.aload_n 0, 1) := by decide +kernel
theorem dX9_isBelow_22 : decode cX9_isBelow 22 = .ok (.getfield 22, 3) := by decide +kernel
theorem dX9_isBelow_25 : decode cX9_isBelow 25 = .ok (.iload_n 2, 1) := by decide +kernel
theorem dX9_isBelow_26 : decode cX9_isBelow 26 = .ok (.bipush 7, 2) := by decide +kernel
theorem dX9_isBelow_28 : decode cX9_isBelow 28 = .ok (.imul, 1) := by decide +kernel
theorem dX9_isBelow_29 : decode cX9_isBelow 29 = .ok (.iload_n 3, 1) := by decide +kernel
theorem dX9_isBelow_30 : decode cX9_isBelow 30 = .ok (.iadd, 1) := by decide +kernel
theorem dX9_isBelow_31 : decode cX9_isBelow 31 = .ok (.laload, 1) := by decide +kernel
theorem dX9_isBelow_32 : decode cX9_isBelow 32 = .ok (.lstore 6, 2) := by decide +kernel
theorem dX9_isBelow_34 : decode cX9_isBelow 34 = .ok (.lload 4, 2) := by decide +kernel
theorem dX9_isBelow_36 : decode cX9_isBelow 36 = .ok (.lload 6, 2) := by decide +kernel
theorem dX9_isBelow_38 : decode cX9_isBelow 38 = .ok (.lcmp, 1) := by decide +kernel
theorem dX9_isBelow_39 : decode cX9_isBelow 39 = .ok (.ifCond .eq 11, 3) := by decide +kernel
theorem dX9_isBelow_42 : decode cX9_isBelow 42 = .ok (.lload 4, 2) := by decide +kernel
theorem dX9_isBelow_44 : decode cX9_isBelow 44 = .ok (.lload 6, 2) := by decide +kernel
theorem dX9_isBelow_46 : decode cX9_isBelow 46 = .ok (.invokestatic 158, 3) := by decide +kernel
theorem dX9_isBelow_49 : decode cX9_isBelow 49 = .ok (.ireturn, 1) := by decide +kernel
theorem dX9_isBelow_50 : decode cX9_isBelow 50 = .ok (.iinc 3 1, 3) := by decide +kernel
theorem dX9_isBelow_53 : decode cX9_isBelow 53 = .ok (.goto (-51), 3) := by decide +kernel
theorem dX9_isBelow_56 : decode cX9_isBelow 56 = .ok (.iconst 0, 1) := by decide +kernel
theorem dX9_isBelow_57 : decode cX9_isBelow 57 = .ok (.ireturn, 1) := by decide +kernel
theorem dX9_leaveOutDoubles_0 : decode cX9_leaveOutDoubles 0 = .ok (.iconst 0, 1) := by decide +kernel
theorem dX9_leaveOutDoubles_1 : decode cX9_leaveOutDoubles 1 = .ok (.istore_n 1, 1) := by decide +kernel
theorem dX9_leaveOutDoubles_2 : decode cX9_leaveOutDoubles 2 = .ok (.iconst 0, 1) := by decide +kernel
theorem dX9_leaveOutDoubles_3 : decode cX9_leaveOutDoubles 3 = .ok (.istore_n 2, 1) := by decide +kernel
theorem dX9_leaveOutDoubles_4 : decode cX9_leaveOutDoubles 4 = .ok (.iload_n 2, 1) := by decide +kernel
theorem dX9_leaveOutDoubles_5 : decode cX9_leaveOutDoubles 5 = .ok (.aload_n 0, 1) := by decide +kernel
theorem dX9_leaveOutDoubles_6 : decode cX9_leaveOutDoubles 6 = .ok (.getfield 52, 3) := by decide +kernel
theorem dX9_leaveOutDoubles_9 : decode cX9_leaveOutDoubles 9 = .ok (.if_icmp .ge 52, 3) := by decide +kernel
theorem dX9_leaveOutDoubles_12 : decode cX9_leaveOutDoubles 12 = .ok (.iload_n 1, 1) := by decide +kernel
theorem dX9_leaveOutDoubles_13 : decode cX9_leaveOutDoubles 13 = .ok (.ifCond .eq 27, 3) := by decide +kernel
theorem dX9_leaveOutDoubles_16 : decode cX9_leaveOutDoubles 16 = .ok (.aload_n 0, 1) := by decide +kernel
theorem dX9_leaveOutDoubles_17 : decode cX9_leaveOutDoubles 17 = .ok (.aload_n 0, 1) := by decide +kernel
theorem dX9_leaveOutDoubles_18 : decode cX9_leaveOutDoubles 18 = .ok (.getfield 31, 3) := by decide +kernel
theorem dX9_leaveOutDoubles_21 : decode cX9_leaveOutDoubles 21 = .ok (.iload_n 1, 1) := by decide +kernel
theorem dX9_leaveOutDoubles_22 : decode cX9_leaveOutDoubles 22 = .ok (.iconst 1, 1) := by decide +kernel
theorem dX9_leaveOutDoubles_23 : decode cX9_leaveOutDoubles 23 = .ok (.isub, 1) := by decide +kernel
theorem dX9_leaveOutDoubles_24 : decode cX9_leaveOutDoubles 24 = .ok (.iaload, 1) := by decide +kernel
theorem dX9_leaveOutDoubles_25 : decode cX9_leaveOutDoubles 25 = .ok (.aload_n 0, 1) := by decide +kernel
theorem dX9_leaveOutDoubles_26 : decode cX9_leaveOutDoubles 26 = .ok (.getfield 31, 3) := by decide +kernel
theorem dX9_leaveOutDoubles_29 : decode cX9_leaveOutDoubles 29 = .ok (.iload_n 2, 1) := by decide +kernel
theorem dX9_leaveOutDoubles_30 : decode cX9_leaveOutDoubles 30 = .ok (.iaload, 1) := by decide +kernel
theorem dX9_leaveOutDoubles_31 : decode cX9_leaveOutDoubles 31 = .ok (.invokevirtual 164, 3) := by decide +kernel
theorem dX9_leaveOutDoubles_34 : decode cX9_leaveOutDoubles 34 = .ok (.sipush 256, 3) := by decide +kernel
theorem dX9_leaveOutDoubles_37 : decode cX9_leaveOutDoubles 37 = .ok (.if_icmp .ge 18, 3) := by decide +kernel
theorem dX9_leaveOutDoubles_40 : decode cX9_leaveOutDoubles 40 = .ok (.aload_n 0, 1) := by decide +kernel
theorem dX9_leaveOutDoubles_41 : decode cX9_leaveOutDoubles 41 = .ok (.getfield 31, 3) := by decide +kernel
theorem dX9_leaveOutDoubles_44 : decode cX9_leaveOutDoubles 44 = .ok (.iload_n 1, 1) := by decide +kernel
theorem dX9_leaveOutDoubles_45 : decode cX9_leaveOutDoubles 45 = .ok (.aload_n 0, 1) := by decide +kernel
theorem dX9_leaveOutDoubles_46 : decode cX9_leaveOutDoubles 46 = .ok (.getfield 31, 3) := by decide +kernel
theorem dX9_leaveOutDoubles_49 : decode cX9_leaveOutDoubles 49 = .ok (.iload_n 2, 1) := by decide +kernel
theorem dX9_leaveOutDoubles_50 : decode cX9_leaveOutDoubles 50 = .ok (.iaload, 1) := by decide +kernel
theorem dX9_leaveOutDoubles_51 : decode cX9_leaveOutDoubles 51 = .ok (.iastore, 1) := by decide +kernel
theorem dX9_leaveOutDoubles_52 : decode cX9_leaveOutDoubles 52 = .ok (.iinc 1 1, 3) := by decide +kernel
theorem dX9_leaveOutDoubles_55 : decode cX9_leaveOutDoubles 55 = .ok (.iinc 2 1, 3) := by decide +kernel
theorem dX9_leaveOutDoubles_58 : decode cX9_leaveOutDoubles 58 = .ok (.goto (-54), 3) := by decide +kernel
theorem dX9_leaveOutDoubles_61 : decode cX9_leaveOutDoubles 61 = .ok (.aload_n 0, 1) := by decide +kernel
theorem dX9_leaveOutDoubles_62 : decode cX9_leaveOutDoubles 62 = .ok (.iload_n 1, 1) := by decide +kernel
theorem dX9_leaveOutDoubles_63 : decode cX9_leaveOutDoubles 63 = .ok (.putfield 52, 3) := by decide +kernel
theorem dX9_leaveOutDoubles_66 : decode cX9_leaveOutDoubles 66 = .ok (.return_, 1) := by decide +kernel
theorem dX9_firstDifference_0 : decode cX9_firstDifference 0 = .ok (.iconst 0, 1) := by decide +kernel
theorem dX9_firstDifference_1 : decode cX9_firstDifference 1 = .ok (.istore_n 3, 1) := by decide +kernel
theorem dX9_firstDifference_2 : decode cX9_firstDifference 2 = .ok (.iload_n 3, 1) := by decide +kernel
theorem dX9_firstDifference_3 : decode cX9_firstDifference 3 = .ok (.iconst 4, 1) := by decide +kernel
theorem dX9_firstDifference_4 : decode cX9_firstDifference 4 = .ok (.if_icmp .ge 75, 3) := by decide +kernel
theorem dX9_firstDifference_7 : decode cX9_firstDifference 7 = .ok (.aload_n 0, 1) := by decide +kernel
theorem dX9_firstDifference_8 : decode cX9_firstDifference 8 = .ok (.getfield 22, 3) := by decide +kernel
theorem dX9_firstDifference_11 : decode cX9_firstDifference 11 = .ok (.iload_n 1, 1) := by decide +kernel
theorem dX9_firstDifference_12 : decode cX9_firstDifference 12 = .ok (.bipush 7, 2) := by decide +kernel
theorem dX9_firstDifference_14 : decode cX9_firstDifference 14 = .ok (.imul, 1) := by decide +kernel
theorem dX9_firstDifference_15 : decode cX9_firstDifference 15 = .ok (.iload_n 3, 1) := by decide +kernel
theorem dX9_firstDifference_16 : decode cX9_firstDifference 16 = .ok (.iadd, 1) := by decide +kernel
theorem dX9_firstDifference_17 : decode cX9_firstDifference 17 = .ok (.laload, 1) := by decide +kernel
theorem dX9_firstDifference_18 : decode cX9_firstDifference 18 = .ok (.aload_n 0, 1) := by decide +kernel
theorem dX9_firstDifference_19 : decode cX9_firstDifference 19 = .ok (.getfield 22, 3) := by decide +kernel
theorem dX9_firstDifference_22 : decode cX9_firstDifference 22 = .ok (.iload_n 2, 1) := by decide +kernel
theorem dX9_firstDifference_23 : decode cX9_firstDifference 23 = .ok (.bipush 7, 2) := by decide +kernel
theorem dX9_firstDifference_25 : decode cX9_firstDifference 25 = .ok (.imul, 1) := by decide +kernel
theorem dX9_firstDifference_26 : decode cX9_firstDifference 26 = .ok (.iload_n 3, 1) := by decide +kernel
theorem dX9_firstDifference_27 : decode cX9_firstDifference 27 = .ok (.iadd, 1) := by decide +kernel
theorem dX9_firstDifference_28 : decode cX9_firstDifference 28 = .ok (.laload, 1) := by decide +kernel
theorem dX9_firstDifference_29 : decode cX9_firstDifference 29 = .ok (.lxor, 1) := by decide +kernel
theorem dX9_firstDifference_30 : decode cX9_firstDifference 30 = .ok (.lstore 4, 2) := by decide +kernel
theorem dX9_firstDifference_32 : decode cX9_firstDifference 32 = .ok (.iconst 0, 1) := by decide +kernel
theorem dX9_firstDifference_33 : decode cX9_firstDifference 33 = .ok (.istore 6, 2) := by decide +kernel
theorem dX9_firstDifference_35 : decode cX9_firstDifference 35 = .ok (.iload 6, 2) := by decide +kernel
theorem dX9_firstDifference_37 : decode cX9_firstDifference 37 = .ok (.bipush 64, 2) := by decide +kernel
theorem dX9_firstDifference_39 : decode cX9_firstDifference 39 = .ok (.if_icmp .ge 34, 3) := by decide +kernel
theorem dX9_firstDifference_42 : decode cX9_firstDifference 42 = .ok (.lload 4, 2) := by decide +kernel
theorem dX9_firstDifference_44 : decode cX9_firstDifference 44 = .ok (.lconst 0, 1) := by decide +kernel
theorem dX9_firstDifference_45 : decode cX9_firstDifference 45 = .ok (.lcmp, 1) := by decide +kernel
theorem dX9_firstDifference_46 : decode cX9_firstDifference 46 = .ok (.ifCond .eq 27, 3) := by decide +kernel
theorem dX9_firstDifference_49 : decode cX9_firstDifference 49 = .ok (.lload 4, 2) := by decide +kernel
theorem dX9_firstDifference_51 : decode cX9_firstDifference 51 = .ok (.iload 6, 2) := by decide +kernel
theorem dX9_firstDifference_53 : decode cX9_firstDifference 53 = .ok (.lshl, 1) := by decide +kernel
theorem dX9_firstDifference_54 : decode cX9_firstDifference 54 = .ok (.lconst 0, 1) := by decide +kernel
theorem dX9_firstDifference_55 : decode cX9_firstDifference 55 = .ok (.lcmp, 1) := by decide +kernel
theorem dX9_firstDifference_56 : decode cX9_firstDifference 56 = .ok (.ifCond .ge 11, 3) := by decide +kernel
theorem dX9_firstDifference_59 : decode cX9_firstDifference 59 = .ok (.iload_n 3, 1) := by decide +kernel
theorem dX9_firstDifference_60 : decode cX9_firstDifference 60 = .ok (.bipush 64, 2) := by decide +kernel
theorem dX9_firstDifference_62 : decode cX9_firstDifference 62 = .ok (.imul, 1) := by decide +kernel
theorem dX9_firstDifference_63 : decode cX9_firstDifference 63 = .ok (.iload 6, 2) := by decide +kernel
theorem dX9_firstDifference_65 : decode cX9_firstDifference 65 = .ok (.iadd, 1) := by decide +kernel
theorem dX9_firstDifference_66 : decode cX9_firstDifference 66 = .ok (.ireturn, 1) := by decide +kernel
theorem dX9_firstDifference_67 : decode cX9_firstDifference 67 = .ok (.iinc 6 1, 3) := by decide +kernel
theorem dX9_firstDifference_70 : decode cX9_firstDifference 70 = .ok (.goto (-35), 3) := by decide +kernel
theorem dX9_firstDifference_73 : decode cX9_firstDifference 73 = .ok (.iinc 3 1, 3) := by decide +kernel
theorem dX9_firstDifference_76 : decode cX9_firstDifference 76 = .ok (.goto (-74), 3) := by decide +kernel
theorem dX9_firstDifference_79 : decode cX9_firstDifference 79 = .ok (.sipush 256, 3) := by decide +kernel
theorem dX9_firstDifference_82 : decode cX9_firstDifference 82 = .ok (.ireturn, 1) := by decide +kernel
theorem dX9_parting_0 : decode cX9_parting 0 = .ok (.iload_n 1, 1) := by decide +kernel
theorem dX9_parting_1 : decode cX9_parting 1 = .ok (.ifCond .lt 13, 3) := by decide +kernel
theorem dX9_parting_4 : decode cX9_parting 4 = .ok (.iload_n 1, 1) := by decide +kernel
theorem dX9_parting_5 : decode cX9_parting 5 = .ok (.iconst 1, 1) := by decide +kernel
theorem dX9_parting_6 : decode cX9_parting 6 = .ok (.iadd, 1) := by decide +kernel
theorem dX9_parting_7 : decode cX9_parting 7 = .ok (.aload_n 0, 1) := by decide +kernel
theorem dX9_parting_8 : decode cX9_parting 8 = .ok (.getfield 52, 3) := by decide +kernel
theorem dX9_parting_11 : decode cX9_parting 11 = .ok (.if_icmp .lt 5, 3) := by decide +kernel
theorem dX9_parting_14 : decode cX9_parting 14 = .ok (.iconst 0, 1) := by decide +kernel
theorem dX9_parting_15 : decode cX9_parting 15 = .ok (.ireturn, 1) := by decide +kernel
theorem dX9_parting_16 : decode cX9_parting 16 = .ok (.aload_n 0, 1) := by decide +kernel
theorem dX9_parting_17 : decode cX9_parting 17 = .ok (.aload_n 0, 1) := by decide +kernel
theorem dX9_parting_18 : decode cX9_parting 18 = .ok (.getfield 31, 3) := by decide +kernel
theorem dX9_parting_21 : decode cX9_parting 21 = .ok (.iload_n 1, 1) := by decide +kernel
theorem dX9_parting_22 : decode cX9_parting 22 = .ok (.iaload, 1) := by decide +kernel
theorem dX9_parting_23 : decode cX9_parting 23 = .ok (.aload_n 0, 1) := by decide +kernel
theorem dX9_parting_24 : decode cX9_parting 24 = .ok (.getfield 31, 3) := by decide +kernel
theorem dX9_parting_27 : decode cX9_parting 27 = .ok (.iload_n 1, 1) := by decide +kernel
theorem dX9_parting_28 : decode cX9_parting 28 = .ok (.iconst 1, 1) := by decide +kernel
theorem dX9_parting_29 : decode cX9_parting 29 = .ok (.iadd, 1) := by decide +kernel
theorem dX9_parting_30 : decode cX9_parting 30 = .ok (.iaload, 1) := by decide +kernel
theorem dX9_parting_31 : decode cX9_parting 31 = .ok (.invokevirtual 164, 3) := by decide +kernel
theorem dX9_parting_34 : decode cX9_parting 34 = .ok (.iconst 1, 1) := by decide +kernel
theorem dX9_parting_35 : decode cX9_parting 35 = .ok (.iadd, 1) := by decide +kernel
theorem dX9_parting_36 : decode cX9_parting 36 = .ok (.sipush 256, 3) := by decide +kernel
theorem dX9_parting_39 : decode cX9_parting 39 = .ok (.invokestatic 168, 3) := by decide +kernel
theorem dX9_parting_42 : decode cX9_parting 42 = .ok (.ireturn, 1) := by decide +kernel
theorem dX9_climb_0 : decode cX9_climb 0 = .ok (.aload_n 0, 1) := by decide +kernel
theorem dX9_climb_1 : decode cX9_climb 1 = .ok (.getfield 31, 3) := by decide +kernel
theorem dX9_climb_4 : decode cX9_climb 4 = .ok (.iload_n 1, 1) := by decide +kernel
theorem dX9_climb_5 : decode cX9_climb 5 = .ok (.iaload, 1) := by decide +kernel
theorem dX9_climb_6 : decode cX9_climb 6 = .ok (.bipush 7, 2) := by decide +kernel
theorem dX9_climb_8 : decode cX9_climb 8 = .ok (.imul, 1) := by decide +kernel
theorem dX9_climb_9 : decode cX9_climb 9 = .ok (.istore_n 2, 1) := by decide +kernel
theorem dX9_climb_10 : decode cX9_climb 10 = .ok (.aload_n 0, 1) := by decide +kernel
theorem dX9_climb_11 : decode cX9_climb 11 = .ok (.iload_n 1, 1) := by decide +kernel
theorem dX9_climb_12 : decode cX9_climb 12 = .ok (.invokevirtual 173, 3) := by decide +kernel
theorem dX9_climb_15 : decode cX9_climb 15 = .ok (.istore_n 3, 1) := by decide +kernel
theorem dX9_climb_16 : decode cX9_climb 16 = .ok (.aload_n 0, 1) := by decide +kernel
theorem dX9_climb_17 : decode cX9_climb 17 = .ok (.iload_n 1, 1) := by decide +kernel
theorem dX9_climb_18 : decode cX9_climb 18 = .ok (.iconst 1, 1) := by decide +kernel
theorem dX9_climb_19 : decode cX9_climb 19 = .ok (.isub, 1) := by decide +kernel
theorem dX9_climb_20 : decode cX9_climb 20 = .ok (.invokevirtual 173, 3) := by decide +kernel
theorem dX9_climb_23 : decode cX9_climb 23 = .ok (.iload_n 3, 1) := by decide +kernel
theorem dX9_climb_24 : decode cX9_climb 24 = .ok (.invokestatic 176, 3) := by decide +kernel
theorem dX9_climb_27 : decode cX9_climb 27 = .ok (.istore 4, 2) := by decide +kernel
theorem dX9_climb_29 : decode cX9_climb 29 = .ok (.aload_n 0, 1) := by decide +kernel
theorem dX9_climb_30 : decode cX9_climb 30 = .ok (.getfield 25, 3) := by decide +kernel
theorem dX9_climb_33 : decode cX9_climb 33 = .ok (.aload_n 0, 1) := by decide +kernel
theorem dX9_climb_34 : decode cX9_climb 34 = .ok (.getfield 31, 3) := by decide +kernel
theorem dX9_climb_37 : decode cX9_climb 37 = .ok (.iload_n 1, 1) := by decide +kernel
theorem dX9_climb_38 : decode cX9_climb 38 = .ok (.iaload, 1) := by decide +kernel
theorem dX9_climb_39 : decode cX9_climb 39 = .ok (.iconst 4, 1) := by decide +kernel
theorem dX9_climb_40 : decode cX9_climb 40 = .ok (.imul, 1) := by decide +kernel
theorem dX9_climb_41 : decode cX9_climb 41 = .ok (.aload_n 0, 1) := by decide +kernel
theorem dX9_climb_42 : decode cX9_climb 42 = .ok (.getfield 39, 3) := by decide +kernel
theorem dX9_climb_45 : decode cX9_climb 45 = .ok (.iconst 0, 1) := by decide +kernel
theorem dX9_climb_46 : decode cX9_climb 46 = .ok (.iconst 4, 1) := by decide +kernel
theorem dX9_climb_47 : decode cX9_climb 47 = .ok (.invokestatic 179, 3) := by decide +kernel
theorem dX9_climb_50 : decode cX9_climb 50 = .ok (.iload 4, 2) := by decide +kernel
theorem dX9_climb_52 : decode cX9_climb 52 = .ok (.iload_n 3, 1) := by decide +kernel
theorem dX9_climb_53 : decode cX9_climb 53 = .ok (.if_icmp .le 186, 3) := by decide +kernel
theorem dX9_climb_56 : decode cX9_climb 56 = .ok (.aload_n 0, 1) := by decide +kernel
theorem dX9_climb_57 : decode cX9_climb 57 = .ok (.getfield 22, 3) := by decide +kernel
theorem dX9_climb_60 : decode cX9_climb 60 = .ok (.iload_n 2, 1) := by decide +kernel
theorem dX9_climb_61 : decode cX9_climb 61 = .ok (.iload 4, 2) := by decide +kernel
theorem dX9_climb_63 : decode cX9_climb 63 = .ok (.iconst 1, 1) := by decide +kernel
theorem dX9_climb_64 : decode cX9_climb 64 = .ok (.isub, 1) := by decide +kernel
theorem dX9_climb_65 : decode cX9_climb 65 = .ok (.bipush 64, 2) := by decide +kernel
theorem dX9_climb_67 : decode cX9_climb 67 = .ok (.idiv, 1) := by decide +kernel
theorem dX9_climb_68 : decode cX9_climb 68 = .ok (.iadd, 1) := by decide +kernel
theorem dX9_climb_69 : decode cX9_climb 69 = .ok (.laload, 1) := by decide +kernel
theorem dX9_climb_70 : decode cX9_climb 70 = .ok (.bipush 63, 2) := by decide +kernel
theorem dX9_climb_72 : decode cX9_climb 72 = .ok (.iload 4, 2) := by decide +kernel
theorem dX9_climb_74 : decode cX9_climb 74 = .ok (.iconst 1, 1) := by decide +kernel
theorem dX9_climb_75 : decode cX9_climb 75 = .ok (.isub, 1) := by decide +kernel
theorem dX9_climb_76 : decode cX9_climb 76 = .ok (.bipush 64, 2) := by decide +kernel
theorem dX9_climb_78 : decode cX9_climb 78 = .ok (.irem, 1) := by decide +kernel
theorem dX9_climb_79 : decode cX9_climb 79 = .ok (.isub, 1) := by decide +kernel
theorem dX9_climb_80 : decode cX9_climb 80 = .ok (.lushr, 1) := by decide +kernel
theorem dX9_climb_81 : decode cX9_climb 81 = .ok (.lconst 1, 1) := by decide +kernel
theorem dX9_climb_82 : decode cX9_climb 82 = .ok (.land, 1) := by decide +kernel
theorem dX9_climb_83 : decode cX9_climb 83 = .ok (.lstore 5, 2) := by decide +kernel
theorem dX9_climb_85 : decode cX9_climb 85 = .ok (.lload 5, 2) := by decide +kernel
theorem dX9_climb_87 : decode cX9_climb 87 = .ok (.lconst 0, 1) := by decide +kernel
theorem dX9_climb_88 : decode cX9_climb 88 = .ok (.lcmp, 1) := by decide +kernel
theorem dX9_climb_89 : decode cX9_climb 89 = .ok (.ifCond .eq 30, 3) := by decide +kernel
theorem dX9_climb_92 : decode cX9_climb 92 = .ok (.aload_n 0, 1) := by decide +kernel
theorem dX9_climb_93 : decode cX9_climb 93 = .ok (.getfield 69, 3) := by decide +kernel
theorem dX9_climb_96 : decode cX9_climb 96 = .ok (.ifCond .le 23, 3) := by decide +kernel
theorem dX9_climb_99 : decode cX9_climb 99 = .ok (.aload_n 0, 1) := by decide +kernel
theorem dX9_climb_100 : decode cX9_climb 100 = .ok (.getfield 45, 3) := by decide +kernel
theorem dX9_climb_103 : decode cX9_climb 103 = .ok (.aload_n 0, 1) := by decide +kernel
theorem dX9_climb_104 : decode cX9_climb 104 = .ok (.getfield 69, 3) := by decide +kernel
theorem dX9_climb_107 : decode cX9_climb 107 = .ok (.iconst 1, 1) := by decide +kernel
theorem dX9_climb_108 : decode cX9_climb 108 = .ok (.isub, 1) := by decide +kernel
theorem dX9_climb_109 : decode cX9_climb 109 = .ok (.iaload, 1) := by decide +kernel
theorem dX9_climb_110 : decode cX9_climb 110 = .ok (.iload 4, 2) := by decide +kernel
theorem dX9_climb_112 : decode cX9_climb 112 = .ok (.if_icmp .ne 7, 3) := by decide +kernel
theorem dX9_climb_115 : decode cX9_climb 115 = .ok (.iconst 1, 1) := by decide +kernel
theorem dX9_climb_116 : decode cX9_climb 116 = .ok (.goto 4, 3) := by decide +kernel
theorem dX9_climb_119 : decode cX9_climb 119 = .ok (.iconst 0, 1) := by decide +kernel
theorem dX9_climb_120 : decode cX9_climb 120 = .ok (.istore 7, 2) := by decide +kernel
theorem dX9_climb_122 : decode cX9_climb 122 = .ok (.aload_n 0, 1) := by decide +kernel
theorem dX9_climb_123 : decode cX9_climb 123 = .ok (.getfield 18, 3) := by decide +kernel
theorem dX9_climb_126 : decode cX9_climb 126 = .ok (.invokevirtual 81, 3) := by decide +kernel
theorem dX9_climb_129 : decode cX9_climb 129 = .ok (.aload_n 0, 1) := by decide +kernel
theorem dX9_climb_130 : decode cX9_climb 130 = .ok (.getfield 18, 3) := by decide +kernel
theorem dX9_climb_133 : decode cX9_climb 133 = .ok (.iconst 1, 1) := by decide +kernel
theorem dX9_climb_134 : decode cX9_climb 134 = .ok (.invokevirtual 99, 3) := by decide +kernel
theorem dX9_climb_137 : decode cX9_climb 137 = .ok (.lload 5, 2) := by decide +kernel
theorem dX9_climb_139 : decode cX9_climb 139 = .ok (.lconst 0, 1) := by decide +kernel
theorem dX9_climb_140 : decode cX9_climb 140 = .ok (.lcmp, 1) := by decide +kernel
theorem dX9_climb_141 : decode cX9_climb 141 = .ok (.ifCond .ne 22, 3) := by decide +kernel
theorem dX9_climb_144 : decode cX9_climb 144 = .ok (.aload_n 0, 1) := by decide +kernel
theorem dX9_climb_145 : decode cX9_climb 145 = .ok (.getfield 18, 3) := by decide +kernel
theorem dX9_climb_148 : decode cX9_climb 148 = .ok (.aload_n 0, 1) := by decide +kernel
theorem dX9_climb_149 : decode cX9_climb 149 = .ok (.getfield 39, 3) := by decide +kernel
theorem dX9_climb_152 : decode cX9_climb 152 = .ok (.iconst 0, 1) := by decide +kernel
theorem dX9_climb_153 : decode cX9_climb 153 = .ok (.invokevirtual 151, 3) := by decide +kernel
theorem dX9_climb_156 : decode cX9_climb 156 = .ok (.aload_n 0, 1) := by decide +kernel
theorem dX9_climb_157 : decode cX9_climb 157 = .ok (.invokevirtual 185, 3) := by decide +kernel
theorem dX9_climb_160 : decode cX9_climb 160 = .ok (.goto 54, 3) := by decide +kernel
theorem dX9_climb_163 : decode cX9_climb 163 = .ok (.iload 7, 2) := by decide +kernel
theorem dX9_climb_165 : decode cX9_climb 165 = .ok (.ifCond .eq 33, 3) := by decide +kernel
theorem dX9_climb_168 : decode cX9_climb 168 = .ok (.aload_n 0, 1) := by decide +kernel
theorem dX9_climb_169 : decode cX9_climb 169 = .ok (.dup, 1) := by decide +kernel
theorem dX9_climb_170 : decode cX9_climb 170 = .ok (.getfield 69, 3) := by decide +kernel
theorem dX9_climb_173 : decode cX9_climb 173 = .ok (.iconst 1, 1) := by decide +kernel
theorem dX9_climb_174 : decode cX9_climb 174 = .ok (.isub, 1) := by decide +kernel
theorem dX9_climb_175 : decode cX9_climb 175 = .ok (.putfield 69, 3) := by decide +kernel
theorem dX9_climb_178 : decode cX9_climb 178 = .ok (.aload_n 0, 1) := by decide +kernel
theorem dX9_climb_179 : decode cX9_climb 179 = .ok (.getfield 18, 3) := by decide +kernel
theorem dX9_climb_182 : decode cX9_climb 182 = .ok (.aload_n 0, 1) := by decide +kernel
theorem dX9_climb_183 : decode cX9_climb 183 = .ok (.getfield 42, 3) := by decide +kernel
theorem dX9_climb_186 : decode cX9_climb 186 = .ok (.aload_n 0, 1) := by decide +kernel
theorem dX9_climb_187 : decode cX9_climb 187 = .ok (.getfield 69, 3) := by decide +kernel
theorem dX9_climb_190 : decode cX9_climb 190 = .ok (.iconst 4, 1) := by decide +kernel
theorem dX9_climb_191 : decode cX9_climb 191 = .ok (.imul, 1) := by decide +kernel
theorem dX9_climb_192 : decode cX9_climb 192 = .ok (.invokevirtual 151, 3) := by decide +kernel
theorem dX9_climb_195 : decode cX9_climb 195 = .ok (.goto 7, 3) := by decide +kernel
theorem dX9_climb_198 : decode cX9_climb 198 = .ok (.aload_n 0, 1) := by decide +kernel
theorem dX9_climb_199 : decode cX9_climb 199 = .ok (.invokevirtual 185, 3) := by decide +kernel
theorem dX9_climb_202 : decode cX9_climb 202 = .ok (.aload_n 0, 1) := by decide +kernel
theorem dX9_climb_203 : decode cX9_climb 203 = .ok (.getfield 18, 3) := by decide +kernel
theorem dX9_climb_206 : decode cX9_climb 206 = .ok (.aload_n 0, 1) := by decide +kernel
theorem dX9_climb_207 : decode cX9_climb 207 = .ok (.getfield 39, 3) := by decide +kernel
theorem dX9_climb_210 : decode cX9_climb 210 = .ok (.iconst 0, 1) := by decide +kernel
theorem dX9_climb_211 : decode cX9_climb 211 = .ok (.invokevirtual 151, 3) := by decide +kernel
theorem dX9_climb_214 : decode cX9_climb 214 = .ok (.aload_n 0, 1) := by decide +kernel
theorem dX9_climb_215 : decode cX9_climb 215 = .ok (.getfield 18, 3) := by decide +kernel
theorem dX9_climb_218 : decode cX9_climb 218 = .ok (.invokevirtual 144, 3) := by decide +kernel
theorem dX9_climb_221 : decode cX9_climb 221 = .ok (.aload_n 0, 1) := by decide +kernel
theorem dX9_climb_222 : decode cX9_climb 222 = .ok (.getfield 18, 3) := by decide +kernel
theorem dX9_climb_225 : decode cX9_climb 225 = .ok (.aload_n 0, 1) := by decide +kernel
theorem dX9_climb_226 : decode cX9_climb 226 = .ok (.getfield 39, 3) := by decide +kernel
theorem dX9_climb_229 : decode cX9_climb 229 = .ok (.iconst 0, 1) := by decide +kernel
theorem dX9_climb_230 : decode cX9_climb 230 = .ok (.invokevirtual 147, 3) := by decide +kernel
theorem dX9_climb_233 : decode cX9_climb 233 = .ok (.iinc 4 (-1), 3) := by decide +kernel
theorem dX9_climb_236 : decode cX9_climb 236 = .ok (.goto (-186), 3) := by decide +kernel
theorem dX9_climb_239 : decode cX9_climb 239 = .ok (.aload_n 0, 1) := by decide +kernel
theorem dX9_climb_240 : decode cX9_climb 240 = .ok (.getfield 69, 3) := by decide +kernel
theorem dX9_climb_243 : decode cX9_climb 243 = .ok (.sipush 256, 3) := by decide +kernel
theorem dX9_climb_246 : decode cX9_climb 246 = .ok (.if_icmp .gt 42, 3) := by decide +kernel
theorem dX9_climb_249 : decode cX9_climb 249 = .ok (.aload_n 0, 1) := by decide +kernel
theorem dX9_climb_250 : decode cX9_climb 250 = .ok (.getfield 39, 3) := by decide +kernel
theorem dX9_climb_253 : decode cX9_climb 253 = .ok (.iconst 0, 1) := by decide +kernel
theorem dX9_climb_254 : decode cX9_climb 254 = .ok (.aload_n 0, 1) := by decide +kernel
theorem dX9_climb_255 : decode cX9_climb 255 = .ok (.getfield 42, 3) := by decide +kernel
theorem dX9_climb_258 : decode cX9_climb 258 = .ok (.aload_n 0, 1) := by decide +kernel
theorem dX9_climb_259 : decode cX9_climb 259 = .ok (.getfield 69, 3) := by decide +kernel
theorem dX9_climb_262 : decode cX9_climb 262 = .ok (.iconst 4, 1) := by decide +kernel
theorem dX9_climb_263 : decode cX9_climb 263 = .ok (.imul, 1) := by decide +kernel
theorem dX9_climb_264 : decode cX9_climb 264 = .ok (.iconst 4, 1) := by decide +kernel
theorem dX9_climb_265 : decode cX9_climb 265 = .ok (.invokestatic 179, 3) := by decide +kernel
theorem dX9_climb_268 : decode cX9_climb 268 = .ok (.aload_n 0, 1) := by decide +kernel
theorem dX9_climb_269 : decode cX9_climb 269 = .ok (.getfield 45, 3) := by decide +kernel
theorem dX9_climb_272 : decode cX9_climb 272 = .ok (.aload_n 0, 1) := by decide +kernel
theorem dX9_climb_273 : decode cX9_climb 273 = .ok (.getfield 69, 3) := by decide +kernel
theorem dX9_climb_276 : decode cX9_climb 276 = .ok (.iload_n 3, 1) := by decide +kernel
theorem dX9_climb_277 : decode cX9_climb 277 = .ok (.iastore, 1) := by decide +kernel
theorem dX9_climb_278 : decode cX9_climb 278 = .ok (.aload_n 0, 1) := by decide +kernel
theorem dX9_climb_279 : decode cX9_climb 279 = .ok (.dup, 1) := by decide +kernel
theorem dX9_climb_280 : decode cX9_climb 280 = .ok (.getfield 69, 3) := by decide +kernel
theorem dX9_climb_283 : decode cX9_climb 283 = .ok (.iconst 1, 1) := by decide +kernel
theorem dX9_climb_284 : decode cX9_climb 284 = .ok (.iadd, 1) := by decide +kernel
theorem dX9_climb_285 : decode cX9_climb 285 = .ok (.putfield 69, 3) := by decide +kernel
theorem dX9_climb_288 : decode cX9_climb 288 = .ok (.return_, 1) := by decide +kernel
theorem dX9_putNothing_0 : decode cX9_putNothing 0 = .ok (.iconst 0, 1) := by decide +kernel
theorem dX9_putNothing_1 : decode cX9_putNothing 1 = .ok (.istore_n 1, 1) := by decide +kernel
theorem dX9_putNothing_2 : decode cX9_putNothing 2 = .ok (.iload_n 1, 1) := by decide +kernel
theorem dX9_putNothing_3 : decode cX9_putNothing 3 = .ok (.iconst 4, 1) := by decide +kernel
theorem dX9_putNothing_4 : decode cX9_putNothing 4 = .ok (.if_icmp .ge 17, 3) := by decide +kernel
theorem dX9_putNothing_7 : decode cX9_putNothing 7 = .ok (.aload_n 0, 1) := by decide +kernel
theorem dX9_putNothing_8 : decode cX9_putNothing 8 = .ok (.getfield 18, 3) := by decide +kernel
theorem dX9_putNothing_11 : decode cX9_putNothing 11 = .ok (.lconst 0, 1) := by decide +kernel
theorem dX9_putNothing_12 : decode cX9_putNothing 12 = .ok (.invokevirtual 87, 3) := by decide +kernel
theorem dX9_putNothing_15 : decode cX9_putNothing 15 = .ok (.iinc 1 1, 3) := by decide +kernel
theorem dX9_putNothing_18 : decode cX9_putNothing 18 = .ok (.goto (-16), 3) := by decide +kernel
theorem dX9_putNothing_21 : decode cX9_putNothing 21 = .ok (.return_, 1) := by decide +kernel
theorem dX10_below_0 : decode cX10_below 0 = .ok (.lload_n 0, 1) := by decide +kernel
theorem dX10_below_1 : decode cX10_below 1 = .ok (.ldc2_w 9, 3) := by decide +kernel
theorem dX10_below_4 : decode cX10_below 4 = .ok (.lxor, 1) := by decide +kernel
theorem dX10_below_5 : decode cX10_below 5 = .ok (.lload_n 2, 1) := by decide +kernel
theorem dX10_below_6 : decode cX10_below 6 = .ok (.ldc2_w 9, 3) := by decide +kernel
theorem dX10_below_9 : decode cX10_below 9 = .ok (.lxor, 1) := by decide +kernel
theorem dX10_below_10 : decode cX10_below 10 = .ok (.lcmp, 1) := by decide +kernel
theorem dX10_below_11 : decode cX10_below 11 = .ok (.ifCond .ge 7, 3) := by decide +kernel
theorem dX10_below_14 : decode cX10_below 14 = .ok (.iconst 1, 1) := by decide +kernel
theorem dX10_below_15 : decode cX10_below 15 = .ok (.goto 4, 3) := by decide +kernel
theorem dX10_below_18 : decode cX10_below 18 = .ok (.iconst 0, 1) := by decide +kernel
theorem dX10_below_19 : decode cX10_below 19 = .ok (.ireturn, 1) := by decide +kernel
theorem dX10_compare_0 : decode cX10_compare 0 = .ok (.lload_n 0, 1) := by decide +kernel
theorem dX10_compare_1 : decode cX10_compare 1 = .ok (.lload 4, 2) := by decide +kernel
theorem dX10_compare_3 : decode cX10_compare 3 = .ok (.lcmp, 1) := by decide +kernel
theorem dX10_compare_4 : decode cX10_compare 4 = .ok (.ifCond .eq 18, 3) := by decide +kernel
theorem dX10_compare_7 : decode cX10_compare 7 = .ok (.lload_n 0, 1) := by decide +kernel
theorem dX10_compare_8 : decode cX10_compare 8 = .ok (.lload 4, 2) := by decide +kernel
theorem dX10_compare_10 : decode cX10_compare 10 = .ok (.invokestatic 11, 3) := by decide +kernel
theorem dX10_compare_13 : decode cX10_compare 13 = .ok (.ifCond .eq 7, 3) := by decide +kernel
theorem dX10_compare_16 : decode cX10_compare 16 = .ok (.iconst (-1), 1) := by decide +kernel
theorem dX10_compare_17 : decode cX10_compare 17 = .ok (.goto 4, 3) := by decide +kernel
theorem dX10_compare_20 : decode cX10_compare 20 = .ok (.iconst 1, 1) := by decide +kernel
theorem dX10_compare_21 : decode cX10_compare 21 = .ok (.ireturn, 1) := by decide +kernel
theorem dX10_compare_22 : decode cX10_compare 22 = .ok (.lload_n 2, 1) := by decide +kernel
theorem dX10_compare_23 : decode cX10_compare 23 = .ok (.lload 6, 2) := by decide +kernel
theorem dX10_compare_25 : decode cX10_compare 25 = .ok (.lcmp, 1) := by decide +kernel
theorem dX10_compare_26 : decode cX10_compare 26 = .ok (.ifCond .ne 7, 3) := by decide +kernel
theorem dX10_compare_29 : decode cX10_compare 29 = .ok (.iconst 0, 1) := by decide +kernel
theorem dX10_compare_30 : decode cX10_compare 30 = .ok (.goto 17, 3) := by decide +kernel
theorem dX10_compare_33 : decode cX10_compare 33 = .ok (.lload_n 2, 1) := by decide +kernel
theorem dX10_compare_34 : decode cX10_compare 34 = .ok (.lload 6, 2) := by decide +kernel
theorem dX10_compare_36 : decode cX10_compare 36 = .ok (.invokestatic 11, 3) := by decide +kernel
theorem dX10_compare_39 : decode cX10_compare 39 = .ok (.ifCond .eq 7, 3) := by decide +kernel
theorem dX10_compare_42 : decode cX10_compare 42 = .ok (.iconst (-1), 1) := by decide +kernel
theorem dX10_compare_43 : decode cX10_compare 43 = .ok (.goto 4, 3) := by decide +kernel
theorem dX10_compare_46 : decode cX10_compare 46 = .ok (.iconst 1, 1) := by decide +kernel
theorem dX10_compare_47 : decode cX10_compare 47 = .ok (.ireturn, 1) := by decide +kernel
theorem dX10_set_0 : decode cX10_set 0 = .ok (.aload_n 0, 1) := by decide +kernel
theorem dX10_set_1 : decode cX10_set 1 = .ok (.lload_n 1, 1) := by decide +kernel
theorem dX10_set_2 : decode cX10_set 2 = .ok (.putfield 17, 3) := by decide +kernel
theorem dX10_set_5 : decode cX10_set 5 = .ok (.aload_n 0, 1) := by decide +kernel
theorem dX10_set_6 : decode cX10_set 6 = .ok (.lload_n 3, 1) := by decide +kernel
theorem dX10_set_7 : decode cX10_set 7 = .ok (.putfield 21, 3) := by decide +kernel
theorem dX10_set_10 : decode cX10_set 10 = .ok (.aload_n 0, 1) := by decide +kernel
theorem dX10_set_11 : decode cX10_set 11 = .ok (.iconst 0, 1) := by decide +kernel
theorem dX10_set_12 : decode cX10_set 12 = .ok (.putfield 24, 3) := by decide +kernel
theorem dX10_set_15 : decode cX10_set 15 = .ok (.return_, 1) := by decide +kernel
theorem dX10_add_0 : decode cX10_add 0 = .ok (.aload_n 0, 1) := by decide +kernel
theorem dX10_add_1 : decode cX10_add 1 = .ok (.getfield 21, 3) := by decide +kernel
theorem dX10_add_4 : decode cX10_add 4 = .ok (.lload_n 3, 1) := by decide +kernel
theorem dX10_add_5 : decode cX10_add 5 = .ok (.ladd, 1) := by decide +kernel
theorem dX10_add_6 : decode cX10_add 6 = .ok (.lstore 5, 2) := by decide +kernel
theorem dX10_add_8 : decode cX10_add 8 = .ok (.lload 5, 2) := by decide +kernel
theorem dX10_add_10 : decode cX10_add 10 = .ok (.lload_n 3, 1) := by decide +kernel
theorem dX10_add_11 : decode cX10_add 11 = .ok (.invokestatic 11, 3) := by decide +kernel
theorem dX10_add_14 : decode cX10_add 14 = .ok (.ifCond .eq 7, 3) := by decide +kernel
theorem dX10_add_17 : decode cX10_add 17 = .ok (.lconst 1, 1) := by decide +kernel
theorem dX10_add_18 : decode cX10_add 18 = .ok (.goto 4, 3) := by decide +kernel
theorem dX10_add_21 : decode cX10_add 21 = .ok (.lconst 0, 1) := by decide +kernel
theorem dX10_add_22 : decode cX10_add 22 = .ok (.lstore 7, 2) := by decide +kernel
theorem dX10_add_24 : decode cX10_add 24 = .ok (.aload_n 0, 1) := by decide +kernel
theorem dX10_add_25 : decode cX10_add 25 = .ok (.getfield 17, 3) := by decide +kernel
theorem dX10_add_28 : decode cX10_add 28 = .ok (.lload_n 1, 1) := by decide +kernel
theorem dX10_add_29 : decode cX10_add 29 = .ok (.ladd, 1) := by decide +kernel
theorem dX10_add_30 : decode cX10_add 30 = .ok (.lstore 9, 2) := by decide +kernel
theorem dX10_add_32 : decode cX10_add 32 = .ok (.lload 9, 2) := by decide +kernel
theorem dX10_add_34 : decode cX10_add 34 = .ok (.lload 7, 2) := by decide +kernel
theorem dX10_add_36 : decode cX10_add 36 = .ok (.ladd, 1) := by decide +kernel
theorem dX10_add_37 : decode cX10_add 37 = .ok (.lstore 11, 2) := by decide +kernel
theorem dX10_add_39 : decode cX10_add 39 = .ok (.aload_n 0, 1) := by decide +kernel
theorem dX10_add_40 : decode cX10_add 40 = .ok (.lload 9, 2) := by decide +kernel
theorem dX10_add_42 : decode cX10_add 42 = .ok (.lload_n 1, 1) := by decide +kernel
theorem dX10_add_43 : decode cX10_add 43 = .ok (.invokestatic 11, 3) := by decide +kernel
theorem dX10_add_46 : decode cX10_add 46 = .ok (.ifCond .ne 13, 3) := by decide +kernel
theorem dX10_add_49 : decode cX10_add 49 = .ok (.lload 11, 2) := by decide +kernel
theorem dX10_add_51 : decode cX10_add 51 = .ok (.lload 7, 2) := by decide +kernel
theorem dX10_add_53 : decode cX10_add 53 = .ok (.invokestatic 11, 3) := by decide +kernel
theorem dX10_add_56 : decode cX10_add 56 = .ok (.ifCond .eq 7, 3) := by decide +kernel
theorem dX10_add_59 : decode cX10_add 59 = .ok (.iconst 1, 1) := by decide +kernel
theorem dX10_add_60 : decode cX10_add 60 = .ok (.goto 4, 3) := by decide +kernel
theorem dX10_add_63 : decode cX10_add 63 = .ok (.iconst 0, 1) := by decide +kernel
theorem dX10_add_64 : decode cX10_add 64 = .ok (.putfield 24, 3) := by decide +kernel
theorem dX10_add_67 : decode cX10_add 67 = .ok (.aload_n 0, 1) := by decide +kernel
theorem dX10_add_68 : decode cX10_add 68 = .ok (.lload 11, 2) := by decide +kernel
theorem dX10_add_70 : decode cX10_add 70 = .ok (.putfield 17, 3) := by decide +kernel
theorem dX10_add_73 : decode cX10_add 73 = .ok (.aload_n 0, 1) := by decide +kernel
theorem dX10_add_74 : decode cX10_add 74 = .ok (.lload 5, 2) := by decide +kernel
theorem dX10_add_76 : decode cX10_add 76 = .ok (.putfield 21, 3) := by decide +kernel
theorem dX10_add_79 : decode cX10_add 79 = .ok (.return_, 1) := by decide +kernel
theorem dX10_subtract_0 : decode cX10_subtract 0 = .ok (.aload_n 0, 1) := by decide +kernel
theorem dX10_subtract_1 : decode cX10_subtract 1 = .ok (.aload_n 0, 1) := by decide +kernel
theorem dX10_subtract_2 : decode cX10_subtract 2 = .ok (.getfield 17, 3) := by decide +kernel
theorem dX10_subtract_5 : decode cX10_subtract 5 = .ok (.aload_n 0, 1) := by decide +kernel
theorem dX10_subtract_6 : decode cX10_subtract 6 = .ok (.getfield 21, 3) := by decide +kernel
theorem dX10_subtract_9 : decode cX10_subtract 9 = .ok (.lload_n 1, 1) := by decide +kernel
theorem dX10_subtract_10 : decode cX10_subtract 10 = .ok (.lload_n 3, 1) := by decide +kernel
theorem dX10_subtract_11 : decode cX10_subtract 11 = .ok (.invokestatic 28, 3) := by decide +kernel
theorem dX10_subtract_14 : decode cX10_subtract 14 = .ok (.ifCond .ge 7, 3) := by decide +kernel
theorem dX10_subtract_17 : decode cX10_subtract 17 = .ok (.iconst 1, 1) := by decide +kernel
theorem dX10_subtract_18 : decode cX10_subtract 18 = .ok (.goto 4, 3) := by decide +kernel
theorem dX10_subtract_21 : decode cX10_subtract 21 = .ok (.iconst 0, 1) := by decide +kernel
theorem dX10_subtract_22 : decode cX10_subtract 22 = .ok (.putfield 24, 3) := by decide +kernel
theorem dX10_subtract_25 : decode cX10_subtract 25 = .ok (.aload_n 0, 1) := by decide +kernel
theorem dX10_subtract_26 : decode cX10_subtract 26 = .ok (.aload_n 0, 1) := by decide +kernel
theorem dX10_subtract_27 : decode cX10_subtract 27 = .ok (.getfield 17, 3) := by decide +kernel
theorem dX10_subtract_30 : decode cX10_subtract 30 = .ok (.lload_n 1, 1) := by decide +kernel
theorem dX10_subtract_31 : decode cX10_subtract 31 = .ok (.lsub, 1) := by decide +kernel
theorem dX10_subtract_32 : decode cX10_subtract 32 = .ok (.aload_n 0, 1) := by decide +kernel
theorem dX10_subtract_33 : decode cX10_subtract 33 = .ok (.getfield 21, 3) := by decide +kernel
theorem dX10_subtract_36 : decode cX10_subtract 36 = .ok (.lload_n 3, 1) := by decide +kernel
theorem dX10_subtract_37 : decode cX10_subtract 37 = .ok (.invokestatic 11, 3) := by decide +kernel
theorem dX10_subtract_40 : decode cX10_subtract 40 = .ok (.ifCond .eq 7, 3) := by decide +kernel
theorem dX10_subtract_43 : decode cX10_subtract 43 = .ok (.iconst 1, 1) := by decide +kernel
theorem dX10_subtract_44 : decode cX10_subtract 44 = .ok (.goto 4, 3) := by decide +kernel
theorem dX10_subtract_47 : decode cX10_subtract 47 = .ok (.iconst 0, 1) := by decide +kernel
theorem dX10_subtract_48 : decode cX10_subtract 48 = .ok (.i2l, 1) := by decide +kernel
theorem dX10_subtract_49 : decode cX10_subtract 49 = .ok (.lsub, 1) := by decide +kernel
theorem dX10_subtract_50 : decode cX10_subtract 50 = .ok (.putfield 17, 3) := by decide +kernel
theorem dX10_subtract_53 : decode cX10_subtract 53 = .ok (.aload_n 0, 1) := by decide +kernel
theorem dX10_subtract_54 : decode cX10_subtract 54 = .ok (.dup, 1) := by decide +kernel
theorem dX10_subtract_55 : decode cX10_subtract 55 = .ok (.getfield 21, 3) := by decide +kernel
theorem dX10_subtract_58 : decode cX10_subtract 58 = .ok (.lload_n 3, 1) := by decide +kernel
theorem dX10_subtract_59 : decode cX10_subtract 59 = .ok (.lsub, 1) := by decide +kernel
theorem dX10_subtract_60 : decode cX10_subtract 60 = .ok (.putfield 21, 3) := by decide +kernel
theorem dX10_subtract_63 : decode cX10_subtract 63 = .ok (.return_, 1) := by decide +kernel
theorem dX10_multiply_0 : decode cX10_multiply 0 = .ok (.aload_n 0, 1) := by decide +kernel
theorem dX10_multiply_1 : decode cX10_multiply 1 = .ok (.getfield 17, 3) := by decide +kernel
theorem dX10_multiply_4 : decode cX10_multiply 4 = .ok (.lconst 0, 1) := by decide +kernel
theorem dX10_multiply_5 : decode cX10_multiply 5 = .ok (.lcmp, 1) := by decide +kernel
theorem dX10_multiply_6 : decode cX10_multiply 6 = .ok (.ifCond .eq 13, 3) := by decide +kernel
theorem dX10_multiply_9 : decode cX10_multiply 9 = .ok (.lload_n 1, 1) := by decide +kernel
theorem dX10_multiply_10 : decode cX10_multiply 10 = .ok (.lconst 0, 1) := by decide +kernel
theorem dX10_multiply_11 : decode cX10_multiply 11 = .ok (.lcmp, 1) := by decide +kernel
theorem dX10_multiply_12 : decode cX10_multiply 12 = .ok (.ifCond .eq 7, 3) := by decide +kernel
theorem dX10_multiply_15 : decode cX10_multiply 15 = .ok (.iconst 1, 1) := by decide +kernel
theorem dX10_multiply_16 : decode cX10_multiply 16 = .ok (.goto 4, 3) := by decide +kernel
theorem dX10_multiply_19 : decode cX10_multiply 19 = .ok (.iconst 0, 1) := by decide +kernel
theorem dX10_multiply_20 : decode cX10_multiply 20 = .ok (.istore 5, 2) := by decide +kernel
theorem dX10_multiply_22 : decode cX10_multiply 22 = .ok (.aload_n 0, 1) := by decide +kernel
theorem dX10_multiply_23 : decode cX10_multiply 23 = .ok (.getfield 17, 3) := by decide +kernel
theorem dX10_multiply_26 : decode cX10_multiply 26 = .ok (.lstore 6, 2) := by decide +kernel
theorem dX10_multiply_28 : decode cX10_multiply 28 = .ok (.aload_n 0, 1) := by decide +kernel
theorem dX10_multiply_29 : decode cX10_multiply 29 = .ok (.getfield 21, 3) := by decide +kernel
theorem dX10_multiply_32 : decode cX10_multiply 32 = .ok (.lstore 8, 2) := by decide +kernel
theorem dX10_multiply_34 : decode cX10_multiply 34 = .ok (.lconst 0, 1) := by decide +kernel
theorem dX10_multiply_35 : decode cX10_multiply 35 = .ok (.lstore 10, 2) := by decide +kernel
theorem dX10_multiply_37 : decode cX10_multiply 37 = .ok (.lload 6, 2) := by decide +kernel
theorem dX10_multiply_39 : decode cX10_multiply 39 = .ok (.lconst 0, 1) := by decide +kernel
theorem dX10_multiply_40 : decode cX10_multiply 40 = .ok (.lcmp, 1) := by decide +kernel
theorem dX10_multiply_41 : decode cX10_multiply 41 = .ok (.ifCond .eq 35, 3) := by decide +kernel
theorem dX10_multiply_44 : decode cX10_multiply 44 = .ok (.iload 5, 2) := by decide +kernel
theorem dX10_multiply_46 : decode cX10_multiply 46 = .ok (.ifCond .ne 14, 3) := by decide +kernel
theorem dX10_multiply_49 : decode cX10_multiply 49 = .ok (.lload 6, 2) := by decide +kernel
theorem dX10_multiply_51 : decode cX10_multiply 51 = .ok (.lload_n 3, 1) := by decide +kernel
theorem dX10_multiply_52 : decode cX10_multiply 52 = .ok (.invokestatic 32, 3) := by decide +kernel
theorem dX10_multiply_55 : decode cX10_multiply 55 = .ok (.lconst 0, 1) := by decide +kernel
theorem dX10_multiply_56 : decode cX10_multiply 56 = .ok (.lcmp, 1) := by decide +kernel
theorem dX10_multiply_57 : decode cX10_multiply 57 = .ok (.ifCond .eq 7, 3) := by decide +kernel
theorem dX10_multiply_60 : decode cX10_multiply 60 = .ok (.iconst 1, 1) := by decide +kernel
theorem dX10_multiply_61 : decode cX10_multiply 61 = .ok (.goto 4, 3) := by decide +kernel
theorem dX10_multiply_64 : decode cX10_multiply 64 = .ok (.iconst 0, 1) := by decide +kernel
theorem dX10_multiply_65 : decode cX10_multiply 65 = .ok (.istore 5, 2) := by decide +kernel
theorem dX10_multiply_67 : decode cX10_multiply 67 = .ok (.lload 6, 2) := by decide +kernel
theorem dX10_multiply_69 : decode cX10_multiply 69 = .ok (.lload_n 3, 1) := by decide +kernel
theorem dX10_multiply_70 : decode cX10_multiply 70 = .ok (.lmul, 1) := by decide +kernel
theorem dX10_multiply_71 : decode cX10_multiply 71 = .ok (.lstore 10, 2) := by decide +kernel
theorem dX10_multiply_73 : decode cX10_multiply 73 = .ok (.goto 38, 3) := by decide +kernel
theorem dX10_multiply_76 : decode cX10_multiply 76 = .ok (.lload_n 1, 1) := by decide +kernel
theorem dX10_multiply_77 : decode cX10_multiply 77 = .ok (.lconst 0, 1) := by decide +kernel
theorem dX10_multiply_78 : decode cX10_multiply 78 = .ok (.lcmp, 1) := by decide +kernel
theorem dX10_multiply_79 : decode cX10_multiply 79 = .ok (.ifCond .eq 32, 3) := by decide +kernel
theorem dX10_multiply_82 : decode cX10_multiply 82 = .ok (.iload 5, 2) := by decide +kernel
theorem dX10_multiply_84 : decode cX10_multiply 84 = .ok (.ifCond .ne 14, 3) := by decide +kernel
theorem dX10_multiply_87 : decode cX10_multiply 87 = .ok (.lload 8, 2) := by decide +kernel
theorem dX10_multiply_89 : decode cX10_multiply 89 = .ok (.lload_n 1, 1) := by decide +kernel
theorem dX10_multiply_90 : decode cX10_multiply 90 = .ok (.invokestatic 32, 3) := by decide +kernel
theorem dX10_multiply_93 : decode cX10_multiply 93 = .ok (.lconst 0, 1) := by decide +kernel
theorem dX10_multiply_94 : decode cX10_multiply 94 = .ok (.lcmp, 1) := by decide +kernel
theorem dX10_multiply_95 : decode cX10_multiply 95 = .ok (.ifCond .eq 7, 3) := by decide +kernel
theorem dX10_multiply_98 : decode cX10_multiply 98 = .ok (.iconst 1, 1) := by decide +kernel
theorem dX10_multiply_99 : decode cX10_multiply 99 = .ok (.goto 4, 3) := by decide +kernel
theorem dX10_multiply_102 : decode cX10_multiply 102 = .ok (.iconst 0, 1) := by decide +kernel
theorem dX10_multiply_103 : decode cX10_multiply 103 = .ok (.istore 5, 2) := by decide +kernel
theorem dX10_multiply_105 : decode cX10_multiply 105 = .ok (.lload 8, 2) := by decide +kernel
theorem dX10_multiply_107 : decode cX10_multiply 107 = .ok (.lload_n 1, 1) := by decide +kernel
theorem dX10_multiply_108 : decode cX10_multiply 108 = .ok (.lmul, 1) := by decide +kernel
theorem dX10_multiply_109 : decode cX10_multiply 109 = .ok (.lstore 10, 2) := by decide +kernel
theorem dX10_multiply_111 : decode cX10_multiply 111 = .ok (.lload 8, 2) := by decide +kernel
theorem dX10_multiply_113 : decode cX10_multiply 113 = .ok (.lload_n 3, 1) := by decide +kernel
theorem dX10_multiply_114 : decode cX10_multiply 114 = .ok (.invokestatic 32, 3) := by decide +kernel
theorem dX10_multiply_117 : decode cX10_multiply 117 = .ok (.lstore 12, 2) := by decide +kernel
theorem dX10_multiply_119 : decode cX10_multiply 119 = .ok (.aload_n 0, 1) := by decide +kernel
theorem dX10_multiply_120 : decode cX10_multiply 120 = .ok (.lload 8, 2) := by decide +kernel
theorem dX10_multiply_122 : decode cX10_multiply 122 = .ok (.lload_n 3, 1) := by decide +kernel
theorem dX10_multiply_123 : decode cX10_multiply 123 = .ok (.lmul, 1) := by decide +kernel
theorem dX10_multiply_124 : decode cX10_multiply 124 = .ok (.putfield 21, 3) := by decide +kernel
theorem dX10_multiply_127 : decode cX10_multiply 127 = .ok (.aload_n 0, 1) := by decide +kernel
theorem dX10_multiply_128 : decode cX10_multiply 128 = .ok (.lload 12, 2) := by decide +kernel
theorem dX10_multiply_130 : decode cX10_multiply 130 = .ok (.lload 10, 2) := by decide +kernel
theorem dX10_multiply_132 : decode cX10_multiply 132 = .ok (.ladd, 1) := by decide +kernel
theorem dX10_multiply_133 : decode cX10_multiply 133 = .ok (.putfield 17, 3) := by decide +kernel
theorem dX10_multiply_136 : decode cX10_multiply 136 = .ok (.aload_n 0, 1) := by decide +kernel
theorem dX10_multiply_137 : decode cX10_multiply 137 = .ok (.iload 5, 2) := by decide +kernel
theorem dX10_multiply_139 : decode cX10_multiply 139 = .ok (.ifCond .ne 15, 3) := by decide +kernel
theorem dX10_multiply_142 : decode cX10_multiply 142 = .ok (.aload_n 0, 1) := by decide +kernel
theorem dX10_multiply_143 : decode cX10_multiply 143 = .ok (.getfield 17, 3) := by decide +kernel
theorem dX10_multiply_146 : decode cX10_multiply 146 = .ok (.lload 10, 2) := by decide +kernel
theorem dX10_multiply_148 : decode cX10_multiply 148 = .ok (.invokestatic 11, 3) := by decide +kernel
theorem dX10_multiply_151 : decode cX10_multiply 151 = .ok (.ifCond .eq 7, 3) := by decide +kernel
theorem dX10_multiply_154 : decode cX10_multiply 154 = .ok (.iconst 1, 1) := by decide +kernel
theorem dX10_multiply_155 : decode cX10_multiply 155 = .ok (.goto 4, 3) := by decide +kernel
theorem dX10_multiply_158 : decode cX10_multiply 158 = .ok (.iconst 0, 1) := by decide +kernel
theorem dX10_multiply_159 : decode cX10_multiply 159 = .ok (.putfield 24, 3) := by decide +kernel
theorem dX10_multiply_162 : decode cX10_multiply 162 = .ok (.return_, 1) := by decide +kernel
theorem dX10_upperProduct_0 : decode cX10_upperProduct 0 = .ok (.ldc2_w 36, 3) := by decide +kernel
theorem dX10_upperProduct_3 : decode cX10_upperProduct 3 = .ok (.lstore 4, 2) := by decide +kernel
theorem dX10_upperProduct_5 : decode cX10_upperProduct 5 = .ok (.lload_n 0, 1) := by decide +kernel
theorem dX10_upperProduct_6 : decode cX10_upperProduct 6 = .ok (.bipush 32, 2) := by decide +kernel
theorem dX10_upperProduct_8 : decode cX10_upperProduct 8 = .ok (.lushr, 1) := by decide +kernel
theorem dX10_upperProduct_9 : decode cX10_upperProduct 9 = .ok (.lstore 6, 2) := by decide +kernel
theorem dX10_upperProduct_11 : decode cX10_upperProduct 11 = .ok (.lload_n 0, 1) := by decide +kernel
theorem dX10_upperProduct_12 : decode cX10_upperProduct 12 = .ok (.lload 4, 2) := by decide +kernel
theorem dX10_upperProduct_14 : decode cX10_upperProduct 14 = .ok (.land, 1) := by decide +kernel
theorem dX10_upperProduct_15 : decode cX10_upperProduct 15 = .ok (.lstore 8, 2) := by decide +kernel
theorem dX10_upperProduct_17 : decode cX10_upperProduct 17 = .ok (.lload_n 2, 1) := by decide +kernel
theorem dX10_upperProduct_18 : decode cX10_upperProduct 18 = .ok (.bipush 32, 2) := by decide +kernel
theorem dX10_upperProduct_20 : decode cX10_upperProduct 20 = .ok (.lushr, 1) := by decide +kernel
theorem dX10_upperProduct_21 : decode cX10_upperProduct 21 = .ok (.lstore 10, 2) := by decide +kernel
theorem dX10_upperProduct_23 : decode cX10_upperProduct 23 = .ok (.lload_n 2, 1) := by decide +kernel
theorem dX10_upperProduct_24 : decode cX10_upperProduct 24 = .ok (.lload 4, 2) := by decide +kernel
theorem dX10_upperProduct_26 : decode cX10_upperProduct 26 = .ok (.land, 1) := by decide +kernel
theorem dX10_upperProduct_27 : decode cX10_upperProduct 27 = .ok (.lstore 12, 2) := by decide +kernel
theorem dX10_upperProduct_29 : decode cX10_upperProduct 29 = .ok (.lload 6, 2) := by decide +kernel
theorem dX10_upperProduct_31 : decode cX10_upperProduct 31 = .ok (.lload 12, 2) := by decide +kernel
theorem dX10_upperProduct_33 : decode cX10_upperProduct 33 = .ok (.lmul, 1) := by decide +kernel
theorem dX10_upperProduct_34 : decode cX10_upperProduct 34 = .ok (.lload 8, 2) := by decide +kernel
theorem dX10_upperProduct_36 : decode cX10_upperProduct 36 = .ok (.lload 12, 2) := by decide +kernel
theorem dX10_upperProduct_38 : decode cX10_upperProduct 38 = .ok (.lmul, 1) := by decide +kernel
theorem dX10_upperProduct_39 : decode cX10_upperProduct 39 = .ok (.bipush 32, 2) := by decide +kernel
theorem dX10_upperProduct_41 : decode cX10_upperProduct 41 = .ok (.lushr, 1) := by decide +kernel
theorem dX10_upperProduct_42 : decode cX10_upperProduct 42 = .ok (.ladd, 1) := by decide +kernel
theorem dX10_upperProduct_43 : decode cX10_upperProduct 43 = .ok (.lstore 14, 2) := by decide +kernel
theorem dX10_upperProduct_45 : decode cX10_upperProduct 45 = .ok (.lload 8, 2) := by decide +kernel
theorem dX10_upperProduct_47 : decode cX10_upperProduct 47 = .ok (.lload 10, 2) := by decide +kernel
theorem dX10_upperProduct_49 : decode cX10_upperProduct 49 = .ok (.lmul, 1) := by decide +kernel
theorem dX10_upperProduct_50 : decode cX10_upperProduct 50 = .ok (.lload 14, 2) := by decide +kernel
theorem dX10_upperProduct_52 : decode cX10_upperProduct 52 = .ok (.lload 4, 2) := by decide +kernel
theorem dX10_upperProduct_54 : decode cX10_upperProduct 54 = .ok (.land, 1) := by decide +kernel
theorem dX10_upperProduct_55 : decode cX10_upperProduct 55 = .ok (.ladd, 1) := by decide +kernel
theorem dX10_upperProduct_56 : decode cX10_upperProduct 56 = .ok (.lstore 16, 2) := by decide +kernel
theorem dX10_upperProduct_58 : decode cX10_upperProduct 58 = .ok (.lload 6, 2) := by decide +kernel
theorem dX10_upperProduct_60 : decode cX10_upperProduct 60 = .ok (.lload 10, 2) := by decide +kernel
theorem dX10_upperProduct_62 : decode cX10_upperProduct 62 = .ok (.lmul, 1) := by decide +kernel
theorem dX10_upperProduct_63 : decode cX10_upperProduct 63 = .ok (.lload 14, 2) := by decide +kernel
theorem dX10_upperProduct_65 : decode cX10_upperProduct 65 = .ok (.bipush 32, 2) := by decide +kernel
theorem dX10_upperProduct_67 : decode cX10_upperProduct 67 = .ok (.lushr, 1) := by decide +kernel
theorem dX10_upperProduct_68 : decode cX10_upperProduct 68 = .ok (.ladd, 1) := by decide +kernel
theorem dX10_upperProduct_69 : decode cX10_upperProduct 69 = .ok (.lload 16, 2) := by decide +kernel
theorem dX10_upperProduct_71 : decode cX10_upperProduct 71 = .ok (.bipush 32, 2) := by decide +kernel
theorem dX10_upperProduct_73 : decode cX10_upperProduct 73 = .ok (.lushr, 1) := by decide +kernel
theorem dX10_upperProduct_74 : decode cX10_upperProduct 74 = .ok (.ladd, 1) := by decide +kernel
theorem dX10_upperProduct_75 : decode cX10_upperProduct 75 = .ok (.lreturn, 1) := by decide +kernel
theorem dX10_divide_0 : decode cX10_divide 0 = .ok (.aload_n 0, 1) := by decide +kernel
theorem dX10_divide_1 : decode cX10_divide 1 = .ok (.lload_n 1, 1) := by decide +kernel
theorem dX10_divide_2 : decode cX10_divide 2 = .ok (.lconst 0, 1) := by decide +kernel
theorem dX10_divide_3 : decode cX10_divide 3 = .ok (.lcmp, 1) := by decide +kernel
theorem dX10_divide_4 : decode cX10_divide 4 = .ok (.ifCond .ne 13, 3) := by decide +kernel
theorem dX10_divide_7 : decode cX10_divide 7 = .ok (.lload_n 3, 1) := by decide +kernel
theorem dX10_divide_8 : decode cX10_divide 8 = .ok (.lconst 0, 1) := by decide +kernel
theorem dX10_divide_9 : decode cX10_divide 9 = .ok (.lcmp, 1) := by decide +kernel
theorem dX10_divide_10 : decode cX10_divide 10 = .ok (.ifCond .ne 7, 3) := by decide +kernel
theorem dX10_divide_13 : decode cX10_divide 13 = .ok (.iconst 1, 1) := by decide +kernel
theorem dX10_divide_14 : decode cX10_divide 14 = .ok (.goto 4, 3) := by decide +kernel
theorem dX10_divide_17 : decode cX10_divide 17 = .ok (.iconst 0, 1) := by decide +kernel
theorem dX10_divide_18 : decode cX10_divide 18 = .ok (.putfield 24, 3) := by decide +kernel
theorem dX10_divide_21 : decode cX10_divide 21 = .ok (.aload_n 0, 1) := by decide +kernel
theorem dX10_divide_22 : decode cX10_divide 22 = .ok (.lconst 0, 1) := by decide +kernel
theorem dX10_divide_23 : decode cX10_divide 23 = .ok (.putfield 38, 3) := by decide +kernel
theorem dX10_divide_26 : decode cX10_divide 26 = .ok (.aload_n 0, 1) := by decide +kernel
theorem dX10_divide_27 : decode cX10_divide 27 = .ok (.lconst 0, 1) := by decide +kernel
theorem dX10_divide_28 : decode cX10_divide 28 = .ok (.putfield 41, 3) := by decide +kernel
theorem dX10_divide_31 : decode cX10_divide 31 = .ok (.iconst 0, 1) := by decide +kernel
theorem dX10_divide_32 : decode cX10_divide 32 = .ok (.istore 6, 2) := by decide +kernel
theorem dX10_divide_34 : decode cX10_divide 34 = .ok (.iload 6, 2) := by decide +kernel
theorem dX10_divide_36 : decode cX10_divide 36 = .ok (.sipush 128, 3) := by decide +kernel
theorem dX10_divide_39 : decode cX10_divide 39 = .ok (.if_icmp .ge 165, 3) := by decide +kernel
theorem dX10_divide_42 : decode cX10_divide 42 = .ok (.aload_n 0, 1) := by decide +kernel
theorem dX10_divide_43 : decode cX10_divide 43 = .ok (.getfield 24, 3) := by decide +kernel
theorem dX10_divide_46 : decode cX10_divide 46 = .ok (.ifCond .ne 158, 3) := by decide +kernel
theorem dX10_divide_49 : decode cX10_divide 49 = .ok (.aload_n 0, 1) := by decide +kernel
theorem dX10_divide_50 : decode cX10_divide 50 = .ok (.getfield 38, 3) := by decide +kernel
theorem dX10_divide_53 : decode cX10_divide 53 = .ok (.lconst 0, 1) := by decide +kernel
theorem dX10_divide_54 : decode cX10_divide 54 = .ok (.lcmp, 1) := by decide +kernel
theorem dX10_divide_55 : decode cX10_divide 55 = .ok (.ifCond .ge 7, 3) := by decide +kernel
theorem dX10_divide_58 : decode cX10_divide 58 = .ok (.iconst 1, 1) := by decide +kernel
theorem dX10_divide_59 : decode cX10_divide 59 = .ok (.goto 4, 3) := by decide +kernel
theorem dX10_divide_62 : decode cX10_divide 62 = .ok (.iconst 0, 1) := by decide +kernel
theorem dX10_divide_63 : decode cX10_divide 63 = .ok (.istore 7, 2) := by decide +kernel
theorem dX10_divide_65 : decode cX10_divide 65 = .ok (.aload_n 0, 1) := by decide +kernel
theorem dX10_divide_66 : decode cX10_divide 66 = .ok (.aload_n 0, 1) := by decide +kernel
theorem dX10_divide_67 : decode cX10_divide 67 = .ok (.getfield 38, 3) := by decide +kernel
theorem dX10_divide_70 : decode cX10_divide 70 = .ok (.iconst 1, 1) := by decide +kernel
theorem dX10_divide_71 : decode cX10_divide 71 = .ok (.lshl, 1) := by decide +kernel
theorem dX10_divide_72 : decode cX10_divide 72 = .ok (.aload_n 0, 1) := by decide +kernel
theorem dX10_divide_73 : decode cX10_divide 73 = .ok (.getfield 41, 3) := by decide +kernel
theorem dX10_divide_76 : decode cX10_divide 76 = .ok (.bipush 63, 2) := by decide +kernel
theorem dX10_divide_78 : decode cX10_divide 78 = .ok (.lushr, 1) := by decide +kernel
theorem dX10_divide_79 : decode cX10_divide 79 = .ok (.lor, 1) := by decide +kernel
theorem dX10_divide_80 : decode cX10_divide 80 = .ok (.putfield 38, 3) := by decide +kernel
theorem dX10_divide_83 : decode cX10_divide 83 = .ok (.aload_n 0, 1) := by decide +kernel
theorem dX10_divide_84 : decode cX10_divide 84 = .ok (.aload_n 0, 1) := by decide +kernel
theorem dX10_divide_85 : decode cX10_divide 85 = .ok (.getfield 41, 3) := by decide +kernel
theorem dX10_divide_88 : decode cX10_divide 88 = .ok (.iconst 1, 1) := by decide +kernel
theorem dX10_divide_89 : decode cX10_divide 89 = .ok (.lshl, 1) := by decide +kernel
theorem dX10_divide_90 : decode cX10_divide 90 = .ok (.aload_n 0, 1) := by decide +kernel
theorem dX10_divide_91 : decode cX10_divide 91 = .ok (.getfield 17, 3) := by decide +kernel
theorem dX10_divide_94 : decode cX10_divide 94 = .ok (.bipush 63, 2) := by decide +kernel
theorem dX10_divide_96 : decode cX10_divide 96 = .ok (.lushr, 1) := by decide +kernel
theorem dX10_divide_97 : decode cX10_divide 97 = .ok (.lor, 1) := by decide +kernel
theorem dX10_divide_98 : decode cX10_divide 98 = .ok (.putfield 41, 3) := by decide +kernel
theorem dX10_divide_101 : decode cX10_divide 101 = .ok (.aload_n 0, 1) := by decide +kernel
theorem dX10_divide_102 : decode cX10_divide 102 = .ok (.aload_n 0, 1) := by decide +kernel
theorem dX10_divide_103 : decode cX10_divide 103 = .ok (.getfield 17, 3) := by decide +kernel
theorem dX10_divide_106 : decode cX10_divide 106 = .ok (.iconst 1, 1) := by decide +kernel
theorem dX10_divide_107 : decode cX10_divide 107 = .ok (.lshl, 1) := by decide +kernel
theorem dX10_divide_108 : decode cX10_divide 108 = .ok (.aload_n 0, 1) := by decide +kernel
theorem dX10_divide_109 : decode cX10_divide 109 = .ok (.getfield 21, 3) := by decide +kernel
theorem dX10_divide_112 : decode cX10_divide 112 = .ok (.bipush 63, 2) := by decide +kernel
theorem dX10_divide_114 : decode cX10_divide 114 = .ok (.lushr, 1) := by decide +kernel
theorem dX10_divide_115 : decode cX10_divide 115 = .ok (.lor, 1) := by decide +kernel
theorem dX10_divide_116 : decode cX10_divide 116 = .ok (.putfield 17, 3) := by decide +kernel
theorem dX10_divide_119 : decode cX10_divide 119 = .ok (.aload_n 0, 1) := by decide +kernel
theorem dX10_divide_120 : decode cX10_divide 120 = .ok (.dup, 1) := by decide +kernel
theorem dX10_divide_121 : decode cX10_divide 121 = .ok (.getfield 21, 3) := by decide +kernel
theorem dX10_divide_124 : decode cX10_divide 124 = .ok (.iconst 1, 1) := by decide +kernel
theorem dX10_divide_125 : decode cX10_divide 125 = .ok (.lshl, 1) := by decide +kernel
theorem dX10_divide_126 : decode cX10_divide 126 = .ok (.putfield 21, 3) := by decide +kernel
theorem dX10_divide_129 : decode cX10_divide 129 = .ok (.iload 7, 2) := by decide +kernel
theorem dX10_divide_131 : decode cX10_divide 131 = .ok (.ifCond .ne 19, 3) := by decide +kernel
theorem dX10_divide_134 : decode cX10_divide 134 = .ok (.aload_n 0, 1) := by decide +kernel
theorem dX10_divide_135 : decode cX10_divide 135 = .ok (.getfield 38, 3) := by decide +kernel
theorem dX10_divide_138 : decode cX10_divide 138 = .ok (.aload_n 0, 1) := by decide +kernel
theorem dX10_divide_139 : decode cX10_divide 139 = .ok (.getfield 41, 3) := by decide +kernel
theorem dX10_divide_142 : decode cX10_divide 142 = .ok (.lload_n 1, 1) := by decide +kernel
theorem dX10_divide_143 : decode cX10_divide 143 = .ok (.lload_n 3, 1) := by decide +kernel
theorem dX10_divide_144 : decode cX10_divide 144 = .ok (.invokestatic 28, 3) := by decide +kernel
theorem dX10_divide_147 : decode cX10_divide 147 = .ok (.ifCond .lt 51, 3) := by decide +kernel
theorem dX10_divide_150 : decode cX10_divide 150 = .ok (.aload_n 0, 1) := by decide +kernel
theorem dX10_divide_151 : decode cX10_divide 151 = .ok (.aload_n 0, 1) := by decide +kernel
theorem dX10_divide_152 : decode cX10_divide 152 = .ok (.getfield 38, 3) := by decide +kernel
theorem dX10_divide_155 : decode cX10_divide 155 = .ok (.lload_n 1, 1) := by decide +kernel
theorem dX10_divide_156 : decode cX10_divide 156 = .ok (.lsub, 1) := by decide +kernel
theorem dX10_divide_157 : decode cX10_divide 157 = .ok (.aload_n 0, 1) := by decide +kernel
theorem dX10_divide_158 : decode cX10_divide 158 = .ok (.getfield 41, 3) := by decide +kernel
theorem dX10_divide_161 : decode cX10_divide 161 = .ok (.lload_n 3, 1) := by decide +kernel
theorem dX10_divide_162 : decode cX10_divide 162 = .ok (.invokestatic 11, 3) := by decide +kernel
theorem dX10_divide_165 : decode cX10_divide 165 = .ok (.ifCond .eq 7, 3) := by decide +kernel
theorem dX10_divide_168 : decode cX10_divide 168 = .ok (.iconst 1, 1) := by decide +kernel
theorem dX10_divide_169 : decode cX10_divide 169 = .ok (.goto 4, 3) := by decide +kernel
theorem dX10_divide_172 : decode cX10_divide 172 = .ok (.iconst 0, 1) := by decide +kernel
theorem dX10_divide_173 : decode cX10_divide 173 = .ok (.i2l, 1) := by decide +kernel
theorem dX10_divide_174 : decode cX10_divide 174 = .ok (.lsub, 1) := by decide +kernel
theorem dX10_divide_175 : decode cX10_divide 175 = .ok (.putfield 38, 3) := by decide +kernel
theorem dX10_divide_178 : decode cX10_divide 178 = .ok (.aload_n 0, 1) := by decide +kernel
theorem dX10_divide_179 : decode cX10_divide 179 = .ok (.dup, 1) := by decide +kernel
theorem dX10_divide_180 : decode cX10_divide 180 = .ok (.getfield 41, 3) := by decide +kernel
theorem dX10_divide_183 : decode cX10_divide 183 = .ok (.lload_n 3, 1) := by decide +kernel
theorem dX10_divide_184 : decode cX10_divide 184 = .ok (.lsub, 1) := by decide +kernel
theorem dX10_divide_185 : decode cX10_divide 185 = .ok (.putfield 41, 3) := by decide +kernel
theorem dX10_divide_188 : decode cX10_divide 188 = .ok (.aload_n 0, 1) := by decide +kernel
theorem dX10_divide_189 : decode cX10_divide 189 = .ok (.dup, 1) := by decide +kernel
theorem dX10_divide_190 : decode cX10_divide 190 = .ok (.getfield 21, 3) := by decide +kernel
theorem dX10_divide_193 : decode cX10_divide 193 = .ok (.lconst 1, 1) := by decide +kernel
theorem dX10_divide_194 : decode cX10_divide 194 = .ok (.lor, 1) := by decide +kernel
theorem dX10_divide_195 : decode cX10_divide 195 = .ok (.putfield 21, 3) := by decide +kernel
theorem dX10_divide_198 : decode cX10_divide 198 = .ok (.iinc 6 1, 3) := by decide +kernel
theorem dX10_divide_201 : decode cX10_divide 201 = .ok (.goto (-167), 3) := by decide +kernel
theorem dX10_divide_204 : decode cX10_divide 204 = .ok (.iload 5, 2) := by decide +kernel
theorem dX10_divide_206 : decode cX10_divide 206 = .ok (.ifCond .eq 19, 3) := by decide +kernel
theorem dX10_divide_209 : decode cX10_divide 209 = .ok (.aload_n 0, 1) := by decide +kernel
theorem dX10_divide_210 : decode cX10_divide 210 = .ok (.aload_n 0, 1) := by decide +kernel
theorem dX10_divide_211 : decode cX10_divide 211 = .ok (.getfield 38, 3) := by decide +kernel
theorem dX10_divide_214 : decode cX10_divide 214 = .ok (.putfield 17, 3) := by decide +kernel
theorem dX10_divide_217 : decode cX10_divide 217 = .ok (.aload_n 0, 1) := by decide +kernel
theorem dX10_divide_218 : decode cX10_divide 218 = .ok (.aload_n 0, 1) := by decide +kernel
theorem dX10_divide_219 : decode cX10_divide 219 = .ok (.getfield 41, 3) := by decide +kernel
theorem dX10_divide_222 : decode cX10_divide 222 = .ok (.putfield 21, 3) := by decide +kernel
theorem dX10_divide_225 : decode cX10_divide 225 = .ok (.return_, 1) := by decide +kernel
theorem dX10_shiftUp_0 : decode cX10_shiftUp 0 = .ok (.iload_n 1, 1) := by decide +kernel
theorem dX10_shiftUp_1 : decode cX10_shiftUp 1 = .ok (.bipush 64, 2) := by decide +kernel
theorem dX10_shiftUp_3 : decode cX10_shiftUp 3 = .ok (.if_icmp .lt 24, 3) := by decide +kernel
theorem dX10_shiftUp_6 : decode cX10_shiftUp 6 = .ok (.aload_n 0, 1) := by decide +kernel
theorem dX10_shiftUp_7 : decode cX10_shiftUp 7 = .ok (.aload_n 0, 1) := by decide +kernel
theorem dX10_shiftUp_8 : decode cX10_shiftUp 8 = .ok (.getfield 21, 3) := by decide +kernel
theorem dX10_shiftUp_11 : decode cX10_shiftUp 11 = .ok (.iload_n 1, 1) := by decide +kernel
theorem dX10_shiftUp_12 : decode cX10_shiftUp 12 = .ok (.bipush 64, 2) := by decide +kernel
theorem dX10_shiftUp_14 : decode cX10_shiftUp 14 = .ok (.isub, 1) := by decide +kernel
theorem dX10_shiftUp_15 : decode cX10_shiftUp 15 = .ok (.lshl, 1) := by decide +kernel
theorem dX10_shiftUp_16 : decode cX10_shiftUp 16 = .ok (.putfield 17, 3) := by decide +kernel
theorem dX10_shiftUp_19 : decode cX10_shiftUp 19 = .ok (.aload_n 0, 1) := by decide +kernel
theorem dX10_shiftUp_20 : decode cX10_shiftUp 20 = .ok (.lconst 0, 1) := by decide +kernel
theorem dX10_shiftUp_21 : decode cX10_shiftUp 21 = .ok (.putfield 21, 3) := by decide +kernel
theorem dX10_shiftUp_24 : decode cX10_shiftUp 24 = .ok (.goto 37, 3) := by decide +kernel
theorem dX10_shiftUp_27 : decode cX10_shiftUp 27 = .ok (.iload_n 1, 1) := by decide +kernel
theorem dX10_shiftUp_28 : decode cX10_shiftUp 28 = .ok (.ifCond .le 33, 3) := by decide +kernel
theorem dX10_shiftUp_31 : decode cX10_shiftUp 31 = .ok (.aload_n 0, 1) := by decide +kernel
theorem dX10_shiftUp_32 : decode cX10_shiftUp 32 = .ok (.aload_n 0, 1) := by decide +kernel
theorem dX10_shiftUp_33 : decode cX10_shiftUp 33 = .ok (.getfield 17, 3) := by decide +kernel
theorem dX10_shiftUp_36 : decode cX10_shiftUp 36 = .ok (.iload_n 1, 1) := by decide +kernel
theorem dX10_shiftUp_37 : decode cX10_shiftUp 37 = .ok (.lshl, 1) := by decide +kernel
theorem dX10_shiftUp_38 : decode cX10_shiftUp 38 = .ok (.aload_n 0, 1) := by decide +kernel
theorem dX10_shiftUp_39 : decode cX10_shiftUp 39 = .ok (.getfield 21, 3) := by decide +kernel
theorem dX10_shiftUp_42 : decode cX10_shiftUp 42 = .ok (.bipush 64, 2) := by decide +kernel
theorem dX10_shiftUp_44 : decode cX10_shiftUp 44 = .ok (.iload_n 1, 1) := by decide +kernel
theorem dX10_shiftUp_45 : decode cX10_shiftUp 45 = .ok (.isub, 1) := by decide +kernel
theorem dX10_shiftUp_46 : decode cX10_shiftUp 46 = .ok (.lushr, 1) := by decide +kernel
theorem dX10_shiftUp_47 : decode cX10_shiftUp 47 = .ok (.lor, 1) := by decide +kernel
theorem dX10_shiftUp_48 : decode cX10_shiftUp 48 = .ok (.putfield 17, 3) := by decide +kernel
theorem dX10_shiftUp_51 : decode cX10_shiftUp 51 = .ok (.aload_n 0, 1) := by decide +kernel
theorem dX10_shiftUp_52 : decode cX10_shiftUp 52 = .ok (.dup, 1) := by decide +kernel
theorem dX10_shiftUp_53 : decode cX10_shiftUp 53 = .ok (.getfield 21, 3) := by decide +kernel
theorem dX10_shiftUp_56 : decode cX10_shiftUp 56 = .ok (.iload_n 1, 1) := by decide +kernel
theorem dX10_shiftUp_57 : decode cX10_shiftUp 57 = .ok (.lshl, 1) := by decide +kernel
theorem dX10_shiftUp_58 : decode cX10_shiftUp 58 = .ok (.putfield 21, 3) := by decide +kernel
theorem dX10_shiftUp_61 : decode cX10_shiftUp 61 = .ok (.return_, 1) := by decide +kernel
theorem dX10_shiftDown_0 : decode cX10_shiftDown 0 = .ok (.iload_n 1, 1) := by decide +kernel
theorem dX10_shiftDown_1 : decode cX10_shiftDown 1 = .ok (.bipush 64, 2) := by decide +kernel
theorem dX10_shiftDown_3 : decode cX10_shiftDown 3 = .ok (.if_icmp .lt 24, 3) := by decide +kernel
theorem dX10_shiftDown_6 : decode cX10_shiftDown 6 = .ok (.aload_n 0, 1) := by decide +kernel
theorem dX10_shiftDown_7 : decode cX10_shiftDown 7 = .ok (.aload_n 0, 1) := by decide +kernel
theorem dX10_shiftDown_8 : decode cX10_shiftDown 8 = .ok (.getfield 17, 3) := by decide +kernel
theorem dX10_shiftDown_11 : decode cX10_shiftDown 11 = .ok (.iload_n 1, 1) := by decide +kernel
theorem dX10_shiftDown_12 : decode cX10_shiftDown 12 = .ok (.bipush 64, 2) := by decide +kernel
theorem dX10_shiftDown_14 : decode cX10_shiftDown 14 = .ok (.isub, 1) := by decide +kernel
theorem dX10_shiftDown_15 : decode cX10_shiftDown 15 = .ok (.lushr, 1) := by decide +kernel
theorem dX10_shiftDown_16 : decode cX10_shiftDown 16 = .ok (.putfield 21, 3) := by decide +kernel
theorem dX10_shiftDown_19 : decode cX10_shiftDown 19 = .ok (.aload_n 0, 1) := by decide +kernel
theorem dX10_shiftDown_20 : decode cX10_shiftDown 20 = .ok (.lconst 0, 1) := by decide +kernel
theorem dX10_shiftDown_21 : decode cX10_shiftDown 21 = .ok (.putfield 17, 3) := by decide +kernel
theorem dX10_shiftDown_24 : decode cX10_shiftDown 24 = .ok (.goto 37, 3) := by decide +kernel
theorem dX10_shiftDown_27 : decode cX10_shiftDown 27 = .ok (.iload_n 1, 1) := by decide +kernel
theorem dX10_shiftDown_28 : decode cX10_shiftDown 28 = .ok (.ifCond .le 33, 3) := by decide +kernel
theorem dX10_shiftDown_31 : decode cX10_shiftDown 31 = .ok (.aload_n 0, 1) := by decide +kernel
theorem dX10_shiftDown_32 : decode cX10_shiftDown 32 = .ok (.aload_n 0, 1) := by decide +kernel
theorem dX10_shiftDown_33 : decode cX10_shiftDown 33 = .ok (.getfield 21, 3) := by decide +kernel
theorem dX10_shiftDown_36 : decode cX10_shiftDown 36 = .ok (.iload_n 1, 1) := by decide +kernel
theorem dX10_shiftDown_37 : decode cX10_shiftDown 37 = .ok (.lushr, 1) := by decide +kernel
theorem dX10_shiftDown_38 : decode cX10_shiftDown 38 = .ok (.aload_n 0, 1) := by decide +kernel
theorem dX10_shiftDown_39 : decode cX10_shiftDown 39 = .ok (.getfield 17, 3) := by decide +kernel
theorem dX10_shiftDown_42 : decode cX10_shiftDown 42 = .ok (.bipush 64, 2) := by decide +kernel
theorem dX10_shiftDown_44 : decode cX10_shiftDown 44 = .ok (.iload_n 1, 1) := by decide +kernel
theorem dX10_shiftDown_45 : decode cX10_shiftDown 45 = .ok (.isub, 1) := by decide +kernel
theorem dX10_shiftDown_46 : decode cX10_shiftDown 46 = .ok (.lshl, 1) := by decide +kernel
theorem dX10_shiftDown_47 : decode cX10_shiftDown 47 = .ok (.lor, 1) := by decide +kernel
theorem dX10_shiftDown_48 : decode cX10_shiftDown 48 = .ok (.putfield 21, 3) := by decide +kernel
theorem dX10_shiftDown_51 : decode cX10_shiftDown 51 = .ok (.aload_n 0, 1) := by decide +kernel
theorem dX10_shiftDown_52 : decode cX10_shiftDown 52 = .ok (.dup, 1) := by decide +kernel
theorem dX10_shiftDown_53 : decode cX10_shiftDown 53 = .ok (.getfield 17, 3) := by decide +kernel
theorem dX10_shiftDown_56 : decode cX10_shiftDown 56 = .ok (.iload_n 1, 1) := by decide +kernel
theorem dX10_shiftDown_57 : decode cX10_shiftDown 57 = .ok (.lushr, 1) := by decide +kernel
theorem dX10_shiftDown_58 : decode cX10_shiftDown 58 = .ok (.putfield 17, 3) := by decide +kernel
theorem dX10_shiftDown_61 : decode cX10_shiftDown 61 = .ok (.return_, 1) := by decide +kernel
theorem dX10_bitsOf_0 : decode cX10_bitsOf 0 = .ok (.iload_n 0, 1) := by decide +kernel
theorem dX10_bitsOf_1 : decode cX10_bitsOf 1 = .ok (.iconst 2, 1) := by decide +kernel
theorem dX10_bitsOf_2 : decode cX10_bitsOf 2 = .ok (.if_icmp .ne 8, 3) := by decide +kernel
theorem dX10_bitsOf_5 : decode cX10_bitsOf 5 = .ok (.bipush 8, 2) := by decide +kernel
theorem dX10_bitsOf_7 : decode cX10_bitsOf 7 = .ok (.goto 16, 3) := by decide +kernel
theorem dX10_bitsOf_10 : decode cX10_bitsOf 10 = .ok (.iload_n 0, 1) := by decide +kernel
theorem dX10_bitsOf_11 : decode cX10_bitsOf 11 = .ok (.iconst 3, 1) := by decide +kernel
theorem dX10_bitsOf_12 : decode cX10_bitsOf 12 = .ok (.if_icmp .ne 8, 3) := by decide +kernel
theorem dX10_bitsOf_15 : decode cX10_bitsOf 15 = .ok (.bipush 64, 2) := by decide +kernel
theorem dX10_bitsOf_17 : decode cX10_bitsOf 17 = .ok (.goto 6, 3) := by decide +kernel
theorem dX10_bitsOf_20 : decode cX10_bitsOf 20 = .ok (.sipush 128, 3) := by decide +kernel
theorem dX10_bitsOf_23 : decode cX10_bitsOf 23 = .ok (.ireturn, 1) := by decide +kernel
theorem dX10_fits_0 : decode cX10_fits 0 = .ok (.aload_n 0, 1) := by decide +kernel
theorem dX10_fits_1 : decode cX10_fits 1 = .ok (.getfield 24, 3) := by decide +kernel
theorem dX10_fits_4 : decode cX10_fits 4 = .ok (.ifCond .eq 5, 3) := by decide +kernel
theorem dX10_fits_7 : decode cX10_fits 7 = .ok (.iconst 0, 1) := by decide +kernel
theorem dX10_fits_8 : decode cX10_fits 8 = .ok (.ireturn, 1) := by decide +kernel
theorem dX10_fits_9 : decode cX10_fits 9 = .ok (.iload_n 1, 1) := by decide +kernel
theorem dX10_fits_10 : decode cX10_fits 10 = .ok (.iconst 4, 1) := by decide +kernel
theorem dX10_fits_11 : decode cX10_fits 11 = .ok (.if_icmp .eq 29, 3) := by decide +kernel
theorem dX10_fits_14 : decode cX10_fits 14 = .ok (.aload_n 0, 1) := by decide +kernel
theorem dX10_fits_15 : decode cX10_fits 15 = .ok (.getfield 17, 3) := by decide +kernel
theorem dX10_fits_18 : decode cX10_fits 18 = .ok (.lconst 0, 1) := by decide +kernel
theorem dX10_fits_19 : decode cX10_fits 19 = .ok (.lcmp, 1) := by decide +kernel
theorem dX10_fits_20 : decode cX10_fits 20 = .ok (.ifCond .ne 24, 3) := by decide +kernel
theorem dX10_fits_23 : decode cX10_fits 23 = .ok (.iload_n 1, 1) := by decide +kernel
theorem dX10_fits_24 : decode cX10_fits 24 = .ok (.iconst 3, 1) := by decide +kernel
theorem dX10_fits_25 : decode cX10_fits 25 = .ok (.if_icmp .eq 15, 3) := by decide +kernel
theorem dX10_fits_28 : decode cX10_fits 28 = .ok (.aload_n 0, 1) := by decide +kernel
theorem dX10_fits_29 : decode cX10_fits 29 = .ok (.getfield 21, 3) := by decide +kernel
theorem dX10_fits_32 : decode cX10_fits 32 = .ok (.bipush 8, 2) := by decide +kernel
theorem dX10_fits_34 : decode cX10_fits 34 = .ok (.lushr, 1) := by decide +kernel
theorem dX10_fits_35 : decode cX10_fits 35 = .ok (.lconst 0, 1) := by decide +kernel
theorem dX10_fits_36 : decode cX10_fits 36 = .ok (.lcmp, 1) := by decide +kernel
theorem dX10_fits_37 : decode cX10_fits 37 = .ok (.ifCond .ne 7, 3) := by decide +kernel
theorem dX10_fits_40 : decode cX10_fits 40 = .ok (.iconst 1, 1) := by decide +kernel
theorem dX10_fits_41 : decode cX10_fits 41 = .ok (.goto 4, 3) := by decide +kernel
theorem dX10_fits_44 : decode cX10_fits 44 = .ok (.iconst 0, 1) := by decide +kernel
theorem dX10_fits_45 : decode cX10_fits 45 = .ok (.ireturn, 1) := by decide +kernel
theorem dX10_cut_0 : decode cX10_cut 0 = .ok (.iload_n 1, 1) := by decide +kernel
theorem dX10_cut_1 : decode cX10_cut 1 = .ok (.iconst 4, 1) := by decide +kernel
theorem dX10_cut_2 : decode cX10_cut 2 = .ok (.if_icmp .eq 8, 3) := by decide +kernel
theorem dX10_cut_5 : decode cX10_cut 5 = .ok (.aload_n 0, 1) := by decide +kernel
theorem dX10_cut_6 : decode cX10_cut 6 = .ok (.lconst 0, 1) := by decide +kernel
theorem dX10_cut_7 : decode cX10_cut 7 = .ok (.putfield 17, 3) := by decide +kernel
theorem dX10_cut_10 : decode cX10_cut 10 = .ok (.iload_n 1, 1) := by decide +kernel
theorem dX10_cut_11 : decode cX10_cut 11 = .ok (.iconst 2, 1) := by decide +kernel
theorem dX10_cut_12 : decode cX10_cut 12 = .ok (.if_icmp .ne 15, 3) := by decide +kernel
theorem dX10_cut_15 : decode cX10_cut 15 = .ok (.aload_n 0, 1) := by decide +kernel
theorem dX10_cut_16 : decode cX10_cut 16 = .ok (.dup, 1) := by decide +kernel
theorem dX10_cut_17 : decode cX10_cut 17 = .ok (.getfield 21, 3) := by decide +kernel
theorem dX10_cut_20 : decode cX10_cut 20 = .ok (.ldc2_w 44, 3) := by decide +kernel
theorem dX10_cut_23 : decode cX10_cut 23 = .ok (.land, 1) := by decide +kernel
theorem dX10_cut_24 : decode cX10_cut 24 = .ok (.putfield 21, 3) := by decide +kernel
theorem dX10_cut_27 : decode cX10_cut 27 = .ok (.return_, 1) := by decide +kernel
theorem dX11_refusalOf_0 : decode cX11_refusalOf 0 = .ok (.aload_n 0, 1) := by decide +kernel
theorem dX11_refusalOf_1 : decode cX11_refusalOf 1 = .ok (.getfield 22, 3) := by decide +kernel
theorem dX11_refusalOf_4 : decode cX11_refusalOf 4 = .ok (.aload_n 1, 1) := by decide +kernel
theorem dX11_refusalOf_5 : decode cX11_refusalOf 5 = .ok (.getfield 177, 3) := by decide +kernel
theorem dX11_refusalOf_8 : decode cX11_refusalOf 8 = .ok (.invokevirtual 93, 3) := by decide +kernel
theorem dX11_refusalOf_11 : decode cX11_refusalOf 11 = .ok (.istore_n 2, 1) := by decide +kernel
theorem dX11_refusalOf_12 : decode cX11_refusalOf 12 = .ok (.iload_n 2, 1) := by decide +kernel
theorem dX11_refusalOf_13 : decode cX11_refusalOf 13 = .ok (.ifCond .ge 5, 3) := by decide +kernel
theorem dX11_refusalOf_16 : decode cX11_refusalOf 16 = .ok (.iconst 1, 1) := by decide +kernel
theorem dX11_refusalOf_17 : decode cX11_refusalOf 17 = .ok (.ireturn, 1) := by decide +kernel
theorem dX11_refusalOf_18 : decode cX11_refusalOf 18 = .ok (.aload_n 0, 1) := by decide +kernel
theorem dX11_refusalOf_19 : decode cX11_refusalOf 19 = .ok (.getfield 22, 3) := by decide +kernel
theorem dX11_refusalOf_22 : decode cX11_refusalOf 22 = .ok (.getfield 180, 3) := by decide +kernel
theorem dX11_refusalOf_25 : decode cX11_refusalOf 25 = .ok (.iload_n 2, 1) := by decide +kernel
theorem dX11_refusalOf_26 : decode cX11_refusalOf 26 = .ok (.laload, 1) := by decide +kernel
theorem dX11_refusalOf_27 : decode cX11_refusalOf 27 = .ok (.aload_n 1, 1) := by decide +kernel
theorem dX11_refusalOf_28 : decode cX11_refusalOf 28 = .ok (.getfield 183, 3) := by decide +kernel
theorem dX11_refusalOf_31 : decode cX11_refusalOf 31 = .ok (.lcmp, 1) := by decide +kernel
theorem dX11_refusalOf_32 : decode cX11_refusalOf 32 = .ok (.ifCond .eq 5, 3) := by decide +kernel
theorem dX11_refusalOf_35 : decode cX11_refusalOf 35 = .ok (.iconst 2, 1) := by decide +kernel
theorem dX11_refusalOf_36 : decode cX11_refusalOf 36 = .ok (.ireturn, 1) := by decide +kernel
theorem dX11_refusalOf_37 : decode cX11_refusalOf 37 = .ok (.aload_n 0, 1) := by decide +kernel
theorem dX11_refusalOf_38 : decode cX11_refusalOf 38 = .ok (.getfield 22, 3) := by decide +kernel
theorem dX11_refusalOf_41 : decode cX11_refusalOf 41 = .ok (.getfield 104, 3) := by decide +kernel
theorem dX11_refusalOf_44 : decode cX11_refusalOf 44 = .ok (.iload_n 2, 1) := by decide +kernel
theorem dX11_refusalOf_45 : decode cX11_refusalOf 45 = .ok (.laload, 1) := by decide +kernel
theorem dX11_refusalOf_46 : decode cX11_refusalOf 46 = .ok (.aload_n 1, 1) := by decide +kernel
theorem dX11_refusalOf_47 : decode cX11_refusalOf 47 = .ok (.getfield 185, 3) := by decide +kernel
theorem dX11_refusalOf_50 : decode cX11_refusalOf 50 = .ok (.i2l, 1) := by decide +kernel
theorem dX11_refusalOf_51 : decode cX11_refusalOf 51 = .ok (.lcmp, 1) := by decide +kernel
theorem dX11_refusalOf_52 : decode cX11_refusalOf 52 = .ok (.ifCond .ge 5, 3) := by decide +kernel
theorem dX11_refusalOf_55 : decode cX11_refusalOf 55 = .ok (.iconst 3, 1) := by decide +kernel
theorem dX11_refusalOf_56 : decode cX11_refusalOf 56 = .ok (.ireturn, 1) := by decide +kernel
theorem dX11_refusalOf_57 : decode cX11_refusalOf 57 = .ok (.aload_n 1, 1) := by decide +kernel
theorem dX11_refusalOf_58 : decode cX11_refusalOf 58 = .ok (.getfield 131, 3) := by decide +kernel
theorem dX11_refusalOf_61 : decode cX11_refusalOf 61 = .ok (.ifCond .ne 5, 3) := by decide +kernel
theorem dX11_refusalOf_64 : decode cX11_refusalOf 64 = .ok (.iconst 0, 1) := by decide +kernel
theorem dX11_refusalOf_65 : decode cX11_refusalOf 65 = .ok (.ireturn, 1) := by decide +kernel
theorem dX11_refusalOf_66 : decode cX11_refusalOf 66 = .ok (.aload_n 0, 1) := by decide +kernel
theorem dX11_refusalOf_67 : decode cX11_refusalOf 67 = .ok (.getfield 22, 3) := by decide +kernel
theorem dX11_refusalOf_70 : decode cX11_refusalOf 70 = .ok (.aload_n 1, 1) := by decide +kernel
theorem dX11_refusalOf_71 : decode cX11_refusalOf 71 = .ok (.getfield 134, 3) := by decide +kernel
theorem dX11_refusalOf_74 : decode cX11_refusalOf 74 = .ok (.invokevirtual 188, 3) := by decide +kernel
theorem dX11_refusalOf_77 : decode cX11_refusalOf 77 = .ok (.astore_n 3, 1) := by decide +kernel
theorem dX11_refusalOf_78 : decode cX11_refusalOf 78 = .ok (.aload_n 3, 1) := by decide +kernel
theorem dX11_refusalOf_79 : decode cX11_refusalOf 79 = .ok (.ifnonnull 5, 3) := by decide +kernel
theorem dX11_refusalOf_82 : decode cX11_refusalOf 82 = .ok (.iconst 4, 1) := by decide +kernel
theorem dX11_refusalOf_83 : decode cX11_refusalOf 83 = .ok (.ireturn, 1) := by decide +kernel
theorem dX11_refusalOf_84 : decode cX11_refusalOf 84 = .ok (.aload_n 1, 1) := by decide +kernel
theorem dX11_refusalOf_85 : decode cX11_refusalOf 85 = .ok (.getfield 137, 3) := by decide +kernel
theorem dX11_refusalOf_88 : decode cX11_refusalOf 88 = .ok (.aload_n 3, 1) := by decide +kernel
theorem dX11_refusalOf_89 : decode cX11_refusalOf 89 = .ok (.getfield 192, 3) := by decide +kernel
theorem dX11_refusalOf_92 : decode cX11_refusalOf 92 = .ok (.if_icmp .lt 5, 3) := by decide +kernel
theorem dX11_refusalOf_95 : decode cX11_refusalOf 95 = .ok (.iconst 5, 1) := by decide +kernel
theorem dX11_refusalOf_96 : decode cX11_refusalOf 96 = .ok (.ireturn, 1) := by decide +kernel
theorem dX11_refusalOf_97 : decode cX11_refusalOf 97 = .ok (.aload_n 3, 1) := by decide +kernel
theorem dX11_refusalOf_98 : decode cX11_refusalOf 98 = .ok (.aload_n 1, 1) := by decide +kernel
theorem dX11_refusalOf_99 : decode cX11_refusalOf 99 = .ok (.getfield 137, 3) := by decide +kernel
theorem dX11_refusalOf_102 : decode cX11_refusalOf 102 = .ok (.invokevirtual 195, 3) := by decide +kernel
theorem dX11_refusalOf_105 : decode cX11_refusalOf 105 = .ok (.iconst 2, 1) := by decide +kernel
theorem dX11_refusalOf_106 : decode cX11_refusalOf 106 = .ok (.iand, 1) := by decide +kernel
theorem dX11_refusalOf_107 : decode cX11_refusalOf 107 = .ok (.ifCond .ne 6, 3) := by decide +kernel
theorem dX11_refusalOf_110 : decode cX11_refusalOf 110 = .ok (.bipush 6, 2) := by decide +kernel
theorem dX11_refusalOf_112 : decode cX11_refusalOf 112 = .ok (.ireturn, 1) := by decide +kernel
theorem dX11_refusalOf_113 : decode cX11_refusalOf 113 = .ok (.aload_n 1, 1) := by decide +kernel
theorem dX11_refusalOf_114 : decode cX11_refusalOf 114 = .ok (.aload_n 3, 1) := by decide +kernel
theorem dX11_refusalOf_115 : decode cX11_refusalOf 115 = .ok (.invokevirtual 199, 3) := by decide +kernel
theorem dX11_refusalOf_118 : decode cX11_refusalOf 118 = .ok (.ifCond .ne 6, 3) := by decide +kernel
theorem dX11_refusalOf_121 : decode cX11_refusalOf 121 = .ok (.bipush 7, 2) := by decide +kernel
theorem dX11_refusalOf_123 : decode cX11_refusalOf 123 = .ok (.ireturn, 1) := by decide +kernel
theorem dX11_refusalOf_124 : decode cX11_refusalOf 124 = .ok (.aload_n 3, 1) := by decide +kernel
theorem dX11_refusalOf_125 : decode cX11_refusalOf 125 = .ok (.aload_n 1, 1) := by decide +kernel
theorem dX11_refusalOf_126 : decode cX11_refusalOf 126 = .ok (.getfield 137, 3) := by decide +kernel
theorem dX11_refusalOf_129 : decode cX11_refusalOf 129 = .ok (.invokevirtual 203, 3) := by decide +kernel
theorem dX11_refusalOf_132 : decode cX11_refusalOf 132 = .ok (.ifCond .eq 7, 3) := by decide +kernel
theorem dX11_refusalOf_135 : decode cX11_refusalOf 135 = .ok (.iconst 0, 1) := by decide +kernel
theorem dX11_refusalOf_136 : decode cX11_refusalOf 136 = .ok (.goto 5, 3) := by decide +kernel
theorem dX11_refusalOf_139 : decode cX11_refusalOf 139 = .ok (.bipush 8, 2) := by decide +kernel
theorem dX11_refusalOf_141 : decode cX11_refusalOf 141 = .ok (.ireturn, 1) := by decide +kernel
theorem dX11_takeModule_0 : decode cX11_takeModule 0 = .ok (.bipush 10, 2) := by decide +kernel
theorem dX11_takeModule_2 : decode cX11_takeModule 2 = .ok (.aload_n 1, 1) := by decide +kernel
theorem dX11_takeModule_3 : decode cX11_takeModule 3 = .ok (.getfield 127, 3) := by decide +kernel
theorem dX11_takeModule_6 : decode cX11_takeModule 6 = .ok (.arraylength, 1) := by decide +kernel
theorem dX11_takeModule_7 : decode cX11_takeModule 7 = .ok (.bipush 15, 2) := by decide +kernel
theorem dX11_takeModule_9 : decode cX11_takeModule 9 = .ok (.iadd, 1) := by decide +kernel
theorem dX11_takeModule_10 : decode cX11_takeModule 10 = .ok (.bipush 16, 2) := by decide +kernel
theorem dX11_takeModule_12 : decode cX11_takeModule 12 = .ok (.idiv, 1) := by decide +kernel
theorem dX11_takeModule_13 : decode cX11_takeModule 13 = .ok (.iadd, 1) := by decide +kernel
theorem dX11_takeModule_14 : decode cX11_takeModule 14 = .ok (.istore_n 2, 1) := by decide +kernel
theorem dX11_takeModule_15 : decode cX11_takeModule 15 = .ok (.iload_n 2, 1) := by decide +kernel
theorem dX11_takeModule_16 : decode cX11_takeModule 16 = .ok (.aload_n 1, 1) := by decide +kernel
theorem dX11_takeModule_17 : decode cX11_takeModule 17 = .ok (.getfield 185, 3) := by decide +kernel
theorem dX11_takeModule_20 : decode cX11_takeModule 20 = .ok (.if_icmp .le 16, 3) := by decide +kernel
theorem dX11_takeModule_23 : decode cX11_takeModule 23 = .ok (.aload_n 1, 1) := by decide +kernel
theorem dX11_takeModule_24 : decode cX11_takeModule 24 = .ok (.iconst 2, 1) := by decide +kernel
theorem dX11_takeModule_25 : decode cX11_takeModule 25 = .ok (.ldc2_w 207, 3) := by decide +kernel
theorem dX11_takeModule_28 : decode cX11_takeModule 28 = .ok (.aload_n 1, 1) := by decide +kernel
theorem dX11_takeModule_29 : decode cX11_takeModule 29 = .ok (.getfield 185, 3) := by decide +kernel
theorem dX11_takeModule_32 : decode cX11_takeModule 32 = .ok (.invokevirtual 157, 3) := by decide +kernel
theorem dX11_takeModule_35 : decode cX11_takeModule 35 = .ok (.return_, 1) := by decide +kernel
theorem dX11_takeModule_36 : decode cX11_takeModule 36 = .ok (.aload_n 0, 1) := by decide +kernel
theorem dX11_takeModule_37 : decode cX11_takeModule 37 = .ok (.getfield 22, 3) := by decide +kernel
theorem dX11_takeModule_40 : decode cX11_takeModule 40 = .ok (.getfield 209, 3) := by decide +kernel
theorem dX11_takeModule_43 : decode cX11_takeModule 43 = .ok (.bipush 8, 2) := by decide +kernel
theorem dX11_takeModule_45 : decode cX11_takeModule 45 = .ok (.if_icmp .lt 13, 3) := by decide +kernel
theorem dX11_takeModule_48 : decode cX11_takeModule 48 = .ok (.aload_n 1, 1) := by decide +kernel
theorem dX11_takeModule_49 : decode cX11_takeModule 49 = .ok (.iconst 2, 1) := by decide +kernel
theorem dX11_takeModule_50 : decode cX11_takeModule 50 = .ok (.ldc2_w 212, 3) := by decide +kernel
theorem dX11_takeModule_53 : decode cX11_takeModule 53 = .ok (.iload_n 2, 1) := by decide +kernel
theorem dX11_takeModule_54 : decode cX11_takeModule 54 = .ok (.invokevirtual 157, 3) := by decide +kernel
theorem dX11_takeModule_57 : decode cX11_takeModule 57 = .ok (.return_, 1) := by decide +kernel
theorem dX11_takeModule_58 : decode cX11_takeModule 58 = .ok (.aload_n 0, 1) := by decide +kernel
theorem dX11_takeModule_59 : decode cX11_takeModule 59 = .ok (.getfield 22, 3) := by decide +kernel
theorem dX11_takeModule_62 : decode cX11_takeModule 62 = .ok (.getfield 60, 3) := by decide +kernel
theorem dX11_takeModule_65 : decode cX11_takeModule 65 = .ok (.aload_n 0, 1) := by decide +kernel
theorem dX11_takeModule_66 : decode cX11_takeModule 66 = .ok (.getfield 22, 3) := by decide +kernel
theorem dX11_takeModule_69 : decode cX11_takeModule 69 = .ok (.getfield 209, 3) := by decide +kernel
theorem dX11_takeModule_72 : decode cX11_takeModule 72 = .ok (.iconst 1, 1) := by decide +kernel
theorem dX11_takeModule_73 : decode cX11_takeModule 73 = .ok (.iadd, 1) := by decide +kernel
theorem dX11_takeModule_74 : decode cX11_takeModule 74 = .ok (.aaload, 1) := by decide +kernel
theorem dX11_takeModule_75 : decode cX11_takeModule 75 = .ok (.astore_n 3, 1) := by decide +kernel
theorem dX11_takeModule_76 : decode cX11_takeModule 76 = .ok (.aload_n 3, 1) := by decide +kernel
theorem dX11_takeModule_77 : decode cX11_takeModule 77 = .ok (.aload_n 1, 1) := by decide +kernel
theorem dX11_takeModule_78 : decode cX11_takeModule 78 = .ok (.getfield 127, 3) := by decide +kernel
theorem dX11_takeModule_81 : decode cX11_takeModule 81 = .ok (.invokevirtual 69, 3) := by decide +kernel
theorem dX11_takeModule_84 : decode cX11_takeModule 84 = .ok (.aload_n 0, 1) := by decide +kernel
theorem dX11_takeModule_85 : decode cX11_takeModule 85 = .ok (.getfield 29, 3) := by decide +kernel
theorem dX11_takeModule_88 : decode cX11_takeModule 88 = .ok (.aload_n 3, 1) := by decide +kernel
theorem dX11_takeModule_89 : decode cX11_takeModule 89 = .ok (.invokevirtual 73, 3) := by decide +kernel
theorem dX11_takeModule_92 : decode cX11_takeModule 92 = .ok (.istore 4, 2) := by decide +kernel
theorem dX11_takeModule_94 : decode cX11_takeModule 94 = .ok (.aload_n 1, 1) := by decide +kernel
theorem dX11_takeModule_95 : decode cX11_takeModule 95 = .ok (.aload_n 0, 1) := by decide +kernel
theorem dX11_takeModule_96 : decode cX11_takeModule 96 = .ok (.getfield 29, 3) := by decide +kernel
theorem dX11_takeModule_99 : decode cX11_takeModule 99 = .ok (.getfield 214, 3) := by decide +kernel
theorem dX11_takeModule_102 : decode cX11_takeModule 102 = .ok (.putfield 217, 3) := by decide +kernel
theorem dX11_takeModule_105 : decode cX11_takeModule 105 = .ok (.iload 4, 2) := by decide +kernel
theorem dX11_takeModule_107 : decode cX11_takeModule 107 = .ok (.ifCond .ne 11, 3) := by decide +kernel
theorem dX11_takeModule_110 : decode cX11_takeModule 110 = .ok (.aload_n 0, 1) := by decide +kernel
theorem dX11_takeModule_111 : decode cX11_takeModule 111 = .ok (.aload_n 3, 1) := by decide +kernel
theorem dX11_takeModule_112 : decode cX11_takeModule 112 = .ok (.aload_n 1, 1) := by decide +kernel
theorem dX11_takeModule_113 : decode cX11_takeModule 113 = .ok (.invokevirtual 218, 3) := by decide +kernel
theorem dX11_takeModule_116 : decode cX11_takeModule 116 = .ok (.istore 4, 2) := by decide +kernel
theorem dX11_takeModule_118 : decode cX11_takeModule 118 = .ok (.iload 4, 2) := by decide +kernel
theorem dX11_takeModule_120 : decode cX11_takeModule 120 = .ok (.ifCond .ne 24, 3) := by decide +kernel
theorem dX11_takeModule_123 : decode cX11_takeModule 123 = .ok (.aload_n 0, 1) := by decide +kernel
theorem dX11_takeModule_124 : decode cX11_takeModule 124 = .ok (.getfield 36, 3) := by decide +kernel
theorem dX11_takeModule_127 : decode cX11_takeModule 127 = .ok (.aload_n 3, 1) := by decide +kernel
theorem dX11_takeModule_128 : decode cX11_takeModule 128 = .ok (.invokevirtual 222, 3) := by decide +kernel
theorem dX11_takeModule_131 : decode cX11_takeModule 131 = .ok (.istore 4, 2) := by decide +kernel
theorem dX11_takeModule_133 : decode cX11_takeModule 133 = .ok (.aload_n 1, 1) := by decide +kernel
theorem dX11_takeModule_134 : decode cX11_takeModule 134 = .ok (.aload_n 0, 1) := by decide +kernel
theorem dX11_takeModule_135 : decode cX11_takeModule 135 = .ok (.getfield 36, 3) := by decide +kernel
theorem dX11_takeModule_138 : decode cX11_takeModule 138 = .ok (.getfield 225, 3) := by decide +kernel
theorem dX11_takeModule_141 : decode cX11_takeModule 141 = .ok (.putfield 217, 3) := by decide +kernel
theorem dX11_takeModule_144 : decode cX11_takeModule 144 = .ok (.iload 4, 2) := by decide +kernel
theorem dX11_takeModule_146 : decode cX11_takeModule 146 = .ok (.ifCond .eq 15, 3) := by decide +kernel
theorem dX11_takeModule_149 : decode cX11_takeModule 149 = .ok (.aload_n 1, 1) := by decide +kernel
theorem dX11_takeModule_150 : decode cX11_takeModule 150 = .ok (.iconst 4, 1) := by decide +kernel
theorem dX11_takeModule_151 : decode cX11_takeModule 151 = .ok (.iload 4, 2) := by decide +kernel
theorem dX11_takeModule_153 : decode cX11_takeModule 153 = .ok (.i2l, 1) := by decide +kernel
theorem dX11_takeModule_154 : decode cX11_takeModule 154 = .ok (.iload_n 2, 1) := by decide +kernel
theorem dX11_takeModule_155 : decode cX11_takeModule 155 = .ok (.invokevirtual 157, 3) := by decide +kernel
theorem dX11_takeModule_158 : decode cX11_takeModule 158 = .ok (.goto 48, 3) := by decide +kernel
theorem dX11_takeModule_161 : decode cX11_takeModule 161 = .ok (.aload_n 0, 1) := by decide +kernel
theorem dX11_takeModule_162 : decode cX11_takeModule 162 = .ok (.getfield 22, 3) := by decide +kernel
theorem dX11_takeModule_165 : decode cX11_takeModule 165 = .ok (.invokevirtual 97, 3) := by decide +kernel
theorem dX11_takeModule_168 : decode cX11_takeModule 168 = .ok (.sipush 256, 3) := by decide +kernel
theorem dX11_takeModule_171 : decode cX11_takeModule 171 = .ok (.if_icmp .lt 15, 3) := by decide +kernel
theorem dX11_takeModule_174 : decode cX11_takeModule 174 = .ok (.aload_n 1, 1) := by decide +kernel
theorem dX11_takeModule_175 : decode cX11_takeModule 175 = .ok (.iconst 2, 1) := by decide +kernel
theorem dX11_takeModule_176 : decode cX11_takeModule 176 = .ok (.ldc2_w 212, 3) := by decide +kernel
theorem dX11_takeModule_179 : decode cX11_takeModule 179 = .ok (.iload_n 2, 1) := by decide +kernel
theorem dX11_takeModule_180 : decode cX11_takeModule 180 = .ok (.invokevirtual 157, 3) := by decide +kernel
theorem dX11_takeModule_183 : decode cX11_takeModule 183 = .ok (.goto 23, 3) := by decide +kernel
theorem dX11_takeModule_186 : decode cX11_takeModule 186 = .ok (.aload_n 0, 1) := by decide +kernel
theorem dX11_takeModule_187 : decode cX11_takeModule 187 = .ok (.getfield 22, 3) := by decide +kernel
theorem dX11_takeModule_190 : decode cX11_takeModule 190 = .ok (.dup, 1) := by decide +kernel
theorem dX11_takeModule_191 : decode cX11_takeModule 191 = .ok (.getfield 209, 3) := by decide +kernel
theorem dX11_takeModule_194 : decode cX11_takeModule 194 = .ok (.iconst 1, 1) := by decide +kernel
theorem dX11_takeModule_195 : decode cX11_takeModule 195 = .ok (.iadd, 1) := by decide +kernel
theorem dX11_takeModule_196 : decode cX11_takeModule 196 = .ok (.putfield 209, 3) := by decide +kernel
theorem dX11_takeModule_199 : decode cX11_takeModule 199 = .ok (.aload_n 1, 1) := by decide +kernel
theorem dX11_takeModule_200 : decode cX11_takeModule 200 = .ok (.iconst 0, 1) := by decide +kernel
theorem dX11_takeModule_201 : decode cX11_takeModule 201 = .ok (.lconst 0, 1) := by decide +kernel
theorem dX11_takeModule_202 : decode cX11_takeModule 202 = .ok (.iload_n 2, 1) := by decide +kernel
theorem dX11_takeModule_203 : decode cX11_takeModule 203 = .ok (.invokevirtual 157, 3) := by decide +kernel
theorem dX11_takeModule_206 : decode cX11_takeModule 206 = .ok (.return_, 1) := by decide +kernel
theorem dX11_misfitOf_0 : decode cX11_misfitOf 0 = .ok (.aload_n 2, 1) := by decide +kernel
theorem dX11_misfitOf_1 : decode cX11_misfitOf 1 = .ok (.iconst 4, 1) := by decide +kernel
theorem dX11_misfitOf_2 : decode cX11_misfitOf 2 = .ok (.putfield 217, 3) := by decide +kernel
theorem dX11_misfitOf_5 : decode cX11_misfitOf 5 = .ok (.aload_n 1, 1) := by decide +kernel
theorem dX11_misfitOf_6 : decode cX11_misfitOf 6 = .ok (.getfield 226, 3) := by decide +kernel
theorem dX11_misfitOf_9 : decode cX11_misfitOf 9 = .ok (.ifCond .eq 17, 3) := by decide +kernel
theorem dX11_misfitOf_12 : decode cX11_misfitOf 12 = .ok (.aload_n 0, 1) := by decide +kernel
theorem dX11_misfitOf_13 : decode cX11_misfitOf 13 = .ok (.getfield 22, 3) := by decide +kernel
theorem dX11_misfitOf_16 : decode cX11_misfitOf 16 = .ok (.aload_n 1, 1) := by decide +kernel
theorem dX11_misfitOf_17 : decode cX11_misfitOf 17 = .ok (.getfield 226, 3) := by decide +kernel
theorem dX11_misfitOf_20 : decode cX11_misfitOf 20 = .ok (.invokevirtual 188, 3) := by decide +kernel
theorem dX11_misfitOf_23 : decode cX11_misfitOf 23 = .ok (.ifnull 6, 3) := by decide +kernel
theorem dX11_misfitOf_26 : decode cX11_misfitOf 26 = .ok (.bipush 21, 2) := by decide +kernel
theorem dX11_misfitOf_28 : decode cX11_misfitOf 28 = .ok (.ireturn, 1) := by decide +kernel
theorem dX11_misfitOf_29 : decode cX11_misfitOf 29 = .ok (.aload_n 2, 1) := by decide +kernel
theorem dX11_misfitOf_30 : decode cX11_misfitOf 30 = .ok (.aload_n 1, 1) := by decide +kernel
theorem dX11_misfitOf_31 : decode cX11_misfitOf 31 = .ok (.aload_n 0, 1) := by decide +kernel
theorem dX11_misfitOf_32 : decode cX11_misfitOf 32 = .ok (.getfield 22, 3) := by decide +kernel
theorem dX11_misfitOf_35 : decode cX11_misfitOf 35 = .ok (.invokevirtual 229, 3) := by decide +kernel
theorem dX11_misfitOf_38 : decode cX11_misfitOf 38 = .ok (.putfield 217, 3) := by decide +kernel
theorem dX11_misfitOf_41 : decode cX11_misfitOf 41 = .ok (.aload_n 2, 1) := by decide +kernel
theorem dX11_misfitOf_42 : decode cX11_misfitOf 42 = .ok (.getfield 217, 3) := by decide +kernel
theorem dX11_misfitOf_45 : decode cX11_misfitOf 45 = .ok (.ifCond .lt 6, 3) := by decide +kernel
theorem dX11_misfitOf_48 : decode cX11_misfitOf 48 = .ok (.bipush 22, 2) := by decide +kernel
theorem dX11_misfitOf_50 : decode cX11_misfitOf 50 = .ok (.ireturn, 1) := by decide +kernel
theorem dX11_misfitOf_51 : decode cX11_misfitOf 51 = .ok (.aload_n 2, 1) := by decide +kernel
theorem dX11_misfitOf_52 : decode cX11_misfitOf 52 = .ok (.aload_n 1, 1) := by decide +kernel
theorem dX11_misfitOf_53 : decode cX11_misfitOf 53 = .ok (.aload_n 0, 1) := by decide +kernel
theorem dX11_misfitOf_54 : decode cX11_misfitOf 54 = .ok (.getfield 22, 3) := by decide +kernel
theorem dX11_misfitOf_57 : decode cX11_misfitOf 57 = .ok (.invokevirtual 233, 3) := by decide +kernel
theorem dX11_misfitOf_60 : decode cX11_misfitOf 60 = .ok (.putfield 217, 3) := by decide +kernel
theorem dX11_misfitOf_63 : decode cX11_misfitOf 63 = .ok (.aload_n 2, 1) := by decide +kernel
theorem dX11_misfitOf_64 : decode cX11_misfitOf 64 = .ok (.getfield 217, 3) := by decide +kernel
theorem dX11_misfitOf_67 : decode cX11_misfitOf 67 = .ok (.ifCond .lt 6, 3) := by decide +kernel
theorem dX11_misfitOf_70 : decode cX11_misfitOf 70 = .ok (.bipush 23, 2) := by decide +kernel
theorem dX11_misfitOf_72 : decode cX11_misfitOf 72 = .ok (.ireturn, 1) := by decide +kernel
theorem dX11_misfitOf_73 : decode cX11_misfitOf 73 = .ok (.aload_n 2, 1) := by decide +kernel
theorem dX11_misfitOf_74 : decode cX11_misfitOf 74 = .ok (.aload_n 1, 1) := by decide +kernel
theorem dX11_misfitOf_75 : decode cX11_misfitOf 75 = .ok (.invokevirtual 236, 3) := by decide +kernel
theorem dX11_misfitOf_78 : decode cX11_misfitOf 78 = .ok (.putfield 217, 3) := by decide +kernel
theorem dX11_misfitOf_81 : decode cX11_misfitOf 81 = .ok (.aload_n 2, 1) := by decide +kernel
theorem dX11_misfitOf_82 : decode cX11_misfitOf 82 = .ok (.getfield 217, 3) := by decide +kernel
theorem dX11_misfitOf_85 : decode cX11_misfitOf 85 = .ok (.ifCond .lt 6, 3) := by decide +kernel
theorem dX11_misfitOf_88 : decode cX11_misfitOf 88 = .ok (.bipush 24, 2) := by decide +kernel
theorem dX11_misfitOf_90 : decode cX11_misfitOf 90 = .ok (.ireturn, 1) := by decide +kernel
theorem dX11_misfitOf_91 : decode cX11_misfitOf 91 = .ok (.aload_n 1, 1) := by decide +kernel
theorem dX11_misfitOf_92 : decode cX11_misfitOf 92 = .ok (.aload_n 0, 1) := by decide +kernel
theorem dX11_misfitOf_93 : decode cX11_misfitOf 93 = .ok (.getfield 22, 3) := by decide +kernel
theorem dX11_misfitOf_96 : decode cX11_misfitOf 96 = .ok (.invokevirtual 77, 3) := by decide +kernel
theorem dX11_misfitOf_99 : decode cX11_misfitOf 99 = .ok (.aload_n 2, 1) := by decide +kernel
theorem dX11_misfitOf_100 : decode cX11_misfitOf 100 = .ok (.aload_n 1, 1) := by decide +kernel
theorem dX11_misfitOf_101 : decode cX11_misfitOf 101 = .ok (.invokevirtual 239, 3) := by decide +kernel
theorem dX11_misfitOf_104 : decode cX11_misfitOf 104 = .ok (.putfield 217, 3) := by decide +kernel
theorem dX11_misfitOf_107 : decode cX11_misfitOf 107 = .ok (.aload_n 2, 1) := by decide +kernel
theorem dX11_misfitOf_108 : decode cX11_misfitOf 108 = .ok (.getfield 217, 3) := by decide +kernel
theorem dX11_misfitOf_111 : decode cX11_misfitOf 111 = .ok (.ifCond .lt 8, 3) := by decide +kernel
theorem dX11_misfitOf_114 : decode cX11_misfitOf 114 = .ok (.bipush 25, 2) := by decide +kernel
theorem dX11_misfitOf_116 : decode cX11_misfitOf 116 = .ok (.goto 4, 3) := by decide +kernel
theorem dX11_misfitOf_119 : decode cX11_misfitOf 119 = .ok (.iconst 0, 1) := by decide +kernel
theorem dX11_misfitOf_120 : decode cX11_misfitOf 120 = .ok (.ireturn, 1) := by decide +kernel
theorem dX12_add_0 : decode cX12_add 0 = .ok (.aload_n 0, 1) := by decide +kernel
theorem dX12_add_1 : decode cX12_add 1 = .ok (.getfield 7, 3) := by decide +kernel
theorem dX12_add_4 : decode cX12_add 4 = .ok (.aload_n 0, 1) := by decide +kernel
theorem dX12_add_5 : decode cX12_add 5 = .ok (.getfield 20, 3) := by decide +kernel
theorem dX12_add_8 : decode cX12_add 8 = .ok (.iload_n 1, 1) := by decide +kernel
theorem dX12_add_9 : decode cX12_add 9 = .ok (.i2b, 1) := by decide +kernel
theorem dX12_add_10 : decode cX12_add 10 = .ok (.bastore, 1) := by decide +kernel
theorem dX12_add_11 : decode cX12_add 11 = .ok (.aload_n 0, 1) := by decide +kernel
theorem dX12_add_12 : decode cX12_add 12 = .ok (.dup, 1) := by decide +kernel
theorem dX12_add_13 : decode cX12_add 13 = .ok (.getfield 20, 3) := by decide +kernel
theorem dX12_add_16 : decode cX12_add 16 = .ok (.iconst 1, 1) := by decide +kernel
theorem dX12_add_17 : decode cX12_add 17 = .ok (.iadd, 1) := by decide +kernel
theorem dX12_add_18 : decode cX12_add 18 = .ok (.putfield 20, 3) := by decide +kernel
theorem dX12_add_21 : decode cX12_add 21 = .ok (.return_, 1) := by decide +kernel
theorem dX12_addNumber_0 : decode cX12_addNumber 0 = .ok (.iload_n 3, 1) := by decide +kernel
theorem dX12_addNumber_1 : decode cX12_addNumber 1 = .ok (.iconst 1, 1) := by decide +kernel
theorem dX12_addNumber_2 : decode cX12_addNumber 2 = .ok (.isub, 1) := by decide +kernel
theorem dX12_addNumber_3 : decode cX12_addNumber 3 = .ok (.istore 4, 2) := by decide +kernel
theorem dX12_addNumber_5 : decode cX12_addNumber 5 = .ok (.iload 4, 2) := by decide +kernel
theorem dX12_addNumber_7 : decode cX12_addNumber 7 = .ok (.ifCond .lt 21, 3) := by decide +kernel
theorem dX12_addNumber_10 : decode cX12_addNumber 10 = .ok (.aload_n 0, 1) := by decide +kernel
theorem dX12_addNumber_11 : decode cX12_addNumber 11 = .ok (.lload_n 1, 1) := by decide +kernel
theorem dX12_addNumber_12 : decode cX12_addNumber 12 = .ok (.bipush 8, 2) := by decide +kernel
theorem dX12_addNumber_14 : decode cX12_addNumber 14 = .ok (.iload 4, 2) := by decide +kernel
theorem dX12_addNumber_16 : decode cX12_addNumber 16 = .ok (.imul, 1) := by decide +kernel
theorem dX12_addNumber_17 : decode cX12_addNumber 17 = .ok (.lshr, 1) := by decide +kernel
theorem dX12_addNumber_18 : decode cX12_addNumber 18 = .ok (.l2i, 1) := by decide +kernel
theorem dX12_addNumber_19 : decode cX12_addNumber 19 = .ok (.invokevirtual 24, 3) := by decide +kernel
theorem dX12_addNumber_22 : decode cX12_addNumber 22 = .ok (.iinc 4 (-1), 3) := by decide +kernel
theorem dX12_addNumber_25 : decode cX12_addNumber 25 = .ok (.goto (-20), 3) := by decide +kernel
theorem dX12_addNumber_28 : decode cX12_addNumber 28 = .ok (.return_, 1) := by decide +kernel
theorem dX12_turned_0 : decode cX12_turned 0 = .ok (.lload_n 0, 1) := by decide +kernel
theorem dX12_turned_1 : decode cX12_turned 1 = .ok (.iload_n 2, 1) := by decide +kernel
theorem dX12_turned_2 : decode cX12_turned 2 = .ok (.lshr, 1) := by decide +kernel
theorem dX12_turned_3 : decode cX12_turned 3 = .ok (.lload_n 0, 1) := by decide +kernel
theorem dX12_turned_4 : decode cX12_turned 4 = .ok (.bipush 32, 2) := by decide +kernel
theorem dX12_turned_6 : decode cX12_turned 6 = .ok (.iload_n 2, 1) := by decide +kernel
theorem dX12_turned_7 : decode cX12_turned 7 = .ok (.isub, 1) := by decide +kernel
theorem dX12_turned_8 : decode cX12_turned 8 = .ok (.lshl, 1) := by decide +kernel
theorem dX12_turned_9 : decode cX12_turned 9 = .ok (.lor, 1) := by decide +kernel
theorem dX12_turned_10 : decode cX12_turned 10 = .ok (.ldc2_w 28, 3) := by decide +kernel
theorem dX12_turned_13 : decode cX12_turned 13 = .ok (.land, 1) := by decide +kernel
theorem dX12_turned_14 : decode cX12_turned 14 = .ok (.lreturn, 1) := by decide +kernel
theorem dX12_end_0 : decode cX12_end 0 = .ok (.aload_n 0, 1) := by decide +kernel
theorem dX12_end_1 : decode cX12_end 1 = .ok (.getfield 13, 3) := by decide +kernel
theorem dX12_end_4 : decode cX12_end 4 = .ok (.iconst 0, 1) := by decide +kernel
theorem dX12_end_5 : decode cX12_end 5 = .ok (.ldc2_w 30, 3) := by decide +kernel
theorem dX12_end_8 : decode cX12_end 8 = .ok (.lastore, 1) := by decide +kernel
theorem dX12_end_9 : decode cX12_end 9 = .ok (.aload_n 0, 1) := by decide +kernel
theorem dX12_end_10 : decode cX12_end 10 = .ok (.getfield 13, 3) := by decide +kernel
theorem dX12_end_13 : decode cX12_end 13 = .ok (.iconst 1, 1) := by decide +kernel
theorem dX12_end_14 : decode cX12_end 14 = .ok (.ldc2_w 32, 3) := by decide +kernel
theorem dX12_end_17 : decode cX12_end 17 = .ok (.lastore, 1) := by decide +kernel
theorem dX12_end_18 : decode cX12_end 18 = .ok (.aload_n 0, 1) := by decide +kernel
theorem dX12_end_19 : decode cX12_end 19 = .ok (.getfield 13, 3) := by decide +kernel
theorem dX12_end_22 : decode cX12_end 22 = .ok (.iconst 2, 1) := by decide +kernel
theorem dX12_end_23 : decode cX12_end 23 = .ok (.ldc2_w 34, 3) := by decide +kernel
theorem dX12_end_26 : decode cX12_end 26 = .ok (.lastore, 1) := by decide +kernel
theorem dX12_end_27 : decode cX12_end 27 = .ok (.aload_n 0, 1) := by decide +kernel
theorem dX12_end_28 : decode cX12_end 28 = .ok (.getfield 13, 3) := by decide +kernel
theorem dX12_end_31 : decode cX12_end 31 = .ok (.iconst 3, 1) := by decide +kernel
theorem dX12_end_32 : decode cX12_end 32 = .ok (.ldc2_w 36, 3) := by decide +kernel
theorem dX12_end_35 : decode cX12_end 35 = .ok (.lastore, 1) := by decide +kernel
theorem dX12_end_36 : decode cX12_end 36 = .ok (.aload_n 0, 1) := by decide +kernel
theorem dX12_end_37 : decode cX12_end 37 = .ok (.getfield 13, 3) := by decide +kernel
theorem dX12_end_40 : decode cX12_end 40 = .ok (.iconst 4, 1) := by decide +kernel
theorem dX12_end_41 : decode cX12_end 41 = .ok (.ldc2_w 38, 3) := by decide +kernel
theorem dX12_end_44 : decode cX12_end 44 = .ok (.lastore, 1) := by decide +kernel
theorem dX12_end_45 : decode cX12_end 45 = .ok (.aload_n 0, 1) := by decide +kernel
theorem dX12_end_46 : decode cX12_end 46 = .ok (.getfield 13, 3) := by decide +kernel
theorem dX12_end_49 : decode cX12_end 49 = .ok (.iconst 5, 1) := by decide +kernel
theorem dX12_end_50 : decode cX12_end 50 = .ok (.ldc2_w 40, 3) := by decide +kernel
theorem dX12_end_53 : decode cX12_end 53 = .ok (.lastore, 1) := by decide +kernel
theorem dX12_end_54 : decode cX12_end 54 = .ok (.aload_n 0, 1) := by decide +kernel
theorem dX12_end_55 : decode cX12_end 55 = .ok (.getfield 13, 3) := by decide +kernel
theorem dX12_end_58 : decode cX12_end 58 = .ok (.bipush 6, 2) := by decide +kernel
theorem dX12_end_60 : decode cX12_end 60 = .ok (.ldc2_w 42, 3) := by decide +kernel
theorem dX12_end_63 : decode cX12_end 63 = .ok (.lastore, 1) := by decide +kernel
theorem dX12_end_64 : decode cX12_end 64 = .ok (.aload_n 0, 1) := by decide +kernel
theorem dX12_end_65 : decode cX12_end 65 = .ok (.getfield 13, 3) := by decide +kernel
theorem dX12_end_68 : decode cX12_end 68 = .ok (.bipush 7, 2) := by decide +kernel
theorem dX12_end_70 : decode cX12_end 70 = .ok (.ldc2_w 44, 3) := by decide +kernel
theorem dX12_end_73 : decode cX12_end 73 = .ok (.lastore, 1) := by decide +kernel
theorem dX12_end_74 : decode cX12_end 74 = .ok (.aload_n 0, 1) := by decide +kernel
theorem dX12_end_75 : decode cX12_end 75 = .ok (.getfield 20, 3) := by decide +kernel
theorem dX12_end_78 : decode cX12_end 78 = .ok (.istore_n 1, 1) := by decide +kernel
theorem dX12_end_79 : decode cX12_end 79 = .ok (.aload_n 0, 1) := by decide +kernel
theorem dX12_end_80 : decode cX12_end 80 = .ok (.sipush 128, 3) := by decide +kernel
theorem dX12_end_83 : decode cX12_end 83 = .ok (.invokevirtual 24, 3) := by decide +kernel
theorem dX12_end_86 : decode cX12_end 86 = .ok (.aload_n 0, 1) := by decide +kernel
theorem dX12_end_87 : decode cX12_end 87 = .ok (.getfield 20, 3) := by decide +kernel
theorem dX12_end_90 : decode cX12_end 90 = .ok (.bipush 64, 2) := by decide +kernel
theorem dX12_end_92 : decode cX12_end 92 = .ok (.irem, 1) := by decide +kernel
theorem dX12_end_93 : decode cX12_end 93 = .ok (.bipush 56, 2) := by decide +kernel
theorem dX12_end_95 : decode cX12_end 95 = .ok (.if_icmp .eq 11, 3) := by decide +kernel
theorem dX12_end_98 : decode cX12_end 98 = .ok (.aload_n 0, 1) := by decide +kernel
theorem dX12_end_99 : decode cX12_end 99 = .ok (.iconst 0, 1) := by decide +kernel
theorem dX12_end_100 : decode cX12_end 100 = .ok (.invokevirtual 24, 3) := by decide +kernel
theorem dX12_end_103 : decode cX12_end 103 = .ok (.goto (-17), 3) := by decide +kernel
theorem dX12_end_106 : decode cX12_end 106 = .ok (.aload_n 0, 1) := by decide +kernel
theorem dX12_end_107 : decode cX12_end 107 = .ok (.ldc2_w 46, 3) := by decide +kernel
theorem dX12_end_110 : decode cX12_end 110 = .ok (.iload_n 1, 1) := by decide +kernel
theorem dX12_end_111 : decode cX12_end 111 = .ok (.i2l, 1) := by decide +kernel
theorem dX12_end_112 : decode cX12_end 112 = .ok (.lmul, 1) := by decide +kernel
theorem dX12_end_113 : decode cX12_end 113 = .ok (.bipush 8, 2) := by decide +kernel
theorem dX12_end_115 : decode cX12_end 115 = .ok (.invokevirtual 48, 3) := by decide +kernel
theorem dX12_end_118 : decode cX12_end 118 = .ok (.iconst 0, 1) := by decide +kernel
theorem dX12_end_119 : decode cX12_end 119 = .ok (.istore_n 2, 1) := by decide +kernel
theorem dX12_end_120 : decode cX12_end 120 = .ok (.iload_n 2, 1) := by decide +kernel
theorem dX12_end_121 : decode cX12_end 121 = .ok (.aload_n 0, 1) := by decide +kernel
theorem dX12_end_122 : decode cX12_end 122 = .ok (.getfield 20, 3) := by decide +kernel
theorem dX12_end_125 : decode cX12_end 125 = .ok (.if_icmp .ge 14, 3) := by decide +kernel
theorem dX12_end_128 : decode cX12_end 128 = .ok (.aload_n 0, 1) := by decide +kernel
theorem dX12_end_129 : decode cX12_end 129 = .ok (.iload_n 2, 1) := by decide +kernel
theorem dX12_end_130 : decode cX12_end 130 = .ok (.invokevirtual 52, 3) := by decide +kernel
theorem dX12_end_133 : decode cX12_end 133 = .ok (.iinc 2 64, 3) := by decide +kernel
theorem dX12_end_136 : decode cX12_end 136 = .ok (.goto (-16), 3) := by decide +kernel
theorem dX12_end_139 : decode cX12_end 139 = .ok (.aload_n 0, 1) := by decide +kernel
theorem dX12_end_140 : decode cX12_end 140 = .ok (.iload_n 1, 1) := by decide +kernel
theorem dX12_end_141 : decode cX12_end 141 = .ok (.putfield 20, 3) := by decide +kernel
theorem dX12_end_144 : decode cX12_end 144 = .ok (.return_, 1) := by decide +kernel
theorem dX12_block_0 : decode cX12_block 0 = .ok (.iconst 0, 1) := by decide +kernel
theorem dX12_block_1 : decode cX12_block 1 = .ok (.istore_n 2, 1) := by decide +kernel
theorem dX12_block_2 : decode cX12_block 2 = .ok (.iload_n 2, 1) := by decide +kernel
theorem dX12_block_3 : decode cX12_block 3 = .ok (.bipush 16, 2) := by decide +kernel
theorem dX12_block_5 : decode cX12_block 5 = .ok (.if_icmp .ge 58, 3) := by decide +kernel
theorem dX12_block_8 : decode cX12_block 8 = .ok (.lconst 0, 1) := by decide +kernel
theorem dX12_block_9 : decode cX12_block 9 = .ok (.lstore_n 3, 1) := by decide +kernel
theorem dX12_block_10 : decode cX12_block 10 = .ok (.iconst 0, 1) := by decide +kernel
theorem dX12_block_11 : decode cX12_block 11 = .ok (.istore 5, 2) := by decide +kernel
theorem dX12_block_13 : decode cX12_block 13 = .ok (.iload 5, 2) := by decide +kernel
theorem dX12_block_15 : decode cX12_block 15 = .ok (.iconst 4, 1) := by decide +kernel
theorem dX12_block_16 : decode cX12_block 16 = .ok (.if_icmp .ge 34, 3) := by decide +kernel
theorem dX12_block_19 : decode cX12_block 19 = .ok (.ldc2_w 55, 3) := by decide +kernel
theorem dX12_block_22 : decode cX12_block 22 = .ok (.lload_n 3, 1) := by decide +kernel
theorem dX12_block_23 : decode cX12_block 23 = .ok (.lmul, 1) := by decide +kernel
theorem dX12_block_24 : decode cX12_block 24 = .ok (.aload_n 0, 1) := by decide +kernel
theorem dX12_block_25 : decode cX12_block 25 = .ok (.getfield 7, 3) := by decide +kernel
theorem dX12_block_28 : decode cX12_block 28 = .ok (.iload_n 1, 1) := by decide +kernel
theorem dX12_block_29 : decode cX12_block 29 = .ok (.iconst 4, 1) := by decide +kernel
theorem dX12_block_30 : decode cX12_block 30 = .ok (.iload_n 2, 1) := by decide +kernel
theorem dX12_block_31 : decode cX12_block 31 = .ok (.imul, 1) := by decide +kernel
theorem dX12_block_32 : decode cX12_block 32 = .ok (.iadd, 1) := by decide +kernel
theorem dX12_block_33 : decode cX12_block 33 = .ok (.iload 5, 2) := by decide +kernel
theorem dX12_block_35 : decode cX12_block 35 = .ok (.iadd, 1) := by decide +kernel
theorem dX12_block_36 : decode cX12_block 36 = .ok (.baload, 1) := by decide +kernel
theorem dX12_block_37 : decode cX12_block 37 = .ok (.sipush 255, 3) := by decide +kernel
theorem dX12_block_40 : decode cX12_block 40 = .ok (.iand, 1) := by decide +kernel
theorem dX12_block_41 : decode cX12_block 41 = .ok (.i2l, 1) := by decide +kernel
theorem dX12_block_42 : decode cX12_block 42 = .ok (.ladd, 1) := by decide +kernel
theorem dX12_block_43 : decode cX12_block 43 = .ok (.lstore_n 3, 1) := by decide +kernel
theorem dX12_block_44 : decode cX12_block 44 = .ok (.iinc 5 1, 3) := by decide +kernel
theorem dX12_block_47 : decode cX12_block 47 = .ok (.goto (-34), 3) := by decide +kernel
theorem dX12_block_50 : decode cX12_block 50 = .ok (.aload_n 0, 1) := by decide +kernel
theorem dX12_block_51 : decode cX12_block 51 = .ok (.getfield 17, 3) := by decide +kernel
theorem dX12_block_54 : decode cX12_block 54 = .ok (.iload_n 2, 1) := by decide +kernel
theorem dX12_block_55 : decode cX12_block 55 = .ok (.lload_n 3, 1) := by decide +kernel
theorem dX12_block_56 : decode cX12_block 56 = .ok (.lastore, 1) := by decide +kernel
theorem dX12_block_57 : decode cX12_block 57 = .ok (.iinc 2 1, 3) := by decide +kernel
theorem dX12_block_60 : decode cX12_block 60 = .ok (.goto (-58), 3) := by decide +kernel
theorem dX12_block_63 : decode cX12_block 63 = .ok (.bipush 16, 2) := by decide +kernel
theorem dX12_block_65 : decode cX12_block 65 = .ok (.istore_n 2, 1) := by decide +kernel
theorem dX12_block_66 : decode cX12_block 66 = .ok (.iload_n 2, 1) := by decide +kernel
theorem dX12_block_67 : decode cX12_block 67 = .ok (.bipush 64, 2) := by decide +kernel
theorem dX12_block_69 : decode cX12_block 69 = .ok (.if_icmp .ge 106, 3) := by decide +kernel
theorem dX12_block_72 : decode cX12_block 72 = .ok (.aload_n 0, 1) := by decide +kernel
theorem dX12_block_73 : decode cX12_block 73 = .ok (.getfield 17, 3) := by decide +kernel
theorem dX12_block_76 : decode cX12_block 76 = .ok (.iload_n 2, 1) := by decide +kernel
theorem dX12_block_77 : decode cX12_block 77 = .ok (.bipush 15, 2) := by decide +kernel
theorem dX12_block_79 : decode cX12_block 79 = .ok (.isub, 1) := by decide +kernel
theorem dX12_block_80 : decode cX12_block 80 = .ok (.laload, 1) := by decide +kernel
theorem dX12_block_81 : decode cX12_block 81 = .ok (.lstore_n 3, 1) := by decide +kernel
theorem dX12_block_82 : decode cX12_block 82 = .ok (.aload_n 0, 1) := by decide +kernel
theorem dX12_block_83 : decode cX12_block 83 = .ok (.getfield 17, 3) := by decide +kernel
theorem dX12_block_86 : decode cX12_block 86 = .ok (.iload_n 2, 1) := by decide +kernel
theorem dX12_block_87 : decode cX12_block 87 = .ok (.iconst 2, 1) := by decide +kernel
theorem dX12_block_88 : decode cX12_block 88 = .ok (.isub, 1) := by decide +kernel
theorem dX12_block_89 : decode cX12_block 89 = .ok (.laload, 1) := by decide +kernel
theorem dX12_block_90 : decode cX12_block 90 = .ok (.lstore 5, 2) := by decide +kernel
theorem dX12_block_92 : decode cX12_block 92 = .ok (.lload_n 3, 1) := by decide +kernel
theorem dX12_block_93 : decode cX12_block 93 = .ok (.bipush 7, 2) := by decide +kernel
theorem dX12_block_95 : decode cX12_block 95 = .ok (.invokestatic 57, 3) := by decide +kernel
theorem dX12_block_98 : decode cX12_block 98 = .ok (.lload_n 3, 1) := by decide +kernel
theorem dX12_block_99 : decode cX12_block 99 = .ok (.bipush 18, 2) := by decide +kernel
theorem dX12_block_101 : decode cX12_block 101 = .ok (.invokestatic 57, 3) := by decide +kernel
theorem dX12_block_104 : decode cX12_block 104 = .ok (.lxor, 1) := by decide +kernel
theorem dX12_block_105 : decode cX12_block 105 = .ok (.lload_n 3, 1) := by decide +kernel
theorem dX12_block_106 : decode cX12_block 106 = .ok (.iconst 3, 1) := by decide +kernel
theorem dX12_block_107 : decode cX12_block 107 = .ok (.lshr, 1) := by decide +kernel
theorem dX12_block_108 : decode cX12_block 108 = .ok (.lxor, 1) := by decide +kernel
theorem dX12_block_109 : decode cX12_block 109 = .ok (.lstore 7, 2) := by decide +kernel
theorem dX12_block_111 : decode cX12_block 111 = .ok (.lload 5, 2) := by decide +kernel
theorem dX12_block_113 : decode cX12_block 113 = .ok (.bipush 17, 2) := by decide +kernel
theorem dX12_block_115 : decode cX12_block 115 = .ok (.invokestatic 57, 3) := by decide +kernel
theorem dX12_block_118 : decode cX12_block 118 = .ok (.lload 5, 2) := by decide +kernel
theorem dX12_block_120 : decode cX12_block 120 = .ok (.bipush 19, 2) := by decide +kernel
theorem dX12_block_122 : decode cX12_block 122 = .ok (.invokestatic 57, 3) := by decide +kernel
theorem dX12_block_125 : decode cX12_block 125 = .ok (.lxor, 1) := by decide +kernel
theorem dX12_block_126 : decode cX12_block 126 = .ok (.lload 5, 2) := by decide +kernel
theorem dX12_block_128 : decode cX12_block 128 = .ok (.bipush 10, 2) := by decide +kernel
theorem dX12_block_130 : decode cX12_block 130 = .ok (.lshr, 1) := by decide +kernel
theorem dX12_block_131 : decode cX12_block 131 = .ok (.lxor, 1) := by decide +kernel
theorem dX12_block_132 : decode cX12_block 132 = .ok (.lstore 9, 2) := by decide +kernel
theorem dX12_block_134 : decode cX12_block 134 = .ok (.aload_n 0, 1) := by decide +kernel
theorem dX12_block_135 : decode cX12_block 135 = .ok (.getfield 17, 3) := by decide +kernel
theorem dX12_block_138 : decode cX12_block 138 = .ok (.iload_n 2, 1) := by decide +kernel
theorem dX12_block_139 : decode cX12_block 139 = .ok (.aload_n 0, 1) := by decide +kernel
theorem dX12_block_140 : decode cX12_block 140 = .ok (.getfield 17, 3) := by decide +kernel
theorem dX12_block_143 : decode cX12_block 143 = .ok (.iload_n 2, 1) := by decide +kernel
theorem dX12_block_144 : decode cX12_block 144 = .ok (.bipush 16, 2) := by decide +kernel
theorem dX12_block_146 : decode cX12_block 146 = .ok (.isub, 1) := by decide +kernel
theorem dX12_block_147 : decode cX12_block 147 = .ok (.laload, 1) := by decide +kernel
theorem dX12_block_148 : decode cX12_block 148 = .ok (.lload 7, 2) := by decide +kernel
theorem dX12_block_150 : decode cX12_block 150 = .ok (.ladd, 1) := by decide +kernel
theorem dX12_block_151 : decode cX12_block 151 = .ok (.aload_n 0, 1) := by decide +kernel
theorem dX12_block_152 : decode cX12_block 152 = .ok (.getfield 17, 3) := by decide +kernel
theorem dX12_block_155 : decode cX12_block 155 = .ok (.iload_n 2, 1) := by decide +kernel
theorem dX12_block_156 : decode cX12_block 156 = .ok (.bipush 7, 2) := by decide +kernel
theorem dX12_block_158 : decode cX12_block 158 = .ok (.isub, 1) := by decide +kernel
theorem dX12_block_159 : decode cX12_block 159 = .ok (.laload, 1) := by decide +kernel
theorem dX12_block_160 : decode cX12_block 160 = .ok (.ladd, 1) := by decide +kernel
theorem dX12_block_161 : decode cX12_block 161 = .ok (.lload 9, 2) := by decide +kernel
theorem dX12_block_163 : decode cX12_block 163 = .ok (.ladd, 1) := by decide +kernel
theorem dX12_block_164 : decode cX12_block 164 = .ok (.ldc2_w 28, 3) := by decide +kernel
theorem dX12_block_167 : decode cX12_block 167 = .ok (.land, 1) := by decide +kernel
theorem dX12_block_168 : decode cX12_block 168 = .ok (.lastore, 1) := by decide +kernel
theorem dX12_block_169 : decode cX12_block 169 = .ok (.iinc 2 1, 3) := by decide +kernel
theorem dX12_block_172 : decode cX12_block 172 = .ok (.goto (-106), 3) := by decide +kernel
theorem dX12_block_175 : decode cX12_block 175 = .ok (.aload_n 0, 1) := by decide +kernel
theorem dX12_block_176 : decode cX12_block 176 = .ok (.getfield 13, 3) := by decide +kernel
theorem dX12_block_179 : decode cX12_block 179 = .ok (.iconst 0, 1) := by decide +kernel
theorem dX12_block_180 : decode cX12_block 180 = .ok (.laload, 1) := by decide +kernel
theorem dX12_block_181 : decode cX12_block 181 = .ok (.lstore_n 2, 1) := by decide +kernel
theorem dX12_block_182 : decode cX12_block 182 = .ok (.aload_n 0, 1) := by decide +kernel
theorem dX12_block_183 : decode cX12_block 183 = .ok (.getfield 13, 3) := by decide +kernel
theorem dX12_block_186 : decode cX12_block 186 = .ok (.iconst 1, 1) := by decide +kernel
theorem dX12_block_187 : decode cX12_block 187 = .ok (.laload, 1) := by decide +kernel
theorem dX12_block_188 : decode cX12_block 188 = .ok (.lstore 4, 2) := by decide +kernel
theorem dX12_block_190 : decode cX12_block 190 = .ok (.aload_n 0, 1) := by decide +kernel
theorem dX12_block_191 : decode cX12_block 191 = .ok (.getfield 13, 3) := by decide +kernel
theorem dX12_block_194 : decode cX12_block 194 = .ok (.iconst 2, 1) := by decide +kernel
theorem dX12_block_195 : decode cX12_block 195 = .ok (.laload, 1) := by decide +kernel
theorem dX12_block_196 : decode cX12_block 196 = .ok (.lstore 6, 2) := by decide +kernel
theorem dX12_block_198 : decode cX12_block 198 = .ok (.aload_n 0, 1) := by decide +kernel
theorem dX12_block_199 : decode cX12_block 199 = .ok (.getfield 13, 3) := by decide +kernel
theorem dX12_block_202 : decode cX12_block 202 = .ok (.iconst 3, 1) := by decide +kernel
theorem dX12_block_203 : decode cX12_block 203 = .ok (.laload, 1) := by decide +kernel
theorem dX12_block_204 : decode cX12_block 204 = .ok (.lstore 8, 2) := by decide +kernel
theorem dX12_block_206 : decode cX12_block 206 = .ok (.aload_n 0, 1) := by decide +kernel
theorem dX12_block_207 : decode cX12_block 207 = .ok (.getfield 13, 3) := by decide +kernel
theorem dX12_block_210 : decode cX12_block 210 = .ok (.iconst 4, 1) := by decide +kernel
theorem dX12_block_211 : decode cX12_block 211 = .ok (.laload, 1) := by decide +kernel
theorem dX12_block_212 : decode cX12_block 212 = .ok (.lstore 10, 2) := by decide +kernel
theorem dX12_block_214 : decode cX12_block 214 = .ok (.aload_n 0, 1) := by decide +kernel
theorem dX12_block_215 : decode cX12_block 215 = .ok (.getfield 13, 3) := by decide +kernel
theorem dX12_block_218 : decode cX12_block 218 = .ok (.iconst 5, 1) := by decide +kernel
theorem dX12_block_219 : decode cX12_block 219 = .ok (.laload, 1) := by decide +kernel
theorem dX12_block_220 : decode cX12_block 220 = .ok (.lstore 12, 2) := by decide +kernel
theorem dX12_block_222 : decode cX12_block 222 = .ok (.aload_n 0, 1) := by decide +kernel
theorem dX12_block_223 : decode cX12_block 223 = .ok (.getfield 13, 3) := by decide +kernel
theorem dX12_block_226 : decode cX12_block 226 = .ok (.bipush 6, 2) := by decide +kernel
theorem dX12_block_228 : decode cX12_block 228 = .ok (.laload, 1) := by decide +kernel
theorem dX12_block_229 : decode cX12_block 229 = .ok (.lstore 14, 2) := by decide +kernel
theorem dX12_block_231 : decode cX12_block 231 = .ok (.aload_n 0, 1) := by decide +kernel
theorem dX12_block_232 : decode cX12_block 232 = .ok (.getfield 13, 3) := by decide +kernel
theorem dX12_block_235 : decode cX12_block 235 = .ok (.bipush 7, 2) := by decide +kernel
theorem dX12_block_237 : decode cX12_block 237 = .ok (.laload, 1) := by decide +kernel
theorem dX12_block_238 : decode cX12_block 238 = .ok (.lstore 16, 2) := by decide +kernel
theorem dX12_block_240 : decode cX12_block 240 = .ok (.iconst 0, 1) := by decide +kernel
theorem dX12_block_241 : decode cX12_block 241 = .ok (.istore 18, 2) := by decide +kernel
theorem dX12_block_243 : decode cX12_block 243 = .ok (.iload 18, 2) := by decide +kernel
theorem dX12_block_245 : decode cX12_block 245 = .ok (.bipush 64, 2) := by decide +kernel
theorem dX12_block_247 : decode cX12_block 247 = .ok (.if_icmp .ge 149, 3) := by decide +kernel
theorem dX12_block_250 : decode cX12_block 250 = .ok (.lload 16, 2) := by decide +kernel
theorem dX12_block_252 : decode cX12_block 252 = .ok (.lload 10, 2) := by decide +kernel
theorem dX12_block_254 : decode cX12_block 254 = .ok (.bipush 6, 2) := by decide +kernel
theorem dX12_block_256 : decode cX12_block 256 = .ok (.invokestatic 57, 3) := by decide +kernel
theorem dX12_block_259 : decode cX12_block 259 = .ok (.lload 10, 2) := by decide +kernel
theorem dX12_block_261 : decode cX12_block 261 = .ok (.bipush 11, 2) := by decide +kernel
theorem dX12_block_263 : decode cX12_block 263 = .ok (.invokestatic 57, 3) := by decide +kernel
theorem dX12_block_266 : decode cX12_block 266 = .ok (.lxor, 1) := by decide +kernel
theorem dX12_block_267 : decode cX12_block 267 = .ok (.lload 10, 2) := by decide +kernel
theorem dX12_block_269 : decode cX12_block 269 = .ok (.bipush 25, 2) := by decide +kernel
theorem dX12_block_271 : decode cX12_block 271 = .ok (.invokestatic 57, 3) := by decide +kernel
theorem dX12_block_274 : decode cX12_block 274 = .ok (.lxor, 1) := by decide +kernel
theorem dX12_block_275 : decode cX12_block 275 = .ok (.ladd, 1) := by decide +kernel
theorem dX12_block_276 : decode cX12_block 276 = .ok (.lload 10, 2) := by decide +kernel
theorem dX12_block_278 : decode cX12_block 278 = .ok (.lload 12, 2) := by decide +kernel
theorem dX12_block_280 : decode cX12_block 280 = .ok (.land, 1) := by decide +kernel
theorem dX12_block_281 : decode cX12_block 281 = .ok (.ldc2_w 28, 3) := by decide +kernel
theorem dX12_block_284 : decode cX12_block 284 = .ok (.lload 10, 2) := by decide +kernel
theorem dX12_block_286 : decode cX12_block 286 = .ok (.lsub, 1) := by decide +kernel
theorem dX12_block_287 : decode cX12_block 287 = .ok (.lload 14, 2) := by decide +kernel
theorem dX12_block_289 : decode cX12_block 289 = .ok (.land, 1) := by decide +kernel
theorem dX12_block_290 : decode cX12_block 290 = .ok (.lxor, 1) := by decide +kernel
theorem dX12_block_291 : decode cX12_block 291 = .ok (.ladd, 1) := by decide +kernel
theorem dX12_block_292 : decode cX12_block 292 = .ok (.getstatic 61, 3) := by decide +kernel
theorem dX12_block_295 : decode cX12_block 295 = .ok (.iload 18, 2) := by decide +kernel
theorem dX12_block_297 : decode cX12_block 297 = .ok (.laload, 1) := by decide +kernel
theorem dX12_block_298 : decode cX12_block 298 = .ok (.ladd, 1) := by decide +kernel
theorem dX12_block_299 : decode cX12_block 299 = .ok (.aload_n 0, 1) := by decide +kernel
theorem dX12_block_300 : decode cX12_block 300 = .ok (.getfield 17, 3) := by decide +kernel
theorem dX12_block_303 : decode cX12_block 303 = .ok (.iload 18, 2) := by decide +kernel
theorem dX12_block_305 : decode cX12_block 305 = .ok (.laload, 1) := by decide +kernel
theorem dX12_block_306 : decode cX12_block 306 = .ok (.ladd, 1) := by decide +kernel
theorem dX12_block_307 : decode cX12_block 307 = .ok (.lstore 19, 2) := by decide +kernel
theorem dX12_block_309 : decode cX12_block 309 = .ok (.lload_n 2, 1) := by decide +kernel
theorem dX12_block_310 : decode cX12_block 310 = .ok (.iconst 2, 1) := by decide +kernel
theorem dX12_block_311 : decode cX12_block 311 = .ok (.invokestatic 57, 3) := by decide +kernel
theorem dX12_block_314 : decode cX12_block 314 = .ok (.lload_n 2, 1) := by decide +kernel
theorem dX12_block_315 : decode cX12_block 315 = .ok (.bipush 13, 2) := by decide +kernel
theorem dX12_block_317 : decode cX12_block 317 = .ok (.invokestatic 57, 3) := by decide +kernel
theorem dX12_block_320 : decode cX12_block 320 = .ok (.lxor, 1) := by decide +kernel
theorem dX12_block_321 : decode cX12_block 321 = .ok (.lload_n 2, 1) := by decide +kernel
theorem dX12_block_322 : decode cX12_block 322 = .ok (.bipush 22, 2) := by decide +kernel
theorem dX12_block_324 : decode cX12_block 324 = .ok (.invokestatic 57, 3) := by decide +kernel
theorem dX12_block_327 : decode cX12_block 327 = .ok (.lxor, 1) := by decide +kernel
theorem dX12_block_328 : decode cX12_block 328 = .ok (.lload_n 2, 1) := by decide +kernel
theorem dX12_block_329 : decode cX12_block 329 = .ok (.lload 4, 2) := by decide +kernel
theorem dX12_block_331 : decode cX12_block 331 = .ok (.land, 1) := by decide +kernel
theorem dX12_block_332 : decode cX12_block 332 = .ok (.lload_n 2, 1) := by decide +kernel
theorem dX12_block_333 : decode cX12_block 333 = .ok (.lload 6, 2) := by decide +kernel
theorem dX12_block_335 : decode cX12_block 335 = .ok (.land, 1) := by decide +kernel
theorem dX12_block_336 : decode cX12_block 336 = .ok (.lxor, 1) := by decide +kernel
theorem dX12_block_337 : decode cX12_block 337 = .ok (.lload 4, 2) := by decide +kernel
theorem dX12_block_339 : decode cX12_block 339 = .ok (.lload 6, 2) := by decide +kernel
theorem dX12_block_341 : decode cX12_block 341 = .ok (.land, 1) := by decide +kernel
theorem dX12_block_342 : decode cX12_block 342 = .ok (.lxor, 1) := by decide +kernel
theorem dX12_block_343 : decode cX12_block 343 = .ok (.ladd, 1) := by decide +kernel
theorem dX12_block_344 : decode cX12_block 344 = .ok (.lstore 21, 2) := by decide +kernel
theorem dX12_block_346 : decode cX12_block 346 = .ok (.lload 14, 2) := by decide +kernel
theorem dX12_block_348 : decode cX12_block 348 = .ok (.lstore 16, 2) := by decide +kernel
theorem dX12_block_350 : decode cX12_block 350 = .ok (.lload 12, 2) := by decide +kernel
theorem dX12_block_352 : decode cX12_block 352 = .ok (.lstore 14, 2) := by decide +kernel
theorem dX12_block_354 : decode cX12_block 354 = .ok (.lload 10, 2) := by decide +kernel
theorem dX12_block_356 : decode cX12_block 356 = .ok (.lstore 12, 2) := by decide +kernel
theorem dX12_block_358 : decode cX12_block 358 = .ok (.lload 8, 2) := by decide +kernel
theorem dX12_block_360 : decode cX12_block 360 = .ok (.lload 19, 2) := by decide +kernel
theorem dX12_block_362 : decode cX12_block 362 = .ok (.ladd, 1) := by decide +kernel
theorem dX12_block_363 : decode cX12_block 363 = .ok (.ldc2_w 28, 3) := by decide +kernel
theorem dX12_block_366 : decode cX12_block 366 = .ok (.land, 1) := by decide +kernel
theorem dX12_block_367 : decode cX12_block 367 = .ok (.lstore 10, 2) := by decide +kernel
theorem dX12_block_369 : decode cX12_block 369 = .ok (.lload 6, 2) := by decide +kernel
theorem dX12_block_371 : decode cX12_block 371 = .ok (.lstore 8, 2) := by decide +kernel
theorem dX12_block_373 : decode cX12_block 373 = .ok (.lload 4, 2) := by decide +kernel
theorem dX12_block_375 : decode cX12_block 375 = .ok (.lstore 6, 2) := by decide +kernel
theorem dX12_block_377 : decode cX12_block 377 = .ok (.lload_n 2, 1) := by decide +kernel
theorem dX12_block_378 : decode cX12_block 378 = .ok (.lstore 4, 2) := by decide +kernel
theorem dX12_block_380 : decode cX12_block 380 = .ok (.lload 19, 2) := by decide +kernel
theorem dX12_block_382 : decode cX12_block 382 = .ok (.lload 21, 2) := by decide +kernel
theorem dX12_block_384 : decode cX12_block 384 = .ok (.ladd, 1) := by decide +kernel
theorem dX12_block_385 : decode cX12_block 385 = .ok (.ldc2_w 28, 3) := by decide +kernel
theorem dX12_block_388 : decode cX12_block 388 = .ok (.land, 1) := by decide +kernel
theorem dX12_block_389 : decode cX12_block 389 = .ok (.lstore_n 2, 1) := by decide +kernel
theorem dX12_block_390 : decode cX12_block 390 = .ok (.iinc 18 1, 3) := by decide +kernel
theorem dX12_block_393 : decode cX12_block 393 = .ok (.goto (-150), 3) := by decide +kernel
theorem dX12_block_396 : decode cX12_block 396 = .ok (.aload_n 0, 1) := by decide +kernel
theorem dX12_block_397 : decode cX12_block 397 = .ok (.getfield 13, 3) := by decide +kernel
theorem dX12_block_400 : decode cX12_block 400 = .ok (.iconst 0, 1) := by decide +kernel
theorem dX12_block_401 : decode cX12_block 401 = .ok (.aload_n 0, 1) := by decide +kernel
theorem dX12_block_402 : decode cX12_block 402 = .ok (.getfield 13, 3) := by decide +kernel
theorem dX12_block_405 : decode cX12_block 405 = .ok (.iconst 0, 1) := by decide +kernel
theorem dX12_block_406 : decode cX12_block 406 = .ok (.laload, 1) := by decide +kernel
theorem dX12_block_407 : decode cX12_block 407 = .ok (.lload_n 2, 1) := by decide +kernel
theorem dX12_block_408 : decode cX12_block 408 = .ok (.ladd, 1) := by decide +kernel
theorem dX12_block_409 : decode cX12_block 409 = .ok (.ldc2_w 28, 3) := by decide +kernel
theorem dX12_block_412 : decode cX12_block 412 = .ok (.land, 1) := by decide +kernel
theorem dX12_block_413 : decode cX12_block 413 = .ok (.lastore, 1) := by decide +kernel
theorem dX12_block_414 : decode cX12_block 414 = .ok (.aload_n 0, 1) := by decide +kernel
theorem dX12_block_415 : decode cX12_block 415 = .ok (.getfield 13, 3) := by decide +kernel
theorem dX12_block_418 : decode cX12_block 418 = .ok (.iconst 1, 1) := by decide +kernel
theorem dX12_block_419 : decode cX12_block 419 = .ok (.aload_n 0, 1) := by decide +kernel
theorem dX12_block_420 : decode cX12_block 420 = .ok (.getfield 13, 3) := by decide +kernel
theorem dX12_block_423 : decode cX12_block 423 = .ok (.iconst 1, 1) := by decide +kernel
theorem dX12_block_424 : decode cX12_block 424 = .ok (.laload, 1) := by decide +kernel
theorem dX12_block_425 : decode cX12_block 425 = .ok (.lload 4, 2) := by decide +kernel
theorem dX12_block_427 : decode cX12_block 427 = .ok (.ladd, 1) := by decide +kernel
theorem dX12_block_428 : decode cX12_block 428 = .ok (.ldc2_w 28, 3) := by decide +kernel
theorem dX12_block_431 : decode cX12_block 431 = .ok (.land, 1) := by decide +kernel
theorem dX12_block_432 : decode cX12_block 432 = .ok (.lastore, 1) := by decide +kernel
theorem dX12_block_433 : decode cX12_block 433 = .ok (.aload_n 0, 1) := by decide +kernel
theorem dX12_block_434 : decode cX12_block 434 = .ok (.getfield 13, 3) := by decide +kernel
theorem dX12_block_437 : decode cX12_block 437 = .ok (.iconst 2, 1) := by decide +kernel
theorem dX12_block_438 : decode cX12_block 438 = .ok (.aload_n 0, 1) := by decide +kernel
theorem dX12_block_439 : decode cX12_block 439 = .ok (.getfield 13, 3) := by decide +kernel
theorem dX12_block_442 : decode cX12_block 442 = .ok (.iconst 2, 1) := by decide +kernel
theorem dX12_block_443 : decode cX12_block 443 = .ok (.laload, 1) := by decide +kernel
theorem dX12_block_444 : decode cX12_block 444 = .ok (.lload 6, 2) := by decide +kernel
theorem dX12_block_446 : decode cX12_block 446 = .ok (.ladd, 1) := by decide +kernel
theorem dX12_block_447 : decode cX12_block 447 = .ok (.ldc2_w 28, 3) := by decide +kernel
theorem dX12_block_450 : decode cX12_block 450 = .ok (.land, 1) := by decide +kernel
theorem dX12_block_451 : decode cX12_block 451 = .ok (.lastore, 1) := by decide +kernel
theorem dX12_block_452 : decode cX12_block 452 = .ok (.aload_n 0, 1) := by decide +kernel
theorem dX12_block_453 : decode cX12_block 453 = .ok (.getfield 13, 3) := by decide +kernel
theorem dX12_block_456 : decode cX12_block 456 = .ok (.iconst 3, 1) := by decide +kernel
theorem dX12_block_457 : decode cX12_block 457 = .ok (.aload_n 0, 1) := by decide +kernel
theorem dX12_block_458 : decode cX12_block 458 = .ok (.getfield 13, 3) := by decide +kernel
theorem dX12_block_461 : decode cX12_block 461 = .ok (.iconst 3, 1) := by decide +kernel
theorem dX12_block_462 : decode cX12_block 462 = .ok (.laload, 1) := by decide +kernel
theorem dX12_block_463 : decode cX12_block 463 = .ok (.lload 8, 2) := by decide +kernel
theorem dX12_block_465 : decode cX12_block 465 = .ok (.ladd, 1) := by decide +kernel
theorem dX12_block_466 : decode cX12_block 466 = .ok (.ldc2_w 28, 3) := by decide +kernel
theorem dX12_block_469 : decode cX12_block 469 = .ok (.land, 1) := by decide +kernel
theorem dX12_block_470 : decode cX12_block 470 = .ok (.lastore, 1) := by decide +kernel
theorem dX12_block_471 : decode cX12_block 471 = .ok (.aload_n 0, 1) := by decide +kernel
theorem dX12_block_472 : decode cX12_block 472 = .ok (.getfield 13, 3) := by decide +kernel
theorem dX12_block_475 : decode cX12_block 475 = .ok (.iconst 4, 1) := by decide +kernel
theorem dX12_block_476 : decode cX12_block 476 = .ok (.aload_n 0, 1) := by decide +kernel
theorem dX12_block_477 : decode cX12_block 477 = .ok (.getfield 13, 3) := by decide +kernel
theorem dX12_block_480 : decode cX12_block 480 = .ok (.iconst 4, 1) := by decide +kernel
theorem dX12_block_481 : decode cX12_block 481 = .ok (.laload, 1) := by decide +kernel
theorem dX12_block_482 : decode cX12_block 482 = .ok (.lload 10, 2) := by decide +kernel
theorem dX12_block_484 : decode cX12_block 484 = .ok (.ladd, 1) := by decide +kernel
theorem dX12_block_485 : decode cX12_block 485 = .ok (.ldc2_w 28, 3) := by decide +kernel
theorem dX12_block_488 : decode cX12_block 488 = .ok (.land, 1) := by decide +kernel
theorem dX12_block_489 : decode cX12_block 489 = .ok (.lastore, 1) := by decide +kernel
theorem dX12_block_490 : decode cX12_block 490 = .ok (.aload_n 0, 1) := by decide +kernel
theorem dX12_block_491 : decode cX12_block 491 = .ok (.getfield 13, 3) := by decide +kernel
theorem dX12_block_494 : decode cX12_block 494 = .ok (.iconst 5, 1) := by decide +kernel
theorem dX12_block_495 : decode cX12_block 495 = .ok (.aload_n 0, 1) := by decide +kernel
theorem dX12_block_496 : decode cX12_block 496 = .ok (.getfield 13, 3) := by decide +kernel
theorem dX12_block_499 : decode cX12_block 499 = .ok (.iconst 5, 1) := by decide +kernel
theorem dX12_block_500 : decode cX12_block 500 = .ok (.laload, 1) := by decide +kernel
theorem dX12_block_501 : decode cX12_block 501 = .ok (.lload 12, 2) := by decide +kernel
theorem dX12_block_503 : decode cX12_block 503 = .ok (.ladd, 1) := by decide +kernel
theorem dX12_block_504 : decode cX12_block 504 = .ok (.ldc2_w 28, 3) := by decide +kernel
theorem dX12_block_507 : decode cX12_block 507 = .ok (.land, 1) := by decide +kernel
theorem dX12_block_508 : decode cX12_block 508 = .ok (.lastore, 1) := by decide +kernel
theorem dX12_block_509 : decode cX12_block 509 = .ok (.aload_n 0, 1) := by decide +kernel
theorem dX12_block_510 : decode cX12_block 510 = .ok (.getfield 13, 3) := by decide +kernel
theorem dX12_block_513 : decode cX12_block 513 = .ok (.bipush 6, 2) := by decide +kernel
theorem dX12_block_515 : decode cX12_block 515 = .ok (.aload_n 0, 1) := by decide +kernel
theorem dX12_block_516 : decode cX12_block 516 = .ok (.getfield 13, 3) := by decide +kernel
theorem dX12_block_519 : decode cX12_block 519 = .ok (.bipush 6, 2) := by decide +kernel
theorem dX12_block_521 : decode cX12_block 521 = .ok (.laload, 1) := by decide +kernel
theorem dX12_block_522 : decode cX12_block 522 = .ok (.lload 14, 2) := by decide +kernel
theorem dX12_block_524 : decode cX12_block 524 = .ok (.ladd, 1) := by decide +kernel
theorem dX12_block_525 : decode cX12_block 525 = .ok (.ldc2_w 28, 3) := by decide +kernel
theorem dX12_block_528 : decode cX12_block 528 = .ok (.land, 1) := by decide +kernel
theorem dX12_block_529 : decode cX12_block 529 = .ok (.lastore, 1) := by decide +kernel
theorem dX12_block_530 : decode cX12_block 530 = .ok (.aload_n 0, 1) := by decide +kernel
theorem dX12_block_531 : decode cX12_block 531 = .ok (.getfield 13, 3) := by decide +kernel
theorem dX12_block_534 : decode cX12_block 534 = .ok (.bipush 7, 2) := by decide +kernel
theorem dX12_block_536 : decode cX12_block 536 = .ok (.aload_n 0, 1) := by decide +kernel
theorem dX12_block_537 : decode cX12_block 537 = .ok (.getfield 13, 3) := by decide +kernel
theorem dX12_block_540 : decode cX12_block 540 = .ok (.bipush 7, 2) := by decide +kernel
theorem dX12_block_542 : decode cX12_block 542 = .ok (.laload, 1) := by decide +kernel
theorem dX12_block_543 : decode cX12_block 543 = .ok (.lload 16, 2) := by decide +kernel
theorem dX12_block_545 : decode cX12_block 545 = .ok (.ladd, 1) := by decide +kernel
theorem dX12_block_546 : decode cX12_block 546 = .ok (.ldc2_w 28, 3) := by decide +kernel
theorem dX12_block_549 : decode cX12_block 549 = .ok (.land, 1) := by decide +kernel
theorem dX12_block_550 : decode cX12_block 550 = .ok (.lastore, 1) := by decide +kernel
theorem dX12_block_551 : decode cX12_block 551 = .ok (.return_, 1) := by decide +kernel
theorem dX12_four_0 : decode cX12_four 0 = .ok (.aload_n 0, 1) := by decide +kernel
theorem dX12_four_1 : decode cX12_four 1 = .ok (.getfield 13, 3) := by decide +kernel
theorem dX12_four_4 : decode cX12_four 4 = .ok (.iconst 2, 1) := by decide +kernel
theorem dX12_four_5 : decode cX12_four 5 = .ok (.iload_n 1, 1) := by decide +kernel
theorem dX12_four_6 : decode cX12_four 6 = .ok (.imul, 1) := by decide +kernel
theorem dX12_four_7 : decode cX12_four 7 = .ok (.laload, 1) := by decide +kernel
theorem dX12_four_8 : decode cX12_four 8 = .ok (.bipush 32, 2) := by decide +kernel
theorem dX12_four_10 : decode cX12_four 10 = .ok (.lshl, 1) := by decide +kernel
theorem dX12_four_11 : decode cX12_four 11 = .ok (.aload_n 0, 1) := by decide +kernel
theorem dX12_four_12 : decode cX12_four 12 = .ok (.getfield 13, 3) := by decide +kernel
theorem dX12_four_15 : decode cX12_four 15 = .ok (.iconst 2, 1) := by decide +kernel
theorem dX12_four_16 : decode cX12_four 16 = .ok (.iload_n 1, 1) := by decide +kernel
theorem dX12_four_17 : decode cX12_four 17 = .ok (.imul, 1) := by decide +kernel
theorem dX12_four_18 : decode cX12_four 18 = .ok (.iconst 1, 1) := by decide +kernel
theorem dX12_four_19 : decode cX12_four 19 = .ok (.iadd, 1) := by decide +kernel
theorem dX12_four_20 : decode cX12_four 20 = .ok (.laload, 1) := by decide +kernel
theorem dX12_four_21 : decode cX12_four 21 = .ok (.lor, 1) := by decide +kernel
theorem dX12_four_22 : decode cX12_four 22 = .ok (.lreturn, 1) := by decide +kernel
theorem dX12_byteOf_0 : decode cX12_byteOf 0 = .ok (.aload_n 0, 1) := by decide +kernel
theorem dX12_byteOf_1 : decode cX12_byteOf 1 = .ok (.getfield 13, 3) := by decide +kernel
theorem dX12_byteOf_4 : decode cX12_byteOf 4 = .ok (.iload_n 1, 1) := by decide +kernel
theorem dX12_byteOf_5 : decode cX12_byteOf 5 = .ok (.iconst 4, 1) := by decide +kernel
theorem dX12_byteOf_6 : decode cX12_byteOf 6 = .ok (.idiv, 1) := by decide +kernel
theorem dX12_byteOf_7 : decode cX12_byteOf 7 = .ok (.laload, 1) := by decide +kernel
theorem dX12_byteOf_8 : decode cX12_byteOf 8 = .ok (.bipush 24, 2) := by decide +kernel
theorem dX12_byteOf_10 : decode cX12_byteOf 10 = .ok (.bipush 8, 2) := by decide +kernel
theorem dX12_byteOf_12 : decode cX12_byteOf 12 = .ok (.iload_n 1, 1) := by decide +kernel
theorem dX12_byteOf_13 : decode cX12_byteOf 13 = .ok (.iconst 4, 1) := by decide +kernel
theorem dX12_byteOf_14 : decode cX12_byteOf 14 = .ok (.irem, 1) := by decide +kernel
theorem dX12_byteOf_15 : decode cX12_byteOf 15 = .ok (.imul, 1) := by decide +kernel
theorem dX12_byteOf_16 : decode cX12_byteOf 16 = .ok (.isub, 1) := by decide +kernel
theorem dX12_byteOf_17 : decode cX12_byteOf 17 = .ok (.lshr, 1) := by decide +kernel
theorem dX12_byteOf_18 : decode cX12_byteOf 18 = .ok (.ldc2_w 64, 3) := by decide +kernel
theorem dX12_byteOf_21 : decode cX12_byteOf 21 = .ok (.land, 1) := by decide +kernel
theorem dX12_byteOf_22 : decode cX12_byteOf 22 = .ok (.l2i, 1) := by decide +kernel
theorem dX12_byteOf_23 : decode cX12_byteOf 23 = .ok (.ireturn, 1) := by decide +kernel
theorem dX13_fail_0 : decode cX13_fail 0 = .ok (.aload_n 0, 1) := by decide +kernel
theorem dX13_fail_1 : decode cX13_fail 1 = .ok (.getfield 48, 3) := by decide +kernel
theorem dX13_fail_4 : decode cX13_fail 4 = .ok (.ifCond .ne 8, 3) := by decide +kernel
theorem dX13_fail_7 : decode cX13_fail 7 = .ok (.aload_n 0, 1) := by decide +kernel
theorem dX13_fail_8 : decode cX13_fail 8 = .ok (.iload_n 1, 1) := by decide +kernel
theorem dX13_fail_9 : decode cX13_fail 9 = .ok (.putfield 48, 3) := by decide +kernel
theorem dX13_fail_12 : decode cX13_fail 12 = .ok (.return_, 1) := by decide +kernel
theorem dX13_need_0 : decode cX13_need 0 = .ok (.iload_n 1, 1) := by decide +kernel
theorem dX13_need_1 : decode cX13_need 1 = .ok (.ifCond .ne 8, 3) := by decide +kernel
theorem dX13_need_4 : decode cX13_need 4 = .ok (.aload_n 0, 1) := by decide +kernel
theorem dX13_need_5 : decode cX13_need 5 = .ok (.iload_n 2, 1) := by decide +kernel
theorem dX13_need_6 : decode cX13_need 6 = .ok (.invokevirtual 52, 3) := by decide +kernel
theorem dX13_need_9 : decode cX13_need 9 = .ok (.return_, 1) := by decide +kernel
theorem dX13_bytesOf_0 : decode cX13_bytesOf 0 = .ok (.iconst 0, 1) := by decide +kernel
theorem dX13_bytesOf_1 : decode cX13_bytesOf 1 = .ok (.istore_n 2, 1) := by decide +kernel
theorem dX13_bytesOf_2 : decode cX13_bytesOf 2 = .ok (.iload_n 2, 1) := by decide +kernel
theorem dX13_bytesOf_3 : decode cX13_bytesOf 3 = .ok (.bipush 8, 2) := by decide +kernel
theorem dX13_bytesOf_5 : decode cX13_bytesOf 5 = .ok (.if_icmp .ge 20, 3) := by decide +kernel
theorem dX13_bytesOf_8 : decode cX13_bytesOf 8 = .ok (.lload_n 0, 1) := by decide +kernel
theorem dX13_bytesOf_9 : decode cX13_bytesOf 9 = .ok (.bipush 8, 2) := by decide +kernel
theorem dX13_bytesOf_11 : decode cX13_bytesOf 11 = .ok (.iload_n 2, 1) := by decide +kernel
theorem dX13_bytesOf_12 : decode cX13_bytesOf 12 = .ok (.imul, 1) := by decide +kernel
theorem dX13_bytesOf_13 : decode cX13_bytesOf 13 = .ok (.lushr, 1) := by decide +kernel
theorem dX13_bytesOf_14 : decode cX13_bytesOf 14 = .ok (.lconst 0, 1) := by decide +kernel
theorem dX13_bytesOf_15 : decode cX13_bytesOf 15 = .ok (.lcmp, 1) := by decide +kernel
theorem dX13_bytesOf_16 : decode cX13_bytesOf 16 = .ok (.ifCond .eq 9, 3) := by decide +kernel
theorem dX13_bytesOf_19 : decode cX13_bytesOf 19 = .ok (.iinc 2 1, 3) := by decide +kernel
theorem dX13_bytesOf_22 : decode cX13_bytesOf 22 = .ok (.goto (-20), 3) := by decide +kernel
theorem dX13_bytesOf_25 : decode cX13_bytesOf 25 = .ok (.iload_n 2, 1) := by decide +kernel
theorem dX13_bytesOf_26 : decode cX13_bytesOf 26 = .ok (.ireturn, 1) := by decide +kernel
theorem dX13_byteOf_0 : decode cX13_byteOf 0 = .ok (.lload_n 0, 1) := by decide +kernel
theorem dX13_byteOf_1 : decode cX13_byteOf 1 = .ok (.bipush 8, 2) := by decide +kernel
theorem dX13_byteOf_3 : decode cX13_byteOf 3 = .ok (.iload_n 2, 1) := by decide +kernel
theorem dX13_byteOf_4 : decode cX13_byteOf 4 = .ok (.imul, 1) := by decide +kernel
theorem dX13_byteOf_5 : decode cX13_byteOf 5 = .ok (.lushr, 1) := by decide +kernel
theorem dX13_byteOf_6 : decode cX13_byteOf 6 = .ok (.ldc2_w 56, 3) := by decide +kernel
theorem dX13_byteOf_9 : decode cX13_byteOf 9 = .ok (.land, 1) := by decide +kernel
theorem dX13_byteOf_10 : decode cX13_byteOf 10 = .ok (.l2i, 1) := by decide +kernel
theorem dX13_byteOf_11 : decode cX13_byteOf 11 = .ok (.ireturn, 1) := by decide +kernel
theorem dX13_isReference_0 : decode cX13_isReference 0 = .ok (.lload_n 0, 1) := by decide +kernel
theorem dX13_isReference_1 : decode cX13_isReference 1 = .ok (.lload_n 0, 1) := by decide +kernel
theorem dX13_isReference_2 : decode cX13_isReference 2 = .ok (.invokestatic 58, 3) := by decide +kernel
theorem dX13_isReference_5 : decode cX13_isReference 5 = .ok (.iconst 1, 1) := by decide +kernel
theorem dX13_isReference_6 : decode cX13_isReference 6 = .ok (.isub, 1) := by decide +kernel
theorem dX13_isReference_7 : decode cX13_isReference 7 = .ok (.invokestatic 62, 3) := by decide +kernel
theorem dX13_isReference_10 : decode cX13_isReference 10 = .ok (.istore_n 2, 1) := by decide +kernel
theorem dX13_isReference_11 : decode cX13_isReference 11 = .ok (.iload_n 2, 1) := by decide +kernel
theorem dX13_isReference_12 : decode cX13_isReference 12 = .ok (.bipush 8, 2) := by decide +kernel
theorem dX13_isReference_14 : decode cX13_isReference 14 = .ok (.if_icmp .eq 9, 3) := by decide +kernel
theorem dX13_isReference_17 : decode cX13_isReference 17 = .ok (.iload_n 2, 1) := by decide +kernel
theorem dX13_isReference_18 : decode cX13_isReference 18 = .ok (.bipush 9, 2) := by decide +kernel
theorem dX13_isReference_20 : decode cX13_isReference 20 = .ok (.if_icmp .ne 7, 3) := by decide +kernel
theorem dX13_isReference_23 : decode cX13_isReference 23 = .ok (.iconst 1, 1) := by decide +kernel
theorem dX13_isReference_24 : decode cX13_isReference 24 = .ok (.goto 4, 3) := by decide +kernel
theorem dX13_isReference_27 : decode cX13_isReference 27 = .ok (.iconst 0, 1) := by decide +kernel
theorem dX13_isReference_28 : decode cX13_isReference 28 = .ok (.ireturn, 1) := by decide +kernel
theorem dX13_writes_0 : decode cX13_writes 0 = .ok (.lload_n 0, 1) := by decide +kernel
theorem dX13_writes_1 : decode cX13_writes 1 = .ok (.lload_n 0, 1) := by decide +kernel
theorem dX13_writes_2 : decode cX13_writes 2 = .ok (.invokestatic 58, 3) := by decide +kernel
theorem dX13_writes_5 : decode cX13_writes 5 = .ok (.iconst 1, 1) := by decide +kernel
theorem dX13_writes_6 : decode cX13_writes 6 = .ok (.isub, 1) := by decide +kernel
theorem dX13_writes_7 : decode cX13_writes 7 = .ok (.invokestatic 62, 3) := by decide +kernel
theorem dX13_writes_10 : decode cX13_writes 10 = .ok (.bipush 9, 2) := by decide +kernel
theorem dX13_writes_12 : decode cX13_writes 12 = .ok (.if_icmp .ne 7, 3) := by decide +kernel
theorem dX13_writes_15 : decode cX13_writes 15 = .ok (.iconst 1, 1) := by decide +kernel
theorem dX13_writes_16 : decode cX13_writes 16 = .ok (.goto 4, 3) := by decide +kernel
theorem dX13_writes_19 : decode cX13_writes 19 = .ok (.iconst 0, 1) := by decide +kernel
theorem dX13_writes_20 : decode cX13_writes 20 = .ok (.ireturn, 1) := by decide +kernel
theorem dX13_pointed_0 : decode cX13_pointed 0 = .ok (.lload_n 0, 1) := by decide +kernel
theorem dX13_pointed_1 : decode cX13_pointed 1 = .ok (.invokestatic 58, 3) := by decide +kernel
theorem dX13_pointed_4 : decode cX13_pointed 4 = .ok (.iconst 1, 1) := by decide +kernel
theorem dX13_pointed_5 : decode cX13_pointed 5 = .ok (.isub, 1) := by decide +kernel
theorem dX13_pointed_6 : decode cX13_pointed 6 = .ok (.istore_n 2, 1) := by decide +kernel
theorem dX13_pointed_7 : decode cX13_pointed 7 = .ok (.lload_n 0, 1) := by decide +kernel
theorem dX13_pointed_8 : decode cX13_pointed 8 = .ok (.lconst 1, 1) := by decide +kernel
theorem dX13_pointed_9 : decode cX13_pointed 9 = .ok (.bipush 8, 2) := by decide +kernel
theorem dX13_pointed_11 : decode cX13_pointed 11 = .ok (.iload_n 2, 1) := by decide +kernel
theorem dX13_pointed_12 : decode cX13_pointed 12 = .ok (.imul, 1) := by decide +kernel
theorem dX13_pointed_13 : decode cX13_pointed 13 = .ok (.lshl, 1) := by decide +kernel
theorem dX13_pointed_14 : decode cX13_pointed 14 = .ok (.lconst 1, 1) := by decide +kernel
theorem dX13_pointed_15 : decode cX13_pointed 15 = .ok (.lsub, 1) := by decide +kernel
theorem dX13_pointed_16 : decode cX13_pointed 16 = .ok (.land, 1) := by decide +kernel
theorem dX13_pointed_17 : decode cX13_pointed 17 = .ok (.lreturn, 1) := by decide +kernel
theorem dX13_before_0 : decode cX13_before 0 = .ok (.iload_n 0, 1) := by decide +kernel
theorem dX13_before_1 : decode cX13_before 1 = .ok (.i2l, 1) := by decide +kernel
theorem dX13_before_2 : decode cX13_before 2 = .ok (.bipush 8, 2) := by decide +kernel
theorem dX13_before_4 : decode cX13_before 4 = .ok (.lload_n 1, 1) := by decide +kernel
theorem dX13_before_5 : decode cX13_before 5 = .ok (.invokestatic 58, 3) := by decide +kernel
theorem dX13_before_8 : decode cX13_before 8 = .ok (.imul, 1) := by decide +kernel
theorem dX13_before_9 : decode cX13_before 9 = .ok (.lshl, 1) := by decide +kernel
theorem dX13_before_10 : decode cX13_before 10 = .ok (.lload_n 1, 1) := by decide +kernel
theorem dX13_before_11 : decode cX13_before 11 = .ok (.lor, 1) := by decide +kernel
theorem dX13_before_12 : decode cX13_before 12 = .ok (.lreturn, 1) := by decide +kernel
theorem dX13_structureType_0 : decode cX13_structureType 0 = .ok (.ldc2_w 66, 3) := by decide +kernel
theorem dX13_structureType_3 : decode cX13_structureType 3 = .ok (.iload_n 0, 1) := by decide +kernel
theorem dX13_structureType_4 : decode cX13_structureType 4 = .ok (.i2l, 1) := by decide +kernel
theorem dX13_structureType_5 : decode cX13_structureType 5 = .ok (.ladd, 1) := by decide +kernel
theorem dX13_structureType_6 : decode cX13_structureType 6 = .ok (.lreturn, 1) := by decide +kernel
theorem dX13_abilitiesFor_0 : decode cX13_abilitiesFor 0 = .ok (.lload_n 1, 1) := by decide +kernel
theorem dX13_abilitiesFor_1 : decode cX13_abilitiesFor 1 = .ok (.invokestatic 68, 3) := by decide +kernel
theorem dX13_abilitiesFor_4 : decode cX13_abilitiesFor 4 = .ok (.ifCond .eq 5, 3) := by decide +kernel
theorem dX13_abilitiesFor_7 : decode cX13_abilitiesFor 7 = .ok (.iconst 3, 1) := by decide +kernel
theorem dX13_abilitiesFor_8 : decode cX13_abilitiesFor 8 = .ok (.ireturn, 1) := by decide +kernel
theorem dX13_abilitiesFor_9 : decode cX13_abilitiesFor 9 = .ok (.lload_n 1, 1) := by decide +kernel
theorem dX13_abilitiesFor_10 : decode cX13_abilitiesFor 10 = .ok (.invokestatic 58, 3) := by decide +kernel
theorem dX13_abilitiesFor_13 : decode cX13_abilitiesFor 13 = .ok (.istore_n 3, 1) := by decide +kernel
theorem dX13_abilitiesFor_14 : decode cX13_abilitiesFor 14 = .ok (.lload_n 1, 1) := by decide +kernel
theorem dX13_abilitiesFor_15 : decode cX13_abilitiesFor 15 = .ok (.iconst 0, 1) := by decide +kernel
theorem dX13_abilitiesFor_16 : decode cX13_abilitiesFor 16 = .ok (.invokestatic 62, 3) := by decide +kernel
theorem dX13_abilitiesFor_19 : decode cX13_abilitiesFor 19 = .ok (.istore 4, 2) := by decide +kernel
theorem dX13_abilitiesFor_21 : decode cX13_abilitiesFor 21 = .ok (.lload_n 1, 1) := by decide +kernel
theorem dX13_abilitiesFor_22 : decode cX13_abilitiesFor 22 = .ok (.iload_n 3, 1) := by decide +kernel
theorem dX13_abilitiesFor_23 : decode cX13_abilitiesFor 23 = .ok (.iconst 1, 1) := by decide +kernel
theorem dX13_abilitiesFor_24 : decode cX13_abilitiesFor 24 = .ok (.isub, 1) := by decide +kernel
theorem dX13_abilitiesFor_25 : decode cX13_abilitiesFor 25 = .ok (.invokestatic 62, 3) := by decide +kernel
theorem dX13_abilitiesFor_28 : decode cX13_abilitiesFor 28 = .ok (.bipush 7, 2) := by decide +kernel
theorem dX13_abilitiesFor_30 : decode cX13_abilitiesFor 30 = .ok (.if_icmp .ne 7, 3) := by decide +kernel
theorem dX13_abilitiesFor_33 : decode cX13_abilitiesFor 33 = .ok (.iconst 1, 1) := by decide +kernel
theorem dX13_abilitiesFor_34 : decode cX13_abilitiesFor 34 = .ok (.goto 4, 3) := by decide +kernel
theorem dX13_abilitiesFor_37 : decode cX13_abilitiesFor 37 = .ok (.iconst 0, 1) := by decide +kernel
theorem dX13_abilitiesFor_38 : decode cX13_abilitiesFor 38 = .ok (.istore 5, 2) := by decide +kernel
theorem dX13_abilitiesFor_40 : decode cX13_abilitiesFor 40 = .ok (.iload_n 3, 1) := by decide +kernel
theorem dX13_abilitiesFor_41 : decode cX13_abilitiesFor 41 = .ok (.iconst 1, 1) := by decide +kernel
theorem dX13_abilitiesFor_42 : decode cX13_abilitiesFor 42 = .ok (.if_icmp .le 17, 3) := by decide +kernel
theorem dX13_abilitiesFor_45 : decode cX13_abilitiesFor 45 = .ok (.lload_n 1, 1) := by decide +kernel
theorem dX13_abilitiesFor_46 : decode cX13_abilitiesFor 46 = .ok (.iconst 1, 1) := by decide +kernel
theorem dX13_abilitiesFor_47 : decode cX13_abilitiesFor 47 = .ok (.invokestatic 62, 3) := by decide +kernel
theorem dX13_abilitiesFor_50 : decode cX13_abilitiesFor 50 = .ok (.bipush 6, 2) := by decide +kernel
theorem dX13_abilitiesFor_52 : decode cX13_abilitiesFor 52 = .ok (.if_icmp .ne 7, 3) := by decide +kernel
theorem dX13_abilitiesFor_55 : decode cX13_abilitiesFor 55 = .ok (.iconst 1, 1) := by decide +kernel
theorem dX13_abilitiesFor_56 : decode cX13_abilitiesFor 56 = .ok (.goto 4, 3) := by decide +kernel
theorem dX13_abilitiesFor_59 : decode cX13_abilitiesFor 59 = .ok (.iconst 0, 1) := by decide +kernel
theorem dX13_abilitiesFor_60 : decode cX13_abilitiesFor 60 = .ok (.istore 6, 2) := by decide +kernel
theorem dX13_abilitiesFor_62 : decode cX13_abilitiesFor 62 = .ok (.iload 6, 2) := by decide +kernel
theorem dX13_abilitiesFor_64 : decode cX13_abilitiesFor 64 = .ok (.ifCond .eq 15, 3) := by decide +kernel
theorem dX13_abilitiesFor_67 : decode cX13_abilitiesFor 67 = .ok (.aload_n 0, 1) := by decide +kernel
theorem dX13_abilitiesFor_68 : decode cX13_abilitiesFor 68 = .ok (.getfield 72, 3) := by decide +kernel
theorem dX13_abilitiesFor_71 : decode cX13_abilitiesFor 71 = .ok (.iload 4, 2) := by decide +kernel
theorem dX13_abilitiesFor_73 : decode cX13_abilitiesFor 73 = .ok (.invokevirtual 76, 3) := by decide +kernel
theorem dX13_abilitiesFor_76 : decode cX13_abilitiesFor 76 = .ok (.goto 5, 3) := by decide +kernel
theorem dX13_abilitiesFor_79 : decode cX13_abilitiesFor 79 = .ok (.bipush 7, 2) := by decide +kernel
theorem dX13_abilitiesFor_81 : decode cX13_abilitiesFor 81 = .ok (.istore 7, 2) := by decide +kernel
theorem dX13_abilitiesFor_83 : decode cX13_abilitiesFor 83 = .ok (.iload 5, 2) := by decide +kernel
theorem dX13_abilitiesFor_85 : decode cX13_abilitiesFor 85 = .ok (.ifCond .eq 11, 3) := by decide +kernel
theorem dX13_abilitiesFor_88 : decode cX13_abilitiesFor 88 = .ok (.iload 7, 2) := by decide +kernel
theorem dX13_abilitiesFor_90 : decode cX13_abilitiesFor 90 = .ok (.bipush (-9), 2) := by decide +kernel
theorem dX13_abilitiesFor_92 : decode cX13_abilitiesFor 92 = .ok (.iand, 1) := by decide +kernel
theorem dX13_abilitiesFor_93 : decode cX13_abilitiesFor 93 = .ok (.goto 5, 3) := by decide +kernel
theorem dX13_abilitiesFor_96 : decode cX13_abilitiesFor 96 = .ok (.iload 7, 2) := by decide +kernel
theorem dX13_abilitiesFor_98 : decode cX13_abilitiesFor 98 = .ok (.ireturn, 1) := by decide +kernel
theorem dX13_has_0 : decode cX13_has 0 = .ok (.aload_n 0, 1) := by decide +kernel
theorem dX13_has_1 : decode cX13_has 1 = .ok (.lload_n 1, 1) := by decide +kernel
theorem dX13_has_2 : decode cX13_has 2 = .ok (.invokevirtual 82, 3) := by decide +kernel
theorem dX13_has_5 : decode cX13_has 5 = .ok (.iload_n 3, 1) := by decide +kernel
theorem dX13_has_6 : decode cX13_has 6 = .ok (.iand, 1) := by decide +kernel
theorem dX13_has_7 : decode cX13_has 7 = .ok (.ifCond .eq 7, 3) := by decide +kernel
theorem dX13_has_10 : decode cX13_has 10 = .ok (.iconst 1, 1) := by decide +kernel
theorem dX13_has_11 : decode cX13_has 11 = .ok (.goto 4, 3) := by decide +kernel
theorem dX13_has_14 : decode cX13_has 14 = .ok (.iconst 0, 1) := by decide +kernel
theorem dX13_has_15 : decode cX13_has 15 = .ok (.ireturn, 1) := by decide +kernel
theorem dX13_bears_0 : decode cX13_bears 0 = .ok (.aload_n 0, 1) := by decide +kernel
theorem dX13_bears_1 : decode cX13_bears 1 = .ok (.aload_n 1, 1) := by decide +kernel
theorem dX13_bears_2 : decode cX13_bears 2 = .ok (.putfield 72, 3) := by decide +kernel
theorem dX13_bears_5 : decode cX13_bears 5 = .ok (.aload_n 1, 1) := by decide +kernel
theorem dX13_bears_6 : decode cX13_bears 6 = .ok (.iload_n 2, 1) := by decide +kernel
theorem dX13_bears_7 : decode cX13_bears 7 = .ok (.invokevirtual 76, 3) := by decide +kernel
theorem dX13_bears_10 : decode cX13_bears 10 = .ok (.bipush 7, 2) := by decide +kernel
theorem dX13_bears_12 : decode cX13_bears 12 = .ok (.iand, 1) := by decide +kernel
theorem dX13_bears_13 : decode cX13_bears 13 = .ok (.aload_n 1, 1) := by decide +kernel
theorem dX13_bears_14 : decode cX13_bears 14 = .ok (.iload_n 2, 1) := by decide +kernel
theorem dX13_bears_15 : decode cX13_bears 15 = .ok (.invokevirtual 76, 3) := by decide +kernel
theorem dX13_bears_18 : decode cX13_bears 18 = .ok (.bipush 8, 2) := by decide +kernel
theorem dX13_bears_20 : decode cX13_bears 20 = .ok (.iand, 1) := by decide +kernel
theorem dX13_bears_21 : decode cX13_bears 21 = .ok (.ifCond .eq 7, 3) := by decide +kernel
theorem dX13_bears_24 : decode cX13_bears 24 = .ok (.iconst 4, 1) := by decide +kernel
theorem dX13_bears_25 : decode cX13_bears 25 = .ok (.goto 4, 3) := by decide +kernel
theorem dX13_bears_28 : decode cX13_bears 28 = .ok (.iconst 0, 1) := by decide +kernel
theorem dX13_bears_29 : decode cX13_bears 29 = .ok (.ior, 1) := by decide +kernel
theorem dX13_bears_30 : decode cX13_bears 30 = .ok (.istore_n 3, 1) := by decide +kernel
theorem dX13_bears_31 : decode cX13_bears 31 = .ok (.iconst 0, 1) := by decide +kernel
theorem dX13_bears_32 : decode cX13_bears 32 = .ok (.istore 4, 2) := by decide +kernel
theorem dX13_bears_34 : decode cX13_bears 34 = .ok (.iload 4, 2) := by decide +kernel
theorem dX13_bears_36 : decode cX13_bears 36 = .ok (.aload_n 1, 1) := by decide +kernel
theorem dX13_bears_37 : decode cX13_bears 37 = .ok (.iload_n 2, 1) := by decide +kernel
theorem dX13_bears_38 : decode cX13_bears 38 = .ok (.invokevirtual 85, 3) := by decide +kernel
theorem dX13_bears_41 : decode cX13_bears 41 = .ok (.if_icmp .ge 28, 3) := by decide +kernel
theorem dX13_bears_44 : decode cX13_bears 44 = .ok (.aload_n 0, 1) := by decide +kernel
theorem dX13_bears_45 : decode cX13_bears 45 = .ok (.aload_n 1, 1) := by decide +kernel
theorem dX13_bears_46 : decode cX13_bears 46 = .ok (.iload_n 2, 1) := by decide +kernel
theorem dX13_bears_47 : decode cX13_bears 47 = .ok (.iload 4, 2) := by decide +kernel
theorem dX13_bears_49 : decode cX13_bears 49 = .ok (.invokevirtual 88, 3) := by decide +kernel
theorem dX13_bears_52 : decode cX13_bears 52 = .ok (.invokevirtual 82, 3) := by decide +kernel
theorem dX13_bears_55 : decode cX13_bears 55 = .ok (.iload_n 3, 1) := by decide +kernel
theorem dX13_bears_56 : decode cX13_bears 56 = .ok (.iand, 1) := by decide +kernel
theorem dX13_bears_57 : decode cX13_bears 57 = .ok (.iload_n 3, 1) := by decide +kernel
theorem dX13_bears_58 : decode cX13_bears 58 = .ok (.if_icmp .eq 5, 3) := by decide +kernel
theorem dX13_bears_61 : decode cX13_bears 61 = .ok (.iconst 0, 1) := by decide +kernel
theorem dX13_bears_62 : decode cX13_bears 62 = .ok (.ireturn, 1) := by decide +kernel
theorem dX13_bears_63 : decode cX13_bears 63 = .ok (.iinc 4 1, 3) := by decide +kernel
theorem dX13_bears_66 : decode cX13_bears 66 = .ok (.goto (-32), 3) := by decide +kernel
theorem dX13_bears_69 : decode cX13_bears 69 = .ok (.iconst 1, 1) := by decide +kernel
theorem dX13_bears_70 : decode cX13_bears 70 = .ok (.ireturn, 1) := by decide +kernel
theorem dX13_push_0 : decode cX13_push 0 = .ok (.aload_n 0, 1) := by decide +kernel
theorem dX13_push_1 : decode cX13_push 1 = .ok (.getfield 48, 3) := by decide +kernel
theorem dX13_push_4 : decode cX13_push 4 = .ok (.ifCond .eq 4, 3) := by decide +kernel
theorem dX13_push_7 : decode cX13_push 7 = .ok (.return_, 1) := by decide +kernel
theorem dX13_push_8 : decode cX13_push 8 = .ok (.aload_n 0, 1) := by decide +kernel
theorem dX13_push_9 : decode cX13_push 9 = .ok (.getfield 30, 3) := by decide +kernel
theorem dX13_push_12 : decode cX13_push 12 = .ok (.aload_n 0, 1) := by decide +kernel
theorem dX13_push_13 : decode cX13_push 13 = .ok (.getfield 92, 3) := by decide +kernel
theorem dX13_push_16 : decode cX13_push 16 = .ok (.lload_n 1, 1) := by decide +kernel
theorem dX13_push_17 : decode cX13_push 17 = .ok (.lastore, 1) := by decide +kernel
theorem dX13_push_18 : decode cX13_push 18 = .ok (.aload_n 0, 1) := by decide +kernel
theorem dX13_push_19 : decode cX13_push 19 = .ok (.getfield 33, 3) := by decide +kernel
theorem dX13_push_22 : decode cX13_push 22 = .ok (.aload_n 0, 1) := by decide +kernel
theorem dX13_push_23 : decode cX13_push 23 = .ok (.getfield 92, 3) := by decide +kernel
theorem dX13_push_26 : decode cX13_push 26 = .ok (.lload_n 1, 1) := by decide +kernel
theorem dX13_push_27 : decode cX13_push 27 = .ok (.invokestatic 68, 3) := by decide +kernel
theorem dX13_push_30 : decode cX13_push 30 = .ok (.ifCond .eq 7, 3) := by decide +kernel
theorem dX13_push_33 : decode cX13_push 33 = .ok (.lload_n 3, 1) := by decide +kernel
theorem dX13_push_34 : decode cX13_push 34 = .ok (.goto 4, 3) := by decide +kernel
theorem dX13_push_37 : decode cX13_push 37 = .ok (.lconst 0, 1) := by decide +kernel
theorem dX13_push_38 : decode cX13_push 38 = .ok (.lastore, 1) := by decide +kernel
theorem dX13_push_39 : decode cX13_push 39 = .ok (.aload_n 0, 1) := by decide +kernel
theorem dX13_push_40 : decode cX13_push 40 = .ok (.getfield 36, 3) := by decide +kernel
theorem dX13_push_43 : decode cX13_push 43 = .ok (.aload_n 0, 1) := by decide +kernel
theorem dX13_push_44 : decode cX13_push 44 = .ok (.getfield 92, 3) := by decide +kernel
theorem dX13_push_47 : decode cX13_push 47 = .ok (.lload_n 1, 1) := by decide +kernel
theorem dX13_push_48 : decode cX13_push 48 = .ok (.invokestatic 68, 3) := by decide +kernel
theorem dX13_push_51 : decode cX13_push 51 = .ok (.ifCond .eq 12, 3) := by decide +kernel
theorem dX13_push_54 : decode cX13_push 54 = .ok (.iload 5, 2) := by decide +kernel
theorem dX13_push_56 : decode cX13_push 56 = .ok (.ifCond .eq 7, 3) := by decide +kernel
theorem dX13_push_59 : decode cX13_push 59 = .ok (.iconst 1, 1) := by decide +kernel
theorem dX13_push_60 : decode cX13_push 60 = .ok (.goto 4, 3) := by decide +kernel
theorem dX13_push_63 : decode cX13_push 63 = .ok (.iconst 0, 1) := by decide +kernel
theorem dX13_push_64 : decode cX13_push 64 = .ok (.bastore, 1) := by decide +kernel
theorem dX13_push_65 : decode cX13_push 65 = .ok (.aload_n 0, 1) := by decide +kernel
theorem dX13_push_66 : decode cX13_push 66 = .ok (.dup, 1) := by decide +kernel
theorem dX13_push_67 : decode cX13_push 67 = .ok (.getfield 92, 3) := by decide +kernel
theorem dX13_push_70 : decode cX13_push 70 = .ok (.iconst 1, 1) := by decide +kernel
theorem dX13_push_71 : decode cX13_push 71 = .ok (.iadd, 1) := by decide +kernel
theorem dX13_push_72 : decode cX13_push 72 = .ok (.putfield 92, 3) := by decide +kernel
theorem dX13_push_75 : decode cX13_push 75 = .ok (.aload_n 0, 1) := by decide +kernel
theorem dX13_push_76 : decode cX13_push 76 = .ok (.getfield 92, 3) := by decide +kernel
theorem dX13_push_79 : decode cX13_push 79 = .ok (.bipush 64, 2) := by decide +kernel
theorem dX13_push_81 : decode cX13_push 81 = .ok (.if_icmp .le 8, 3) := by decide +kernel
theorem dX13_push_84 : decode cX13_push 84 = .ok (.aload_n 0, 1) := by decide +kernel
theorem dX13_push_85 : decode cX13_push 85 = .ok (.iconst 2, 1) := by decide +kernel
theorem dX13_push_86 : decode cX13_push 86 = .ok (.invokevirtual 52, 3) := by decide +kernel
theorem dX13_push_89 : decode cX13_push 89 = .ok (.return_, 1) := by decide +kernel
theorem dX13_give_0 : decode cX13_give 0 = .ok (.aload_n 0, 1) := by decide +kernel
theorem dX13_give_1 : decode cX13_give 1 = .ok (.lload_n 1, 1) := by decide +kernel
theorem dX13_give_2 : decode cX13_give 2 = .ok (.lconst 0, 1) := by decide +kernel
theorem dX13_give_3 : decode cX13_give 3 = .ok (.iconst 0, 1) := by decide +kernel
theorem dX13_give_4 : decode cX13_give 4 = .ok (.invokevirtual 95, 3) := by decide +kernel
theorem dX13_give_7 : decode cX13_give 7 = .ok (.return_, 1) := by decide +kernel
theorem dX13_take_0 : decode cX13_take 0 = .ok (.aload_n 0, 1) := by decide +kernel
theorem dX13_take_1 : decode cX13_take 1 = .ok (.getfield 48, 3) := by decide +kernel
theorem dX13_take_4 : decode cX13_take 4 = .ok (.ifCond .eq 4, 3) := by decide +kernel
theorem dX13_take_7 : decode cX13_take 7 = .ok (.return_, 1) := by decide +kernel
theorem dX13_take_8 : decode cX13_take 8 = .ok (.aload_n 0, 1) := by decide +kernel
theorem dX13_take_9 : decode cX13_take 9 = .ok (.getfield 92, 3) := by decide +kernel
theorem dX13_take_12 : decode cX13_take 12 = .ok (.ifCond .ne 9, 3) := by decide +kernel
theorem dX13_take_15 : decode cX13_take 15 = .ok (.aload_n 0, 1) := by decide +kernel
theorem dX13_take_16 : decode cX13_take 16 = .ok (.iconst 1, 1) := by decide +kernel
theorem dX13_take_17 : decode cX13_take 17 = .ok (.invokevirtual 52, 3) := by decide +kernel
theorem dX13_take_20 : decode cX13_take 20 = .ok (.return_, 1) := by decide +kernel
theorem dX13_take_21 : decode cX13_take 21 = .ok (.aload_n 0, 1) := by decide +kernel
theorem dX13_take_22 : decode cX13_take 22 = .ok (.dup, 1) := by decide +kernel
theorem dX13_take_23 : decode cX13_take 23 = .ok (.getfield 92, 3) := by decide +kernel
theorem dX13_take_26 : decode cX13_take 26 = .ok (.iconst 1, 1) := by decide +kernel
theorem dX13_take_27 : decode cX13_take 27 = .ok (.isub, 1) := by decide +kernel
theorem dX13_take_28 : decode cX13_take 28 = .ok (.putfield 92, 3) := by decide +kernel
theorem dX13_take_31 : decode cX13_take 31 = .ok (.aload_n 0, 1) := by decide +kernel
theorem dX13_take_32 : decode cX13_take 32 = .ok (.aload_n 0, 1) := by decide +kernel
theorem dX13_take_33 : decode cX13_take 33 = .ok (.getfield 30, 3) := by decide +kernel
theorem dX13_take_36 : decode cX13_take 36 = .ok (.aload_n 0, 1) := by decide +kernel
theorem dX13_take_37 : decode cX13_take 37 = .ok (.getfield 92, 3) := by decide +kernel
theorem dX13_take_40 : decode cX13_take 40 = .ok (.laload, 1) := by decide +kernel
theorem dX13_take_41 : decode cX13_take 41 = .ok (.putfield 99, 3) := by decide +kernel
theorem dX13_take_44 : decode cX13_take 44 = .ok (.aload_n 0, 1) := by decide +kernel
theorem dX13_take_45 : decode cX13_take 45 = .ok (.aload_n 0, 1) := by decide +kernel
theorem dX13_take_46 : decode cX13_take 46 = .ok (.getfield 33, 3) := by decide +kernel
theorem dX13_take_49 : decode cX13_take 49 = .ok (.aload_n 0, 1) := by decide +kernel
theorem dX13_take_50 : decode cX13_take 50 = .ok (.getfield 92, 3) := by decide +kernel
theorem dX13_take_53 : decode cX13_take 53 = .ok (.laload, 1) := by decide +kernel
theorem dX13_take_54 : decode cX13_take 54 = .ok (.putfield 103, 3) := by decide +kernel
theorem dX13_take_57 : decode cX13_take 57 = .ok (.aload_n 0, 1) := by decide +kernel
theorem dX13_take_58 : decode cX13_take 58 = .ok (.aload_n 0, 1) := by decide +kernel
theorem dX13_take_59 : decode cX13_take 59 = .ok (.getfield 36, 3) := by decide +kernel
theorem dX13_take_62 : decode cX13_take 62 = .ok (.aload_n 0, 1) := by decide +kernel
theorem dX13_take_63 : decode cX13_take 63 = .ok (.getfield 92, 3) := by decide +kernel
theorem dX13_take_66 : decode cX13_take 66 = .ok (.baload, 1) := by decide +kernel
theorem dX13_take_67 : decode cX13_take 67 = .ok (.putfield 106, 3) := by decide +kernel
theorem dX13_take_70 : decode cX13_take 70 = .ok (.return_, 1) := by decide +kernel
theorem dX13_take__0 : decode cX13_take_ 0 = .ok (.aload_n 0, 1) := by decide +kernel
theorem dX13_take__1 : decode cX13_take_ 1 = .ok (.invokevirtual 110, 3) := by decide +kernel
theorem dX13_take__4 : decode cX13_take_ 4 = .ok (.aload_n 0, 1) := by decide +kernel
theorem dX13_take__5 : decode cX13_take_ 5 = .ok (.getfield 48, 3) := by decide +kernel
theorem dX13_take__8 : decode cX13_take_ 8 = .ok (.ifCond .ne 12, 3) := by decide +kernel
theorem dX13_take__11 : decode cX13_take_ 11 = .ok (.aload_n 0, 1) := by decide +kernel
theorem dX13_take__12 : decode cX13_take_ 12 = .ok (.getfield 99, 3) := by decide +kernel
theorem dX13_take__15 : decode cX13_take_ 15 = .ok (.lload_n 1, 1) := by decide +kernel
theorem dX13_take__16 : decode cX13_take_ 16 = .ok (.lcmp, 1) := by decide +kernel
theorem dX13_take__17 : decode cX13_take_ 17 = .ok (.ifCond .ne 4, 3) := by decide +kernel
theorem dX13_take__20 : decode cX13_take_ 20 = .ok (.return_, 1) := by decide +kernel
theorem dX13_take__21 : decode cX13_take_ 21 = .ok (.aload_n 0, 1) := by decide +kernel
theorem dX13_take__22 : decode cX13_take_ 22 = .ok (.iconst 3, 1) := by decide +kernel
theorem dX13_take__23 : decode cX13_take_ 23 = .ok (.invokevirtual 52, 3) := by decide +kernel
theorem dX13_take__26 : decode cX13_take_ 26 = .ok (.return_, 1) := by decide +kernel
theorem dX13_takeReference_0 : decode cX13_takeReference 0 = .ok (.aload_n 0, 1) := by decide +kernel
theorem dX13_takeReference_1 : decode cX13_takeReference 1 = .ok (.invokevirtual 110, 3) := by decide +kernel
theorem dX13_takeReference_4 : decode cX13_takeReference 4 = .ok (.aload_n 0, 1) := by decide +kernel
theorem dX13_takeReference_5 : decode cX13_takeReference 5 = .ok (.getfield 48, 3) := by decide +kernel
theorem dX13_takeReference_8 : decode cX13_takeReference 8 = .ok (.ifCond .eq 4, 3) := by decide +kernel
theorem dX13_takeReference_11 : decode cX13_takeReference 11 = .ok (.return_, 1) := by decide +kernel
theorem dX13_takeReference_12 : decode cX13_takeReference 12 = .ok (.aload_n 0, 1) := by decide +kernel
theorem dX13_takeReference_13 : decode cX13_takeReference 13 = .ok (.getfield 99, 3) := by decide +kernel
theorem dX13_takeReference_16 : decode cX13_takeReference 16 = .ok (.invokestatic 68, 3) := by decide +kernel
theorem dX13_takeReference_19 : decode cX13_takeReference 19 = .ok (.ifCond .eq 25, 3) := by decide +kernel
theorem dX13_takeReference_22 : decode cX13_takeReference 22 = .ok (.lload_n 1, 1) := by decide +kernel
theorem dX13_takeReference_23 : decode cX13_takeReference 23 = .ok (.lconst 0, 1) := by decide +kernel
theorem dX13_takeReference_24 : decode cX13_takeReference 24 = .ok (.lcmp, 1) := by decide +kernel
theorem dX13_takeReference_25 : decode cX13_takeReference 25 = .ok (.ifCond .eq 15, 3) := by decide +kernel
theorem dX13_takeReference_28 : decode cX13_takeReference 28 = .ok (.aload_n 0, 1) := by decide +kernel
theorem dX13_takeReference_29 : decode cX13_takeReference 29 = .ok (.getfield 99, 3) := by decide +kernel
theorem dX13_takeReference_32 : decode cX13_takeReference 32 = .ok (.invokestatic 113, 3) := by decide +kernel
theorem dX13_takeReference_35 : decode cX13_takeReference 35 = .ok (.lload_n 1, 1) := by decide +kernel
theorem dX13_takeReference_36 : decode cX13_takeReference 36 = .ok (.lcmp, 1) := by decide +kernel
theorem dX13_takeReference_37 : decode cX13_takeReference 37 = .ok (.ifCond .ne 7, 3) := by decide +kernel
theorem dX13_takeReference_40 : decode cX13_takeReference 40 = .ok (.iconst 1, 1) := by decide +kernel
theorem dX13_takeReference_41 : decode cX13_takeReference 41 = .ok (.goto 4, 3) := by decide +kernel
theorem dX13_takeReference_44 : decode cX13_takeReference 44 = .ok (.iconst 0, 1) := by decide +kernel
theorem dX13_takeReference_45 : decode cX13_takeReference 45 = .ok (.istore 4, 2) := by decide +kernel
theorem dX13_takeReference_47 : decode cX13_takeReference 47 = .ok (.aload_n 0, 1) := by decide +kernel
theorem dX13_takeReference_48 : decode cX13_takeReference 48 = .ok (.iload 4, 2) := by decide +kernel
theorem dX13_takeReference_50 : decode cX13_takeReference 50 = .ok (.iconst 3, 1) := by decide +kernel
theorem dX13_takeReference_51 : decode cX13_takeReference 51 = .ok (.invokevirtual 117, 3) := by decide +kernel
theorem dX13_takeReference_54 : decode cX13_takeReference 54 = .ok (.aload_n 0, 1) := by decide +kernel
theorem dX13_takeReference_55 : decode cX13_takeReference 55 = .ok (.iload_n 3, 1) := by decide +kernel
theorem dX13_takeReference_56 : decode cX13_takeReference 56 = .ok (.ifCond .eq 13, 3) := by decide +kernel
theorem dX13_takeReference_59 : decode cX13_takeReference 59 = .ok (.aload_n 0, 1) := by decide +kernel
theorem dX13_takeReference_60 : decode cX13_takeReference 60 = .ok (.getfield 99, 3) := by decide +kernel
theorem dX13_takeReference_63 : decode cX13_takeReference 63 = .ok (.invokestatic 121, 3) := by decide +kernel
theorem dX13_takeReference_66 : decode cX13_takeReference 66 = .ok (.ifCond .eq 7, 3) := by decide +kernel
theorem dX13_takeReference_69 : decode cX13_takeReference 69 = .ok (.iconst 1, 1) := by decide +kernel
theorem dX13_takeReference_70 : decode cX13_takeReference 70 = .ok (.goto 4, 3) := by decide +kernel
theorem dX13_takeReference_73 : decode cX13_takeReference 73 = .ok (.iconst 0, 1) := by decide +kernel
theorem dX13_takeReference_74 : decode cX13_takeReference 74 = .ok (.bipush 7, 2) := by decide +kernel
theorem dX13_takeReference_76 : decode cX13_takeReference 76 = .ok (.invokevirtual 117, 3) := by decide +kernel
theorem dX13_takeReference_79 : decode cX13_takeReference 79 = .ok (.return_, 1) := by decide +kernel
theorem dX13_isNumber_0 : decode cX13_isNumber 0 = .ok (.lload_n 0, 1) := by decide +kernel
theorem dX13_isNumber_1 : decode cX13_isNumber 1 = .ok (.ldc2_w 124, 3) := by decide +kernel
theorem dX13_isNumber_4 : decode cX13_isNumber 4 = .ok (.lcmp, 1) := by decide +kernel
theorem dX13_isNumber_5 : decode cX13_isNumber 5 = .ok (.ifCond .eq 19, 3) := by decide +kernel
theorem dX13_isNumber_8 : decode cX13_isNumber 8 = .ok (.lload_n 0, 1) := by decide +kernel
theorem dX13_isNumber_9 : decode cX13_isNumber 9 = .ok (.ldc2_w 126, 3) := by decide +kernel
theorem dX13_isNumber_12 : decode cX13_isNumber 12 = .ok (.lcmp, 1) := by decide +kernel
theorem dX13_isNumber_13 : decode cX13_isNumber 13 = .ok (.ifCond .eq 11, 3) := by decide +kernel
theorem dX13_isNumber_16 : decode cX13_isNumber 16 = .ok (.lload_n 0, 1) := by decide +kernel
theorem dX13_isNumber_17 : decode cX13_isNumber 17 = .ok (.ldc2_w 128, 3) := by decide +kernel
theorem dX13_isNumber_20 : decode cX13_isNumber 20 = .ok (.lcmp, 1) := by decide +kernel
theorem dX13_isNumber_21 : decode cX13_isNumber 21 = .ok (.ifCond .ne 7, 3) := by decide +kernel
theorem dX13_isNumber_24 : decode cX13_isNumber 24 = .ok (.iconst 1, 1) := by decide +kernel
theorem dX13_isNumber_25 : decode cX13_isNumber 25 = .ok (.goto 4, 3) := by decide +kernel
theorem dX13_isNumber_28 : decode cX13_isNumber 28 = .ok (.iconst 0, 1) := by decide +kernel
theorem dX13_isNumber_29 : decode cX13_isNumber 29 = .ok (.ireturn, 1) := by decide +kernel
theorem dX13_takeNumbers_0 : decode cX13_takeNumbers 0 = .ok (.aload_n 0, 1) := by decide +kernel
theorem dX13_takeNumbers_1 : decode cX13_takeNumbers 1 = .ok (.invokevirtual 110, 3) := by decide +kernel
theorem dX13_takeNumbers_4 : decode cX13_takeNumbers 4 = .ok (.aload_n 0, 1) := by decide +kernel
theorem dX13_takeNumbers_5 : decode cX13_takeNumbers 5 = .ok (.getfield 48, 3) := by decide +kernel
theorem dX13_takeNumbers_8 : decode cX13_takeNumbers 8 = .ok (.ifCond .eq 4, 3) := by decide +kernel
theorem dX13_takeNumbers_11 : decode cX13_takeNumbers 11 = .ok (.return_, 1) := by decide +kernel
theorem dX13_takeNumbers_12 : decode cX13_takeNumbers 12 = .ok (.aload_n 0, 1) := by decide +kernel
theorem dX13_takeNumbers_13 : decode cX13_takeNumbers 13 = .ok (.aload_n 0, 1) := by decide +kernel
theorem dX13_takeNumbers_14 : decode cX13_takeNumbers 14 = .ok (.getfield 99, 3) := by decide +kernel
theorem dX13_takeNumbers_17 : decode cX13_takeNumbers 17 = .ok (.invokestatic 130, 3) := by decide +kernel
theorem dX13_takeNumbers_20 : decode cX13_takeNumbers 20 = .ok (.ifCond .ne 16, 3) := by decide +kernel
theorem dX13_takeNumbers_23 : decode cX13_takeNumbers 23 = .ok (.iload_n 1, 1) := by decide +kernel
theorem dX13_takeNumbers_24 : decode cX13_takeNumbers 24 = .ok (.ifCond .eq 16, 3) := by decide +kernel
theorem dX13_takeNumbers_27 : decode cX13_takeNumbers 27 = .ok (.aload_n 0, 1) := by decide +kernel
theorem dX13_takeNumbers_28 : decode cX13_takeNumbers 28 = .ok (.getfield 99, 3) := by decide +kernel
theorem dX13_takeNumbers_31 : decode cX13_takeNumbers 31 = .ok (.lconst 1, 1) := by decide +kernel
theorem dX13_takeNumbers_32 : decode cX13_takeNumbers 32 = .ok (.lcmp, 1) := by decide +kernel
theorem dX13_takeNumbers_33 : decode cX13_takeNumbers 33 = .ok (.ifCond .ne 7, 3) := by decide +kernel
theorem dX13_takeNumbers_36 : decode cX13_takeNumbers 36 = .ok (.iconst 1, 1) := by decide +kernel
theorem dX13_takeNumbers_37 : decode cX13_takeNumbers 37 = .ok (.goto 4, 3) := by decide +kernel
theorem dX13_takeNumbers_40 : decode cX13_takeNumbers 40 = .ok (.iconst 0, 1) := by decide +kernel
theorem dX13_takeNumbers_41 : decode cX13_takeNumbers 41 = .ok (.iconst 3, 1) := by decide +kernel
theorem dX13_takeNumbers_42 : decode cX13_takeNumbers 42 = .ok (.invokevirtual 117, 3) := by decide +kernel
theorem dX13_takeNumbers_45 : decode cX13_takeNumbers 45 = .ok (.aload_n 0, 1) := by decide +kernel
theorem dX13_takeNumbers_46 : decode cX13_takeNumbers 46 = .ok (.aload_n 0, 1) := by decide +kernel
theorem dX13_takeNumbers_47 : decode cX13_takeNumbers 47 = .ok (.getfield 99, 3) := by decide +kernel
theorem dX13_takeNumbers_50 : decode cX13_takeNumbers 50 = .ok (.invokevirtual 133, 3) := by decide +kernel
theorem dX13_takeNumbers_53 : decode cX13_takeNumbers 53 = .ok (.return_, 1) := by decide +kernel
theorem dX13_isPointed_0 : decode cX13_isPointed 0 = .ok (.iconst 0, 1) := by decide +kernel
theorem dX13_isPointed_1 : decode cX13_isPointed 1 = .ok (.istore_n 3, 1) := by decide +kernel
theorem dX13_isPointed_2 : decode cX13_isPointed 2 = .ok (.iconst 0, 1) := by decide +kernel
theorem dX13_isPointed_3 : decode cX13_isPointed 3 = .ok (.istore 4, 2) := by decide +kernel
theorem dX13_isPointed_5 : decode cX13_isPointed 5 = .ok (.iload 4, 2) := by decide +kernel
theorem dX13_isPointed_7 : decode cX13_isPointed 7 = .ok (.aload_n 0, 1) := by decide +kernel
theorem dX13_isPointed_8 : decode cX13_isPointed 8 = .ok (.getfield 92, 3) := by decide +kernel
theorem dX13_isPointed_11 : decode cX13_isPointed 11 = .ok (.if_icmp .ge 52, 3) := by decide +kernel
theorem dX13_isPointed_14 : decode cX13_isPointed 14 = .ok (.iload_n 3, 1) := by decide +kernel
theorem dX13_isPointed_15 : decode cX13_isPointed 15 = .ok (.ifCond .ne 36, 3) := by decide +kernel
theorem dX13_isPointed_18 : decode cX13_isPointed 18 = .ok (.aload_n 0, 1) := by decide +kernel
theorem dX13_isPointed_19 : decode cX13_isPointed 19 = .ok (.getfield 33, 3) := by decide +kernel
theorem dX13_isPointed_22 : decode cX13_isPointed 22 = .ok (.iload 4, 2) := by decide +kernel
theorem dX13_isPointed_24 : decode cX13_isPointed 24 = .ok (.laload, 1) := by decide +kernel
theorem dX13_isPointed_25 : decode cX13_isPointed 25 = .ok (.iload_n 1, 1) := by decide +kernel
theorem dX13_isPointed_26 : decode cX13_isPointed 26 = .ok (.lshr, 1) := by decide +kernel
theorem dX13_isPointed_27 : decode cX13_isPointed 27 = .ok (.lconst 1, 1) := by decide +kernel
theorem dX13_isPointed_28 : decode cX13_isPointed 28 = .ok (.land, 1) := by decide +kernel
theorem dX13_isPointed_29 : decode cX13_isPointed 29 = .ok (.lconst 1, 1) := by decide +kernel
theorem dX13_isPointed_30 : decode cX13_isPointed 30 = .ok (.lcmp, 1) := by decide +kernel
theorem dX13_isPointed_31 : decode cX13_isPointed 31 = .ok (.ifCond .ne 24, 3) := by decide +kernel
theorem dX13_isPointed_34 : decode cX13_isPointed 34 = .ok (.iload_n 2, 1) := by decide +kernel
