theorem dX16_isRound_0 : decode cX16_isRound 0 = .ok (.iconst 0, 1) := by decide +kernel
theorem dX16_isRound_1 : decode cX16_isRound 1 = .ok (.istore_n 2, 1) := by decide +kernel
theorem dX16_isRound_2 : decode cX16_isRound 2 = .ok (.iload_n 2, 1) := by decide +kernel
theorem dX16_isRound_3 : decode cX16_isRound 3 = .ok (.aload_n 0, 1) := by decide +kernel
theorem dX16_isRound_4 : decode cX16_isRound 4 = .ok (.getfield 92, 3) := by decide +kernel
theorem dX16_isRound_7 : decode cX16_isRound 7 = .ok (.if_icmp .ge 16, 3) := by decide +kernel
theorem dX16_isRound_10 : decode cX16_isRound 10 = .ok (.aload_n 0, 1) := by decide +kernel
theorem dX16_isRound_11 : decode cX16_isRound 11 = .ok (.getfield 32, 3) := by decide +kernel
theorem dX16_isRound_14 : decode cX16_isRound 14 = .ok (.iload_n 2, 1) := by decide +kernel
theorem dX16_isRound_15 : decode cX16_isRound 15 = .ok (.iconst 0, 1) := by decide +kernel
theorem dX16_isRound_16 : decode cX16_isRound 16 = .ok (.bastore, 1) := by decide +kernel
theorem dX16_isRound_17 : decode cX16_isRound 17 = .ok (.iinc 2 1, 3) := by decide +kernel
theorem dX16_isRound_20 : decode cX16_isRound 20 = .ok (.goto (-18), 3) := by decide +kernel
theorem dX16_isRound_23 : decode cX16_isRound 23 = .ok (.aload_n 0, 1) := by decide +kernel
theorem dX16_isRound_24 : decode cX16_isRound 24 = .ok (.iload_n 1, 1) := by decide +kernel
theorem dX16_isRound_25 : decode cX16_isRound 25 = .ok (.invokevirtual 142, 3) := by decide +kernel
theorem dX16_isRound_28 : decode cX16_isRound 28 = .ok (.iconst 0, 1) := by decide +kernel
theorem dX16_isRound_29 : decode cX16_isRound 29 = .ok (.istore_n 2, 1) := by decide +kernel
theorem dX16_isRound_30 : decode cX16_isRound 30 = .ok (.iload_n 2, 1) := by decide +kernel
theorem dX16_isRound_31 : decode cX16_isRound 31 = .ok (.aload_n 0, 1) := by decide +kernel
theorem dX16_isRound_32 : decode cX16_isRound 32 = .ok (.getfield 92, 3) := by decide +kernel
theorem dX16_isRound_35 : decode cX16_isRound 35 = .ok (.if_icmp .ge 39, 3) := by decide +kernel
theorem dX16_isRound_38 : decode cX16_isRound 38 = .ok (.iconst 0, 1) := by decide +kernel
theorem dX16_isRound_39 : decode cX16_isRound 39 = .ok (.istore_n 3, 1) := by decide +kernel
theorem dX16_isRound_40 : decode cX16_isRound 40 = .ok (.iload_n 3, 1) := by decide +kernel
theorem dX16_isRound_41 : decode cX16_isRound 41 = .ok (.aload_n 0, 1) := by decide +kernel
theorem dX16_isRound_42 : decode cX16_isRound 42 = .ok (.getfield 92, 3) := by decide +kernel
theorem dX16_isRound_45 : decode cX16_isRound 45 = .ok (.if_icmp .ge 23, 3) := by decide +kernel
theorem dX16_isRound_48 : decode cX16_isRound 48 = .ok (.aload_n 0, 1) := by decide +kernel
theorem dX16_isRound_49 : decode cX16_isRound 49 = .ok (.getfield 32, 3) := by decide +kernel
theorem dX16_isRound_52 : decode cX16_isRound 52 = .ok (.iload_n 3, 1) := by decide +kernel
theorem dX16_isRound_53 : decode cX16_isRound 53 = .ok (.baload, 1) := by decide +kernel
theorem dX16_isRound_54 : decode cX16_isRound 54 = .ok (.ifCond .eq 8, 3) := by decide +kernel
theorem dX16_isRound_57 : decode cX16_isRound 57 = .ok (.aload_n 0, 1) := by decide +kernel
theorem dX16_isRound_58 : decode cX16_isRound 58 = .ok (.iload_n 3, 1) := by decide +kernel
theorem dX16_isRound_59 : decode cX16_isRound 59 = .ok (.invokevirtual 142, 3) := by decide +kernel
theorem dX16_isRound_62 : decode cX16_isRound 62 = .ok (.iinc 3 1, 3) := by decide +kernel
theorem dX16_isRound_65 : decode cX16_isRound 65 = .ok (.goto (-25), 3) := by decide +kernel
theorem dX16_isRound_68 : decode cX16_isRound 68 = .ok (.iinc 2 1, 3) := by decide +kernel
theorem dX16_isRound_71 : decode cX16_isRound 71 = .ok (.goto (-41), 3) := by decide +kernel
theorem dX16_isRound_74 : decode cX16_isRound 74 = .ok (.aload_n 0, 1) := by decide +kernel
theorem dX16_isRound_75 : decode cX16_isRound 75 = .ok (.getfield 32, 3) := by decide +kernel
theorem dX16_isRound_78 : decode cX16_isRound 78 = .ok (.iload_n 1, 1) := by decide +kernel
theorem dX16_isRound_79 : decode cX16_isRound 79 = .ok (.baload, 1) := by decide +kernel
theorem dX16_isRound_80 : decode cX16_isRound 80 = .ok (.ireturn, 1) := by decide +kernel
theorem dX16_reach_0 : decode cX16_reach 0 = .ok (.aload_n 0, 1) := by decide +kernel
theorem dX16_reach_1 : decode cX16_reach 1 = .ok (.getfield 13, 3) := by decide +kernel
theorem dX16_reach_4 : decode cX16_reach 4 = .ok (.iload_n 1, 1) := by decide +kernel
theorem dX16_reach_5 : decode cX16_reach 5 = .ok (.iaload, 1) := by decide +kernel
theorem dX16_reach_6 : decode cX16_reach 6 = .ok (.iconst 2, 1) := by decide +kernel
theorem dX16_reach_7 : decode cX16_reach 7 = .ok (.iadd, 1) := by decide +kernel
theorem dX16_reach_8 : decode cX16_reach 8 = .ok (.istore_n 2, 1) := by decide +kernel
theorem dX16_reach_9 : decode cX16_reach 9 = .ok (.iconst 0, 1) := by decide +kernel
theorem dX16_reach_10 : decode cX16_reach 10 = .ok (.istore_n 3, 1) := by decide +kernel
theorem dX16_reach_11 : decode cX16_reach 11 = .ok (.iload_n 3, 1) := by decide +kernel
theorem dX16_reach_12 : decode cX16_reach 12 = .ok (.aload_n 0, 1) := by decide +kernel
theorem dX16_reach_13 : decode cX16_reach 13 = .ok (.iload_n 1, 1) := by decide +kernel
theorem dX16_reach_14 : decode cX16_reach 14 = .ok (.invokevirtual 123, 3) := by decide +kernel
theorem dX16_reach_17 : decode cX16_reach 17 = .ok (.if_icmp .ge 34, 3) := by decide +kernel
theorem dX16_reach_20 : decode cX16_reach 20 = .ok (.aload_n 0, 1) := by decide +kernel
theorem dX16_reach_21 : decode cX16_reach 21 = .ok (.iload_n 2, 1) := by decide +kernel
theorem dX16_reach_22 : decode cX16_reach 22 = .ok (.invokevirtual 145, 3) := by decide +kernel
theorem dX16_reach_25 : decode cX16_reach 25 = .ok (.ifCond .lt 14, 3) := by decide +kernel
theorem dX16_reach_28 : decode cX16_reach 28 = .ok (.aload_n 0, 1) := by decide +kernel
theorem dX16_reach_29 : decode cX16_reach 29 = .ok (.getfield 32, 3) := by decide +kernel
theorem dX16_reach_32 : decode cX16_reach 32 = .ok (.aload_n 0, 1) := by decide +kernel
theorem dX16_reach_33 : decode cX16_reach 33 = .ok (.iload_n 2, 1) := by decide +kernel
theorem dX16_reach_34 : decode cX16_reach 34 = .ok (.invokevirtual 145, 3) := by decide +kernel
theorem dX16_reach_37 : decode cX16_reach 37 = .ok (.iconst 1, 1) := by decide +kernel
theorem dX16_reach_38 : decode cX16_reach 38 = .ok (.bastore, 1) := by decide +kernel
theorem dX16_reach_39 : decode cX16_reach 39 = .ok (.aload_n 0, 1) := by decide +kernel
theorem dX16_reach_40 : decode cX16_reach 40 = .ok (.iload_n 2, 1) := by decide +kernel
theorem dX16_reach_41 : decode cX16_reach 41 = .ok (.invokevirtual 110, 3) := by decide +kernel
theorem dX16_reach_44 : decode cX16_reach 44 = .ok (.istore_n 2, 1) := by decide +kernel
theorem dX16_reach_45 : decode cX16_reach 45 = .ok (.iinc 3 1, 3) := by decide +kernel
theorem dX16_reach_48 : decode cX16_reach 48 = .ok (.goto (-37), 3) := by decide +kernel
theorem dX16_reach_51 : decode cX16_reach 51 = .ok (.return_, 1) := by decide +kernel
theorem dX16_read_0 : decode cX16_read 0 = .ok (.aload_n 0, 1) := by decide +kernel
theorem dX16_read_1 : decode cX16_read 1 = .ok (.iload_n 3, 1) := by decide +kernel
theorem dX16_read_2 : decode cX16_read 2 = .ok (.putfield 43, 3) := by decide +kernel
theorem dX16_read_5 : decode cX16_read 5 = .ok (.iconst 0, 1) := by decide +kernel
theorem dX16_read_6 : decode cX16_read 6 = .ok (.istore 4, 2) := by decide +kernel
theorem dX16_read_8 : decode cX16_read 8 = .ok (.iload 4, 2) := by decide +kernel
theorem dX16_read_10 : decode cX16_read 10 = .ok (.iload_n 3, 1) := by decide +kernel
theorem dX16_read_11 : decode cX16_read 11 = .ok (.if_icmp .ge 22, 3) := by decide +kernel
theorem dX16_read_14 : decode cX16_read 14 = .ok (.aload_n 0, 1) := by decide +kernel
theorem dX16_read_15 : decode cX16_read 15 = .ok (.getfield 7, 3) := by decide +kernel
theorem dX16_read_18 : decode cX16_read 18 = .ok (.iload 4, 2) := by decide +kernel
theorem dX16_read_20 : decode cX16_read 20 = .ok (.aload_n 1, 1) := by decide +kernel
theorem dX16_read_21 : decode cX16_read 21 = .ok (.iload_n 2, 1) := by decide +kernel
theorem dX16_read_22 : decode cX16_read 22 = .ok (.iload 4, 2) := by decide +kernel
theorem dX16_read_24 : decode cX16_read 24 = .ok (.iadd, 1) := by decide +kernel
theorem dX16_read_25 : decode cX16_read 25 = .ok (.baload, 1) := by decide +kernel
theorem dX16_read_26 : decode cX16_read 26 = .ok (.bastore, 1) := by decide +kernel
theorem dX16_read_27 : decode cX16_read 27 = .ok (.iinc 4 1, 3) := by decide +kernel
theorem dX16_read_30 : decode cX16_read 30 = .ok (.goto (-22), 3) := by decide +kernel
theorem dX16_read_33 : decode cX16_read 33 = .ok (.aload_n 0, 1) := by decide +kernel
theorem dX16_read_34 : decode cX16_read 34 = .ok (.iconst 0, 1) := by decide +kernel
theorem dX16_read_35 : decode cX16_read 35 = .ok (.putfield 50, 3) := by decide +kernel
theorem dX16_read_38 : decode cX16_read 38 = .ok (.aload_n 0, 1) := by decide +kernel
theorem dX16_read_39 : decode cX16_read 39 = .ok (.iconst 0, 1) := by decide +kernel
theorem dX16_read_40 : decode cX16_read 40 = .ok (.putfield 36, 3) := by decide +kernel
theorem dX16_read_43 : decode cX16_read 43 = .ok (.aload_n 0, 1) := by decide +kernel
theorem dX16_read_44 : decode cX16_read 44 = .ok (.iconst 0, 1) := by decide +kernel
theorem dX16_read_45 : decode cX16_read 45 = .ok (.putfield 40, 3) := by decide +kernel
theorem dX16_read_48 : decode cX16_read 48 = .ok (.aload_n 0, 1) := by decide +kernel
theorem dX16_read_49 : decode cX16_read 49 = .ok (.iconst 0, 1) := by decide +kernel
theorem dX16_read_50 : decode cX16_read 50 = .ok (.putfield 72, 3) := by decide +kernel
theorem dX16_read_53 : decode cX16_read 53 = .ok (.aload_n 0, 1) := by decide +kernel
theorem dX16_read_54 : decode cX16_read 54 = .ok (.invokevirtual 148, 3) := by decide +kernel
theorem dX16_read_57 : decode cX16_read 57 = .ok (.aload_n 0, 1) := by decide +kernel
theorem dX16_read_58 : decode cX16_read 58 = .ok (.invokevirtual 60, 3) := by decide +kernel
theorem dX16_read_61 : decode cX16_read 61 = .ok (.ifCond .eq 7, 3) := by decide +kernel
theorem dX16_read_64 : decode cX16_read 64 = .ok (.aload_n 0, 1) := by decide +kernel
theorem dX16_read_65 : decode cX16_read 65 = .ok (.invokevirtual 151, 3) := by decide +kernel
theorem dX16_read_68 : decode cX16_read 68 = .ok (.iconst 0, 1) := by decide +kernel
theorem dX16_read_69 : decode cX16_read 69 = .ok (.istore 4, 2) := by decide +kernel
theorem dX16_read_71 : decode cX16_read 71 = .ok (.iload 4, 2) := by decide +kernel
theorem dX16_read_73 : decode cX16_read 73 = .ok (.aload_n 0, 1) := by decide +kernel
theorem dX16_read_74 : decode cX16_read 74 = .ok (.getfield 92, 3) := by decide +kernel
theorem dX16_read_77 : decode cX16_read 77 = .ok (.if_icmp .ge 38, 3) := by decide +kernel
theorem dX16_read_80 : decode cX16_read 80 = .ok (.aload_n 0, 1) := by decide +kernel
theorem dX16_read_81 : decode cX16_read 81 = .ok (.invokevirtual 60, 3) := by decide +kernel
theorem dX16_read_84 : decode cX16_read 84 = .ok (.ifCond .eq 31, 3) := by decide +kernel
theorem dX16_read_87 : decode cX16_read 87 = .ok (.aload_n 0, 1) := by decide +kernel
theorem dX16_read_88 : decode cX16_read 88 = .ok (.iload 4, 2) := by decide +kernel
theorem dX16_read_90 : decode cX16_read 90 = .ok (.invokevirtual 154, 3) := by decide +kernel
theorem dX16_read_93 : decode cX16_read 93 = .ok (.ifCond .eq 16, 3) := by decide +kernel
theorem dX16_read_96 : decode cX16_read 96 = .ok (.aload_n 0, 1) := by decide +kernel
theorem dX16_read_97 : decode cX16_read 97 = .ok (.bipush 14, 2) := by decide +kernel
theorem dX16_read_99 : decode cX16_read 99 = .ok (.aload_n 0, 1) := by decide +kernel
theorem dX16_read_100 : decode cX16_read 100 = .ok (.getfield 13, 3) := by decide +kernel
theorem dX16_read_103 : decode cX16_read 103 = .ok (.iload 4, 2) := by decide +kernel
theorem dX16_read_105 : decode cX16_read 105 = .ok (.iaload, 1) := by decide +kernel
theorem dX16_read_106 : decode cX16_read 106 = .ok (.invokevirtual 53, 3) := by decide +kernel
theorem dX16_read_109 : decode cX16_read 109 = .ok (.iinc 4 1, 3) := by decide +kernel
theorem dX16_read_112 : decode cX16_read 112 = .ok (.goto (-41), 3) := by decide +kernel
theorem dX16_read_115 : decode cX16_read 115 = .ok (.aload_n 0, 1) := by decide +kernel
theorem dX16_read_116 : decode cX16_read 116 = .ok (.getfield 36, 3) := by decide +kernel
theorem dX16_read_119 : decode cX16_read 119 = .ok (.ireturn, 1) := by decide +kernel
theorem dX16_number_0 : decode cX16_number 0 = .ok (.aload_n 0, 1) := by decide +kernel
theorem dX16_number_1 : decode cX16_number 1 = .ok (.iconst 4, 1) := by decide +kernel
theorem dX16_number_2 : decode cX16_number 2 = .ok (.invokevirtual 82, 3) := by decide +kernel
theorem dX16_number_5 : decode cX16_number 5 = .ok (.ireturn, 1) := by decide +kernel
theorem dX16_structureCount_0 : decode cX16_structureCount 0 = .ok (.aload_n 0, 1) := by decide +kernel
theorem dX16_structureCount_1 : decode cX16_structureCount 1 = .ok (.getfield 92, 3) := by decide +kernel
theorem dX16_structureCount_4 : decode cX16_structureCount 4 = .ok (.aload_n 0, 1) := by decide +kernel
theorem dX16_structureCount_5 : decode cX16_structureCount 5 = .ok (.getfield 95, 3) := by decide +kernel
theorem dX16_structureCount_8 : decode cX16_structureCount 8 = .ok (.iadd, 1) := by decide +kernel
theorem dX16_structureCount_9 : decode cX16_structureCount 9 = .ok (.ireturn, 1) := by decide +kernel
theorem dX16_abilitiesOf_0 : decode cX16_abilitiesOf 0 = .ok (.aload_n 0, 1) := by decide +kernel
theorem dX16_abilitiesOf_1 : decode cX16_abilitiesOf 1 = .ok (.aload_n 0, 1) := by decide +kernel
theorem dX16_abilitiesOf_2 : decode cX16_abilitiesOf 2 = .ok (.getfield 13, 3) := by decide +kernel
theorem dX16_abilitiesOf_5 : decode cX16_abilitiesOf 5 = .ok (.iload_n 1, 1) := by decide +kernel
theorem dX16_abilitiesOf_6 : decode cX16_abilitiesOf 6 = .ok (.iaload, 1) := by decide +kernel
theorem dX16_abilitiesOf_7 : decode cX16_abilitiesOf 7 = .ok (.iload_n 1, 1) := by decide +kernel
theorem dX16_abilitiesOf_8 : decode cX16_abilitiesOf 8 = .ok (.aload_n 0, 1) := by decide +kernel
theorem dX16_abilitiesOf_9 : decode cX16_abilitiesOf 9 = .ok (.getfield 92, 3) := by decide +kernel
theorem dX16_abilitiesOf_12 : decode cX16_abilitiesOf 12 = .ok (.if_icmp .ge 7, 3) := by decide +kernel
theorem dX16_abilitiesOf_15 : decode cX16_abilitiesOf 15 = .ok (.iconst 0, 1) := by decide +kernel
theorem dX16_abilitiesOf_16 : decode cX16_abilitiesOf 16 = .ok (.goto 4, 3) := by decide +kernel
theorem dX16_abilitiesOf_19 : decode cX16_abilitiesOf 19 = .ok (.iconst 3, 1) := by decide +kernel
theorem dX16_abilitiesOf_20 : decode cX16_abilitiesOf 20 = .ok (.iadd, 1) := by decide +kernel
theorem dX16_abilitiesOf_21 : decode cX16_abilitiesOf 21 = .ok (.invokevirtual 46, 3) := by decide +kernel
theorem dX16_abilitiesOf_24 : decode cX16_abilitiesOf 24 = .ok (.ireturn, 1) := by decide +kernel
theorem dX16_identity_0 : decode cX16_identity 0 = .ok (.aload_n 0, 1) := by decide +kernel
theorem dX16_identity_1 : decode cX16_identity 1 = .ok (.getfield 13, 3) := by decide +kernel
theorem dX16_identity_4 : decode cX16_identity 4 = .ok (.iload_n 1, 1) := by decide +kernel
theorem dX16_identity_5 : decode cX16_identity 5 = .ok (.iaload, 1) := by decide +kernel
theorem dX16_identity_6 : decode cX16_identity 6 = .ok (.istore_n 2, 1) := by decide +kernel
theorem dX16_identity_7 : decode cX16_identity 7 = .ok (.iload_n 1, 1) := by decide +kernel
theorem dX16_identity_8 : decode cX16_identity 8 = .ok (.aload_n 0, 1) := by decide +kernel
theorem dX16_identity_9 : decode cX16_identity 9 = .ok (.getfield 92, 3) := by decide +kernel
theorem dX16_identity_12 : decode cX16_identity 12 = .ok (.if_icmp .ge 16, 3) := by decide +kernel
theorem dX16_identity_15 : decode cX16_identity 15 = .ok (.sipush 256, 3) := by decide +kernel
theorem dX16_identity_18 : decode cX16_identity 18 = .ok (.aload_n 0, 1) := by decide +kernel
theorem dX16_identity_19 : decode cX16_identity 19 = .ok (.invokevirtual 157, 3) := by decide +kernel
theorem dX16_identity_22 : decode cX16_identity 22 = .ok (.imul, 1) := by decide +kernel
theorem dX16_identity_23 : decode cX16_identity 23 = .ok (.iload_n 1, 1) := by decide +kernel
theorem dX16_identity_24 : decode cX16_identity 24 = .ok (.iadd, 1) := by decide +kernel
theorem dX16_identity_25 : decode cX16_identity 25 = .ok (.goto 20, 3) := by decide +kernel
theorem dX16_identity_28 : decode cX16_identity 28 = .ok (.sipush 256, 3) := by decide +kernel
theorem dX16_identity_31 : decode cX16_identity 31 = .ok (.aload_n 0, 1) := by decide +kernel
theorem dX16_identity_32 : decode cX16_identity 32 = .ok (.iload_n 2, 1) := by decide +kernel
theorem dX16_identity_33 : decode cX16_identity 33 = .ok (.invokevirtual 82, 3) := by decide +kernel
theorem dX16_identity_36 : decode cX16_identity 36 = .ok (.imul, 1) := by decide +kernel
theorem dX16_identity_37 : decode cX16_identity 37 = .ok (.aload_n 0, 1) := by decide +kernel
theorem dX16_identity_38 : decode cX16_identity 38 = .ok (.iload_n 2, 1) := by decide +kernel
theorem dX16_identity_39 : decode cX16_identity 39 = .ok (.iconst 2, 1) := by decide +kernel
theorem dX16_identity_40 : decode cX16_identity 40 = .ok (.iadd, 1) := by decide +kernel
theorem dX16_identity_41 : decode cX16_identity 41 = .ok (.invokevirtual 46, 3) := by decide +kernel
theorem dX16_identity_44 : decode cX16_identity 44 = .ok (.iadd, 1) := by decide +kernel
theorem dX16_identity_45 : decode cX16_identity 45 = .ok (.ireturn, 1) := by decide +kernel
theorem dX16_typeAt_0 : decode cX16_typeAt 0 = .ok (.lconst 0, 1) := by decide +kernel
theorem dX16_typeAt_1 : decode cX16_typeAt 1 = .ok (.lstore_n 2, 1) := by decide +kernel
theorem dX16_typeAt_2 : decode cX16_typeAt 2 = .ok (.iload_n 1, 1) := by decide +kernel
theorem dX16_typeAt_3 : decode cX16_typeAt 3 = .ok (.istore 4, 2) := by decide +kernel
theorem dX16_typeAt_5 : decode cX16_typeAt 5 = .ok (.iload 4, 2) := by decide +kernel
theorem dX16_typeAt_7 : decode cX16_typeAt 7 = .ok (.aload_n 0, 1) := by decide +kernel
theorem dX16_typeAt_8 : decode cX16_typeAt 8 = .ok (.iload_n 1, 1) := by decide +kernel
theorem dX16_typeAt_9 : decode cX16_typeAt 9 = .ok (.invokevirtual 110, 3) := by decide +kernel
theorem dX16_typeAt_12 : decode cX16_typeAt 12 = .ok (.if_icmp .ge 23, 3) := by decide +kernel
theorem dX16_typeAt_15 : decode cX16_typeAt 15 = .ok (.ldc2_w 161, 3) := by decide +kernel
theorem dX16_typeAt_18 : decode cX16_typeAt 18 = .ok (.lload_n 2, 1) := by decide +kernel
theorem dX16_typeAt_19 : decode cX16_typeAt 19 = .ok (.lmul, 1) := by decide +kernel
theorem dX16_typeAt_20 : decode cX16_typeAt 20 = .ok (.aload_n 0, 1) := by decide +kernel
theorem dX16_typeAt_21 : decode cX16_typeAt 21 = .ok (.iload 4, 2) := by decide +kernel
theorem dX16_typeAt_23 : decode cX16_typeAt 23 = .ok (.invokevirtual 46, 3) := by decide +kernel
theorem dX16_typeAt_26 : decode cX16_typeAt 26 = .ok (.i2l, 1) := by decide +kernel
theorem dX16_typeAt_27 : decode cX16_typeAt 27 = .ok (.ladd, 1) := by decide +kernel
theorem dX16_typeAt_28 : decode cX16_typeAt 28 = .ok (.lstore_n 2, 1) := by decide +kernel
theorem dX16_typeAt_29 : decode cX16_typeAt 29 = .ok (.iinc 4 1, 3) := by decide +kernel
theorem dX16_typeAt_32 : decode cX16_typeAt 32 = .ok (.goto (-27), 3) := by decide +kernel
theorem dX16_typeAt_35 : decode cX16_typeAt 35 = .ok (.lload_n 2, 1) := by decide +kernel
theorem dX16_typeAt_36 : decode cX16_typeAt 36 = .ok (.lreturn, 1) := by decide +kernel
theorem dX16_field_0 : decode cX16_field 0 = .ok (.aload_n 0, 1) := by decide +kernel
theorem dX16_field_1 : decode cX16_field 1 = .ok (.getfield 13, 3) := by decide +kernel
theorem dX16_field_4 : decode cX16_field 4 = .ok (.iload_n 1, 1) := by decide +kernel
theorem dX16_field_5 : decode cX16_field 5 = .ok (.iaload, 1) := by decide +kernel
theorem dX16_field_6 : decode cX16_field 6 = .ok (.iconst 2, 1) := by decide +kernel
theorem dX16_field_7 : decode cX16_field 7 = .ok (.iadd, 1) := by decide +kernel
theorem dX16_field_8 : decode cX16_field 8 = .ok (.istore_n 3, 1) := by decide +kernel
theorem dX16_field_9 : decode cX16_field 9 = .ok (.iconst 0, 1) := by decide +kernel
theorem dX16_field_10 : decode cX16_field 10 = .ok (.istore 4, 2) := by decide +kernel
theorem dX16_field_12 : decode cX16_field 12 = .ok (.iload 4, 2) := by decide +kernel
theorem dX16_field_14 : decode cX16_field 14 = .ok (.iload_n 2, 1) := by decide +kernel
theorem dX16_field_15 : decode cX16_field 15 = .ok (.if_icmp .ge 15, 3) := by decide +kernel
theorem dX16_field_18 : decode cX16_field 18 = .ok (.aload_n 0, 1) := by decide +kernel
theorem dX16_field_19 : decode cX16_field 19 = .ok (.iload_n 3, 1) := by decide +kernel
theorem dX16_field_20 : decode cX16_field 20 = .ok (.invokevirtual 110, 3) := by decide +kernel
theorem dX16_field_23 : decode cX16_field 23 = .ok (.istore_n 3, 1) := by decide +kernel
theorem dX16_field_24 : decode cX16_field 24 = .ok (.iinc 4 1, 3) := by decide +kernel
theorem dX16_field_27 : decode cX16_field 27 = .ok (.goto (-15), 3) := by decide +kernel
theorem dX16_field_30 : decode cX16_field 30 = .ok (.aload_n 0, 1) := by decide +kernel
theorem dX16_field_31 : decode cX16_field 31 = .ok (.iload_n 3, 1) := by decide +kernel
theorem dX16_field_32 : decode cX16_field 32 = .ok (.invokevirtual 163, 3) := by decide +kernel
theorem dX16_field_35 : decode cX16_field 35 = .ok (.lreturn, 1) := by decide +kernel
theorem dX16_functionCount_0 : decode cX16_functionCount 0 = .ok (.aload_n 0, 1) := by decide +kernel
theorem dX16_functionCount_1 : decode cX16_functionCount 1 = .ok (.getfield 104, 3) := by decide +kernel
theorem dX16_functionCount_4 : decode cX16_functionCount 4 = .ok (.aload_n 0, 1) := by decide +kernel
theorem dX16_functionCount_5 : decode cX16_functionCount 5 = .ok (.getfield 98, 3) := by decide +kernel
theorem dX16_functionCount_8 : decode cX16_functionCount 8 = .ok (.iadd, 1) := by decide +kernel
theorem dX16_functionCount_9 : decode cX16_functionCount 9 = .ok (.ireturn, 1) := by decide +kernel
theorem dX16_flags_0 : decode cX16_flags 0 = .ok (.iload_n 1, 1) := by decide +kernel
theorem dX16_flags_1 : decode cX16_flags 1 = .ok (.aload_n 0, 1) := by decide +kernel
theorem dX16_flags_2 : decode cX16_flags 2 = .ok (.getfield 104, 3) := by decide +kernel
theorem dX16_flags_5 : decode cX16_flags 5 = .ok (.if_icmp .ge 16, 3) := by decide +kernel
theorem dX16_flags_8 : decode cX16_flags 8 = .ok (.aload_n 0, 1) := by decide +kernel
theorem dX16_flags_9 : decode cX16_flags 9 = .ok (.aload_n 0, 1) := by decide +kernel
theorem dX16_flags_10 : decode cX16_flags 10 = .ok (.getfield 23, 3) := by decide +kernel
theorem dX16_flags_13 : decode cX16_flags 13 = .ok (.iload_n 1, 1) := by decide +kernel
theorem dX16_flags_14 : decode cX16_flags 14 = .ok (.iaload, 1) := by decide +kernel
theorem dX16_flags_15 : decode cX16_flags 15 = .ok (.invokevirtual 46, 3) := by decide +kernel
theorem dX16_flags_18 : decode cX16_flags 18 = .ok (.goto 20, 3) := by decide +kernel
theorem dX16_flags_21 : decode cX16_flags 21 = .ok (.aload_n 0, 1) := by decide +kernel
theorem dX16_flags_22 : decode cX16_flags 22 = .ok (.aload_n 0, 1) := by decide +kernel
theorem dX16_flags_23 : decode cX16_flags 23 = .ok (.getfield 17, 3) := by decide +kernel
theorem dX16_flags_26 : decode cX16_flags 26 = .ok (.iload_n 1, 1) := by decide +kernel
theorem dX16_flags_27 : decode cX16_flags 27 = .ok (.aload_n 0, 1) := by decide +kernel
theorem dX16_flags_28 : decode cX16_flags 28 = .ok (.getfield 104, 3) := by decide +kernel
theorem dX16_flags_31 : decode cX16_flags 31 = .ok (.isub, 1) := by decide +kernel
theorem dX16_flags_32 : decode cX16_flags 32 = .ok (.iaload, 1) := by decide +kernel
theorem dX16_flags_33 : decode cX16_flags 33 = .ok (.iconst 3, 1) := by decide +kernel
theorem dX16_flags_34 : decode cX16_flags 34 = .ok (.iadd, 1) := by decide +kernel
theorem dX16_flags_35 : decode cX16_flags 35 = .ok (.invokevirtual 46, 3) := by decide +kernel
theorem dX16_flags_38 : decode cX16_flags 38 = .ok (.ireturn, 1) := by decide +kernel
theorem dX16_listOf_0 : decode cX16_listOf 0 = .ok (.iload_n 1, 1) := by decide +kernel
theorem dX16_listOf_1 : decode cX16_listOf 1 = .ok (.aload_n 0, 1) := by decide +kernel
theorem dX16_listOf_2 : decode cX16_listOf 2 = .ok (.getfield 104, 3) := by decide +kernel
theorem dX16_listOf_5 : decode cX16_listOf 5 = .ok (.if_icmp .ge 10, 3) := by decide +kernel
theorem dX16_listOf_8 : decode cX16_listOf 8 = .ok (.aload_n 0, 1) := by decide +kernel
theorem dX16_listOf_9 : decode cX16_listOf 9 = .ok (.iload_n 1, 1) := by decide +kernel
theorem dX16_listOf_10 : decode cX16_listOf 10 = .ok (.iload_n 2, 1) := by decide +kernel
theorem dX16_listOf_11 : decode cX16_listOf 11 = .ok (.invokevirtual 139, 3) := by decide +kernel
theorem dX16_listOf_14 : decode cX16_listOf 14 = .ok (.ireturn, 1) := by decide +kernel
theorem dX16_listOf_15 : decode cX16_listOf 15 = .ok (.aload_n 0, 1) := by decide +kernel
theorem dX16_listOf_16 : decode cX16_listOf 16 = .ok (.getfield 17, 3) := by decide +kernel
theorem dX16_listOf_19 : decode cX16_listOf 19 = .ok (.iload_n 1, 1) := by decide +kernel
theorem dX16_listOf_20 : decode cX16_listOf 20 = .ok (.aload_n 0, 1) := by decide +kernel
theorem dX16_listOf_21 : decode cX16_listOf 21 = .ok (.getfield 104, 3) := by decide +kernel
theorem dX16_listOf_24 : decode cX16_listOf 24 = .ok (.isub, 1) := by decide +kernel
theorem dX16_listOf_25 : decode cX16_listOf 25 = .ok (.iaload, 1) := by decide +kernel
theorem dX16_listOf_26 : decode cX16_listOf 26 = .ok (.iconst 4, 1) := by decide +kernel
theorem dX16_listOf_27 : decode cX16_listOf 27 = .ok (.iadd, 1) := by decide +kernel
theorem dX16_listOf_28 : decode cX16_listOf 28 = .ok (.istore_n 3, 1) := by decide +kernel
theorem dX16_listOf_29 : decode cX16_listOf 29 = .ok (.iload_n 2, 1) := by decide +kernel
theorem dX16_listOf_30 : decode cX16_listOf 30 = .ok (.ifCond .ne 7, 3) := by decide +kernel
theorem dX16_listOf_33 : decode cX16_listOf 33 = .ok (.iload_n 3, 1) := by decide +kernel
theorem dX16_listOf_34 : decode cX16_listOf 34 = .ok (.goto 8, 3) := by decide +kernel
theorem dX16_listOf_37 : decode cX16_listOf 37 = .ok (.aload_n 0, 1) := by decide +kernel
theorem dX16_listOf_38 : decode cX16_listOf 38 = .ok (.iload_n 3, 1) := by decide +kernel
theorem dX16_listOf_39 : decode cX16_listOf 39 = .ok (.invokevirtual 136, 3) := by decide +kernel
theorem dX16_listOf_42 : decode cX16_listOf 42 = .ok (.ireturn, 1) := by decide +kernel
theorem dX16_many_0 : decode cX16_many 0 = .ok (.iload_n 1, 1) := by decide +kernel
theorem dX16_many_1 : decode cX16_many 1 = .ok (.aload_n 0, 1) := by decide +kernel
theorem dX16_many_2 : decode cX16_many 2 = .ok (.getfield 104, 3) := by decide +kernel
theorem dX16_many_5 : decode cX16_many 5 = .ok (.if_icmp .lt 12, 3) := by decide +kernel
theorem dX16_many_8 : decode cX16_many 8 = .ok (.iload_n 2, 1) := by decide +kernel
theorem dX16_many_9 : decode cX16_many 9 = .ok (.iconst 2, 1) := by decide +kernel
theorem dX16_many_10 : decode cX16_many 10 = .ok (.if_icmp .ne 7, 3) := by decide +kernel
theorem dX16_many_13 : decode cX16_many 13 = .ok (.iconst 0, 1) := by decide +kernel
theorem dX16_many_14 : decode cX16_many 14 = .ok (.goto 13, 3) := by decide +kernel
theorem dX16_many_17 : decode cX16_many 17 = .ok (.aload_n 0, 1) := by decide +kernel
theorem dX16_many_18 : decode cX16_many 18 = .ok (.aload_n 0, 1) := by decide +kernel
theorem dX16_many_19 : decode cX16_many 19 = .ok (.iload_n 1, 1) := by decide +kernel
theorem dX16_many_20 : decode cX16_many 20 = .ok (.iload_n 2, 1) := by decide +kernel
theorem dX16_many_21 : decode cX16_many 21 = .ok (.invokevirtual 167, 3) := by decide +kernel
theorem dX16_many_24 : decode cX16_many 24 = .ok (.invokevirtual 46, 3) := by decide +kernel
theorem dX16_many_27 : decode cX16_many 27 = .ok (.ireturn, 1) := by decide +kernel
theorem dX16_listed_0 : decode cX16_listed 0 = .ok (.aload_n 0, 1) := by decide +kernel
theorem dX16_listed_1 : decode cX16_listed 1 = .ok (.iload_n 1, 1) := by decide +kernel
theorem dX16_listed_2 : decode cX16_listed 2 = .ok (.iload_n 2, 1) := by decide +kernel
theorem dX16_listed_3 : decode cX16_listed 3 = .ok (.invokevirtual 167, 3) := by decide +kernel
theorem dX16_listed_6 : decode cX16_listed 6 = .ok (.iconst 1, 1) := by decide +kernel
theorem dX16_listed_7 : decode cX16_listed 7 = .ok (.iadd, 1) := by decide +kernel
theorem dX16_listed_8 : decode cX16_listed 8 = .ok (.istore 4, 2) := by decide +kernel
theorem dX16_listed_10 : decode cX16_listed 10 = .ok (.iconst 0, 1) := by decide +kernel
theorem dX16_listed_11 : decode cX16_listed 11 = .ok (.istore 5, 2) := by decide +kernel
theorem dX16_listed_13 : decode cX16_listed 13 = .ok (.iload 5, 2) := by decide +kernel
theorem dX16_listed_15 : decode cX16_listed 15 = .ok (.iload_n 3, 1) := by decide +kernel
theorem dX16_listed_16 : decode cX16_listed 16 = .ok (.if_icmp .ge 17, 3) := by decide +kernel
theorem dX16_listed_19 : decode cX16_listed 19 = .ok (.aload_n 0, 1) := by decide +kernel
theorem dX16_listed_20 : decode cX16_listed 20 = .ok (.iload 4, 2) := by decide +kernel
theorem dX16_listed_22 : decode cX16_listed 22 = .ok (.invokevirtual 110, 3) := by decide +kernel
theorem dX16_listed_25 : decode cX16_listed 25 = .ok (.istore 4, 2) := by decide +kernel
theorem dX16_listed_27 : decode cX16_listed 27 = .ok (.iinc 5 1, 3) := by decide +kernel
theorem dX16_listed_30 : decode cX16_listed 30 = .ok (.goto (-17), 3) := by decide +kernel
theorem dX16_listed_33 : decode cX16_listed 33 = .ok (.aload_n 0, 1) := by decide +kernel
theorem dX16_listed_34 : decode cX16_listed 34 = .ok (.iload 4, 2) := by decide +kernel
theorem dX16_listed_36 : decode cX16_listed 36 = .ok (.invokevirtual 163, 3) := by decide +kernel
theorem dX16_listed_39 : decode cX16_listed 39 = .ok (.lreturn, 1) := by decide +kernel
theorem dX16_foreignModule_0 : decode cX16_foreignModule 0 = .ok (.aload_n 0, 1) := by decide +kernel
theorem dX16_foreignModule_1 : decode cX16_foreignModule 1 = .ok (.aload_n 0, 1) := by decide +kernel
theorem dX16_foreignModule_2 : decode cX16_foreignModule 2 = .ok (.getfield 17, 3) := by decide +kernel
theorem dX16_foreignModule_5 : decode cX16_foreignModule 5 = .ok (.iload_n 1, 1) := by decide +kernel
theorem dX16_foreignModule_6 : decode cX16_foreignModule 6 = .ok (.aload_n 0, 1) := by decide +kernel
theorem dX16_foreignModule_7 : decode cX16_foreignModule 7 = .ok (.getfield 104, 3) := by decide +kernel
theorem dX16_foreignModule_10 : decode cX16_foreignModule 10 = .ok (.isub, 1) := by decide +kernel
theorem dX16_foreignModule_11 : decode cX16_foreignModule 11 = .ok (.iaload, 1) := by decide +kernel
theorem dX16_foreignModule_12 : decode cX16_foreignModule 12 = .ok (.invokevirtual 82, 3) := by decide +kernel
theorem dX16_foreignModule_15 : decode cX16_foreignModule 15 = .ok (.ireturn, 1) := by decide +kernel
theorem dX16_foreignNumber_0 : decode cX16_foreignNumber 0 = .ok (.aload_n 0, 1) := by decide +kernel
theorem dX16_foreignNumber_1 : decode cX16_foreignNumber 1 = .ok (.aload_n 0, 1) := by decide +kernel
theorem dX16_foreignNumber_2 : decode cX16_foreignNumber 2 = .ok (.getfield 17, 3) := by decide +kernel
theorem dX16_foreignNumber_5 : decode cX16_foreignNumber 5 = .ok (.iload_n 1, 1) := by decide +kernel
theorem dX16_foreignNumber_6 : decode cX16_foreignNumber 6 = .ok (.aload_n 0, 1) := by decide +kernel
theorem dX16_foreignNumber_7 : decode cX16_foreignNumber 7 = .ok (.getfield 104, 3) := by decide +kernel
theorem dX16_foreignNumber_10 : decode cX16_foreignNumber 10 = .ok (.isub, 1) := by decide +kernel
theorem dX16_foreignNumber_11 : decode cX16_foreignNumber 11 = .ok (.iaload, 1) := by decide +kernel
theorem dX16_foreignNumber_12 : decode cX16_foreignNumber 12 = .ok (.iconst 2, 1) := by decide +kernel
theorem dX16_foreignNumber_13 : decode cX16_foreignNumber 13 = .ok (.iadd, 1) := by decide +kernel
theorem dX16_foreignNumber_14 : decode cX16_foreignNumber 14 = .ok (.invokevirtual 46, 3) := by decide +kernel
theorem dX16_foreignNumber_17 : decode cX16_foreignNumber 17 = .ok (.ireturn, 1) := by decide +kernel
theorem dX16_element_0 : decode cX16_element 0 = .ok (.aload_n 0, 1) := by decide +kernel
theorem dX16_element_1 : decode cX16_element 1 = .ok (.aload_n 0, 1) := by decide +kernel
theorem dX16_element_2 : decode cX16_element 2 = .ok (.getfield 20, 3) := by decide +kernel
theorem dX16_element_5 : decode cX16_element 5 = .ok (.iload_n 1, 1) := by decide +kernel
theorem dX16_element_6 : decode cX16_element 6 = .ok (.iaload, 1) := by decide +kernel
theorem dX16_element_7 : decode cX16_element 7 = .ok (.invokevirtual 163, 3) := by decide +kernel
theorem dX16_element_10 : decode cX16_element 10 = .ok (.lreturn, 1) := by decide +kernel
theorem dX16_instructions_0 : decode cX16_instructions 0 = .ok (.aload_n 0, 1) := by decide +kernel
theorem dX16_instructions_1 : decode cX16_instructions 1 = .ok (.getfield 26, 3) := by decide +kernel
theorem dX16_instructions_4 : decode cX16_instructions 4 = .ok (.iload_n 1, 1) := by decide +kernel
theorem dX16_instructions_5 : decode cX16_instructions 5 = .ok (.iconst 1, 1) := by decide +kernel
theorem dX16_instructions_6 : decode cX16_instructions 6 = .ok (.iadd, 1) := by decide +kernel
theorem dX16_instructions_7 : decode cX16_instructions 7 = .ok (.iaload, 1) := by decide +kernel
theorem dX16_instructions_8 : decode cX16_instructions 8 = .ok (.aload_n 0, 1) := by decide +kernel
theorem dX16_instructions_9 : decode cX16_instructions 9 = .ok (.getfield 26, 3) := by decide +kernel
theorem dX16_instructions_12 : decode cX16_instructions 12 = .ok (.iload_n 1, 1) := by decide +kernel
theorem dX16_instructions_13 : decode cX16_instructions 13 = .ok (.iaload, 1) := by decide +kernel
theorem dX16_instructions_14 : decode cX16_instructions 14 = .ok (.isub, 1) := by decide +kernel
theorem dX16_instructions_15 : decode cX16_instructions 15 = .ok (.ireturn, 1) := by decide +kernel
theorem dX16_operation_0 : decode cX16_operation 0 = .ok (.aload_n 0, 1) := by decide +kernel
theorem dX16_operation_1 : decode cX16_operation 1 = .ok (.aload_n 0, 1) := by decide +kernel
theorem dX16_operation_2 : decode cX16_operation 2 = .ok (.getfield 29, 3) := by decide +kernel
theorem dX16_operation_5 : decode cX16_operation 5 = .ok (.aload_n 0, 1) := by decide +kernel
theorem dX16_operation_6 : decode cX16_operation 6 = .ok (.getfield 26, 3) := by decide +kernel
theorem dX16_operation_9 : decode cX16_operation 9 = .ok (.iload_n 1, 1) := by decide +kernel
theorem dX16_operation_10 : decode cX16_operation 10 = .ok (.iaload, 1) := by decide +kernel
theorem dX16_operation_11 : decode cX16_operation 11 = .ok (.iload_n 2, 1) := by decide +kernel
theorem dX16_operation_12 : decode cX16_operation 12 = .ok (.iadd, 1) := by decide +kernel
theorem dX16_operation_13 : decode cX16_operation 13 = .ok (.iaload, 1) := by decide +kernel
theorem dX16_operation_14 : decode cX16_operation 14 = .ok (.invokevirtual 46, 3) := by decide +kernel
theorem dX16_operation_17 : decode cX16_operation 17 = .ok (.ireturn, 1) := by decide +kernel
theorem dX16_number__0 : decode cX16_number_ 0 = .ok (.lconst 0, 1) := by decide +kernel
theorem dX16_number__1 : decode cX16_number_ 1 = .ok (.lstore_n 3, 1) := by decide +kernel
theorem dX16_number__2 : decode cX16_number_ 2 = .ok (.iload_n 1, 1) := by decide +kernel
theorem dX16_number__3 : decode cX16_number_ 3 = .ok (.istore 5, 2) := by decide +kernel
theorem dX16_number__5 : decode cX16_number_ 5 = .ok (.iload 5, 2) := by decide +kernel
theorem dX16_number__7 : decode cX16_number_ 7 = .ok (.iload_n 1, 1) := by decide +kernel
theorem dX16_number__8 : decode cX16_number_ 8 = .ok (.iload_n 2, 1) := by decide +kernel
theorem dX16_number__9 : decode cX16_number_ 9 = .ok (.iadd, 1) := by decide +kernel
theorem dX16_number__10 : decode cX16_number_ 10 = .ok (.if_icmp .ge 23, 3) := by decide +kernel
theorem dX16_number__13 : decode cX16_number_ 13 = .ok (.ldc2_w 161, 3) := by decide +kernel
theorem dX16_number__16 : decode cX16_number_ 16 = .ok (.lload_n 3, 1) := by decide +kernel
theorem dX16_number__17 : decode cX16_number_ 17 = .ok (.lmul, 1) := by decide +kernel
theorem dX16_number__18 : decode cX16_number_ 18 = .ok (.aload_n 0, 1) := by decide +kernel
theorem dX16_number__19 : decode cX16_number_ 19 = .ok (.iload 5, 2) := by decide +kernel
theorem dX16_number__21 : decode cX16_number_ 21 = .ok (.invokevirtual 46, 3) := by decide +kernel
theorem dX16_number__24 : decode cX16_number_ 24 = .ok (.i2l, 1) := by decide +kernel
theorem dX16_number__25 : decode cX16_number_ 25 = .ok (.ladd, 1) := by decide +kernel
theorem dX16_number__26 : decode cX16_number_ 26 = .ok (.lstore_n 3, 1) := by decide +kernel
theorem dX16_number__27 : decode cX16_number_ 27 = .ok (.iinc 5 1, 3) := by decide +kernel
theorem dX16_number__30 : decode cX16_number_ 30 = .ok (.goto (-25), 3) := by decide +kernel
theorem dX16_number__33 : decode cX16_number_ 33 = .ok (.lload_n 3, 1) := by decide +kernel
theorem dX16_number__34 : decode cX16_number_ 34 = .ok (.lreturn, 1) := by decide +kernel
theorem dX16_operand_0 : decode cX16_operand 0 = .ok (.aload_n 0, 1) := by decide +kernel
theorem dX16_operand_1 : decode cX16_operand 1 = .ok (.getfield 29, 3) := by decide +kernel
theorem dX16_operand_4 : decode cX16_operand 4 = .ok (.aload_n 0, 1) := by decide +kernel
theorem dX16_operand_5 : decode cX16_operand 5 = .ok (.getfield 26, 3) := by decide +kernel
theorem dX16_operand_8 : decode cX16_operand 8 = .ok (.iload_n 1, 1) := by decide +kernel
theorem dX16_operand_9 : decode cX16_operand 9 = .ok (.iaload, 1) := by decide +kernel
theorem dX16_operand_10 : decode cX16_operand 10 = .ok (.iload_n 2, 1) := by decide +kernel
theorem dX16_operand_11 : decode cX16_operand 11 = .ok (.iadd, 1) := by decide +kernel
theorem dX16_operand_12 : decode cX16_operand 12 = .ok (.iaload, 1) := by decide +kernel
theorem dX16_operand_13 : decode cX16_operand 13 = .ok (.istore 4, 2) := by decide +kernel
theorem dX16_operand_15 : decode cX16_operand 15 = .ok (.aload_n 0, 1) := by decide +kernel
theorem dX16_operand_16 : decode cX16_operand 16 = .ok (.iload 4, 2) := by decide +kernel
theorem dX16_operand_18 : decode cX16_operand 18 = .ok (.invokevirtual 46, 3) := by decide +kernel
theorem dX16_operand_21 : decode cX16_operand 21 = .ok (.istore 5, 2) := by decide +kernel
theorem dX16_operand_23 : decode cX16_operand 23 = .ok (.iload 5, 2) := by decide +kernel
theorem dX16_operand_25 : decode cX16_operand 25 = .ok (.invokestatic 75, 3) := by decide +kernel
theorem dX16_operand_28 : decode cX16_operand 28 = .ok (.istore 6, 2) := by decide +kernel
theorem dX16_operand_30 : decode cX16_operand 30 = .ok (.iload 5, 2) := by decide +kernel
theorem dX16_operand_32 : decode cX16_operand 32 = .ok (.bipush 16, 2) := by decide +kernel
theorem dX16_operand_34 : decode cX16_operand 34 = .ok (.if_icmp .eq 24, 3) := by decide +kernel
theorem dX16_operand_37 : decode cX16_operand 37 = .ok (.iload 5, 2) := by decide +kernel
theorem dX16_operand_39 : decode cX16_operand 39 = .ok (.bipush 17, 2) := by decide +kernel
theorem dX16_operand_41 : decode cX16_operand 41 = .ok (.if_icmp .eq 17, 3) := by decide +kernel
theorem dX16_operand_44 : decode cX16_operand 44 = .ok (.iload 5, 2) := by decide +kernel
theorem dX16_operand_46 : decode cX16_operand 46 = .ok (.bipush 52, 2) := by decide +kernel
theorem dX16_operand_48 : decode cX16_operand 48 = .ok (.if_icmp .eq 10, 3) := by decide +kernel
theorem dX16_operand_51 : decode cX16_operand 51 = .ok (.iload 5, 2) := by decide +kernel
theorem dX16_operand_53 : decode cX16_operand 53 = .ok (.bipush 7, 2) := by decide +kernel
theorem dX16_operand_55 : decode cX16_operand 55 = .ok (.if_icmp .ne 7, 3) := by decide +kernel
theorem dX16_operand_58 : decode cX16_operand 58 = .ok (.iconst 1, 1) := by decide +kernel
theorem dX16_operand_59 : decode cX16_operand 59 = .ok (.goto 4, 3) := by decide +kernel
theorem dX16_operand_62 : decode cX16_operand 62 = .ok (.iconst 0, 1) := by decide +kernel
theorem dX16_operand_63 : decode cX16_operand 63 = .ok (.istore 7, 2) := by decide +kernel
theorem dX16_operand_65 : decode cX16_operand 65 = .ok (.iload 7, 2) := by decide +kernel
theorem dX16_operand_67 : decode cX16_operand 67 = .ok (.ifCond .ne 22, 3) := by decide +kernel
theorem dX16_operand_70 : decode cX16_operand 70 = .ok (.iload_n 3, 1) := by decide +kernel
theorem dX16_operand_71 : decode cX16_operand 71 = .ok (.ifCond .ne 16, 3) := by decide +kernel
theorem dX16_operand_74 : decode cX16_operand 74 = .ok (.aload_n 0, 1) := by decide +kernel
theorem dX16_operand_75 : decode cX16_operand 75 = .ok (.iload 4, 2) := by decide +kernel
theorem dX16_operand_77 : decode cX16_operand 77 = .ok (.iconst 1, 1) := by decide +kernel
theorem dX16_operand_78 : decode cX16_operand 78 = .ok (.iadd, 1) := by decide +kernel
theorem dX16_operand_79 : decode cX16_operand 79 = .ok (.iload 6, 2) := by decide +kernel
theorem dX16_operand_81 : decode cX16_operand 81 = .ok (.invokevirtual 170, 3) := by decide +kernel
theorem dX16_operand_84 : decode cX16_operand 84 = .ok (.goto 4, 3) := by decide +kernel
theorem dX16_operand_87 : decode cX16_operand 87 = .ok (.lconst 0, 1) := by decide +kernel
theorem dX16_operand_88 : decode cX16_operand 88 = .ok (.lreturn, 1) := by decide +kernel
theorem dX16_operand_89 : decode cX16_operand 89 = .ok (.aload_n 0, 1) := by decide +kernel
theorem dX16_operand_90 : decode cX16_operand 90 = .ok (.iload 4, 2) := by decide +kernel
theorem dX16_operand_92 : decode cX16_operand 92 = .ok (.iconst 1, 1) := by decide +kernel
theorem dX16_operand_93 : decode cX16_operand 93 = .ok (.iadd, 1) := by decide +kernel
theorem dX16_operand_94 : decode cX16_operand 94 = .ok (.iload_n 3, 1) := by decide +kernel
theorem dX16_operand_95 : decode cX16_operand 95 = .ok (.iload 6, 2) := by decide +kernel
theorem dX16_operand_97 : decode cX16_operand 97 = .ok (.imul, 1) := by decide +kernel
theorem dX16_operand_98 : decode cX16_operand 98 = .ok (.iconst 2, 1) := by decide +kernel
theorem dX16_operand_99 : decode cX16_operand 99 = .ok (.idiv, 1) := by decide +kernel
theorem dX16_operand_100 : decode cX16_operand 100 = .ok (.iadd, 1) := by decide +kernel
theorem dX16_operand_101 : decode cX16_operand 101 = .ok (.iload 6, 2) := by decide +kernel
theorem dX16_operand_103 : decode cX16_operand 103 = .ok (.iconst 2, 1) := by decide +kernel
theorem dX16_operand_104 : decode cX16_operand 104 = .ok (.idiv, 1) := by decide +kernel
theorem dX16_operand_105 : decode cX16_operand 105 = .ok (.invokevirtual 170, 3) := by decide +kernel
theorem dX16_operand_108 : decode cX16_operand 108 = .ok (.lreturn, 1) := by decide +kernel
theorem dX17_lay_0 : decode cX17_lay 0 = .ok (.iconst 0, 1) := by decide +kernel
theorem dX17_lay_1 : decode cX17_lay 1 = .ok (.istore 5, 2) := by decide +kernel
theorem dX17_lay_3 : decode cX17_lay 3 = .ok (.iload 5, 2) := by decide +kernel
theorem dX17_lay_5 : decode cX17_lay 5 = .ok (.bipush 16, 2) := by decide +kernel
theorem dX17_lay_7 : decode cX17_lay 7 = .ok (.if_icmp .ge 59, 3) := by decide +kernel
theorem dX17_lay_10 : decode cX17_lay 10 = .ok (.aload_n 0, 1) := by decide +kernel
theorem dX17_lay_11 : decode cX17_lay 11 = .ok (.iload 5, 2) := by decide +kernel
theorem dX17_lay_13 : decode cX17_lay 13 = .ok (.iload 5, 2) := by decide +kernel
theorem dX17_lay_15 : decode cX17_lay 15 = .ok (.iconst 4, 1) := by decide +kernel
theorem dX17_lay_16 : decode cX17_lay 16 = .ok (.if_icmp .ge 18, 3) := by decide +kernel
theorem dX17_lay_19 : decode cX17_lay 19 = .ok (.lload_n 3, 1) := by decide +kernel
theorem dX17_lay_20 : decode cX17_lay 20 = .ok (.bipush 16, 2) := by decide +kernel
theorem dX17_lay_22 : decode cX17_lay 22 = .ok (.iload 5, 2) := by decide +kernel
theorem dX17_lay_24 : decode cX17_lay 24 = .ok (.imul, 1) := by decide +kernel
theorem dX17_lay_25 : decode cX17_lay 25 = .ok (.lshr, 1) := by decide +kernel
theorem dX17_lay_26 : decode cX17_lay 26 = .ok (.ldc2_w 19, 3) := by decide +kernel
theorem dX17_lay_29 : decode cX17_lay 29 = .ok (.land, 1) := by decide +kernel
theorem dX17_lay_30 : decode cX17_lay 30 = .ok (.l2i, 1) := by decide +kernel
theorem dX17_lay_31 : decode cX17_lay 31 = .ok (.goto 28, 3) := by decide +kernel
theorem dX17_lay_34 : decode cX17_lay 34 = .ok (.iload 5, 2) := by decide +kernel
theorem dX17_lay_36 : decode cX17_lay 36 = .ok (.bipush 8, 2) := by decide +kernel
theorem dX17_lay_38 : decode cX17_lay 38 = .ok (.if_icmp .ge 20, 3) := by decide +kernel
theorem dX17_lay_41 : decode cX17_lay 41 = .ok (.lload_n 1, 1) := by decide +kernel
theorem dX17_lay_42 : decode cX17_lay 42 = .ok (.bipush 16, 2) := by decide +kernel
theorem dX17_lay_44 : decode cX17_lay 44 = .ok (.iload 5, 2) := by decide +kernel
theorem dX17_lay_46 : decode cX17_lay 46 = .ok (.iconst 4, 1) := by decide +kernel
theorem dX17_lay_47 : decode cX17_lay 47 = .ok (.isub, 1) := by decide +kernel
theorem dX17_lay_48 : decode cX17_lay 48 = .ok (.imul, 1) := by decide +kernel
theorem dX17_lay_49 : decode cX17_lay 49 = .ok (.lshr, 1) := by decide +kernel
theorem dX17_lay_50 : decode cX17_lay 50 = .ok (.ldc2_w 19, 3) := by decide +kernel
theorem dX17_lay_53 : decode cX17_lay 53 = .ok (.land, 1) := by decide +kernel
theorem dX17_lay_54 : decode cX17_lay 54 = .ok (.l2i, 1) := by decide +kernel
theorem dX17_lay_55 : decode cX17_lay 55 = .ok (.goto 4, 3) := by decide +kernel
theorem dX17_lay_58 : decode cX17_lay 58 = .ok (.iconst 0, 1) := by decide +kernel
theorem dX17_lay_59 : decode cX17_lay 59 = .ok (.iastore, 1) := by decide +kernel
theorem dX17_lay_60 : decode cX17_lay 60 = .ok (.iinc 5 1, 3) := by decide +kernel
theorem dX17_lay_63 : decode cX17_lay 63 = .ok (.goto (-60), 3) := by decide +kernel
theorem dX17_lay_66 : decode cX17_lay 66 = .ok (.return_, 1) := by decide +kernel
theorem dX17_four_0 : decode cX17_four 0 = .ok (.aload_n 0, 1) := by decide +kernel
theorem dX17_four_1 : decode cX17_four 1 = .ok (.iload_n 1, 1) := by decide +kernel
theorem dX17_four_2 : decode cX17_four 2 = .ok (.iconst 3, 1) := by decide +kernel
theorem dX17_four_3 : decode cX17_four 3 = .ok (.iadd, 1) := by decide +kernel
theorem dX17_four_4 : decode cX17_four 4 = .ok (.iaload, 1) := by decide +kernel
theorem dX17_four_5 : decode cX17_four 5 = .ok (.i2l, 1) := by decide +kernel
theorem dX17_four_6 : decode cX17_four 6 = .ok (.bipush 48, 2) := by decide +kernel
theorem dX17_four_8 : decode cX17_four 8 = .ok (.lshl, 1) := by decide +kernel
theorem dX17_four_9 : decode cX17_four 9 = .ok (.aload_n 0, 1) := by decide +kernel
theorem dX17_four_10 : decode cX17_four 10 = .ok (.iload_n 1, 1) := by decide +kernel
theorem dX17_four_11 : decode cX17_four 11 = .ok (.iconst 2, 1) := by decide +kernel
theorem dX17_four_12 : decode cX17_four 12 = .ok (.iadd, 1) := by decide +kernel
theorem dX17_four_13 : decode cX17_four 13 = .ok (.iaload, 1) := by decide +kernel
theorem dX17_four_14 : decode cX17_four 14 = .ok (.i2l, 1) := by decide +kernel
theorem dX17_four_15 : decode cX17_four 15 = .ok (.bipush 32, 2) := by decide +kernel
theorem dX17_four_17 : decode cX17_four 17 = .ok (.lshl, 1) := by decide +kernel
theorem dX17_four_18 : decode cX17_four 18 = .ok (.lor, 1) := by decide +kernel
theorem dX17_four_19 : decode cX17_four 19 = .ok (.aload_n 0, 1) := by decide +kernel
theorem dX17_four_20 : decode cX17_four 20 = .ok (.iload_n 1, 1) := by decide +kernel
theorem dX17_four_21 : decode cX17_four 21 = .ok (.iconst 1, 1) := by decide +kernel
theorem dX17_four_22 : decode cX17_four 22 = .ok (.iadd, 1) := by decide +kernel
theorem dX17_four_23 : decode cX17_four 23 = .ok (.iaload, 1) := by decide +kernel
theorem dX17_four_24 : decode cX17_four 24 = .ok (.i2l, 1) := by decide +kernel
theorem dX17_four_25 : decode cX17_four 25 = .ok (.bipush 16, 2) := by decide +kernel
theorem dX17_four_27 : decode cX17_four 27 = .ok (.lshl, 1) := by decide +kernel
theorem dX17_four_28 : decode cX17_four 28 = .ok (.lor, 1) := by decide +kernel
theorem dX17_four_29 : decode cX17_four 29 = .ok (.aload_n 0, 1) := by decide +kernel
theorem dX17_four_30 : decode cX17_four 30 = .ok (.iload_n 1, 1) := by decide +kernel
theorem dX17_four_31 : decode cX17_four 31 = .ok (.iaload, 1) := by decide +kernel
theorem dX17_four_32 : decode cX17_four 32 = .ok (.i2l, 1) := by decide +kernel
theorem dX17_four_33 : decode cX17_four 33 = .ok (.lor, 1) := by decide +kernel
theorem dX17_four_34 : decode cX17_four 34 = .ok (.lreturn, 1) := by decide +kernel
theorem dX17_result_0 : decode cX17_result 0 = .ok (.bipush 8, 2) := by decide +kernel
theorem dX17_result_2 : decode cX17_result 2 = .ok (.istore_n 2, 1) := by decide +kernel
theorem dX17_result_3 : decode cX17_result 3 = .ok (.iload_n 2, 1) := by decide +kernel
theorem dX17_result_4 : decode cX17_result 4 = .ok (.bipush 32, 2) := by decide +kernel
theorem dX17_result_6 : decode cX17_result 6 = .ok (.if_icmp .ge 20, 3) := by decide +kernel
theorem dX17_result_9 : decode cX17_result 9 = .ok (.aload_n 0, 1) := by decide +kernel
theorem dX17_result_10 : decode cX17_result 10 = .ok (.getfield 16, 3) := by decide +kernel
theorem dX17_result_13 : decode cX17_result 13 = .ok (.iload_n 2, 1) := by decide +kernel
theorem dX17_result_14 : decode cX17_result 14 = .ok (.iaload, 1) := by decide +kernel
theorem dX17_result_15 : decode cX17_result 15 = .ok (.ifCond .eq 5, 3) := by decide +kernel
theorem dX17_result_18 : decode cX17_result 18 = .ok (.iconst 0, 1) := by decide +kernel
theorem dX17_result_19 : decode cX17_result 19 = .ok (.ireturn, 1) := by decide +kernel
theorem dX17_result_20 : decode cX17_result 20 = .ok (.iinc 2 1, 3) := by decide +kernel
theorem dX17_result_23 : decode cX17_result 23 = .ok (.goto (-20), 3) := by decide +kernel
theorem dX17_result_26 : decode cX17_result 26 = .ok (.aload_n 0, 1) := by decide +kernel
theorem dX17_result_27 : decode cX17_result 27 = .ok (.aload_n 0, 1) := by decide +kernel
theorem dX17_result_28 : decode cX17_result 28 = .ok (.getfield 16, 3) := by decide +kernel
theorem dX17_result_31 : decode cX17_result 31 = .ok (.iconst 4, 1) := by decide +kernel
theorem dX17_result_32 : decode cX17_result 32 = .ok (.invokestatic 21, 3) := by decide +kernel
theorem dX17_result_35 : decode cX17_result 35 = .ok (.putfield 25, 3) := by decide +kernel
theorem dX17_result_38 : decode cX17_result 38 = .ok (.aload_n 0, 1) := by decide +kernel
theorem dX17_result_39 : decode cX17_result 39 = .ok (.aload_n 0, 1) := by decide +kernel
theorem dX17_result_40 : decode cX17_result 40 = .ok (.getfield 16, 3) := by decide +kernel
theorem dX17_result_43 : decode cX17_result 43 = .ok (.iconst 0, 1) := by decide +kernel
theorem dX17_result_44 : decode cX17_result 44 = .ok (.invokestatic 21, 3) := by decide +kernel
theorem dX17_result_47 : decode cX17_result 47 = .ok (.putfield 29, 3) := by decide +kernel
theorem dX17_result_50 : decode cX17_result 50 = .ok (.aload_n 0, 1) := by decide +kernel
theorem dX17_result_51 : decode cX17_result 51 = .ok (.getfield 25, 3) := by decide +kernel
theorem dX17_result_54 : decode cX17_result 54 = .ok (.aload_n 0, 1) := by decide +kernel
theorem dX17_result_55 : decode cX17_result 55 = .ok (.getfield 29, 3) := by decide +kernel
theorem dX17_result_58 : decode cX17_result 58 = .ok (.iload_n 1, 1) := by decide +kernel
theorem dX17_result_59 : decode cX17_result 59 = .ok (.invokestatic 32, 3) := by decide +kernel
theorem dX17_result_62 : decode cX17_result 62 = .ok (.ireturn, 1) := by decide +kernel
theorem dX17_isOf_0 : decode cX17_isOf 0 = .ok (.iload 4, 2) := by decide +kernel
theorem dX17_isOf_2 : decode cX17_isOf 2 = .ok (.sipush 128, 3) := by decide +kernel
theorem dX17_isOf_5 : decode cX17_isOf 5 = .ok (.if_icmp .eq 25, 3) := by decide +kernel
theorem dX17_isOf_8 : decode cX17_isOf 8 = .ok (.lload_n 0, 1) := by decide +kernel
theorem dX17_isOf_9 : decode cX17_isOf 9 = .ok (.lconst 0, 1) := by decide +kernel
theorem dX17_isOf_10 : decode cX17_isOf 10 = .ok (.lcmp, 1) := by decide +kernel
theorem dX17_isOf_11 : decode cX17_isOf 11 = .ok (.ifCond .ne 23, 3) := by decide +kernel
theorem dX17_isOf_14 : decode cX17_isOf 14 = .ok (.iload 4, 2) := by decide +kernel
theorem dX17_isOf_16 : decode cX17_isOf 16 = .ok (.bipush 64, 2) := by decide +kernel
theorem dX17_isOf_18 : decode cX17_isOf 18 = .ok (.if_icmp .eq 12, 3) := by decide +kernel
theorem dX17_isOf_21 : decode cX17_isOf 21 = .ok (.lload_n 2, 1) := by decide +kernel
theorem dX17_isOf_22 : decode cX17_isOf 22 = .ok (.bipush 8, 2) := by decide +kernel
theorem dX17_isOf_24 : decode cX17_isOf 24 = .ok (.lushr, 1) := by decide +kernel
theorem dX17_isOf_25 : decode cX17_isOf 25 = .ok (.lconst 0, 1) := by decide +kernel
theorem dX17_isOf_26 : decode cX17_isOf 26 = .ok (.lcmp, 1) := by decide +kernel
theorem dX17_isOf_27 : decode cX17_isOf 27 = .ok (.ifCond .ne 7, 3) := by decide +kernel
theorem dX17_isOf_30 : decode cX17_isOf 30 = .ok (.iconst 1, 1) := by decide +kernel
theorem dX17_isOf_31 : decode cX17_isOf 31 = .ok (.goto 4, 3) := by decide +kernel
theorem dX17_isOf_34 : decode cX17_isOf 34 = .ok (.iconst 0, 1) := by decide +kernel
theorem dX17_isOf_35 : decode cX17_isOf 35 = .ok (.ireturn, 1) := by decide +kernel
theorem dX17_compare_0 : decode cX17_compare 0 = .ok (.lload_n 0, 1) := by decide +kernel
theorem dX17_compare_1 : decode cX17_compare 1 = .ok (.lload 4, 2) := by decide +kernel
theorem dX17_compare_3 : decode cX17_compare 3 = .ok (.lcmp, 1) := by decide +kernel
theorem dX17_compare_4 : decode cX17_compare 4 = .ok (.ifCond .eq 24, 3) := by decide +kernel
theorem dX17_compare_7 : decode cX17_compare 7 = .ok (.lload_n 0, 1) := by decide +kernel
theorem dX17_compare_8 : decode cX17_compare 8 = .ok (.ldc2_w 38, 3) := by decide +kernel
theorem dX17_compare_11 : decode cX17_compare 11 = .ok (.ladd, 1) := by decide +kernel
theorem dX17_compare_12 : decode cX17_compare 12 = .ok (.lload 4, 2) := by decide +kernel
theorem dX17_compare_14 : decode cX17_compare 14 = .ok (.ldc2_w 38, 3) := by decide +kernel
theorem dX17_compare_17 : decode cX17_compare 17 = .ok (.ladd, 1) := by decide +kernel
theorem dX17_compare_18 : decode cX17_compare 18 = .ok (.lcmp, 1) := by decide +kernel
theorem dX17_compare_19 : decode cX17_compare 19 = .ok (.ifCond .ge 7, 3) := by decide +kernel
theorem dX17_compare_22 : decode cX17_compare 22 = .ok (.iconst (-1), 1) := by decide +kernel
theorem dX17_compare_23 : decode cX17_compare 23 = .ok (.goto 4, 3) := by decide +kernel
theorem dX17_compare_26 : decode cX17_compare 26 = .ok (.iconst 1, 1) := by decide +kernel
theorem dX17_compare_27 : decode cX17_compare 27 = .ok (.ireturn, 1) := by decide +kernel
theorem dX17_compare_28 : decode cX17_compare 28 = .ok (.lload_n 2, 1) := by decide +kernel
theorem dX17_compare_29 : decode cX17_compare 29 = .ok (.lload 6, 2) := by decide +kernel
theorem dX17_compare_31 : decode cX17_compare 31 = .ok (.lcmp, 1) := by decide +kernel
theorem dX17_compare_32 : decode cX17_compare 32 = .ok (.ifCond .ne 7, 3) := by decide +kernel
theorem dX17_compare_35 : decode cX17_compare 35 = .ok (.iconst 0, 1) := by decide +kernel
theorem dX17_compare_36 : decode cX17_compare 36 = .ok (.goto 23, 3) := by decide +kernel
theorem dX17_compare_39 : decode cX17_compare 39 = .ok (.lload_n 2, 1) := by decide +kernel
theorem dX17_compare_40 : decode cX17_compare 40 = .ok (.ldc2_w 38, 3) := by decide +kernel
theorem dX17_compare_43 : decode cX17_compare 43 = .ok (.ladd, 1) := by decide +kernel
theorem dX17_compare_44 : decode cX17_compare 44 = .ok (.lload 6, 2) := by decide +kernel
theorem dX17_compare_46 : decode cX17_compare 46 = .ok (.ldc2_w 38, 3) := by decide +kernel
theorem dX17_compare_49 : decode cX17_compare 49 = .ok (.ladd, 1) := by decide +kernel
theorem dX17_compare_50 : decode cX17_compare 50 = .ok (.lcmp, 1) := by decide +kernel
theorem dX17_compare_51 : decode cX17_compare 51 = .ok (.ifCond .ge 7, 3) := by decide +kernel
theorem dX17_compare_54 : decode cX17_compare 54 = .ok (.iconst (-1), 1) := by decide +kernel
theorem dX17_compare_55 : decode cX17_compare 55 = .ok (.goto 4, 3) := by decide +kernel
theorem dX17_compare_58 : decode cX17_compare 58 = .ok (.iconst 1, 1) := by decide +kernel
theorem dX17_compare_59 : decode cX17_compare 59 = .ok (.ireturn, 1) := by decide +kernel
theorem dX17_clear_0 : decode cX17_clear 0 = .ok (.iconst 0, 1) := by decide +kernel
theorem dX17_clear_1 : decode cX17_clear 1 = .ok (.istore_n 1, 1) := by decide +kernel
theorem dX17_clear_2 : decode cX17_clear 2 = .ok (.iload_n 1, 1) := by decide +kernel
theorem dX17_clear_3 : decode cX17_clear 3 = .ok (.bipush 33, 2) := by decide +kernel
theorem dX17_clear_5 : decode cX17_clear 5 = .ok (.if_icmp .ge 16, 3) := by decide +kernel
theorem dX17_clear_8 : decode cX17_clear 8 = .ok (.aload_n 0, 1) := by decide +kernel
theorem dX17_clear_9 : decode cX17_clear 9 = .ok (.getfield 16, 3) := by decide +kernel
theorem dX17_clear_12 : decode cX17_clear 12 = .ok (.iload_n 1, 1) := by decide +kernel
theorem dX17_clear_13 : decode cX17_clear 13 = .ok (.iconst 0, 1) := by decide +kernel
theorem dX17_clear_14 : decode cX17_clear 14 = .ok (.iastore, 1) := by decide +kernel
theorem dX17_clear_15 : decode cX17_clear 15 = .ok (.iinc 1 1, 3) := by decide +kernel
theorem dX17_clear_18 : decode cX17_clear 18 = .ok (.goto (-16), 3) := by decide +kernel
theorem dX17_clear_21 : decode cX17_clear 21 = .ok (.return_, 1) := by decide +kernel
theorem dX17_reckon_0 : decode cX17_reckon 0 = .ok (.aload_n 0, 1) := by decide +kernel
theorem dX17_reckon_1 : decode cX17_reckon 1 = .ok (.getfield 7, 3) := by decide +kernel
theorem dX17_reckon_4 : decode cX17_reckon 4 = .ok (.lload_n 2, 1) := by decide +kernel
theorem dX17_reckon_5 : decode cX17_reckon 5 = .ok (.lload 4, 2) := by decide +kernel
theorem dX17_reckon_7 : decode cX17_reckon 7 = .ok (.invokestatic 40, 3) := by decide +kernel
theorem dX17_reckon_10 : decode cX17_reckon 10 = .ok (.aload_n 0, 1) := by decide +kernel
theorem dX17_reckon_11 : decode cX17_reckon 11 = .ok (.getfield 13, 3) := by decide +kernel
theorem dX17_reckon_14 : decode cX17_reckon 14 = .ok (.lload 6, 2) := by decide +kernel
theorem dX17_reckon_16 : decode cX17_reckon 16 = .ok (.lload 8, 2) := by decide +kernel
theorem dX17_reckon_18 : decode cX17_reckon 18 = .ok (.invokestatic 40, 3) := by decide +kernel
theorem dX17_reckon_21 : decode cX17_reckon 21 = .ok (.aload_n 0, 1) := by decide +kernel
theorem dX17_reckon_22 : decode cX17_reckon 22 = .ok (.invokevirtual 44, 3) := by decide +kernel
theorem dX17_reckon_25 : decode cX17_reckon 25 = .ok (.iload_n 1, 1) := by decide +kernel
theorem dX17_reckon_26 : decode cX17_reckon 26 = .ok (.bipush 24, 2) := by decide +kernel
theorem dX17_reckon_28 : decode cX17_reckon 28 = .ok (.if_icmp .ne 10, 3) := by decide +kernel
theorem dX17_reckon_31 : decode cX17_reckon 31 = .ok (.aload_n 0, 1) := by decide +kernel
theorem dX17_reckon_32 : decode cX17_reckon 32 = .ok (.iload 10, 2) := by decide +kernel
theorem dX17_reckon_34 : decode cX17_reckon 34 = .ok (.invokevirtual 47, 3) := by decide +kernel
theorem dX17_reckon_37 : decode cX17_reckon 37 = .ok (.ireturn, 1) := by decide +kernel
theorem dX17_reckon_38 : decode cX17_reckon 38 = .ok (.iload_n 1, 1) := by decide +kernel
theorem dX17_reckon_39 : decode cX17_reckon 39 = .ok (.bipush 25, 2) := by decide +kernel
theorem dX17_reckon_41 : decode cX17_reckon 41 = .ok (.if_icmp .ne 31, 3) := by decide +kernel
theorem dX17_reckon_44 : decode cX17_reckon 44 = .ok (.lload_n 2, 1) := by decide +kernel
theorem dX17_reckon_45 : decode cX17_reckon 45 = .ok (.lload 4, 2) := by decide +kernel
theorem dX17_reckon_47 : decode cX17_reckon 47 = .ok (.lload 6, 2) := by decide +kernel
theorem dX17_reckon_49 : decode cX17_reckon 49 = .ok (.lload 8, 2) := by decide +kernel
theorem dX17_reckon_51 : decode cX17_reckon 51 = .ok (.invokestatic 51, 3) := by decide +kernel
theorem dX17_reckon_54 : decode cX17_reckon 54 = .ok (.ifCond .lt 16, 3) := by decide +kernel
theorem dX17_reckon_57 : decode cX17_reckon 57 = .ok (.aload_n 0, 1) := by decide +kernel
theorem dX17_reckon_58 : decode cX17_reckon 58 = .ok (.iload 10, 2) := by decide +kernel
theorem dX17_reckon_60 : decode cX17_reckon 60 = .ok (.invokevirtual 55, 3) := by decide +kernel
theorem dX17_reckon_63 : decode cX17_reckon 63 = .ok (.ifCond .eq 7, 3) := by decide +kernel
theorem dX17_reckon_66 : decode cX17_reckon 66 = .ok (.iconst 1, 1) := by decide +kernel
theorem dX17_reckon_67 : decode cX17_reckon 67 = .ok (.goto 4, 3) := by decide +kernel
theorem dX17_reckon_70 : decode cX17_reckon 70 = .ok (.iconst 0, 1) := by decide +kernel
theorem dX17_reckon_71 : decode cX17_reckon 71 = .ok (.ireturn, 1) := by decide +kernel
theorem dX17_reckon_72 : decode cX17_reckon 72 = .ok (.iload_n 1, 1) := by decide +kernel
theorem dX17_reckon_73 : decode cX17_reckon 73 = .ok (.bipush 26, 2) := by decide +kernel
theorem dX17_reckon_75 : decode cX17_reckon 75 = .ok (.if_icmp .ne 10, 3) := by decide +kernel
theorem dX17_reckon_78 : decode cX17_reckon 78 = .ok (.aload_n 0, 1) := by decide +kernel
theorem dX17_reckon_79 : decode cX17_reckon 79 = .ok (.iload 10, 2) := by decide +kernel
theorem dX17_reckon_81 : decode cX17_reckon 81 = .ok (.invokevirtual 58, 3) := by decide +kernel
theorem dX17_reckon_84 : decode cX17_reckon 84 = .ok (.ireturn, 1) := by decide +kernel
theorem dX17_reckon_85 : decode cX17_reckon 85 = .ok (.lload 6, 2) := by decide +kernel
theorem dX17_reckon_87 : decode cX17_reckon 87 = .ok (.lload 8, 2) := by decide +kernel
theorem dX17_reckon_89 : decode cX17_reckon 89 = .ok (.lor, 1) := by decide +kernel
theorem dX17_reckon_90 : decode cX17_reckon 90 = .ok (.lconst 0, 1) := by decide +kernel
theorem dX17_reckon_91 : decode cX17_reckon 91 = .ok (.lcmp, 1) := by decide +kernel
theorem dX17_reckon_92 : decode cX17_reckon 92 = .ok (.ifCond .eq 27, 3) := by decide +kernel
theorem dX17_reckon_95 : decode cX17_reckon 95 = .ok (.aload_n 0, 1) := by decide +kernel
theorem dX17_reckon_96 : decode cX17_reckon 96 = .ok (.iload_n 1, 1) := by decide +kernel
theorem dX17_reckon_97 : decode cX17_reckon 97 = .ok (.bipush 27, 2) := by decide +kernel
theorem dX17_reckon_99 : decode cX17_reckon 99 = .ok (.if_icmp .ne 7, 3) := by decide +kernel
theorem dX17_reckon_102 : decode cX17_reckon 102 = .ok (.iconst 1, 1) := by decide +kernel
theorem dX17_reckon_103 : decode cX17_reckon 103 = .ok (.goto 4, 3) := by decide +kernel
theorem dX17_reckon_106 : decode cX17_reckon 106 = .ok (.iconst 0, 1) := by decide +kernel
theorem dX17_reckon_107 : decode cX17_reckon 107 = .ok (.iload 10, 2) := by decide +kernel
theorem dX17_reckon_109 : decode cX17_reckon 109 = .ok (.invokevirtual 61, 3) := by decide +kernel
theorem dX17_reckon_112 : decode cX17_reckon 112 = .ok (.ifCond .eq 7, 3) := by decide +kernel
theorem dX17_reckon_115 : decode cX17_reckon 115 = .ok (.iconst 1, 1) := by decide +kernel
theorem dX17_reckon_116 : decode cX17_reckon 116 = .ok (.goto 4, 3) := by decide +kernel
theorem dX17_reckon_119 : decode cX17_reckon 119 = .ok (.iconst 0, 1) := by decide +kernel
theorem dX17_reckon_120 : decode cX17_reckon 120 = .ok (.ireturn, 1) := by decide +kernel
theorem dX17_add_0 : decode cX17_add 0 = .ok (.iconst 0, 1) := by decide +kernel
theorem dX17_add_1 : decode cX17_add 1 = .ok (.istore_n 2, 1) := by decide +kernel
theorem dX17_add_2 : decode cX17_add 2 = .ok (.iconst 0, 1) := by decide +kernel
theorem dX17_add_3 : decode cX17_add 3 = .ok (.istore_n 3, 1) := by decide +kernel
theorem dX17_add_4 : decode cX17_add 4 = .ok (.iload_n 3, 1) := by decide +kernel
theorem dX17_add_5 : decode cX17_add 5 = .ok (.bipush 16, 2) := by decide +kernel
theorem dX17_add_7 : decode cX17_add 7 = .ok (.if_icmp .ge 43, 3) := by decide +kernel
theorem dX17_add_10 : decode cX17_add 10 = .ok (.aload_n 0, 1) := by decide +kernel
theorem dX17_add_11 : decode cX17_add 11 = .ok (.getfield 7, 3) := by decide +kernel
theorem dX17_add_14 : decode cX17_add 14 = .ok (.iload_n 3, 1) := by decide +kernel
theorem dX17_add_15 : decode cX17_add 15 = .ok (.iaload, 1) := by decide +kernel
theorem dX17_add_16 : decode cX17_add 16 = .ok (.aload_n 0, 1) := by decide +kernel
theorem dX17_add_17 : decode cX17_add 17 = .ok (.getfield 13, 3) := by decide +kernel
theorem dX17_add_20 : decode cX17_add 20 = .ok (.iload_n 3, 1) := by decide +kernel
theorem dX17_add_21 : decode cX17_add 21 = .ok (.iaload, 1) := by decide +kernel
theorem dX17_add_22 : decode cX17_add 22 = .ok (.iadd, 1) := by decide +kernel
theorem dX17_add_23 : decode cX17_add 23 = .ok (.iload_n 2, 1) := by decide +kernel
theorem dX17_add_24 : decode cX17_add 24 = .ok (.iadd, 1) := by decide +kernel
theorem dX17_add_25 : decode cX17_add 25 = .ok (.istore 4, 2) := by decide +kernel
theorem dX17_add_27 : decode cX17_add 27 = .ok (.aload_n 0, 1) := by decide +kernel
theorem dX17_add_28 : decode cX17_add 28 = .ok (.getfield 16, 3) := by decide +kernel
theorem dX17_add_31 : decode cX17_add 31 = .ok (.iload_n 3, 1) := by decide +kernel
theorem dX17_add_32 : decode cX17_add 32 = .ok (.iload 4, 2) := by decide +kernel
theorem dX17_add_34 : decode cX17_add 34 = .ok (.ldc 65, 2) := by decide +kernel
theorem dX17_add_36 : decode cX17_add 36 = .ok (.iand, 1) := by decide +kernel
theorem dX17_add_37 : decode cX17_add 37 = .ok (.iastore, 1) := by decide +kernel
theorem dX17_add_38 : decode cX17_add 38 = .ok (.iload 4, 2) := by decide +kernel
theorem dX17_add_40 : decode cX17_add 40 = .ok (.bipush 16, 2) := by decide +kernel
theorem dX17_add_42 : decode cX17_add 42 = .ok (.ishr, 1) := by decide +kernel
theorem dX17_add_43 : decode cX17_add 43 = .ok (.istore_n 2, 1) := by decide +kernel
theorem dX17_add_44 : decode cX17_add 44 = .ok (.iinc 3 1, 3) := by decide +kernel
theorem dX17_add_47 : decode cX17_add 47 = .ok (.goto (-43), 3) := by decide +kernel
theorem dX17_add_50 : decode cX17_add 50 = .ok (.aload_n 0, 1) := by decide +kernel
theorem dX17_add_51 : decode cX17_add 51 = .ok (.iload_n 1, 1) := by decide +kernel
theorem dX17_add_52 : decode cX17_add 52 = .ok (.invokevirtual 66, 3) := by decide +kernel
theorem dX17_add_55 : decode cX17_add 55 = .ok (.ireturn, 1) := by decide +kernel
theorem dX17_subtract_0 : decode cX17_subtract 0 = .ok (.iconst 0, 1) := by decide +kernel
theorem dX17_subtract_1 : decode cX17_subtract 1 = .ok (.istore_n 2, 1) := by decide +kernel
theorem dX17_subtract_2 : decode cX17_subtract 2 = .ok (.iconst 0, 1) := by decide +kernel
theorem dX17_subtract_3 : decode cX17_subtract 3 = .ok (.istore_n 3, 1) := by decide +kernel
theorem dX17_subtract_4 : decode cX17_subtract 4 = .ok (.iload_n 3, 1) := by decide +kernel
theorem dX17_subtract_5 : decode cX17_subtract 5 = .ok (.bipush 16, 2) := by decide +kernel
theorem dX17_subtract_7 : decode cX17_subtract 7 = .ok (.if_icmp .ge 48, 3) := by decide +kernel
theorem dX17_subtract_10 : decode cX17_subtract 10 = .ok (.aload_n 0, 1) := by decide +kernel
theorem dX17_subtract_11 : decode cX17_subtract 11 = .ok (.getfield 7, 3) := by decide +kernel
theorem dX17_subtract_14 : decode cX17_subtract 14 = .ok (.iload_n 3, 1) := by decide +kernel
theorem dX17_subtract_15 : decode cX17_subtract 15 = .ok (.iaload, 1) := by decide +kernel
theorem dX17_subtract_16 : decode cX17_subtract 16 = .ok (.aload_n 0, 1) := by decide +kernel
theorem dX17_subtract_17 : decode cX17_subtract 17 = .ok (.getfield 13, 3) := by decide +kernel
theorem dX17_subtract_20 : decode cX17_subtract 20 = .ok (.iload_n 3, 1) := by decide +kernel
theorem dX17_subtract_21 : decode cX17_subtract 21 = .ok (.iaload, 1) := by decide +kernel
theorem dX17_subtract_22 : decode cX17_subtract 22 = .ok (.isub, 1) := by decide +kernel
theorem dX17_subtract_23 : decode cX17_subtract 23 = .ok (.iload_n 2, 1) := by decide +kernel
theorem dX17_subtract_24 : decode cX17_subtract 24 = .ok (.isub, 1) := by decide +kernel
theorem dX17_subtract_25 : decode cX17_subtract 25 = .ok (.istore 4, 2) := by decide +kernel
theorem dX17_subtract_27 : decode cX17_subtract 27 = .ok (.aload_n 0, 1) := by decide +kernel
theorem dX17_subtract_28 : decode cX17_subtract 28 = .ok (.getfield 16, 3) := by decide +kernel
theorem dX17_subtract_31 : decode cX17_subtract 31 = .ok (.iload_n 3, 1) := by decide +kernel
theorem dX17_subtract_32 : decode cX17_subtract 32 = .ok (.iload 4, 2) := by decide +kernel
theorem dX17_subtract_34 : decode cX17_subtract 34 = .ok (.ldc 65, 2) := by decide +kernel
theorem dX17_subtract_36 : decode cX17_subtract 36 = .ok (.iand, 1) := by decide +kernel
theorem dX17_subtract_37 : decode cX17_subtract 37 = .ok (.iastore, 1) := by decide +kernel
theorem dX17_subtract_38 : decode cX17_subtract 38 = .ok (.iload 4, 2) := by decide +kernel
theorem dX17_subtract_40 : decode cX17_subtract 40 = .ok (.ifCond .ge 7, 3) := by decide +kernel
theorem dX17_subtract_43 : decode cX17_subtract 43 = .ok (.iconst 1, 1) := by decide +kernel
theorem dX17_subtract_44 : decode cX17_subtract 44 = .ok (.goto 4, 3) := by decide +kernel
theorem dX17_subtract_47 : decode cX17_subtract 47 = .ok (.iconst 0, 1) := by decide +kernel
theorem dX17_subtract_48 : decode cX17_subtract 48 = .ok (.istore_n 2, 1) := by decide +kernel
theorem dX17_subtract_49 : decode cX17_subtract 49 = .ok (.iinc 3 1, 3) := by decide +kernel
theorem dX17_subtract_52 : decode cX17_subtract 52 = .ok (.goto (-48), 3) := by decide +kernel
theorem dX17_subtract_55 : decode cX17_subtract 55 = .ok (.aload_n 0, 1) := by decide +kernel
theorem dX17_subtract_56 : decode cX17_subtract 56 = .ok (.iload_n 1, 1) := by decide +kernel
theorem dX17_subtract_57 : decode cX17_subtract 57 = .ok (.invokevirtual 66, 3) := by decide +kernel
theorem dX17_subtract_60 : decode cX17_subtract 60 = .ok (.ireturn, 1) := by decide +kernel
theorem dX17_multiply_0 : decode cX17_multiply 0 = .ok (.iconst 0, 1) := by decide +kernel
theorem dX17_multiply_1 : decode cX17_multiply 1 = .ok (.istore_n 2, 1) := by decide +kernel
theorem dX17_multiply_2 : decode cX17_multiply 2 = .ok (.iload_n 2, 1) := by decide +kernel
theorem dX17_multiply_3 : decode cX17_multiply 3 = .ok (.bipush 16, 2) := by decide +kernel
theorem dX17_multiply_5 : decode cX17_multiply 5 = .ok (.if_icmp .ge 94, 3) := by decide +kernel
theorem dX17_multiply_8 : decode cX17_multiply 8 = .ok (.lconst 0, 1) := by decide +kernel
theorem dX17_multiply_9 : decode cX17_multiply 9 = .ok (.lstore_n 3, 1) := by decide +kernel
theorem dX17_multiply_10 : decode cX17_multiply 10 = .ok (.iconst 0, 1) := by decide +kernel
theorem dX17_multiply_11 : decode cX17_multiply 11 = .ok (.istore 5, 2) := by decide +kernel
theorem dX17_multiply_13 : decode cX17_multiply 13 = .ok (.iload 5, 2) := by decide +kernel
theorem dX17_multiply_15 : decode cX17_multiply 15 = .ok (.bipush 16, 2) := by decide +kernel
theorem dX17_multiply_17 : decode cX17_multiply 17 = .ok (.if_icmp .ge 62, 3) := by decide +kernel
theorem dX17_multiply_20 : decode cX17_multiply 20 = .ok (.aload_n 0, 1) := by decide +kernel
theorem dX17_multiply_21 : decode cX17_multiply 21 = .ok (.getfield 7, 3) := by decide +kernel
theorem dX17_multiply_24 : decode cX17_multiply 24 = .ok (.iload_n 2, 1) := by decide +kernel
theorem dX17_multiply_25 : decode cX17_multiply 25 = .ok (.iaload, 1) := by decide +kernel
theorem dX17_multiply_26 : decode cX17_multiply 26 = .ok (.i2l, 1) := by decide +kernel
theorem dX17_multiply_27 : decode cX17_multiply 27 = .ok (.aload_n 0, 1) := by decide +kernel
theorem dX17_multiply_28 : decode cX17_multiply 28 = .ok (.getfield 13, 3) := by decide +kernel
theorem dX17_multiply_31 : decode cX17_multiply 31 = .ok (.iload 5, 2) := by decide +kernel
theorem dX17_multiply_33 : decode cX17_multiply 33 = .ok (.iaload, 1) := by decide +kernel
theorem dX17_multiply_34 : decode cX17_multiply 34 = .ok (.i2l, 1) := by decide +kernel
theorem dX17_multiply_35 : decode cX17_multiply 35 = .ok (.lmul, 1) := by decide +kernel
theorem dX17_multiply_36 : decode cX17_multiply 36 = .ok (.aload_n 0, 1) := by decide +kernel
theorem dX17_multiply_37 : decode cX17_multiply 37 = .ok (.getfield 16, 3) := by decide +kernel
theorem dX17_multiply_40 : decode cX17_multiply 40 = .ok (.iload_n 2, 1) := by decide +kernel
theorem dX17_multiply_41 : decode cX17_multiply 41 = .ok (.iload 5, 2) := by decide +kernel
theorem dX17_multiply_43 : decode cX17_multiply 43 = .ok (.iadd, 1) := by decide +kernel
theorem dX17_multiply_44 : decode cX17_multiply 44 = .ok (.iaload, 1) := by decide +kernel
theorem dX17_multiply_45 : decode cX17_multiply 45 = .ok (.i2l, 1) := by decide +kernel
theorem dX17_multiply_46 : decode cX17_multiply 46 = .ok (.ladd, 1) := by decide +kernel
theorem dX17_multiply_47 : decode cX17_multiply 47 = .ok (.lload_n 3, 1) := by decide +kernel
theorem dX17_multiply_48 : decode cX17_multiply 48 = .ok (.ladd, 1) := by decide +kernel
theorem dX17_multiply_49 : decode cX17_multiply 49 = .ok (.lstore 6, 2) := by decide +kernel
theorem dX17_multiply_51 : decode cX17_multiply 51 = .ok (.aload_n 0, 1) := by decide +kernel
theorem dX17_multiply_52 : decode cX17_multiply 52 = .ok (.getfield 16, 3) := by decide +kernel
theorem dX17_multiply_55 : decode cX17_multiply 55 = .ok (.iload_n 2, 1) := by decide +kernel
theorem dX17_multiply_56 : decode cX17_multiply 56 = .ok (.iload 5, 2) := by decide +kernel
theorem dX17_multiply_58 : decode cX17_multiply 58 = .ok (.iadd, 1) := by decide +kernel
theorem dX17_multiply_59 : decode cX17_multiply 59 = .ok (.lload 6, 2) := by decide +kernel
theorem dX17_multiply_61 : decode cX17_multiply 61 = .ok (.ldc2_w 19, 3) := by decide +kernel
theorem dX17_multiply_64 : decode cX17_multiply 64 = .ok (.land, 1) := by decide +kernel
theorem dX17_multiply_65 : decode cX17_multiply 65 = .ok (.l2i, 1) := by decide +kernel
theorem dX17_multiply_66 : decode cX17_multiply 66 = .ok (.iastore, 1) := by decide +kernel
theorem dX17_multiply_67 : decode cX17_multiply 67 = .ok (.lload 6, 2) := by decide +kernel
theorem dX17_multiply_69 : decode cX17_multiply 69 = .ok (.bipush 16, 2) := by decide +kernel
theorem dX17_multiply_71 : decode cX17_multiply 71 = .ok (.lshr, 1) := by decide +kernel
theorem dX17_multiply_72 : decode cX17_multiply 72 = .ok (.lstore_n 3, 1) := by decide +kernel
theorem dX17_multiply_73 : decode cX17_multiply 73 = .ok (.iinc 5 1, 3) := by decide +kernel
theorem dX17_multiply_76 : decode cX17_multiply 76 = .ok (.goto (-63), 3) := by decide +kernel
theorem dX17_multiply_79 : decode cX17_multiply 79 = .ok (.aload_n 0, 1) := by decide +kernel
theorem dX17_multiply_80 : decode cX17_multiply 80 = .ok (.getfield 16, 3) := by decide +kernel
theorem dX17_multiply_83 : decode cX17_multiply 83 = .ok (.iload_n 2, 1) := by decide +kernel
theorem dX17_multiply_84 : decode cX17_multiply 84 = .ok (.bipush 16, 2) := by decide +kernel
theorem dX17_multiply_86 : decode cX17_multiply 86 = .ok (.iadd, 1) := by decide +kernel
theorem dX17_multiply_87 : decode cX17_multiply 87 = .ok (.dup2, 1) := by decide +kernel
theorem dX17_multiply_88 : decode cX17_multiply 88 = .ok (.iaload, 1) := by decide +kernel
theorem dX17_multiply_89 : decode cX17_multiply 89 = .ok (.lload_n 3, 1) := by decide +kernel
theorem dX17_multiply_90 : decode cX17_multiply 90 = .ok (.l2i, 1) := by decide +kernel
theorem dX17_multiply_91 : decode cX17_multiply 91 = .ok (.iadd, 1) := by decide +kernel
theorem dX17_multiply_92 : decode cX17_multiply 92 = .ok (.iastore, 1) := by decide +kernel
theorem dX17_multiply_93 : decode cX17_multiply 93 = .ok (.iinc 2 1, 3) := by decide +kernel
theorem dX17_multiply_96 : decode cX17_multiply 96 = .ok (.goto (-94), 3) := by decide +kernel
theorem dX17_multiply_99 : decode cX17_multiply 99 = .ok (.aload_n 0, 1) := by decide +kernel
theorem dX17_multiply_100 : decode cX17_multiply 100 = .ok (.iload_n 1, 1) := by decide +kernel
theorem dX17_multiply_101 : decode cX17_multiply 101 = .ok (.invokevirtual 66, 3) := by decide +kernel
theorem dX17_multiply_104 : decode cX17_multiply 104 = .ok (.ireturn, 1) := by decide +kernel
theorem dX17_divide_0 : decode cX17_divide 0 = .ok (.aload_n 0, 1) := by decide +kernel
theorem dX17_divide_1 : decode cX17_divide 1 = .ok (.getfield 7, 3) := by decide +kernel
theorem dX17_divide_4 : decode cX17_divide 4 = .ok (.iconst 4, 1) := by decide +kernel
theorem dX17_divide_5 : decode cX17_divide 5 = .ok (.invokestatic 21, 3) := by decide +kernel
theorem dX17_divide_8 : decode cX17_divide 8 = .ok (.lstore_n 3, 1) := by decide +kernel
theorem dX17_divide_9 : decode cX17_divide 9 = .ok (.aload_n 0, 1) := by decide +kernel
theorem dX17_divide_10 : decode cX17_divide 10 = .ok (.getfield 7, 3) := by decide +kernel
theorem dX17_divide_13 : decode cX17_divide 13 = .ok (.iconst 0, 1) := by decide +kernel
theorem dX17_divide_14 : decode cX17_divide 14 = .ok (.invokestatic 21, 3) := by decide +kernel
theorem dX17_divide_17 : decode cX17_divide 17 = .ok (.lstore 5, 2) := by decide +kernel
theorem dX17_divide_19 : decode cX17_divide 19 = .ok (.aload_n 0, 1) := by decide +kernel
theorem dX17_divide_20 : decode cX17_divide 20 = .ok (.getfield 13, 3) := by decide +kernel
theorem dX17_divide_23 : decode cX17_divide 23 = .ok (.iconst 4, 1) := by decide +kernel
theorem dX17_divide_24 : decode cX17_divide 24 = .ok (.invokestatic 21, 3) := by decide +kernel
theorem dX17_divide_27 : decode cX17_divide 27 = .ok (.lstore 7, 2) := by decide +kernel
theorem dX17_divide_29 : decode cX17_divide 29 = .ok (.aload_n 0, 1) := by decide +kernel
theorem dX17_divide_30 : decode cX17_divide 30 = .ok (.getfield 13, 3) := by decide +kernel
theorem dX17_divide_33 : decode cX17_divide 33 = .ok (.iconst 0, 1) := by decide +kernel
theorem dX17_divide_34 : decode cX17_divide 34 = .ok (.invokestatic 21, 3) := by decide +kernel
theorem dX17_divide_37 : decode cX17_divide 37 = .ok (.lstore 9, 2) := by decide +kernel
theorem dX17_divide_39 : decode cX17_divide 39 = .ok (.lconst 0, 1) := by decide +kernel
theorem dX17_divide_40 : decode cX17_divide 40 = .ok (.lstore 11, 2) := by decide +kernel
theorem dX17_divide_42 : decode cX17_divide 42 = .ok (.lconst 0, 1) := by decide +kernel
theorem dX17_divide_43 : decode cX17_divide 43 = .ok (.lstore 13, 2) := by decide +kernel
theorem dX17_divide_45 : decode cX17_divide 45 = .ok (.lconst 0, 1) := by decide +kernel
theorem dX17_divide_46 : decode cX17_divide 46 = .ok (.lstore 15, 2) := by decide +kernel
theorem dX17_divide_48 : decode cX17_divide 48 = .ok (.lconst 0, 1) := by decide +kernel
theorem dX17_divide_49 : decode cX17_divide 49 = .ok (.lstore 17, 2) := by decide +kernel
theorem dX17_divide_51 : decode cX17_divide 51 = .ok (.bipush 127, 2) := by decide +kernel
theorem dX17_divide_53 : decode cX17_divide 53 = .ok (.istore 19, 2) := by decide +kernel
theorem dX17_divide_55 : decode cX17_divide 55 = .ok (.iload 19, 2) := by decide +kernel
theorem dX17_divide_57 : decode cX17_divide 57 = .ok (.ifCond .lt 166, 3) := by decide +kernel
theorem dX17_divide_60 : decode cX17_divide 60 = .ok (.lload 11, 2) := by decide +kernel
theorem dX17_divide_62 : decode cX17_divide 62 = .ok (.lconst 0, 1) := by decide +kernel
theorem dX17_divide_63 : decode cX17_divide 63 = .ok (.lcmp, 1) := by decide +kernel
theorem dX17_divide_64 : decode cX17_divide 64 = .ok (.ifCond .ge 7, 3) := by decide +kernel
theorem dX17_divide_67 : decode cX17_divide 67 = .ok (.iconst 1, 1) := by decide +kernel
theorem dX17_divide_68 : decode cX17_divide 68 = .ok (.goto 4, 3) := by decide +kernel
theorem dX17_divide_71 : decode cX17_divide 71 = .ok (.iconst 0, 1) := by decide +kernel
theorem dX17_divide_72 : decode cX17_divide 72 = .ok (.istore 20, 2) := by decide +kernel
theorem dX17_divide_74 : decode cX17_divide 74 = .ok (.lload 11, 2) := by decide +kernel
theorem dX17_divide_76 : decode cX17_divide 76 = .ok (.iconst 1, 1) := by decide +kernel
theorem dX17_divide_77 : decode cX17_divide 77 = .ok (.lshl, 1) := by decide +kernel
theorem dX17_divide_78 : decode cX17_divide 78 = .ok (.lload 13, 2) := by decide +kernel
theorem dX17_divide_80 : decode cX17_divide 80 = .ok (.bipush 63, 2) := by decide +kernel
theorem dX17_divide_82 : decode cX17_divide 82 = .ok (.lushr, 1) := by decide +kernel
theorem dX17_divide_83 : decode cX17_divide 83 = .ok (.lor, 1) := by decide +kernel
theorem dX17_divide_84 : decode cX17_divide 84 = .ok (.lstore 11, 2) := by decide +kernel
theorem dX17_divide_86 : decode cX17_divide 86 = .ok (.lload 13, 2) := by decide +kernel
theorem dX17_divide_88 : decode cX17_divide 88 = .ok (.iconst 1, 1) := by decide +kernel
theorem dX17_divide_89 : decode cX17_divide 89 = .ok (.lshl, 1) := by decide +kernel
theorem dX17_divide_90 : decode cX17_divide 90 = .ok (.iload 19, 2) := by decide +kernel
theorem dX17_divide_92 : decode cX17_divide 92 = .ok (.bipush 63, 2) := by decide +kernel
theorem dX17_divide_94 : decode cX17_divide 94 = .ok (.if_icmp .le 13, 3) := by decide +kernel
theorem dX17_divide_97 : decode cX17_divide 97 = .ok (.lload_n 3, 1) := by decide +kernel
theorem dX17_divide_98 : decode cX17_divide 98 = .ok (.iload 19, 2) := by decide +kernel
theorem dX17_divide_100 : decode cX17_divide 100 = .ok (.bipush 64, 2) := by decide +kernel
theorem dX17_divide_102 : decode cX17_divide 102 = .ok (.isub, 1) := by decide +kernel
theorem dX17_divide_103 : decode cX17_divide 103 = .ok (.lshr, 1) := by decide +kernel
theorem dX17_divide_104 : decode cX17_divide 104 = .ok (.goto 8, 3) := by decide +kernel
theorem dX17_divide_107 : decode cX17_divide 107 = .ok (.lload 5, 2) := by decide +kernel
theorem dX17_divide_109 : decode cX17_divide 109 = .ok (.iload 19, 2) := by decide +kernel
theorem dX17_divide_111 : decode cX17_divide 111 = .ok (.lshr, 1) := by decide +kernel
theorem dX17_divide_112 : decode cX17_divide 112 = .ok (.lconst 1, 1) := by decide +kernel
theorem dX17_divide_113 : decode cX17_divide 113 = .ok (.land, 1) := by decide +kernel
theorem dX17_divide_114 : decode cX17_divide 114 = .ok (.lor, 1) := by decide +kernel
theorem dX17_divide_115 : decode cX17_divide 115 = .ok (.lstore 13, 2) := by decide +kernel
theorem dX17_divide_117 : decode cX17_divide 117 = .ok (.iload 20, 2) := by decide +kernel
theorem dX17_divide_119 : decode cX17_divide 119 = .ok (.ifCond .ne 17, 3) := by decide +kernel
theorem dX17_divide_122 : decode cX17_divide 122 = .ok (.lload 11, 2) := by decide +kernel
theorem dX17_divide_124 : decode cX17_divide 124 = .ok (.lload 13, 2) := by decide +kernel
theorem dX17_divide_126 : decode cX17_divide 126 = .ok (.lload 7, 2) := by decide +kernel
theorem dX17_divide_128 : decode cX17_divide 128 = .ok (.lload 9, 2) := by decide +kernel
theorem dX17_divide_130 : decode cX17_divide 130 = .ok (.invokestatic 51, 3) := by decide +kernel
theorem dX17_divide_133 : decode cX17_divide 133 = .ok (.ifCond .lt 7, 3) := by decide +kernel
theorem dX17_divide_136 : decode cX17_divide 136 = .ok (.iconst 1, 1) := by decide +kernel
theorem dX17_divide_137 : decode cX17_divide 137 = .ok (.goto 4, 3) := by decide +kernel
theorem dX17_divide_140 : decode cX17_divide 140 = .ok (.iconst 0, 1) := by decide +kernel
theorem dX17_divide_141 : decode cX17_divide 141 = .ok (.istore 21, 2) := by decide +kernel
theorem dX17_divide_143 : decode cX17_divide 143 = .ok (.iload 21, 2) := by decide +kernel
theorem dX17_divide_145 : decode cX17_divide 145 = .ok (.ifCond .eq 43, 3) := by decide +kernel
theorem dX17_divide_148 : decode cX17_divide 148 = .ok (.lload 13, 2) := by decide +kernel
theorem dX17_divide_150 : decode cX17_divide 150 = .ok (.ldc2_w 38, 3) := by decide +kernel
theorem dX17_divide_153 : decode cX17_divide 153 = .ok (.ladd, 1) := by decide +kernel
theorem dX17_divide_154 : decode cX17_divide 154 = .ok (.lload 9, 2) := by decide +kernel
theorem dX17_divide_156 : decode cX17_divide 156 = .ok (.ldc2_w 38, 3) := by decide +kernel
theorem dX17_divide_159 : decode cX17_divide 159 = .ok (.ladd, 1) := by decide +kernel
theorem dX17_divide_160 : decode cX17_divide 160 = .ok (.lcmp, 1) := by decide +kernel
theorem dX17_divide_161 : decode cX17_divide 161 = .ok (.ifCond .ge 7, 3) := by decide +kernel
theorem dX17_divide_164 : decode cX17_divide 164 = .ok (.lconst 1, 1) := by decide +kernel
theorem dX17_divide_165 : decode cX17_divide 165 = .ok (.goto 4, 3) := by decide +kernel
theorem dX17_divide_168 : decode cX17_divide 168 = .ok (.lconst 0, 1) := by decide +kernel
theorem dX17_divide_169 : decode cX17_divide 169 = .ok (.lstore 22, 2) := by decide +kernel
theorem dX17_divide_171 : decode cX17_divide 171 = .ok (.lload 13, 2) := by decide +kernel
theorem dX17_divide_173 : decode cX17_divide 173 = .ok (.lload 9, 2) := by decide +kernel
theorem dX17_divide_175 : decode cX17_divide 175 = .ok (.lsub, 1) := by decide +kernel
theorem dX17_divide_176 : decode cX17_divide 176 = .ok (.lstore 13, 2) := by decide +kernel
theorem dX17_divide_178 : decode cX17_divide 178 = .ok (.lload 11, 2) := by decide +kernel
theorem dX17_divide_180 : decode cX17_divide 180 = .ok (.lload 7, 2) := by decide +kernel
theorem dX17_divide_182 : decode cX17_divide 182 = .ok (.lsub, 1) := by decide +kernel
theorem dX17_divide_183 : decode cX17_divide 183 = .ok (.lload 22, 2) := by decide +kernel
theorem dX17_divide_185 : decode cX17_divide 185 = .ok (.lsub, 1) := by decide +kernel
theorem dX17_divide_186 : decode cX17_divide 186 = .ok (.lstore 11, 2) := by decide +kernel
theorem dX17_divide_188 : decode cX17_divide 188 = .ok (.lload 15, 2) := by decide +kernel
theorem dX17_divide_190 : decode cX17_divide 190 = .ok (.iconst 1, 1) := by decide +kernel
theorem dX17_divide_191 : decode cX17_divide 191 = .ok (.lshl, 1) := by decide +kernel
theorem dX17_divide_192 : decode cX17_divide 192 = .ok (.lload 17, 2) := by decide +kernel
theorem dX17_divide_194 : decode cX17_divide 194 = .ok (.bipush 63, 2) := by decide +kernel
theorem dX17_divide_196 : decode cX17_divide 196 = .ok (.lushr, 1) := by decide +kernel
theorem dX17_divide_197 : decode cX17_divide 197 = .ok (.lor, 1) := by decide +kernel
theorem dX17_divide_198 : decode cX17_divide 198 = .ok (.lstore 15, 2) := by decide +kernel
theorem dX17_divide_200 : decode cX17_divide 200 = .ok (.lload 17, 2) := by decide +kernel
theorem dX17_divide_202 : decode cX17_divide 202 = .ok (.iconst 1, 1) := by decide +kernel
theorem dX17_divide_203 : decode cX17_divide 203 = .ok (.lshl, 1) := by decide +kernel
theorem dX17_divide_204 : decode cX17_divide 204 = .ok (.iload 21, 2) := by decide +kernel
theorem dX17_divide_206 : decode cX17_divide 206 = .ok (.ifCond .eq 7, 3) := by decide +kernel
theorem dX17_divide_209 : decode cX17_divide 209 = .ok (.lconst 1, 1) := by decide +kernel
theorem dX17_divide_210 : decode cX17_divide 210 = .ok (.goto 4, 3) := by decide +kernel
theorem dX17_divide_213 : decode cX17_divide 213 = .ok (.lconst 0, 1) := by decide +kernel
theorem dX17_divide_214 : decode cX17_divide 214 = .ok (.lor, 1) := by decide +kernel
theorem dX17_divide_215 : decode cX17_divide 215 = .ok (.lstore 17, 2) := by decide +kernel
theorem dX17_divide_217 : decode cX17_divide 217 = .ok (.iinc 19 (-1), 3) := by decide +kernel
theorem dX17_divide_220 : decode cX17_divide 220 = .ok (.goto (-165), 3) := by decide +kernel
theorem dX17_divide_223 : decode cX17_divide 223 = .ok (.aload_n 0, 1) := by decide +kernel
theorem dX17_divide_224 : decode cX17_divide 224 = .ok (.iload_n 1, 1) := by decide +kernel
theorem dX17_divide_225 : decode cX17_divide 225 = .ok (.ifCond .eq 8, 3) := by decide +kernel
theorem dX17_divide_228 : decode cX17_divide 228 = .ok (.lload 15, 2) := by decide +kernel
theorem dX17_divide_230 : decode cX17_divide 230 = .ok (.goto 5, 3) := by decide +kernel
theorem dX17_divide_233 : decode cX17_divide 233 = .ok (.lload 11, 2) := by decide +kernel
theorem dX17_divide_235 : decode cX17_divide 235 = .ok (.putfield 25, 3) := by decide +kernel
theorem dX17_divide_238 : decode cX17_divide 238 = .ok (.aload_n 0, 1) := by decide +kernel
theorem dX17_divide_239 : decode cX17_divide 239 = .ok (.iload_n 1, 1) := by decide +kernel
theorem dX17_divide_240 : decode cX17_divide 240 = .ok (.ifCond .eq 8, 3) := by decide +kernel
theorem dX17_divide_243 : decode cX17_divide 243 = .ok (.lload 17, 2) := by decide +kernel
theorem dX17_divide_245 : decode cX17_divide 245 = .ok (.goto 5, 3) := by decide +kernel
theorem dX17_divide_248 : decode cX17_divide 248 = .ok (.lload 13, 2) := by decide +kernel
theorem dX17_divide_250 : decode cX17_divide 250 = .ok (.putfield 29, 3) := by decide +kernel
theorem dX17_divide_253 : decode cX17_divide 253 = .ok (.aload_n 0, 1) := by decide +kernel
theorem dX17_divide_254 : decode cX17_divide 254 = .ok (.getfield 25, 3) := by decide +kernel
theorem dX17_divide_257 : decode cX17_divide 257 = .ok (.aload_n 0, 1) := by decide +kernel
theorem dX17_divide_258 : decode cX17_divide 258 = .ok (.getfield 29, 3) := by decide +kernel
theorem dX17_divide_261 : decode cX17_divide 261 = .ok (.iload_n 2, 1) := by decide +kernel
theorem dX17_divide_262 : decode cX17_divide 262 = .ok (.invokestatic 32, 3) := by decide +kernel
theorem dX17_divide_265 : decode cX17_divide 265 = .ok (.ireturn, 1) := by decide +kernel
theorem dX17_shift_0 : decode cX17_shift 0 = .ok (.aload_n 0, 1) := by decide +kernel
theorem dX17_shift_1 : decode cX17_shift 1 = .ok (.lload_n 2, 1) := by decide +kernel
theorem dX17_shift_2 : decode cX17_shift 2 = .ok (.putfield 25, 3) := by decide +kernel
theorem dX17_shift_5 : decode cX17_shift 5 = .ok (.aload_n 0, 1) := by decide +kernel
theorem dX17_shift_6 : decode cX17_shift 6 = .ok (.lload 4, 2) := by decide +kernel
theorem dX17_shift_8 : decode cX17_shift 8 = .ok (.putfield 29, 3) := by decide +kernel
theorem dX17_shift_11 : decode cX17_shift 11 = .ok (.iconst 0, 1) := by decide +kernel
theorem dX17_shift_12 : decode cX17_shift 12 = .ok (.istore 8, 2) := by decide +kernel
theorem dX17_shift_14 : decode cX17_shift 14 = .ok (.iload 8, 2) := by decide +kernel
theorem dX17_shift_16 : decode cX17_shift 16 = .ok (.iload 6, 2) := by decide +kernel
theorem dX17_shift_18 : decode cX17_shift 18 = .ok (.if_icmp .ge 72, 3) := by decide +kernel
theorem dX17_shift_21 : decode cX17_shift 21 = .ok (.iload_n 1, 1) := by decide +kernel
theorem dX17_shift_22 : decode cX17_shift 22 = .ok (.ifCond .eq 34, 3) := by decide +kernel
theorem dX17_shift_25 : decode cX17_shift 25 = .ok (.aload_n 0, 1) := by decide +kernel
theorem dX17_shift_26 : decode cX17_shift 26 = .ok (.aload_n 0, 1) := by decide +kernel
theorem dX17_shift_27 : decode cX17_shift 27 = .ok (.getfield 25, 3) := by decide +kernel
theorem dX17_shift_30 : decode cX17_shift 30 = .ok (.iconst 1, 1) := by decide +kernel
theorem dX17_shift_31 : decode cX17_shift 31 = .ok (.lshl, 1) := by decide +kernel
theorem dX17_shift_32 : decode cX17_shift 32 = .ok (.aload_n 0, 1) := by decide +kernel
theorem dX17_shift_33 : decode cX17_shift 33 = .ok (.getfield 29, 3) := by decide +kernel
theorem dX17_shift_36 : decode cX17_shift 36 = .ok (.bipush 63, 2) := by decide +kernel
theorem dX17_shift_38 : decode cX17_shift 38 = .ok (.lushr, 1) := by decide +kernel
theorem dX17_shift_39 : decode cX17_shift 39 = .ok (.lor, 1) := by decide +kernel
theorem dX17_shift_40 : decode cX17_shift 40 = .ok (.putfield 25, 3) := by decide +kernel
theorem dX17_shift_43 : decode cX17_shift 43 = .ok (.aload_n 0, 1) := by decide +kernel
theorem dX17_shift_44 : decode cX17_shift 44 = .ok (.aload_n 0, 1) := by decide +kernel
theorem dX17_shift_45 : decode cX17_shift 45 = .ok (.getfield 29, 3) := by decide +kernel
theorem dX17_shift_48 : decode cX17_shift 48 = .ok (.iconst 1, 1) := by decide +kernel
theorem dX17_shift_49 : decode cX17_shift 49 = .ok (.lshl, 1) := by decide +kernel
theorem dX17_shift_50 : decode cX17_shift 50 = .ok (.putfield 29, 3) := by decide +kernel
theorem dX17_shift_53 : decode cX17_shift 53 = .ok (.goto 31, 3) := by decide +kernel
theorem dX17_shift_56 : decode cX17_shift 56 = .ok (.aload_n 0, 1) := by decide +kernel
theorem dX17_shift_57 : decode cX17_shift 57 = .ok (.aload_n 0, 1) := by decide +kernel
theorem dX17_shift_58 : decode cX17_shift 58 = .ok (.getfield 29, 3) := by decide +kernel
theorem dX17_shift_61 : decode cX17_shift 61 = .ok (.iconst 1, 1) := by decide +kernel
theorem dX17_shift_62 : decode cX17_shift 62 = .ok (.lushr, 1) := by decide +kernel
theorem dX17_shift_63 : decode cX17_shift 63 = .ok (.aload_n 0, 1) := by decide +kernel
theorem dX17_shift_64 : decode cX17_shift 64 = .ok (.getfield 25, 3) := by decide +kernel
theorem dX17_shift_67 : decode cX17_shift 67 = .ok (.bipush 63, 2) := by decide +kernel
theorem dX17_shift_69 : decode cX17_shift 69 = .ok (.lshl, 1) := by decide +kernel
theorem dX17_shift_70 : decode cX17_shift 70 = .ok (.lor, 1) := by decide +kernel
theorem dX17_shift_71 : decode cX17_shift 71 = .ok (.putfield 29, 3) := by decide +kernel
theorem dX17_shift_74 : decode cX17_shift 74 = .ok (.aload_n 0, 1) := by decide +kernel
theorem dX17_shift_75 : decode cX17_shift 75 = .ok (.aload_n 0, 1) := by decide +kernel
theorem dX17_shift_76 : decode cX17_shift 76 = .ok (.getfield 25, 3) := by decide +kernel
theorem dX17_shift_79 : decode cX17_shift 79 = .ok (.iconst 1, 1) := by decide +kernel
theorem dX17_shift_80 : decode cX17_shift 80 = .ok (.lushr, 1) := by decide +kernel
theorem dX17_shift_81 : decode cX17_shift 81 = .ok (.putfield 25, 3) := by decide +kernel
theorem dX17_shift_84 : decode cX17_shift 84 = .ok (.iinc 8 1, 3) := by decide +kernel
theorem dX17_shift_87 : decode cX17_shift 87 = .ok (.goto (-73), 3) := by decide +kernel
theorem dX17_shift_90 : decode cX17_shift 90 = .ok (.iload 7, 2) := by decide +kernel
theorem dX17_shift_92 : decode cX17_shift 92 = .ok (.sipush 128, 3) := by decide +kernel
theorem dX17_shift_95 : decode cX17_shift 95 = .ok (.if_icmp .ne 4, 3) := by decide +kernel
theorem dX17_shift_98 : decode cX17_shift 98 = .ok (.return_, 1) := by decide +kernel
theorem dX17_shift_99 : decode cX17_shift 99 = .ok (.aload_n 0, 1) := by decide +kernel
theorem dX17_shift_100 : decode cX17_shift 100 = .ok (.lconst 0, 1) := by decide +kernel
theorem dX17_shift_101 : decode cX17_shift 101 = .ok (.putfield 25, 3) := by decide +kernel
theorem dX17_shift_104 : decode cX17_shift 104 = .ok (.aload_n 0, 1) := by decide +kernel
theorem dX17_shift_105 : decode cX17_shift 105 = .ok (.iload 7, 2) := by decide +kernel
theorem dX17_shift_107 : decode cX17_shift 107 = .ok (.bipush 8, 2) := by decide +kernel
theorem dX17_shift_109 : decode cX17_shift 109 = .ok (.if_icmp .ne 14, 3) := by decide +kernel
theorem dX17_shift_112 : decode cX17_shift 112 = .ok (.aload_n 0, 1) := by decide +kernel
theorem dX17_shift_113 : decode cX17_shift 113 = .ok (.getfield 29, 3) := by decide +kernel
theorem dX17_shift_116 : decode cX17_shift 116 = .ok (.ldc2_w 69, 3) := by decide +kernel
theorem dX17_shift_119 : decode cX17_shift 119 = .ok (.land, 1) := by decide +kernel
theorem dX17_shift_120 : decode cX17_shift 120 = .ok (.goto 7, 3) := by decide +kernel
theorem dX17_shift_123 : decode cX17_shift 123 = .ok (.aload_n 0, 1) := by decide +kernel
theorem dX17_shift_124 : decode cX17_shift 124 = .ok (.getfield 29, 3) := by decide +kernel
theorem dX17_shift_127 : decode cX17_shift 127 = .ok (.putfield 29, 3) := by decide +kernel
theorem dX17_shift_130 : decode cX17_shift 130 = .ok (.return_, 1) := by decide +kernel
theorem dX18_findModule_0 : decode cX18_findModule 0 = .ok (.aload_n 0, 1) := by decide +kernel
theorem dX18_findModule_1 : decode cX18_findModule 1 = .ok (.getfield 7, 3) := by decide +kernel
theorem dX18_findModule_4 : decode cX18_findModule 4 = .ok (.istore_n 2, 1) := by decide +kernel
theorem dX18_findModule_5 : decode cX18_findModule 5 = .ok (.iload_n 2, 1) := by decide +kernel
theorem dX18_findModule_6 : decode cX18_findModule 6 = .ok (.ifCond .le 22, 3) := by decide +kernel
theorem dX18_findModule_9 : decode cX18_findModule 9 = .ok (.aload_n 0, 1) := by decide +kernel
theorem dX18_findModule_10 : decode cX18_findModule 10 = .ok (.getfield 17, 3) := by decide +kernel
theorem dX18_findModule_13 : decode cX18_findModule 13 = .ok (.iload_n 2, 1) := by decide +kernel
theorem dX18_findModule_14 : decode cX18_findModule 14 = .ok (.aaload, 1) := by decide +kernel
theorem dX18_findModule_15 : decode cX18_findModule 15 = .ok (.invokevirtual 21, 3) := by decide +kernel
theorem dX18_findModule_18 : decode cX18_findModule 18 = .ok (.iload_n 1, 1) := by decide +kernel
theorem dX18_findModule_19 : decode cX18_findModule 19 = .ok (.if_icmp .eq 9, 3) := by decide +kernel
theorem dX18_findModule_22 : decode cX18_findModule 22 = .ok (.iinc 2 (-1), 3) := by decide +kernel
theorem dX18_findModule_25 : decode cX18_findModule 25 = .ok (.goto (-20), 3) := by decide +kernel
theorem dX18_findModule_28 : decode cX18_findModule 28 = .ok (.iload_n 2, 1) := by decide +kernel
theorem dX18_findModule_29 : decode cX18_findModule 29 = .ok (.ireturn, 1) := by decide +kernel
theorem dX18_load_0 : decode cX18_load 0 = .ok (.aload_n 0, 1) := by decide +kernel
theorem dX18_load_1 : decode cX18_load 1 = .ok (.bipush 64, 2) := by decide +kernel
theorem dX18_load_3 : decode cX18_load 3 = .ok (.iload_n 1, 1) := by decide +kernel
theorem dX18_load_4 : decode cX18_load 4 = .ok (.imul, 1) := by decide +kernel
theorem dX18_load_5 : decode cX18_load 5 = .ok (.putfield 34, 3) := by decide +kernel
theorem dX18_load_8 : decode cX18_load 8 = .ok (.aload_n 0, 1) := by decide +kernel
theorem dX18_load_9 : decode cX18_load 9 = .ok (.invokevirtual 37, 3) := by decide +kernel
theorem dX18_load_12 : decode cX18_load 12 = .ok (.ireturn, 1) := by decide +kernel
theorem dX18_loadOne_0 : decode cX18_loadOne 0 = .ok (.aload_n 0, 1) := by decide +kernel
theorem dX18_loadOne_1 : decode cX18_loadOne 1 = .ok (.getfield 34, 3) := by decide +kernel
theorem dX18_loadOne_4 : decode cX18_loadOne 4 = .ok (.istore_n 1, 1) := by decide +kernel
theorem dX18_loadOne_5 : decode cX18_loadOne 5 = .ok (.aload_n 0, 1) := by decide +kernel
theorem dX18_loadOne_6 : decode cX18_loadOne 6 = .ok (.dup, 1) := by decide +kernel
theorem dX18_loadOne_7 : decode cX18_loadOne 7 = .ok (.getfield 34, 3) := by decide +kernel
theorem dX18_loadOne_10 : decode cX18_loadOne 10 = .ok (.iconst 1, 1) := by decide +kernel
theorem dX18_loadOne_11 : decode cX18_loadOne 11 = .ok (.iadd, 1) := by decide +kernel
theorem dX18_loadOne_12 : decode cX18_loadOne 12 = .ok (.putfield 34, 3) := by decide +kernel
theorem dX18_loadOne_15 : decode cX18_loadOne 15 = .ok (.aload_n 0, 1) := by decide +kernel
theorem dX18_loadOne_16 : decode cX18_loadOne 16 = .ok (.getfield 40, 3) := by decide +kernel
theorem dX18_loadOne_19 : decode cX18_loadOne 19 = .ok (.aload_n 0, 1) := by decide +kernel
theorem dX18_loadOne_20 : decode cX18_loadOne 20 = .ok (.getfield 44, 3) := by decide +kernel
theorem dX18_loadOne_23 : decode cX18_loadOne 23 = .ok (.iload_n 1, 1) := by decide +kernel
theorem dX18_loadOne_24 : decode cX18_loadOne 24 = .ok (.baload, 1) := by decide +kernel
theorem dX18_loadOne_25 : decode cX18_loadOne 25 = .ok (.aload_n 0, 1) := by decide +kernel
theorem dX18_loadOne_26 : decode cX18_loadOne 26 = .ok (.getfield 48, 3) := by decide +kernel
theorem dX18_loadOne_29 : decode cX18_loadOne 29 = .ok (.iload_n 1, 1) := by decide +kernel
theorem dX18_loadOne_30 : decode cX18_loadOne 30 = .ok (.laload, 1) := by decide +kernel
theorem dX18_loadOne_31 : decode cX18_loadOne 31 = .ok (.aload_n 0, 1) := by decide +kernel
theorem dX18_loadOne_32 : decode cX18_loadOne 32 = .ok (.getfield 51, 3) := by decide +kernel
theorem dX18_loadOne_35 : decode cX18_loadOne 35 = .ok (.iload_n 1, 1) := by decide +kernel
theorem dX18_loadOne_36 : decode cX18_loadOne 36 = .ok (.laload, 1) := by decide +kernel
theorem dX18_loadOne_37 : decode cX18_loadOne 37 = .ok (.invokevirtual 54, 3) := by decide +kernel
theorem dX18_loadOne_40 : decode cX18_loadOne 40 = .ok (.istore_n 2, 1) := by decide +kernel
theorem dX18_loadOne_41 : decode cX18_loadOne 41 = .ok (.iconst 0, 1) := by decide +kernel
theorem dX18_loadOne_42 : decode cX18_loadOne 42 = .ok (.istore_n 3, 1) := by decide +kernel
theorem dX18_loadOne_43 : decode cX18_loadOne 43 = .ok (.iload_n 3, 1) := by decide +kernel
theorem dX18_loadOne_44 : decode cX18_loadOne 44 = .ok (.aload_n 0, 1) := by decide +kernel
theorem dX18_loadOne_45 : decode cX18_loadOne 45 = .ok (.getfield 60, 3) := by decide +kernel
theorem dX18_loadOne_48 : decode cX18_loadOne 48 = .ok (.iload_n 1, 1) := by decide +kernel
theorem dX18_loadOne_49 : decode cX18_loadOne 49 = .ok (.iaload, 1) := by decide +kernel
theorem dX18_loadOne_50 : decode cX18_loadOne 50 = .ok (.if_icmp .ge 21, 3) := by decide +kernel
theorem dX18_loadOne_53 : decode cX18_loadOne 53 = .ok (.aload_n 0, 1) := by decide +kernel
theorem dX18_loadOne_54 : decode cX18_loadOne 54 = .ok (.getfield 40, 3) := by decide +kernel
theorem dX18_loadOne_57 : decode cX18_loadOne 57 = .ok (.iload_n 2, 1) := by decide +kernel
theorem dX18_loadOne_58 : decode cX18_loadOne 58 = .ok (.aload_n 0, 1) := by decide +kernel
theorem dX18_loadOne_59 : decode cX18_loadOne 59 = .ok (.invokevirtual 37, 3) := by decide +kernel
theorem dX18_loadOne_62 : decode cX18_loadOne 62 = .ok (.invokevirtual 63, 3) := by decide +kernel
theorem dX18_loadOne_65 : decode cX18_loadOne 65 = .ok (.iinc 3 1, 3) := by decide +kernel
theorem dX18_loadOne_68 : decode cX18_loadOne 68 = .ok (.goto (-25), 3) := by decide +kernel
theorem dX18_loadOne_71 : decode cX18_loadOne 71 = .ok (.iload_n 2, 1) := by decide +kernel
theorem dX18_loadOne_72 : decode cX18_loadOne 72 = .ok (.ireturn, 1) := by decide +kernel
theorem dX18_keep_0 : decode cX18_keep 0 = .ok (.aload_n 0, 1) := by decide +kernel
theorem dX18_keep_1 : decode cX18_keep 1 = .ok (.bipush 64, 2) := by decide +kernel
theorem dX18_keep_3 : decode cX18_keep 3 = .ok (.iload_n 1, 1) := by decide +kernel
theorem dX18_keep_4 : decode cX18_keep 4 = .ok (.imul, 1) := by decide +kernel
theorem dX18_keep_5 : decode cX18_keep 5 = .ok (.putfield 34, 3) := by decide +kernel
theorem dX18_keep_8 : decode cX18_keep 8 = .ok (.aload_n 0, 1) := by decide +kernel
theorem dX18_keep_9 : decode cX18_keep 9 = .ok (.iload_n 2, 1) := by decide +kernel
theorem dX18_keep_10 : decode cX18_keep 10 = .ok (.invokevirtual 67, 3) := by decide +kernel
theorem dX18_keep_13 : decode cX18_keep 13 = .ok (.return_, 1) := by decide +kernel
theorem dX18_keepOne_0 : decode cX18_keepOne 0 = .ok (.aload_n 0, 1) := by decide +kernel
theorem dX18_keepOne_1 : decode cX18_keepOne 1 = .ok (.getfield 34, 3) := by decide +kernel
theorem dX18_keepOne_4 : decode cX18_keepOne 4 = .ok (.istore_n 2, 1) := by decide +kernel
theorem dX18_keepOne_5 : decode cX18_keepOne 5 = .ok (.aload_n 0, 1) := by decide +kernel
theorem dX18_keepOne_6 : decode cX18_keepOne 6 = .ok (.dup, 1) := by decide +kernel
theorem dX18_keepOne_7 : decode cX18_keepOne 7 = .ok (.getfield 34, 3) := by decide +kernel
theorem dX18_keepOne_10 : decode cX18_keepOne 10 = .ok (.iconst 1, 1) := by decide +kernel
theorem dX18_keepOne_11 : decode cX18_keepOne 11 = .ok (.iadd, 1) := by decide +kernel
theorem dX18_keepOne_12 : decode cX18_keepOne 12 = .ok (.putfield 34, 3) := by decide +kernel
theorem dX18_keepOne_15 : decode cX18_keepOne 15 = .ok (.aload_n 0, 1) := by decide +kernel
theorem dX18_keepOne_16 : decode cX18_keepOne 16 = .ok (.getfield 44, 3) := by decide +kernel
theorem dX18_keepOne_19 : decode cX18_keepOne 19 = .ok (.iload_n 2, 1) := by decide +kernel
theorem dX18_keepOne_20 : decode cX18_keepOne 20 = .ok (.aload_n 0, 1) := by decide +kernel
theorem dX18_keepOne_21 : decode cX18_keepOne 21 = .ok (.getfield 40, 3) := by decide +kernel
theorem dX18_keepOne_24 : decode cX18_keepOne 24 = .ok (.getfield 71, 3) := by decide +kernel
theorem dX18_keepOne_27 : decode cX18_keepOne 27 = .ok (.iload_n 1, 1) := by decide +kernel
theorem dX18_keepOne_28 : decode cX18_keepOne 28 = .ok (.baload, 1) := by decide +kernel
theorem dX18_keepOne_29 : decode cX18_keepOne 29 = .ok (.bastore, 1) := by decide +kernel
theorem dX18_keepOne_30 : decode cX18_keepOne 30 = .ok (.aload_n 0, 1) := by decide +kernel
theorem dX18_keepOne_31 : decode cX18_keepOne 31 = .ok (.getfield 48, 3) := by decide +kernel
theorem dX18_keepOne_34 : decode cX18_keepOne 34 = .ok (.iload_n 2, 1) := by decide +kernel
theorem dX18_keepOne_35 : decode cX18_keepOne 35 = .ok (.aload_n 0, 1) := by decide +kernel
theorem dX18_keepOne_36 : decode cX18_keepOne 36 = .ok (.getfield 40, 3) := by decide +kernel
theorem dX18_keepOne_39 : decode cX18_keepOne 39 = .ok (.getfield 74, 3) := by decide +kernel
theorem dX18_keepOne_42 : decode cX18_keepOne 42 = .ok (.iload_n 1, 1) := by decide +kernel
theorem dX18_keepOne_43 : decode cX18_keepOne 43 = .ok (.laload, 1) := by decide +kernel
theorem dX18_keepOne_44 : decode cX18_keepOne 44 = .ok (.lastore, 1) := by decide +kernel
theorem dX18_keepOne_45 : decode cX18_keepOne 45 = .ok (.aload_n 0, 1) := by decide +kernel
theorem dX18_keepOne_46 : decode cX18_keepOne 46 = .ok (.getfield 51, 3) := by decide +kernel
theorem dX18_keepOne_49 : decode cX18_keepOne 49 = .ok (.iload_n 2, 1) := by decide +kernel
theorem dX18_keepOne_50 : decode cX18_keepOne 50 = .ok (.aload_n 0, 1) := by decide +kernel
theorem dX18_keepOne_51 : decode cX18_keepOne 51 = .ok (.getfield 40, 3) := by decide +kernel
theorem dX18_keepOne_54 : decode cX18_keepOne 54 = .ok (.getfield 77, 3) := by decide +kernel
theorem dX18_keepOne_57 : decode cX18_keepOne 57 = .ok (.iload_n 1, 1) := by decide +kernel
theorem dX18_keepOne_58 : decode cX18_keepOne 58 = .ok (.laload, 1) := by decide +kernel
theorem dX18_keepOne_59 : decode cX18_keepOne 59 = .ok (.lastore, 1) := by decide +kernel
theorem dX18_keepOne_60 : decode cX18_keepOne 60 = .ok (.aload_n 0, 1) := by decide +kernel
theorem dX18_keepOne_61 : decode cX18_keepOne 61 = .ok (.getfield 60, 3) := by decide +kernel
theorem dX18_keepOne_64 : decode cX18_keepOne 64 = .ok (.iload_n 2, 1) := by decide +kernel
theorem dX18_keepOne_65 : decode cX18_keepOne 65 = .ok (.aload_n 0, 1) := by decide +kernel
theorem dX18_keepOne_66 : decode cX18_keepOne 66 = .ok (.getfield 40, 3) := by decide +kernel
theorem dX18_keepOne_69 : decode cX18_keepOne 69 = .ok (.iload_n 1, 1) := by decide +kernel
theorem dX18_keepOne_70 : decode cX18_keepOne 70 = .ok (.invokevirtual 80, 3) := by decide +kernel
theorem dX18_keepOne_73 : decode cX18_keepOne 73 = .ok (.iastore, 1) := by decide +kernel
theorem dX18_keepOne_74 : decode cX18_keepOne 74 = .ok (.aload_n 0, 1) := by decide +kernel
theorem dX18_keepOne_75 : decode cX18_keepOne 75 = .ok (.getfield 40, 3) := by decide +kernel
theorem dX18_keepOne_78 : decode cX18_keepOne 78 = .ok (.getfield 84, 3) := by decide +kernel
theorem dX18_keepOne_81 : decode cX18_keepOne 81 = .ok (.iload_n 1, 1) := by decide +kernel
theorem dX18_keepOne_82 : decode cX18_keepOne 82 = .ok (.iaload, 1) := by decide +kernel
theorem dX18_keepOne_83 : decode cX18_keepOne 83 = .ok (.istore_n 3, 1) := by decide +kernel
theorem dX18_keepOne_84 : decode cX18_keepOne 84 = .ok (.iload_n 3, 1) := by decide +kernel
theorem dX18_keepOne_85 : decode cX18_keepOne 85 = .ok (.iconst (-1), 1) := by decide +kernel
theorem dX18_keepOne_86 : decode cX18_keepOne 86 = .ok (.if_icmp .eq 21, 3) := by decide +kernel
theorem dX18_keepOne_89 : decode cX18_keepOne 89 = .ok (.aload_n 0, 1) := by decide +kernel
theorem dX18_keepOne_90 : decode cX18_keepOne 90 = .ok (.iload_n 3, 1) := by decide +kernel
theorem dX18_keepOne_91 : decode cX18_keepOne 91 = .ok (.invokevirtual 67, 3) := by decide +kernel
theorem dX18_keepOne_94 : decode cX18_keepOne 94 = .ok (.aload_n 0, 1) := by decide +kernel
theorem dX18_keepOne_95 : decode cX18_keepOne 95 = .ok (.getfield 40, 3) := by decide +kernel
theorem dX18_keepOne_98 : decode cX18_keepOne 98 = .ok (.getfield 87, 3) := by decide +kernel
theorem dX18_keepOne_101 : decode cX18_keepOne 101 = .ok (.iload_n 3, 1) := by decide +kernel
theorem dX18_keepOne_102 : decode cX18_keepOne 102 = .ok (.iaload, 1) := by decide +kernel
theorem dX18_keepOne_103 : decode cX18_keepOne 103 = .ok (.istore_n 3, 1) := by decide +kernel
theorem dX18_keepOne_104 : decode cX18_keepOne 104 = .ok (.goto (-20), 3) := by decide +kernel
theorem dX18_keepOne_107 : decode cX18_keepOne 107 = .ok (.return_, 1) := by decide +kernel
theorem dX18_removeResource_0 : decode cX18_removeResource 0 = .ok (.aload_n 0, 1) := by decide +kernel
theorem dX18_removeResource_1 : decode cX18_removeResource 1 = .ok (.dup, 1) := by decide +kernel
theorem dX18_removeResource_2 : decode cX18_removeResource 2 = .ok (.getfield 10, 3) := by decide +kernel
theorem dX18_removeResource_5 : decode cX18_removeResource 5 = .ok (.iconst 1, 1) := by decide +kernel
theorem dX18_removeResource_6 : decode cX18_removeResource 6 = .ok (.isub, 1) := by decide +kernel
theorem dX18_removeResource_7 : decode cX18_removeResource 7 = .ok (.putfield 10, 3) := by decide +kernel
theorem dX18_removeResource_10 : decode cX18_removeResource 10 = .ok (.aload_n 0, 1) := by decide +kernel
theorem dX18_removeResource_11 : decode cX18_removeResource 11 = .ok (.getfield 27, 3) := by decide +kernel
theorem dX18_removeResource_14 : decode cX18_removeResource 14 = .ok (.iload_n 1, 1) := by decide +kernel
theorem dX18_removeResource_15 : decode cX18_removeResource 15 = .ok (.aload_n 0, 1) := by decide +kernel
theorem dX18_removeResource_16 : decode cX18_removeResource 16 = .ok (.getfield 27, 3) := by decide +kernel
theorem dX18_removeResource_19 : decode cX18_removeResource 19 = .ok (.aload_n 0, 1) := by decide +kernel
theorem dX18_removeResource_20 : decode cX18_removeResource 20 = .ok (.getfield 10, 3) := by decide +kernel
theorem dX18_removeResource_23 : decode cX18_removeResource 23 = .ok (.laload, 1) := by decide +kernel
theorem dX18_removeResource_24 : decode cX18_removeResource 24 = .ok (.lastore, 1) := by decide +kernel
theorem dX18_removeResource_25 : decode cX18_removeResource 25 = .ok (.aload_n 0, 1) := by decide +kernel
theorem dX18_removeResource_26 : decode cX18_removeResource 26 = .ok (.getfield 30, 3) := by decide +kernel
theorem dX18_removeResource_29 : decode cX18_removeResource 29 = .ok (.iload_n 1, 1) := by decide +kernel
theorem dX18_removeResource_30 : decode cX18_removeResource 30 = .ok (.aload_n 0, 1) := by decide +kernel
theorem dX18_removeResource_31 : decode cX18_removeResource 31 = .ok (.getfield 30, 3) := by decide +kernel
theorem dX18_removeResource_34 : decode cX18_removeResource 34 = .ok (.aload_n 0, 1) := by decide +kernel
theorem dX18_removeResource_35 : decode cX18_removeResource 35 = .ok (.getfield 10, 3) := by decide +kernel
theorem dX18_removeResource_38 : decode cX18_removeResource 38 = .ok (.iaload, 1) := by decide +kernel
theorem dX18_removeResource_39 : decode cX18_removeResource 39 = .ok (.iastore, 1) := by decide +kernel
theorem dX18_removeResource_40 : decode cX18_removeResource 40 = .ok (.iconst 0, 1) := by decide +kernel
theorem dX18_removeResource_41 : decode cX18_removeResource 41 = .ok (.istore_n 2, 1) := by decide +kernel
theorem dX18_removeResource_42 : decode cX18_removeResource 42 = .ok (.iload_n 2, 1) := by decide +kernel
theorem dX18_removeResource_43 : decode cX18_removeResource 43 = .ok (.bipush 64, 2) := by decide +kernel
theorem dX18_removeResource_45 : decode cX18_removeResource 45 = .ok (.if_icmp .ge 109, 3) := by decide +kernel
theorem dX18_removeResource_48 : decode cX18_removeResource 48 = .ok (.aload_n 0, 1) := by decide +kernel
theorem dX18_removeResource_49 : decode cX18_removeResource 49 = .ok (.getfield 44, 3) := by decide +kernel
theorem dX18_removeResource_52 : decode cX18_removeResource 52 = .ok (.bipush 64, 2) := by decide +kernel
theorem dX18_removeResource_54 : decode cX18_removeResource 54 = .ok (.iload_n 1, 1) := by decide +kernel
theorem dX18_removeResource_55 : decode cX18_removeResource 55 = .ok (.imul, 1) := by decide +kernel
theorem dX18_removeResource_56 : decode cX18_removeResource 56 = .ok (.iload_n 2, 1) := by decide +kernel
theorem dX18_removeResource_57 : decode cX18_removeResource 57 = .ok (.iadd, 1) := by decide +kernel
theorem dX18_removeResource_58 : decode cX18_removeResource 58 = .ok (.aload_n 0, 1) := by decide +kernel
theorem dX18_removeResource_59 : decode cX18_removeResource 59 = .ok (.getfield 44, 3) := by decide +kernel
theorem dX18_removeResource_62 : decode cX18_removeResource 62 = .ok (.bipush 64, 2) := by decide +kernel
theorem dX18_removeResource_64 : decode cX18_removeResource 64 = .ok (.aload_n 0, 1) := by decide +kernel
theorem dX18_removeResource_65 : decode cX18_removeResource 65 = .ok (.getfield 10, 3) := by decide +kernel
theorem dX18_removeResource_68 : decode cX18_removeResource 68 = .ok (.imul, 1) := by decide +kernel
theorem dX18_removeResource_69 : decode cX18_removeResource 69 = .ok (.iload_n 2, 1) := by decide +kernel
theorem dX18_removeResource_70 : decode cX18_removeResource 70 = .ok (.iadd, 1) := by decide +kernel
theorem dX18_removeResource_71 : decode cX18_removeResource 71 = .ok (.baload, 1) := by decide +kernel
theorem dX18_removeResource_72 : decode cX18_removeResource 72 = .ok (.bastore, 1) := by decide +kernel
theorem dX18_removeResource_73 : decode cX18_removeResource 73 = .ok (.aload_n 0, 1) := by decide +kernel
theorem dX18_removeResource_74 : decode cX18_removeResource 74 = .ok (.getfield 48, 3) := by decide +kernel
theorem dX18_removeResource_77 : decode cX18_removeResource 77 = .ok (.bipush 64, 2) := by decide +kernel
theorem dX18_removeResource_79 : decode cX18_removeResource 79 = .ok (.iload_n 1, 1) := by decide +kernel
theorem dX18_removeResource_80 : decode cX18_removeResource 80 = .ok (.imul, 1) := by decide +kernel
theorem dX18_removeResource_81 : decode cX18_removeResource 81 = .ok (.iload_n 2, 1) := by decide +kernel
theorem dX18_removeResource_82 : decode cX18_removeResource 82 = .ok (.iadd, 1) := by decide +kernel
theorem dX18_removeResource_83 : decode cX18_removeResource 83 = .ok (.aload_n 0, 1) := by decide +kernel
theorem dX18_removeResource_84 : decode cX18_removeResource 84 = .ok (.getfield 48, 3) := by decide +kernel
theorem dX18_removeResource_87 : decode cX18_removeResource 87 = .ok (.bipush 64, 2) := by decide +kernel
theorem dX18_removeResource_89 : decode cX18_removeResource 89 = .ok (.aload_n 0, 1) := by decide +kernel
theorem dX18_removeResource_90 : decode cX18_removeResource 90 = .ok (.getfield 10, 3) := by decide +kernel
theorem dX18_removeResource_93 : decode cX18_removeResource 93 = .ok (.imul, 1) := by decide +kernel
theorem dX18_removeResource_94 : decode cX18_removeResource 94 = .ok (.iload_n 2, 1) := by decide +kernel
theorem dX18_removeResource_95 : decode cX18_removeResource 95 = .ok (.iadd, 1) := by decide +kernel
theorem dX18_removeResource_96 : decode cX18_removeResource 96 = .ok (.laload, 1) := by decide +kernel
theorem dX18_removeResource_97 : decode cX18_removeResource 97 = .ok (.lastore, 1) := by decide +kernel
theorem dX18_removeResource_98 : decode cX18_removeResource 98 = .ok (.aload_n 0, 1) := by decide +kernel
theorem dX18_removeResource_99 : decode cX18_removeResource 99 = .ok (.getfield 51, 3) := by decide +kernel
theorem dX18_removeResource_102 : decode cX18_removeResource 102 = .ok (.bipush 64, 2) := by decide +kernel
theorem dX18_removeResource_104 : decode cX18_removeResource 104 = .ok (.iload_n 1, 1) := by decide +kernel
theorem dX18_removeResource_105 : decode cX18_removeResource 105 = .ok (.imul, 1) := by decide +kernel
theorem dX18_removeResource_106 : decode cX18_removeResource 106 = .ok (.iload_n 2, 1) := by decide +kernel
theorem dX18_removeResource_107 : decode cX18_removeResource 107 = .ok (.iadd, 1) := by decide +kernel
theorem dX18_removeResource_108 : decode cX18_removeResource 108 = .ok (.aload_n 0, 1) := by decide +kernel
theorem dX18_removeResource_109 : decode cX18_removeResource 109 = .ok (.getfield 51, 3) := by decide +kernel
theorem dX18_removeResource_112 : decode cX18_removeResource 112 = .ok (.bipush 64, 2) := by decide +kernel
theorem dX18_removeResource_114 : decode cX18_removeResource 114 = .ok (.aload_n 0, 1) := by decide +kernel
theorem dX18_removeResource_115 : decode cX18_removeResource 115 = .ok (.getfield 10, 3) := by decide +kernel
theorem dX18_removeResource_118 : decode cX18_removeResource 118 = .ok (.imul, 1) := by decide +kernel
theorem dX18_removeResource_119 : decode cX18_removeResource 119 = .ok (.iload_n 2, 1) := by decide +kernel
theorem dX18_removeResource_120 : decode cX18_removeResource 120 = .ok (.iadd, 1) := by decide +kernel
theorem dX18_removeResource_121 : decode cX18_removeResource 121 = .ok (.laload, 1) := by decide +kernel
theorem dX18_removeResource_122 : decode cX18_removeResource 122 = .ok (.lastore, 1) := by decide +kernel
theorem dX18_removeResource_123 : decode cX18_removeResource 123 = .ok (.aload_n 0, 1) := by decide +kernel
theorem dX18_removeResource_124 : decode cX18_removeResource 124 = .ok (.getfield 60, 3) := by decide +kernel
theorem dX18_removeResource_127 : decode cX18_removeResource 127 = .ok (.bipush 64, 2) := by decide +kernel
theorem dX18_removeResource_129 : decode cX18_removeResource 129 = .ok (.iload_n 1, 1) := by decide +kernel
theorem dX18_removeResource_130 : decode cX18_removeResource 130 = .ok (.imul, 1) := by decide +kernel
theorem dX18_removeResource_131 : decode cX18_removeResource 131 = .ok (.iload_n 2, 1) := by decide +kernel
theorem dX18_removeResource_132 : decode cX18_removeResource 132 = .ok (.iadd, 1) := by decide +kernel
theorem dX18_removeResource_133 : decode cX18_removeResource 133 = .ok (.aload_n 0, 1) := by decide +kernel
theorem dX18_removeResource_134 : decode cX18_removeResource 134 = .ok (.getfield 60, 3) := by decide +kernel
theorem dX18_removeResource_137 : decode cX18_removeResource 137 = .ok (.bipush 64, 2) := by decide +kernel
theorem dX18_removeResource_139 : decode cX18_removeResource 139 = .ok (.aload_n 0, 1) := by decide +kernel
theorem dX18_removeResource_140 : decode cX18_removeResource 140 = .ok (.getfield 10, 3) := by decide +kernel
theorem dX18_removeResource_143 : decode cX18_removeResource 143 = .ok (.imul, 1) := by decide +kernel
theorem dX18_removeResource_144 : decode cX18_removeResource 144 = .ok (.iload_n 2, 1) := by decide +kernel
theorem dX18_removeResource_145 : decode cX18_removeResource 145 = .ok (.iadd, 1) := by decide +kernel
theorem dX18_removeResource_146 : decode cX18_removeResource 146 = .ok (.iaload, 1) := by decide +kernel
theorem dX18_removeResource_147 : decode cX18_removeResource 147 = .ok (.iastore, 1) := by decide +kernel
theorem dX18_removeResource_148 : decode cX18_removeResource 148 = .ok (.iinc 2 1, 3) := by decide +kernel
theorem dX18_removeResource_151 : decode cX18_removeResource 151 = .ok (.goto (-109), 3) := by decide +kernel
theorem dX18_removeResource_154 : decode cX18_removeResource 154 = .ok (.return_, 1) := by decide +kernel
theorem dX18_addBytes_0 : decode cX18_addBytes 0 = .ok (.aload_n 0, 1) := by decide +kernel
theorem dX18_addBytes_1 : decode cX18_addBytes 1 = .ok (.bipush 64, 2) := by decide +kernel
theorem dX18_addBytes_3 : decode cX18_addBytes 3 = .ok (.iload_n 1, 1) := by decide +kernel
theorem dX18_addBytes_4 : decode cX18_addBytes 4 = .ok (.imul, 1) := by decide +kernel
theorem dX18_addBytes_5 : decode cX18_addBytes 5 = .ok (.putfield 34, 3) := by decide +kernel
theorem dX18_addBytes_8 : decode cX18_addBytes 8 = .ok (.aload_n 0, 1) := by decide +kernel
theorem dX18_addBytes_9 : decode cX18_addBytes 9 = .ok (.invokevirtual 90, 3) := by decide +kernel
theorem dX18_addBytes_12 : decode cX18_addBytes 12 = .ok (.return_, 1) := by decide +kernel
theorem dX18_addOne_0 : decode cX18_addOne 0 = .ok (.aload_n 0, 1) := by decide +kernel
theorem dX18_addOne_1 : decode cX18_addOne 1 = .ok (.getfield 34, 3) := by decide +kernel
theorem dX18_addOne_4 : decode cX18_addOne 4 = .ok (.istore_n 1, 1) := by decide +kernel
theorem dX18_addOne_5 : decode cX18_addOne 5 = .ok (.aload_n 0, 1) := by decide +kernel
theorem dX18_addOne_6 : decode cX18_addOne 6 = .ok (.dup, 1) := by decide +kernel
theorem dX18_addOne_7 : decode cX18_addOne 7 = .ok (.getfield 34, 3) := by decide +kernel
theorem dX18_addOne_10 : decode cX18_addOne 10 = .ok (.iconst 1, 1) := by decide +kernel
theorem dX18_addOne_11 : decode cX18_addOne 11 = .ok (.iadd, 1) := by decide +kernel
theorem dX18_addOne_12 : decode cX18_addOne 12 = .ok (.putfield 34, 3) := by decide +kernel
theorem dX18_addOne_15 : decode cX18_addOne 15 = .ok (.aload_n 0, 1) := by decide +kernel
theorem dX18_addOne_16 : decode cX18_addOne 16 = .ok (.getfield 44, 3) := by decide +kernel
theorem dX18_addOne_19 : decode cX18_addOne 19 = .ok (.iload_n 1, 1) := by decide +kernel
theorem dX18_addOne_20 : decode cX18_addOne 20 = .ok (.baload, 1) := by decide +kernel
theorem dX18_addOne_21 : decode cX18_addOne 21 = .ok (.tableswitch 97 1 5 #[35, 35, 50, 66, 50], 35) := by decide +kernel
theorem dX18_addOne_56 : decode cX18_addOne 56 = .ok (.aload_n 0, 1) := by decide +kernel
theorem dX18_addOne_57 : decode cX18_addOne 57 = .ok (.getfield 94, 3) := by decide +kernel
theorem dX18_addOne_60 : decode cX18_addOne 60 = .ok (.aload_n 0, 1) := by decide +kernel
theorem dX18_addOne_61 : decode cX18_addOne 61 = .ok (.getfield 51, 3) := by decide +kernel
theorem dX18_addOne_64 : decode cX18_addOne 64 = .ok (.iload_n 1, 1) := by decide +kernel
theorem dX18_addOne_65 : decode cX18_addOne 65 = .ok (.laload, 1) := by decide +kernel
theorem dX18_addOne_66 : decode cX18_addOne 66 = .ok (.l2i, 1) := by decide +kernel
theorem dX18_addOne_67 : decode cX18_addOne 67 = .ok (.invokevirtual 98, 3) := by decide +kernel
theorem dX18_addOne_70 : decode cX18_addOne 70 = .ok (.return_, 1) := by decide +kernel
theorem dX18_addOne_71 : decode cX18_addOne 71 = .ok (.aload_n 0, 1) := by decide +kernel
theorem dX18_addOne_72 : decode cX18_addOne 72 = .ok (.getfield 94, 3) := by decide +kernel
theorem dX18_addOne_75 : decode cX18_addOne 75 = .ok (.aload_n 0, 1) := by decide +kernel
theorem dX18_addOne_76 : decode cX18_addOne 76 = .ok (.getfield 51, 3) := by decide +kernel
theorem dX18_addOne_79 : decode cX18_addOne 79 = .ok (.iload_n 1, 1) := by decide +kernel
theorem dX18_addOne_80 : decode cX18_addOne 80 = .ok (.laload, 1) := by decide +kernel
theorem dX18_addOne_81 : decode cX18_addOne 81 = .ok (.bipush 8, 2) := by decide +kernel
theorem dX18_addOne_83 : decode cX18_addOne 83 = .ok (.invokevirtual 102, 3) := by decide +kernel
theorem dX18_addOne_86 : decode cX18_addOne 86 = .ok (.return_, 1) := by decide +kernel
theorem dX18_addOne_87 : decode cX18_addOne 87 = .ok (.aload_n 0, 1) := by decide +kernel
theorem dX18_addOne_88 : decode cX18_addOne 88 = .ok (.getfield 94, 3) := by decide +kernel
theorem dX18_addOne_91 : decode cX18_addOne 91 = .ok (.aload_n 0, 1) := by decide +kernel
theorem dX18_addOne_92 : decode cX18_addOne 92 = .ok (.getfield 48, 3) := by decide +kernel
theorem dX18_addOne_95 : decode cX18_addOne 95 = .ok (.iload_n 1, 1) := by decide +kernel
theorem dX18_addOne_96 : decode cX18_addOne 96 = .ok (.laload, 1) := by decide +kernel
theorem dX18_addOne_97 : decode cX18_addOne 97 = .ok (.bipush 8, 2) := by decide +kernel
theorem dX18_addOne_99 : decode cX18_addOne 99 = .ok (.invokevirtual 102, 3) := by decide +kernel
theorem dX18_addOne_102 : decode cX18_addOne 102 = .ok (.aload_n 0, 1) := by decide +kernel
theorem dX18_addOne_103 : decode cX18_addOne 103 = .ok (.getfield 94, 3) := by decide +kernel
theorem dX18_addOne_106 : decode cX18_addOne 106 = .ok (.aload_n 0, 1) := by decide +kernel
theorem dX18_addOne_107 : decode cX18_addOne 107 = .ok (.getfield 51, 3) := by decide +kernel
theorem dX18_addOne_110 : decode cX18_addOne 110 = .ok (.iload_n 1, 1) := by decide +kernel
theorem dX18_addOne_111 : decode cX18_addOne 111 = .ok (.laload, 1) := by decide +kernel
theorem dX18_addOne_112 : decode cX18_addOne 112 = .ok (.bipush 8, 2) := by decide +kernel
theorem dX18_addOne_114 : decode cX18_addOne 114 = .ok (.invokevirtual 102, 3) := by decide +kernel
theorem dX18_addOne_117 : decode cX18_addOne 117 = .ok (.return_, 1) := by decide +kernel
theorem dX18_addOne_118 : decode cX18_addOne 118 = .ok (.aload_n 0, 1) := by decide +kernel
theorem dX18_addOne_119 : decode cX18_addOne 119 = .ok (.getfield 44, 3) := by decide +kernel
theorem dX18_addOne_122 : decode cX18_addOne 122 = .ok (.iload_n 1, 1) := by decide +kernel
theorem dX18_addOne_123 : decode cX18_addOne 123 = .ok (.baload, 1) := by decide +kernel
theorem dX18_addOne_124 : decode cX18_addOne 124 = .ok (.bipush 7, 2) := by decide +kernel
theorem dX18_addOne_126 : decode cX18_addOne 126 = .ok (.if_icmp .ne 18, 3) := by decide +kernel
theorem dX18_addOne_129 : decode cX18_addOne 129 = .ok (.aload_n 0, 1) := by decide +kernel
theorem dX18_addOne_130 : decode cX18_addOne 130 = .ok (.getfield 94, 3) := by decide +kernel
theorem dX18_addOne_133 : decode cX18_addOne 133 = .ok (.aload_n 0, 1) := by decide +kernel
theorem dX18_addOne_134 : decode cX18_addOne 134 = .ok (.getfield 60, 3) := by decide +kernel
theorem dX18_addOne_137 : decode cX18_addOne 137 = .ok (.iload_n 1, 1) := by decide +kernel
theorem dX18_addOne_138 : decode cX18_addOne 138 = .ok (.iaload, 1) := by decide +kernel
theorem dX18_addOne_139 : decode cX18_addOne 139 = .ok (.i2l, 1) := by decide +kernel
theorem dX18_addOne_140 : decode cX18_addOne 140 = .ok (.iconst 2, 1) := by decide +kernel
theorem dX18_addOne_141 : decode cX18_addOne 141 = .ok (.invokevirtual 102, 3) := by decide +kernel
theorem dX18_addOne_144 : decode cX18_addOne 144 = .ok (.iconst 0, 1) := by decide +kernel
theorem dX18_addOne_145 : decode cX18_addOne 145 = .ok (.istore_n 2, 1) := by decide +kernel
theorem dX18_addOne_146 : decode cX18_addOne 146 = .ok (.iload_n 2, 1) := by decide +kernel
theorem dX18_addOne_147 : decode cX18_addOne 147 = .ok (.aload_n 0, 1) := by decide +kernel
theorem dX18_addOne_148 : decode cX18_addOne 148 = .ok (.getfield 60, 3) := by decide +kernel
theorem dX18_addOne_151 : decode cX18_addOne 151 = .ok (.iload_n 1, 1) := by decide +kernel
theorem dX18_addOne_152 : decode cX18_addOne 152 = .ok (.iaload, 1) := by decide +kernel
theorem dX18_addOne_153 : decode cX18_addOne 153 = .ok (.if_icmp .ge 13, 3) := by decide +kernel
theorem dX18_addOne_156 : decode cX18_addOne 156 = .ok (.aload_n 0, 1) := by decide +kernel
theorem dX18_addOne_157 : decode cX18_addOne 157 = .ok (.invokevirtual 90, 3) := by decide +kernel
theorem dX18_addOne_160 : decode cX18_addOne 160 = .ok (.iinc 2 1, 3) := by decide +kernel
theorem dX18_addOne_163 : decode cX18_addOne 163 = .ok (.goto (-17), 3) := by decide +kernel
theorem dX18_addOne_166 : decode cX18_addOne 166 = .ok (.return_, 1) := by decide +kernel
theorem dX18_isThere_0 : decode cX18_isThere 0 = .ok (.iload_n 1, 1) := by decide +kernel
theorem dX18_isThere_1 : decode cX18_isThere 1 = .ok (.ifCond .ne 31, 3) := by decide +kernel
theorem dX18_isThere_4 : decode cX18_isThere 4 = .ok (.iload_n 3, 1) := by decide +kernel
theorem dX18_isThere_5 : decode cX18_isThere 5 = .ok (.ifCond .eq 15, 3) := by decide +kernel
theorem dX18_isThere_8 : decode cX18_isThere 8 = .ok (.iload_n 2, 1) := by decide +kernel
theorem dX18_isThere_9 : decode cX18_isThere 9 = .ok (.ifCond .ne 7, 3) := by decide +kernel
theorem dX18_isThere_12 : decode cX18_isThere 12 = .ok (.iconst 1, 1) := by decide +kernel
theorem dX18_isThere_13 : decode cX18_isThere 13 = .ok (.goto 18, 3) := by decide +kernel
theorem dX18_isThere_16 : decode cX18_isThere 16 = .ok (.iconst 0, 1) := by decide +kernel
theorem dX18_isThere_17 : decode cX18_isThere 17 = .ok (.goto 14, 3) := by decide +kernel
theorem dX18_isThere_20 : decode cX18_isThere 20 = .ok (.iload_n 2, 1) := by decide +kernel
theorem dX18_isThere_21 : decode cX18_isThere 21 = .ok (.bipush 6, 2) := by decide +kernel
theorem dX18_isThere_23 : decode cX18_isThere 23 = .ok (.if_icmp .ge 7, 3) := by decide +kernel
theorem dX18_isThere_26 : decode cX18_isThere 26 = .ok (.iconst 1, 1) := by decide +kernel
theorem dX18_isThere_27 : decode cX18_isThere 27 = .ok (.goto 4, 3) := by decide +kernel
theorem dX18_isThere_30 : decode cX18_isThere 30 = .ok (.iconst 0, 1) := by decide +kernel
theorem dX18_isThere_31 : decode cX18_isThere 31 = .ok (.ireturn, 1) := by decide +kernel
theorem dX18_isThere_32 : decode cX18_isThere 32 = .ok (.aload_n 0, 1) := by decide +kernel
theorem dX18_isThere_33 : decode cX18_isThere 33 = .ok (.iload_n 1, 1) := by decide +kernel
theorem dX18_isThere_34 : decode cX18_isThere 34 = .ok (.invokevirtual 106, 3) := by decide +kernel
theorem dX18_isThere_37 : decode cX18_isThere 37 = .ok (.istore 4, 2) := by decide +kernel
theorem dX18_isThere_39 : decode cX18_isThere 39 = .ok (.iload 4, 2) := by decide +kernel
theorem dX18_isThere_41 : decode cX18_isThere 41 = .ok (.ifCond .le 38, 3) := by decide +kernel
theorem dX18_isThere_44 : decode cX18_isThere 44 = .ok (.iload_n 2, 1) := by decide +kernel
theorem dX18_isThere_45 : decode cX18_isThere 45 = .ok (.iload_n 3, 1) := by decide +kernel
theorem dX18_isThere_46 : decode cX18_isThere 46 = .ok (.ifCond .eq 16, 3) := by decide +kernel
theorem dX18_isThere_49 : decode cX18_isThere 49 = .ok (.aload_n 0, 1) := by decide +kernel
theorem dX18_isThere_50 : decode cX18_isThere 50 = .ok (.getfield 17, 3) := by decide +kernel
theorem dX18_isThere_53 : decode cX18_isThere 53 = .ok (.iload 4, 2) := by decide +kernel
theorem dX18_isThere_55 : decode cX18_isThere 55 = .ok (.aaload, 1) := by decide +kernel
theorem dX18_isThere_56 : decode cX18_isThere 56 = .ok (.getfield 109, 3) := by decide +kernel
theorem dX18_isThere_59 : decode cX18_isThere 59 = .ok (.goto 13, 3) := by decide +kernel
theorem dX18_isThere_62 : decode cX18_isThere 62 = .ok (.aload_n 0, 1) := by decide +kernel
theorem dX18_isThere_63 : decode cX18_isThere 63 = .ok (.getfield 17, 3) := by decide +kernel
theorem dX18_isThere_66 : decode cX18_isThere 66 = .ok (.iload 4, 2) := by decide +kernel
theorem dX18_isThere_68 : decode cX18_isThere 68 = .ok (.aaload, 1) := by decide +kernel
theorem dX18_isThere_69 : decode cX18_isThere 69 = .ok (.getfield 112, 3) := by decide +kernel
theorem dX18_isThere_72 : decode cX18_isThere 72 = .ok (.if_icmp .ge 7, 3) := by decide +kernel
theorem dX18_isThere_75 : decode cX18_isThere 75 = .ok (.iconst 1, 1) := by decide +kernel
theorem dX18_isThere_76 : decode cX18_isThere 76 = .ok (.goto 4, 3) := by decide +kernel
theorem dX18_isThere_79 : decode cX18_isThere 79 = .ok (.iconst 0, 1) := by decide +kernel
theorem dX18_isThere_80 : decode cX18_isThere 80 = .ok (.ireturn, 1) := by decide +kernel
theorem dX18_abilitiesThere_0 : decode cX18_abilitiesThere 0 = .ok (.iload_n 1, 1) := by decide +kernel
theorem dX18_abilitiesThere_1 : decode cX18_abilitiesThere 1 = .ok (.ifCond .ne 7, 3) := by decide +kernel
theorem dX18_abilitiesThere_4 : decode cX18_abilitiesThere 4 = .ok (.iconst 4, 1) := by decide +kernel
theorem dX18_abilitiesThere_5 : decode cX18_abilitiesThere 5 = .ok (.goto 17, 3) := by decide +kernel
theorem dX18_abilitiesThere_8 : decode cX18_abilitiesThere 8 = .ok (.aload_n 0, 1) := by decide +kernel
theorem dX18_abilitiesThere_9 : decode cX18_abilitiesThere 9 = .ok (.getfield 17, 3) := by decide +kernel
theorem dX18_abilitiesThere_12 : decode cX18_abilitiesThere 12 = .ok (.aload_n 0, 1) := by decide +kernel
theorem dX18_abilitiesThere_13 : decode cX18_abilitiesThere 13 = .ok (.iload_n 1, 1) := by decide +kernel
theorem dX18_abilitiesThere_14 : decode cX18_abilitiesThere 14 = .ok (.invokevirtual 106, 3) := by decide +kernel
theorem dX18_abilitiesThere_17 : decode cX18_abilitiesThere 17 = .ok (.aaload, 1) := by decide +kernel
theorem dX18_abilitiesThere_18 : decode cX18_abilitiesThere 18 = .ok (.iload_n 2, 1) := by decide +kernel
theorem dX18_abilitiesThere_19 : decode cX18_abilitiesThere 19 = .ok (.invokevirtual 115, 3) := by decide +kernel
theorem dX18_abilitiesThere_22 : decode cX18_abilitiesThere 22 = .ok (.ireturn, 1) := by decide +kernel
theorem dX18_coinType_0 : decode cX18_coinType 0 = .ok (.iload_n 1, 1) := by decide +kernel
theorem dX18_coinType_1 : decode cX18_coinType 1 = .ok (.iconst 1, 1) := by decide +kernel
theorem dX18_coinType_2 : decode cX18_coinType 2 = .ok (.if_icmp .ne 41, 3) := by decide +kernel
theorem dX18_coinType_5 : decode cX18_coinType 5 = .ok (.iload_n 0, 1) := by decide +kernel
theorem dX18_coinType_6 : decode cX18_coinType 6 = .ok (.ifCond .eq 13, 3) := by decide +kernel
theorem dX18_coinType_9 : decode cX18_coinType 9 = .ok (.iload_n 0, 1) := by decide +kernel
theorem dX18_coinType_10 : decode cX18_coinType 10 = .ok (.iconst 3, 1) := by decide +kernel
theorem dX18_coinType_11 : decode cX18_coinType 11 = .ok (.if_icmp .eq 8, 3) := by decide +kernel
theorem dX18_coinType_14 : decode cX18_coinType 14 = .ok (.iload_n 0, 1) := by decide +kernel
theorem dX18_coinType_15 : decode cX18_coinType 15 = .ok (.iconst 4, 1) := by decide +kernel
theorem dX18_coinType_16 : decode cX18_coinType 16 = .ok (.if_icmp .ne 9, 3) := by decide +kernel
theorem dX18_coinType_19 : decode cX18_coinType 19 = .ok (.ldc2_w 118, 3) := by decide +kernel
theorem dX18_coinType_22 : decode cX18_coinType 22 = .ok (.goto 20, 3) := by decide +kernel
theorem dX18_coinType_25 : decode cX18_coinType 25 = .ok (.iload_n 0, 1) := by decide +kernel
theorem dX18_coinType_26 : decode cX18_coinType 26 = .ok (.iconst 2, 1) := by decide +kernel
theorem dX18_coinType_27 : decode cX18_coinType 27 = .ok (.if_icmp .eq 8, 3) := by decide +kernel
theorem dX18_coinType_30 : decode cX18_coinType 30 = .ok (.iload_n 0, 1) := by decide +kernel
theorem dX18_coinType_31 : decode cX18_coinType 31 = .ok (.iconst 5, 1) := by decide +kernel
theorem dX18_coinType_32 : decode cX18_coinType 32 = .ok (.if_icmp .ne 9, 3) := by decide +kernel
theorem dX18_coinType_35 : decode cX18_coinType 35 = .ok (.ldc2_w 120, 3) := by decide +kernel
theorem dX18_coinType_38 : decode cX18_coinType 38 = .ok (.goto 4, 3) := by decide +kernel
theorem dX18_coinType_41 : decode cX18_coinType 41 = .ok (.lconst 0, 1) := by decide +kernel
theorem dX18_coinType_42 : decode cX18_coinType 42 = .ok (.lreturn, 1) := by decide +kernel
theorem dX18_coinType_43 : decode cX18_coinType 43 = .ok (.iload_n 0, 1) := by decide +kernel
theorem dX18_coinType_44 : decode cX18_coinType 44 = .ok (.ifCond .ne 9, 3) := by decide +kernel
theorem dX18_coinType_47 : decode cX18_coinType 47 = .ok (.ldc2_w 120, 3) := by decide +kernel
theorem dX18_coinType_50 : decode cX18_coinType 50 = .ok (.goto 70, 3) := by decide +kernel
theorem dX18_coinType_53 : decode cX18_coinType 53 = .ok (.iload_n 0, 1) := by decide +kernel
theorem dX18_coinType_54 : decode cX18_coinType 54 = .ok (.iconst 1, 1) := by decide +kernel
theorem dX18_coinType_55 : decode cX18_coinType 55 = .ok (.if_icmp .ne 19, 3) := by decide +kernel
theorem dX18_coinType_58 : decode cX18_coinType 58 = .ok (.iload_n 2, 1) := by decide +kernel
theorem dX18_coinType_59 : decode cX18_coinType 59 = .ok (.ifCond .ne 9, 3) := by decide +kernel
theorem dX18_coinType_62 : decode cX18_coinType 62 = .ok (.ldc2_w 122, 3) := by decide +kernel
theorem dX18_coinType_65 : decode cX18_coinType 65 = .ok (.goto 55, 3) := by decide +kernel
theorem dX18_coinType_68 : decode cX18_coinType 68 = .ok (.ldc2_w 118, 3) := by decide +kernel
theorem dX18_coinType_71 : decode cX18_coinType 71 = .ok (.goto 49, 3) := by decide +kernel
theorem dX18_coinType_74 : decode cX18_coinType 74 = .ok (.iload_n 0, 1) := by decide +kernel
theorem dX18_coinType_75 : decode cX18_coinType 75 = .ok (.iconst 2, 1) := by decide +kernel
theorem dX18_coinType_76 : decode cX18_coinType 76 = .ok (.if_icmp .ne 9, 3) := by decide +kernel
theorem dX18_coinType_79 : decode cX18_coinType 79 = .ok (.ldc2_w 124, 3) := by decide +kernel
theorem dX18_coinType_82 : decode cX18_coinType 82 = .ok (.goto 38, 3) := by decide +kernel
theorem dX18_coinType_85 : decode cX18_coinType 85 = .ok (.iload_n 0, 1) := by decide +kernel
theorem dX18_coinType_86 : decode cX18_coinType 86 = .ok (.iconst 3, 1) := by decide +kernel
theorem dX18_coinType_87 : decode cX18_coinType 87 = .ok (.if_icmp .ne 9, 3) := by decide +kernel
theorem dX18_coinType_90 : decode cX18_coinType 90 = .ok (.ldc2_w 118, 3) := by decide +kernel
theorem dX18_coinType_93 : decode cX18_coinType 93 = .ok (.goto 27, 3) := by decide +kernel
theorem dX18_coinType_96 : decode cX18_coinType 96 = .ok (.iload_n 0, 1) := by decide +kernel
theorem dX18_coinType_97 : decode cX18_coinType 97 = .ok (.iconst 4, 1) := by decide +kernel
theorem dX18_coinType_98 : decode cX18_coinType 98 = .ok (.if_icmp .ne 19, 3) := by decide +kernel
theorem dX18_coinType_101 : decode cX18_coinType 101 = .ok (.iload_n 2, 1) := by decide +kernel
theorem dX18_coinType_102 : decode cX18_coinType 102 = .ok (.ifCond .ne 9, 3) := by decide +kernel
theorem dX18_coinType_105 : decode cX18_coinType 105 = .ok (.ldc2_w 118, 3) := by decide +kernel
theorem dX18_coinType_108 : decode cX18_coinType 108 = .ok (.goto 12, 3) := by decide +kernel
theorem dX18_coinType_111 : decode cX18_coinType 111 = .ok (.ldc2_w 120, 3) := by decide +kernel
theorem dX18_coinType_114 : decode cX18_coinType 114 = .ok (.goto 6, 3) := by decide +kernel
theorem dX18_coinType_117 : decode cX18_coinType 117 = .ok (.ldc2_w 122, 3) := by decide +kernel
theorem dX18_coinType_120 : decode cX18_coinType 120 = .ok (.lreturn, 1) := by decide +kernel
theorem dX18_coinMany_0 : decode cX18_coinMany 0 = .ok (.iload_n 1, 1) := by decide +kernel
theorem dX18_coinMany_1 : decode cX18_coinMany 1 = .ok (.ifCond .ne 24, 3) := by decide +kernel
theorem dX18_coinMany_4 : decode cX18_coinMany 4 = .ok (.iload_n 0, 1) := by decide +kernel
theorem dX18_coinMany_5 : decode cX18_coinMany 5 = .ok (.iconst 1, 1) := by decide +kernel
theorem dX18_coinMany_6 : decode cX18_coinMany 6 = .ok (.if_icmp .eq 13, 3) := by decide +kernel
theorem dX18_coinMany_9 : decode cX18_coinMany 9 = .ok (.iload_n 0, 1) := by decide +kernel
theorem dX18_coinMany_10 : decode cX18_coinMany 10 = .ok (.iconst 3, 1) := by decide +kernel
theorem dX18_coinMany_11 : decode cX18_coinMany 11 = .ok (.if_icmp .eq 8, 3) := by decide +kernel
theorem dX18_coinMany_14 : decode cX18_coinMany 14 = .ok (.iload_n 0, 1) := by decide +kernel
theorem dX18_coinMany_15 : decode cX18_coinMany 15 = .ok (.iconst 4, 1) := by decide +kernel
theorem dX18_coinMany_16 : decode cX18_coinMany 16 = .ok (.if_icmp .ne 7, 3) := by decide +kernel
theorem dX18_coinMany_19 : decode cX18_coinMany 19 = .ok (.iconst 2, 1) := by decide +kernel
theorem dX18_coinMany_20 : decode cX18_coinMany 20 = .ok (.goto 4, 3) := by decide +kernel
theorem dX18_coinMany_23 : decode cX18_coinMany 23 = .ok (.iconst 1, 1) := by decide +kernel
theorem dX18_coinMany_24 : decode cX18_coinMany 24 = .ok (.ireturn, 1) := by decide +kernel
theorem dX18_coinMany_25 : decode cX18_coinMany 25 = .ok (.iload_n 0, 1) := by decide +kernel
theorem dX18_coinMany_26 : decode cX18_coinMany 26 = .ok (.iconst 1, 1) := by decide +kernel
theorem dX18_coinMany_27 : decode cX18_coinMany 27 = .ok (.if_icmp .ne 7, 3) := by decide +kernel
theorem dX18_coinMany_30 : decode cX18_coinMany 30 = .ok (.iconst 0, 1) := by decide +kernel
theorem dX18_coinMany_31 : decode cX18_coinMany 31 = .ok (.goto 13, 3) := by decide +kernel
theorem dX18_coinMany_34 : decode cX18_coinMany 34 = .ok (.iload_n 0, 1) := by decide +kernel
theorem dX18_coinMany_35 : decode cX18_coinMany 35 = .ok (.iconst 4, 1) := by decide +kernel
theorem dX18_coinMany_36 : decode cX18_coinMany 36 = .ok (.if_icmp .ne 7, 3) := by decide +kernel
theorem dX18_coinMany_39 : decode cX18_coinMany 39 = .ok (.iconst 2, 1) := by decide +kernel
theorem dX18_coinMany_40 : decode cX18_coinMany 40 = .ok (.goto 4, 3) := by decide +kernel
theorem dX18_coinMany_43 : decode cX18_coinMany 43 = .ok (.iconst 1, 1) := by decide +kernel
theorem dX18_coinMany_44 : decode cX18_coinMany 44 = .ok (.ireturn, 1) := by decide +kernel
theorem dX18_flagsThere_0 : decode cX18_flagsThere 0 = .ok (.iload_n 1, 1) := by decide +kernel
theorem dX18_flagsThere_1 : decode cX18_flagsThere 1 = .ok (.ifCond .ne 7, 3) := by decide +kernel
theorem dX18_flagsThere_4 : decode cX18_flagsThere 4 = .ok (.iconst 1, 1) := by decide +kernel
theorem dX18_flagsThere_5 : decode cX18_flagsThere 5 = .ok (.goto 17, 3) := by decide +kernel
theorem dX18_flagsThere_8 : decode cX18_flagsThere 8 = .ok (.aload_n 0, 1) := by decide +kernel
theorem dX18_flagsThere_9 : decode cX18_flagsThere 9 = .ok (.getfield 17, 3) := by decide +kernel
theorem dX18_flagsThere_12 : decode cX18_flagsThere 12 = .ok (.aload_n 0, 1) := by decide +kernel
theorem dX18_flagsThere_13 : decode cX18_flagsThere 13 = .ok (.iload_n 1, 1) := by decide +kernel
theorem dX18_flagsThere_14 : decode cX18_flagsThere 14 = .ok (.invokevirtual 106, 3) := by decide +kernel
theorem dX18_flagsThere_17 : decode cX18_flagsThere 17 = .ok (.aaload, 1) := by decide +kernel
theorem dX18_flagsThere_18 : decode cX18_flagsThere 18 = .ok (.iload_n 2, 1) := by decide +kernel
theorem dX18_flagsThere_19 : decode cX18_flagsThere 19 = .ok (.invokevirtual 126, 3) := by decide +kernel
theorem dX18_flagsThere_22 : decode cX18_flagsThere 22 = .ok (.ireturn, 1) := by decide +kernel
theorem dX18_manyThere_0 : decode cX18_manyThere 0 = .ok (.iload_n 1, 1) := by decide +kernel
theorem dX18_manyThere_1 : decode cX18_manyThere 1 = .ok (.ifCond .ne 11, 3) := by decide +kernel
theorem dX18_manyThere_4 : decode cX18_manyThere 4 = .ok (.iload_n 2, 1) := by decide +kernel
theorem dX18_manyThere_5 : decode cX18_manyThere 5 = .ok (.iload_n 3, 1) := by decide +kernel
theorem dX18_manyThere_6 : decode cX18_manyThere 6 = .ok (.invokestatic 129, 3) := by decide +kernel
theorem dX18_manyThere_9 : decode cX18_manyThere 9 = .ok (.goto 18, 3) := by decide +kernel
theorem dX18_manyThere_12 : decode cX18_manyThere 12 = .ok (.aload_n 0, 1) := by decide +kernel
theorem dX18_manyThere_13 : decode cX18_manyThere 13 = .ok (.getfield 17, 3) := by decide +kernel
theorem dX18_manyThere_16 : decode cX18_manyThere 16 = .ok (.aload_n 0, 1) := by decide +kernel
theorem dX18_manyThere_17 : decode cX18_manyThere 17 = .ok (.iload_n 1, 1) := by decide +kernel
theorem dX18_manyThere_18 : decode cX18_manyThere 18 = .ok (.invokevirtual 106, 3) := by decide +kernel
theorem dX18_manyThere_21 : decode cX18_manyThere 21 = .ok (.aaload, 1) := by decide +kernel
theorem dX18_manyThere_22 : decode cX18_manyThere 22 = .ok (.iload_n 2, 1) := by decide +kernel
theorem dX18_manyThere_23 : decode cX18_manyThere 23 = .ok (.iload_n 3, 1) := by decide +kernel
theorem dX18_manyThere_24 : decode cX18_manyThere 24 = .ok (.invokevirtual 133, 3) := by decide +kernel
theorem dX18_manyThere_27 : decode cX18_manyThere 27 = .ok (.ireturn, 1) := by decide +kernel
theorem dX18_typeThere_0 : decode cX18_typeThere 0 = .ok (.iload_n 1, 1) := by decide +kernel
theorem dX18_typeThere_1 : decode cX18_typeThere 1 = .ok (.ifCond .ne 13, 3) := by decide +kernel
theorem dX18_typeThere_4 : decode cX18_typeThere 4 = .ok (.iload_n 2, 1) := by decide +kernel
theorem dX18_typeThere_5 : decode cX18_typeThere 5 = .ok (.iload_n 3, 1) := by decide +kernel
theorem dX18_typeThere_6 : decode cX18_typeThere 6 = .ok (.iload 4, 2) := by decide +kernel
theorem dX18_typeThere_8 : decode cX18_typeThere 8 = .ok (.invokestatic 136, 3) := by decide +kernel
theorem dX18_typeThere_11 : decode cX18_typeThere 11 = .ok (.goto 20, 3) := by decide +kernel
theorem dX18_typeThere_14 : decode cX18_typeThere 14 = .ok (.aload_n 0, 1) := by decide +kernel
theorem dX18_typeThere_15 : decode cX18_typeThere 15 = .ok (.getfield 17, 3) := by decide +kernel
theorem dX18_typeThere_18 : decode cX18_typeThere 18 = .ok (.aload_n 0, 1) := by decide +kernel
theorem dX18_typeThere_19 : decode cX18_typeThere 19 = .ok (.iload_n 1, 1) := by decide +kernel
theorem dX18_typeThere_20 : decode cX18_typeThere 20 = .ok (.invokevirtual 106, 3) := by decide +kernel
theorem dX18_typeThere_23 : decode cX18_typeThere 23 = .ok (.aaload, 1) := by decide +kernel
theorem dX18_typeThere_24 : decode cX18_typeThere 24 = .ok (.iload_n 2, 1) := by decide +kernel
theorem dX18_typeThere_25 : decode cX18_typeThere 25 = .ok (.iload_n 3, 1) := by decide +kernel
theorem dX18_typeThere_26 : decode cX18_typeThere 26 = .ok (.iload 4, 2) := by decide +kernel
theorem dX18_typeThere_28 : decode cX18_typeThere 28 = .ok (.invokevirtual 140, 3) := by decide +kernel
theorem dX18_typeThere_31 : decode cX18_typeThere 31 = .ok (.lreturn, 1) := by decide +kernel
theorem dX18_identityThere_0 : decode cX18_identityThere 0 = .ok (.iload_n 1, 1) := by decide +kernel
theorem dX18_identityThere_1 : decode cX18_identityThere 1 = .ok (.ifCond .ne 7, 3) := by decide +kernel
theorem dX18_identityThere_4 : decode cX18_identityThere 4 = .ok (.iconst 0, 1) := by decide +kernel
theorem dX18_identityThere_5 : decode cX18_identityThere 5 = .ok (.goto 17, 3) := by decide +kernel
theorem dX18_identityThere_8 : decode cX18_identityThere 8 = .ok (.aload_n 0, 1) := by decide +kernel
theorem dX18_identityThere_9 : decode cX18_identityThere 9 = .ok (.getfield 17, 3) := by decide +kernel
theorem dX18_identityThere_12 : decode cX18_identityThere 12 = .ok (.aload_n 0, 1) := by decide +kernel
theorem dX18_identityThere_13 : decode cX18_identityThere 13 = .ok (.iload_n 1, 1) := by decide +kernel
theorem dX18_identityThere_14 : decode cX18_identityThere 14 = .ok (.invokevirtual 106, 3) := by decide +kernel
theorem dX18_identityThere_17 : decode cX18_identityThere 17 = .ok (.aaload, 1) := by decide +kernel
theorem dX18_identityThere_18 : decode cX18_identityThere 18 = .ok (.iload_n 2, 1) := by decide +kernel
theorem dX18_identityThere_19 : decode cX18_identityThere 19 = .ok (.invokevirtual 143, 3) := by decide +kernel
theorem dX18_identityThere_22 : decode cX18_identityThere 22 = .ok (.ireturn, 1) := by decide +kernel
theorem dX18_endsInStructure_0 : decode cX18_endsInStructure 0 = .ok (.lload_n 0, 1) := by decide +kernel
theorem dX18_endsInStructure_1 : decode cX18_endsInStructure 1 = .ok (.ldc2_w 146, 3) := by decide +kernel
theorem dX18_endsInStructure_4 : decode cX18_endsInStructure 4 = .ok (.lcmp, 1) := by decide +kernel
theorem dX18_endsInStructure_5 : decode cX18_endsInStructure 5 = .ok (.ifCond .le 22, 3) := by decide +kernel
theorem dX18_endsInStructure_8 : decode cX18_endsInStructure 8 = .ok (.lload_n 0, 1) := by decide +kernel
theorem dX18_endsInStructure_9 : decode cX18_endsInStructure 9 = .ok (.bipush 8, 2) := by decide +kernel
theorem dX18_endsInStructure_11 : decode cX18_endsInStructure 11 = .ok (.lshr, 1) := by decide +kernel
theorem dX18_endsInStructure_12 : decode cX18_endsInStructure 12 = .ok (.ldc2_w 146, 3) := by decide +kernel
theorem dX18_endsInStructure_15 : decode cX18_endsInStructure 15 = .ok (.land, 1) := by decide +kernel
theorem dX18_endsInStructure_16 : decode cX18_endsInStructure 16 = .ok (.ldc2_w 148, 3) := by decide +kernel
theorem dX18_endsInStructure_19 : decode cX18_endsInStructure 19 = .ok (.lcmp, 1) := by decide +kernel
theorem dX18_endsInStructure_20 : decode cX18_endsInStructure 20 = .ok (.ifCond .ne 7, 3) := by decide +kernel
theorem dX18_endsInStructure_23 : decode cX18_endsInStructure 23 = .ok (.iconst 1, 1) := by decide +kernel
theorem dX18_endsInStructure_24 : decode cX18_endsInStructure 24 = .ok (.goto 4, 3) := by decide +kernel
theorem dX18_endsInStructure_27 : decode cX18_endsInStructure 27 = .ok (.iconst 0, 1) := by decide +kernel
theorem dX18_endsInStructure_28 : decode cX18_endsInStructure 28 = .ok (.ireturn, 1) := by decide +kernel
theorem dX18_isSame_0 : decode cX18_isSame 0 = .ok (.lload_n 2, 1) := by decide +kernel
theorem dX18_isSame_1 : decode cX18_isSame 1 = .ok (.invokestatic 150, 3) := by decide +kernel
theorem dX18_isSame_4 : decode cX18_isSame 4 = .ok (.lload 5, 2) := by decide +kernel
theorem dX18_isSame_6 : decode cX18_isSame 6 = .ok (.invokestatic 150, 3) := by decide +kernel
theorem dX18_isSame_9 : decode cX18_isSame 9 = .ok (.if_icmp .eq 5, 3) := by decide +kernel
theorem dX18_isSame_12 : decode cX18_isSame 12 = .ok (.iconst 0, 1) := by decide +kernel
theorem dX18_isSame_13 : decode cX18_isSame 13 = .ok (.ireturn, 1) := by decide +kernel
theorem dX18_isSame_14 : decode cX18_isSame 14 = .ok (.lload_n 2, 1) := by decide +kernel
theorem dX18_isSame_15 : decode cX18_isSame 15 = .ok (.invokestatic 150, 3) := by decide +kernel
theorem dX18_isSame_18 : decode cX18_isSame 18 = .ok (.ifCond .ne 16, 3) := by decide +kernel
theorem dX18_isSame_21 : decode cX18_isSame 21 = .ok (.lload_n 2, 1) := by decide +kernel
theorem dX18_isSame_22 : decode cX18_isSame 22 = .ok (.lload 5, 2) := by decide +kernel
theorem dX18_isSame_24 : decode cX18_isSame 24 = .ok (.lcmp, 1) := by decide +kernel
theorem dX18_isSame_25 : decode cX18_isSame 25 = .ok (.ifCond .ne 7, 3) := by decide +kernel
theorem dX18_isSame_28 : decode cX18_isSame 28 = .ok (.iconst 1, 1) := by decide +kernel
theorem dX18_isSame_29 : decode cX18_isSame 29 = .ok (.goto 4, 3) := by decide +kernel
theorem dX18_isSame_32 : decode cX18_isSame 32 = .ok (.iconst 0, 1) := by decide +kernel
theorem dX18_isSame_33 : decode cX18_isSame 33 = .ok (.ireturn, 1) := by decide +kernel
theorem dX18_isSame_34 : decode cX18_isSame 34 = .ok (.lload_n 2, 1) := by decide +kernel
theorem dX18_isSame_35 : decode cX18_isSame 35 = .ok (.bipush 8, 2) := by decide +kernel
theorem dX18_isSame_37 : decode cX18_isSame 37 = .ok (.lshr, 1) := by decide +kernel
theorem dX18_isSame_38 : decode cX18_isSame 38 = .ok (.lload 5, 2) := by decide +kernel
theorem dX18_isSame_40 : decode cX18_isSame 40 = .ok (.bipush 8, 2) := by decide +kernel
theorem dX18_isSame_42 : decode cX18_isSame 42 = .ok (.lshr, 1) := by decide +kernel
theorem dX18_isSame_43 : decode cX18_isSame 43 = .ok (.lcmp, 1) := by decide +kernel
theorem dX18_isSame_44 : decode cX18_isSame 44 = .ok (.ifCond .ne 33, 3) := by decide +kernel
theorem dX18_isSame_47 : decode cX18_isSame 47 = .ok (.aload_n 1, 1) := by decide +kernel
theorem dX18_isSame_48 : decode cX18_isSame 48 = .ok (.lload_n 2, 1) := by decide +kernel
theorem dX18_isSame_49 : decode cX18_isSame 49 = .ok (.ldc2_w 146, 3) := by decide +kernel
theorem dX18_isSame_52 : decode cX18_isSame 52 = .ok (.land, 1) := by decide +kernel
theorem dX18_isSame_53 : decode cX18_isSame 53 = .ok (.l2i, 1) := by decide +kernel
theorem dX18_isSame_54 : decode cX18_isSame 54 = .ok (.invokevirtual 143, 3) := by decide +kernel
theorem dX18_isSame_57 : decode cX18_isSame 57 = .ok (.aload_n 0, 1) := by decide +kernel
theorem dX18_isSame_58 : decode cX18_isSame 58 = .ok (.iload 4, 2) := by decide +kernel
theorem dX18_isSame_60 : decode cX18_isSame 60 = .ok (.lload 5, 2) := by decide +kernel
theorem dX18_isSame_62 : decode cX18_isSame 62 = .ok (.ldc2_w 146, 3) := by decide +kernel
theorem dX18_isSame_65 : decode cX18_isSame 65 = .ok (.land, 1) := by decide +kernel
theorem dX18_isSame_66 : decode cX18_isSame 66 = .ok (.l2i, 1) := by decide +kernel
theorem dX18_isSame_67 : decode cX18_isSame 67 = .ok (.invokevirtual 154, 3) := by decide +kernel
theorem dX18_isSame_70 : decode cX18_isSame 70 = .ok (.if_icmp .ne 7, 3) := by decide +kernel
theorem dX18_isSame_73 : decode cX18_isSame 73 = .ok (.iconst 1, 1) := by decide +kernel
theorem dX18_isSame_74 : decode cX18_isSame 74 = .ok (.goto 4, 3) := by decide +kernel
theorem dX18_isSame_77 : decode cX18_isSame 77 = .ok (.iconst 0, 1) := by decide +kernel
theorem dX18_isSame_78 : decode cX18_isSame 78 = .ok (.ireturn, 1) := by decide +kernel
theorem dX18_isSameList_0 : decode cX18_isSameList 0 = .ok (.aload_n 1, 1) := by decide +kernel
theorem dX18_isSameList_1 : decode cX18_isSameList 1 = .ok (.iload_n 2, 1) := by decide +kernel
theorem dX18_isSameList_2 : decode cX18_isSameList 2 = .ok (.iload 5, 2) := by decide +kernel
theorem dX18_isSameList_4 : decode cX18_isSameList 4 = .ok (.invokevirtual 133, 3) := by decide +kernel
theorem dX18_isSameList_7 : decode cX18_isSameList 7 = .ok (.istore 6, 2) := by decide +kernel
theorem dX18_isSameList_9 : decode cX18_isSameList 9 = .ok (.iload 6, 2) := by decide +kernel
theorem dX18_isSameList_11 : decode cX18_isSameList 11 = .ok (.aload_n 0, 1) := by decide +kernel
theorem dX18_isSameList_12 : decode cX18_isSameList 12 = .ok (.iload_n 3, 1) := by decide +kernel
theorem dX18_isSameList_13 : decode cX18_isSameList 13 = .ok (.iload 4, 2) := by decide +kernel
theorem dX18_isSameList_15 : decode cX18_isSameList 15 = .ok (.iload 5, 2) := by decide +kernel
theorem dX18_isSameList_17 : decode cX18_isSameList 17 = .ok (.invokevirtual 157, 3) := by decide +kernel
theorem dX18_isSameList_20 : decode cX18_isSameList 20 = .ok (.if_icmp .ne 7, 3) := by decide +kernel
theorem dX18_isSameList_23 : decode cX18_isSameList 23 = .ok (.iconst 1, 1) := by decide +kernel
theorem dX18_isSameList_24 : decode cX18_isSameList 24 = .ok (.goto 4, 3) := by decide +kernel
theorem dX18_isSameList_27 : decode cX18_isSameList 27 = .ok (.iconst 0, 1) := by decide +kernel
theorem dX18_isSameList_28 : decode cX18_isSameList 28 = .ok (.istore 7, 2) := by decide +kernel
theorem dX18_isSameList_30 : decode cX18_isSameList 30 = .ok (.iconst 0, 1) := by decide +kernel
theorem dX18_isSameList_31 : decode cX18_isSameList 31 = .ok (.istore 8, 2) := by decide +kernel
theorem dX18_isSameList_33 : decode cX18_isSameList 33 = .ok (.iload 8, 2) := by decide +kernel
theorem dX18_isSameList_35 : decode cX18_isSameList 35 = .ok (.iload 6, 2) := by decide +kernel
theorem dX18_isSameList_37 : decode cX18_isSameList 37 = .ok (.if_icmp .ge 42, 3) := by decide +kernel
theorem dX18_isSameList_40 : decode cX18_isSameList 40 = .ok (.iload 7, 2) := by decide +kernel
theorem dX18_isSameList_42 : decode cX18_isSameList 42 = .ok (.ifCond .eq 37, 3) := by decide +kernel
theorem dX18_isSameList_45 : decode cX18_isSameList 45 = .ok (.aload_n 0, 1) := by decide +kernel
theorem dX18_isSameList_46 : decode cX18_isSameList 46 = .ok (.aload_n 1, 1) := by decide +kernel
theorem dX18_isSameList_47 : decode cX18_isSameList 47 = .ok (.aload_n 1, 1) := by decide +kernel
theorem dX18_isSameList_48 : decode cX18_isSameList 48 = .ok (.iload_n 2, 1) := by decide +kernel
theorem dX18_isSameList_49 : decode cX18_isSameList 49 = .ok (.iload 5, 2) := by decide +kernel
theorem dX18_isSameList_51 : decode cX18_isSameList 51 = .ok (.iload 8, 2) := by decide +kernel
theorem dX18_isSameList_53 : decode cX18_isSameList 53 = .ok (.invokevirtual 140, 3) := by decide +kernel
theorem dX18_isSameList_56 : decode cX18_isSameList 56 = .ok (.iload_n 3, 1) := by decide +kernel
theorem dX18_isSameList_57 : decode cX18_isSameList 57 = .ok (.aload_n 0, 1) := by decide +kernel
theorem dX18_isSameList_58 : decode cX18_isSameList 58 = .ok (.iload_n 3, 1) := by decide +kernel
theorem dX18_isSameList_59 : decode cX18_isSameList 59 = .ok (.iload 4, 2) := by decide +kernel
theorem dX18_isSameList_61 : decode cX18_isSameList 61 = .ok (.iload 5, 2) := by decide +kernel
theorem dX18_isSameList_63 : decode cX18_isSameList 63 = .ok (.iload 8, 2) := by decide +kernel
theorem dX18_isSameList_65 : decode cX18_isSameList 65 = .ok (.invokevirtual 161, 3) := by decide +kernel
theorem dX18_isSameList_68 : decode cX18_isSameList 68 = .ok (.invokevirtual 165, 3) := by decide +kernel
theorem dX18_isSameList_71 : decode cX18_isSameList 71 = .ok (.istore 7, 2) := by decide +kernel
theorem dX18_isSameList_73 : decode cX18_isSameList 73 = .ok (.iinc 8 1, 3) := by decide +kernel
theorem dX18_isSameList_76 : decode cX18_isSameList 76 = .ok (.goto (-43), 3) := by decide +kernel
theorem dX18_isSameList_79 : decode cX18_isSameList 79 = .ok (.iload 7, 2) := by decide +kernel
theorem dX18_isSameList_81 : decode cX18_isSameList 81 = .ok (.ireturn, 1) := by decide +kernel
theorem dX18_isFunctionAs_0 : decode cX18_isFunctionAs 0 = .ok (.aload_n 1, 1) := by decide +kernel
theorem dX18_isFunctionAs_1 : decode cX18_isFunctionAs 1 = .ok (.iload_n 2, 1) := by decide +kernel
theorem dX18_isFunctionAs_2 : decode cX18_isFunctionAs 2 = .ok (.invokevirtual 169, 3) := by decide +kernel
theorem dX18_isFunctionAs_5 : decode cX18_isFunctionAs 5 = .ok (.istore_n 3, 1) := by decide +kernel
theorem dX18_isFunctionAs_6 : decode cX18_isFunctionAs 6 = .ok (.aload_n 1, 1) := by decide +kernel
theorem dX18_isFunctionAs_7 : decode cX18_isFunctionAs 7 = .ok (.iload_n 2, 1) := by decide +kernel
theorem dX18_isFunctionAs_8 : decode cX18_isFunctionAs 8 = .ok (.invokevirtual 172, 3) := by decide +kernel
theorem dX18_isFunctionAs_11 : decode cX18_isFunctionAs 11 = .ok (.istore 4, 2) := by decide +kernel
theorem dX18_isFunctionAs_13 : decode cX18_isFunctionAs 13 = .ok (.aload_n 0, 1) := by decide +kernel
theorem dX18_isFunctionAs_14 : decode cX18_isFunctionAs 14 = .ok (.iload_n 3, 1) := by decide +kernel
theorem dX18_isFunctionAs_15 : decode cX18_isFunctionAs 15 = .ok (.iload 4, 2) := by decide +kernel
theorem dX18_isFunctionAs_17 : decode cX18_isFunctionAs 17 = .ok (.iconst 0, 1) := by decide +kernel
theorem dX18_isFunctionAs_18 : decode cX18_isFunctionAs 18 = .ok (.invokevirtual 175, 3) := by decide +kernel
theorem dX18_isFunctionAs_21 : decode cX18_isFunctionAs 21 = .ok (.ifCond .ne 5, 3) := by decide +kernel
theorem dX18_isFunctionAs_24 : decode cX18_isFunctionAs 24 = .ok (.iconst 0, 1) := by decide +kernel
theorem dX18_isFunctionAs_25 : decode cX18_isFunctionAs 25 = .ok (.ireturn, 1) := by decide +kernel
theorem dX18_isFunctionAs_26 : decode cX18_isFunctionAs 26 = .ok (.aload_n 0, 1) := by decide +kernel
theorem dX18_isFunctionAs_27 : decode cX18_isFunctionAs 27 = .ok (.iload_n 3, 1) := by decide +kernel
theorem dX18_isFunctionAs_28 : decode cX18_isFunctionAs 28 = .ok (.iload 4, 2) := by decide +kernel
theorem dX18_isFunctionAs_30 : decode cX18_isFunctionAs 30 = .ok (.invokevirtual 179, 3) := by decide +kernel
theorem dX18_isFunctionAs_33 : decode cX18_isFunctionAs 33 = .ok (.istore 5, 2) := by decide +kernel
theorem dX18_isFunctionAs_35 : decode cX18_isFunctionAs 35 = .ok (.iload 5, 2) := by decide +kernel
theorem dX18_isFunctionAs_37 : decode cX18_isFunctionAs 37 = .ok (.iconst 1, 1) := by decide +kernel
theorem dX18_isFunctionAs_38 : decode cX18_isFunctionAs 38 = .ok (.iand, 1) := by decide +kernel
theorem dX18_isFunctionAs_39 : decode cX18_isFunctionAs 39 = .ok (.iconst 1, 1) := by decide +kernel
theorem dX18_isFunctionAs_40 : decode cX18_isFunctionAs 40 = .ok (.if_icmp .ne 47, 3) := by decide +kernel
theorem dX18_isFunctionAs_43 : decode cX18_isFunctionAs 43 = .ok (.iload 5, 2) := by decide +kernel
theorem dX18_isFunctionAs_45 : decode cX18_isFunctionAs 45 = .ok (.iconst 4, 1) := by decide +kernel
theorem dX18_isFunctionAs_46 : decode cX18_isFunctionAs 46 = .ok (.iand, 1) := by decide +kernel
theorem dX18_isFunctionAs_47 : decode cX18_isFunctionAs 47 = .ok (.aload_n 1, 1) := by decide +kernel
theorem dX18_isFunctionAs_48 : decode cX18_isFunctionAs 48 = .ok (.iload_n 2, 1) := by decide +kernel
theorem dX18_isFunctionAs_49 : decode cX18_isFunctionAs 49 = .ok (.invokevirtual 126, 3) := by decide +kernel
theorem dX18_isFunctionAs_52 : decode cX18_isFunctionAs 52 = .ok (.iconst 4, 1) := by decide +kernel
theorem dX18_isFunctionAs_53 : decode cX18_isFunctionAs 53 = .ok (.iand, 1) := by decide +kernel
theorem dX18_isFunctionAs_54 : decode cX18_isFunctionAs 54 = .ok (.if_icmp .ne 33, 3) := by decide +kernel
theorem dX18_isFunctionAs_57 : decode cX18_isFunctionAs 57 = .ok (.aload_n 0, 1) := by decide +kernel
theorem dX18_isFunctionAs_58 : decode cX18_isFunctionAs 58 = .ok (.aload_n 1, 1) := by decide +kernel
theorem dX18_isFunctionAs_59 : decode cX18_isFunctionAs 59 = .ok (.iload_n 2, 1) := by decide +kernel
theorem dX18_isFunctionAs_60 : decode cX18_isFunctionAs 60 = .ok (.iload_n 3, 1) := by decide +kernel
theorem dX18_isFunctionAs_61 : decode cX18_isFunctionAs 61 = .ok (.iload 4, 2) := by decide +kernel
theorem dX18_isFunctionAs_63 : decode cX18_isFunctionAs 63 = .ok (.iconst 0, 1) := by decide +kernel
theorem dX18_isFunctionAs_64 : decode cX18_isFunctionAs 64 = .ok (.invokevirtual 182, 3) := by decide +kernel
theorem dX18_isFunctionAs_67 : decode cX18_isFunctionAs 67 = .ok (.ifCond .eq 20, 3) := by decide +kernel
theorem dX18_isFunctionAs_70 : decode cX18_isFunctionAs 70 = .ok (.aload_n 0, 1) := by decide +kernel
theorem dX18_isFunctionAs_71 : decode cX18_isFunctionAs 71 = .ok (.aload_n 1, 1) := by decide +kernel
theorem dX18_isFunctionAs_72 : decode cX18_isFunctionAs 72 = .ok (.iload_n 2, 1) := by decide +kernel
theorem dX18_isFunctionAs_73 : decode cX18_isFunctionAs 73 = .ok (.iload_n 3, 1) := by decide +kernel
theorem dX18_isFunctionAs_74 : decode cX18_isFunctionAs 74 = .ok (.iload 4, 2) := by decide +kernel
theorem dX18_isFunctionAs_76 : decode cX18_isFunctionAs 76 = .ok (.iconst 1, 1) := by decide +kernel
theorem dX18_isFunctionAs_77 : decode cX18_isFunctionAs 77 = .ok (.invokevirtual 182, 3) := by decide +kernel
theorem dX18_isFunctionAs_80 : decode cX18_isFunctionAs 80 = .ok (.ifCond .eq 7, 3) := by decide +kernel
theorem dX18_isFunctionAs_83 : decode cX18_isFunctionAs 83 = .ok (.iconst 1, 1) := by decide +kernel
theorem dX18_isFunctionAs_84 : decode cX18_isFunctionAs 84 = .ok (.goto 4, 3) := by decide +kernel
theorem dX18_isFunctionAs_87 : decode cX18_isFunctionAs 87 = .ok (.iconst 0, 1) := by decide +kernel
theorem dX18_isFunctionAs_88 : decode cX18_isFunctionAs 88 = .ok (.ireturn, 1) := by decide +kernel
theorem dX18_measure_0 : decode cX18_measure 0 = .ok (.aload_n 0, 1) := by decide +kernel
theorem dX18_measure_1 : decode cX18_measure 1 = .ok (.getfield 17, 3) := by decide +kernel
theorem dX18_measure_4 : decode cX18_measure 4 = .ok (.iload_n 1, 1) := by decide +kernel
theorem dX18_measure_5 : decode cX18_measure 5 = .ok (.aaload, 1) := by decide +kernel
theorem dX18_measure_6 : decode cX18_measure 6 = .ok (.astore_n 2, 1) := by decide +kernel
theorem dX18_measure_7 : decode cX18_measure 7 = .ok (.iconst 0, 1) := by decide +kernel
theorem dX18_measure_8 : decode cX18_measure 8 = .ok (.istore_n 3, 1) := by decide +kernel
theorem dX18_measure_9 : decode cX18_measure 9 = .ok (.iload_n 3, 1) := by decide +kernel
theorem dX18_measure_10 : decode cX18_measure 10 = .ok (.aload_n 2, 1) := by decide +kernel
theorem dX18_measure_11 : decode cX18_measure 11 = .ok (.invokevirtual 186, 3) := by decide +kernel
theorem dX18_measure_14 : decode cX18_measure 14 = .ok (.if_icmp .ge 87, 3) := by decide +kernel
theorem dX18_measure_17 : decode cX18_measure 17 = .ok (.iload_n 3, 1) := by decide +kernel
theorem dX18_measure_18 : decode cX18_measure 18 = .ok (.aload_n 2, 1) := by decide +kernel
theorem dX18_measure_19 : decode cX18_measure 19 = .ok (.getfield 109, 3) := by decide +kernel
theorem dX18_measure_22 : decode cX18_measure 22 = .ok (.if_icmp .ge 7, 3) := by decide +kernel
theorem dX18_measure_25 : decode cX18_measure 25 = .ok (.iconst 0, 1) := by decide +kernel
theorem dX18_measure_26 : decode cX18_measure 26 = .ok (.goto 8, 3) := by decide +kernel
theorem dX18_measure_29 : decode cX18_measure 29 = .ok (.aload_n 2, 1) := by decide +kernel
theorem dX18_measure_30 : decode cX18_measure 30 = .ok (.iload_n 3, 1) := by decide +kernel
theorem dX18_measure_31 : decode cX18_measure 31 = .ok (.invokevirtual 143, 3) := by decide +kernel
theorem dX18_measure_34 : decode cX18_measure 34 = .ok (.istore 4, 2) := by decide +kernel
theorem dX18_measure_36 : decode cX18_measure 36 = .ok (.aload_n 0, 1) := by decide +kernel
theorem dX18_measure_37 : decode cX18_measure 37 = .ok (.getfield 189, 3) := by decide +kernel
theorem dX18_measure_40 : decode cX18_measure 40 = .ok (.bipush 64, 2) := by decide +kernel
theorem dX18_measure_42 : decode cX18_measure 42 = .ok (.iload_n 1, 1) := by decide +kernel
theorem dX18_measure_43 : decode cX18_measure 43 = .ok (.imul, 1) := by decide +kernel
theorem dX18_measure_44 : decode cX18_measure 44 = .ok (.iload_n 3, 1) := by decide +kernel
theorem dX18_measure_45 : decode cX18_measure 45 = .ok (.iadd, 1) := by decide +kernel
theorem dX18_measure_46 : decode cX18_measure 46 = .ok (.iload_n 3, 1) := by decide +kernel
theorem dX18_measure_47 : decode cX18_measure 47 = .ok (.aload_n 2, 1) := by decide +kernel
theorem dX18_measure_48 : decode cX18_measure 48 = .ok (.getfield 109, 3) := by decide +kernel
theorem dX18_measure_51 : decode cX18_measure 51 = .ok (.if_icmp .ge 7, 3) := by decide +kernel
theorem dX18_measure_54 : decode cX18_measure 54 = .ok (.iconst 0, 1) := by decide +kernel
theorem dX18_measure_55 : decode cX18_measure 55 = .ok (.goto 39, 3) := by decide +kernel
theorem dX18_measure_58 : decode cX18_measure 58 = .ok (.iload 4, 2) := by decide +kernel
theorem dX18_measure_60 : decode cX18_measure 60 = .ok (.bipush 8, 2) := by decide +kernel
theorem dX18_measure_62 : decode cX18_measure 62 = .ok (.ishr, 1) := by decide +kernel
theorem dX18_measure_63 : decode cX18_measure 63 = .ok (.ifCond .ne 7, 3) := by decide +kernel
theorem dX18_measure_66 : decode cX18_measure 66 = .ok (.iconst 2, 1) := by decide +kernel
theorem dX18_measure_67 : decode cX18_measure 67 = .ok (.goto 27, 3) := by decide +kernel
theorem dX18_measure_70 : decode cX18_measure 70 = .ok (.aload_n 0, 1) := by decide +kernel
theorem dX18_measure_71 : decode cX18_measure 71 = .ok (.getfield 189, 3) := by decide +kernel
theorem dX18_measure_74 : decode cX18_measure 74 = .ok (.bipush 64, 2) := by decide +kernel
theorem dX18_measure_76 : decode cX18_measure 76 = .ok (.aload_n 0, 1) := by decide +kernel
theorem dX18_measure_77 : decode cX18_measure 77 = .ok (.iload 4, 2) := by decide +kernel
theorem dX18_measure_79 : decode cX18_measure 79 = .ok (.bipush 8, 2) := by decide +kernel
theorem dX18_measure_81 : decode cX18_measure 81 = .ok (.ishr, 1) := by decide +kernel
theorem dX18_measure_82 : decode cX18_measure 82 = .ok (.invokevirtual 106, 3) := by decide +kernel
theorem dX18_measure_85 : decode cX18_measure 85 = .ok (.imul, 1) := by decide +kernel
theorem dX18_measure_86 : decode cX18_measure 86 = .ok (.iload 4, 2) := by decide +kernel
theorem dX18_measure_88 : decode cX18_measure 88 = .ok (.sipush 255, 3) := by decide +kernel
theorem dX18_measure_91 : decode cX18_measure 91 = .ok (.iand, 1) := by decide +kernel
theorem dX18_measure_92 : decode cX18_measure 92 = .ok (.iadd, 1) := by decide +kernel
theorem dX18_measure_93 : decode cX18_measure 93 = .ok (.iaload, 1) := by decide +kernel
theorem dX18_measure_94 : decode cX18_measure 94 = .ok (.iastore, 1) := by decide +kernel
theorem dX18_measure_95 : decode cX18_measure 95 = .ok (.iinc 3 1, 3) := by decide +kernel
theorem dX18_measure_98 : decode cX18_measure 98 = .ok (.goto (-89), 3) := by decide +kernel
theorem dX18_measure_101 : decode cX18_measure 101 = .ok (.iconst 0, 1) := by decide +kernel
theorem dX18_measure_102 : decode cX18_measure 102 = .ok (.istore_n 3, 1) := by decide +kernel
theorem dX18_measure_103 : decode cX18_measure 103 = .ok (.iload_n 3, 1) := by decide +kernel
theorem dX18_measure_104 : decode cX18_measure 104 = .ok (.aload_n 2, 1) := by decide +kernel
theorem dX18_measure_105 : decode cX18_measure 105 = .ok (.getfield 109, 3) := by decide +kernel
theorem dX18_measure_108 : decode cX18_measure 108 = .ok (.if_icmp .ge 86, 3) := by decide +kernel
theorem dX18_measure_111 : decode cX18_measure 111 = .ok (.iconst 0, 1) := by decide +kernel
theorem dX18_measure_112 : decode cX18_measure 112 = .ok (.istore 4, 2) := by decide +kernel
theorem dX18_measure_114 : decode cX18_measure 114 = .ok (.iload 4, 2) := by decide +kernel
theorem dX18_measure_116 : decode cX18_measure 116 = .ok (.aload_n 2, 1) := by decide +kernel
theorem dX18_measure_117 : decode cX18_measure 117 = .ok (.getfield 109, 3) := by decide +kernel
theorem dX18_measure_120 : decode cX18_measure 120 = .ok (.if_icmp .ge 68, 3) := by decide +kernel
theorem dX18_measure_123 : decode cX18_measure 123 = .ok (.iconst 0, 1) := by decide +kernel
theorem dX18_measure_124 : decode cX18_measure 124 = .ok (.istore 5, 2) := by decide +kernel
theorem dX18_measure_126 : decode cX18_measure 126 = .ok (.iconst 0, 1) := by decide +kernel
theorem dX18_measure_127 : decode cX18_measure 127 = .ok (.istore 6, 2) := by decide +kernel
theorem dX18_measure_129 : decode cX18_measure 129 = .ok (.iload 6, 2) := by decide +kernel
theorem dX18_measure_131 : decode cX18_measure 131 = .ok (.aload_n 2, 1) := by decide +kernel
theorem dX18_measure_132 : decode cX18_measure 132 = .ok (.iload 4, 2) := by decide +kernel
theorem dX18_measure_134 : decode cX18_measure 134 = .ok (.invokevirtual 192, 3) := by decide +kernel
theorem dX18_measure_137 : decode cX18_measure 137 = .ok (.if_icmp .ge 29, 3) := by decide +kernel
theorem dX18_measure_140 : decode cX18_measure 140 = .ok (.iload 5, 2) := by decide +kernel
theorem dX18_measure_142 : decode cX18_measure 142 = .ok (.aload_n 0, 1) := by decide +kernel
theorem dX18_measure_143 : decode cX18_measure 143 = .ok (.iload_n 1, 1) := by decide +kernel
theorem dX18_measure_144 : decode cX18_measure 144 = .ok (.aload_n 2, 1) := by decide +kernel
theorem dX18_measure_145 : decode cX18_measure 145 = .ok (.iload 4, 2) := by decide +kernel
theorem dX18_measure_147 : decode cX18_measure 147 = .ok (.iload 6, 2) := by decide +kernel
theorem dX18_measure_149 : decode cX18_measure 149 = .ok (.invokevirtual 195, 3) := by decide +kernel
theorem dX18_measure_152 : decode cX18_measure 152 = .ok (.invokevirtual 199, 3) := by decide +kernel
theorem dX18_measure_155 : decode cX18_measure 155 = .ok (.invokestatic 203, 3) := by decide +kernel
theorem dX18_measure_158 : decode cX18_measure 158 = .ok (.istore 5, 2) := by decide +kernel
theorem dX18_measure_160 : decode cX18_measure 160 = .ok (.iinc 6 1, 3) := by decide +kernel
theorem dX18_measure_163 : decode cX18_measure 163 = .ok (.goto (-34), 3) := by decide +kernel
theorem dX18_measure_166 : decode cX18_measure 166 = .ok (.aload_n 0, 1) := by decide +kernel
theorem dX18_measure_167 : decode cX18_measure 167 = .ok (.getfield 189, 3) := by decide +kernel
theorem dX18_measure_170 : decode cX18_measure 170 = .ok (.bipush 64, 2) := by decide +kernel
theorem dX18_measure_172 : decode cX18_measure 172 = .ok (.iload_n 1, 1) := by decide +kernel
theorem dX18_measure_173 : decode cX18_measure 173 = .ok (.imul, 1) := by decide +kernel
theorem dX18_measure_174 : decode cX18_measure 174 = .ok (.iload 4, 2) := by decide +kernel
theorem dX18_measure_176 : decode cX18_measure 176 = .ok (.iadd, 1) := by decide +kernel
theorem dX18_measure_177 : decode cX18_measure 177 = .ok (.iconst 1, 1) := by decide +kernel
theorem dX18_measure_178 : decode cX18_measure 178 = .ok (.iload 5, 2) := by decide +kernel
theorem dX18_measure_180 : decode cX18_measure 180 = .ok (.iadd, 1) := by decide +kernel
theorem dX18_measure_181 : decode cX18_measure 181 = .ok (.iastore, 1) := by decide +kernel
theorem dX18_measure_182 : decode cX18_measure 182 = .ok (.iinc 4 1, 3) := by decide +kernel
theorem dX18_measure_185 : decode cX18_measure 185 = .ok (.goto (-71), 3) := by decide +kernel
theorem dX18_measure_188 : decode cX18_measure 188 = .ok (.iinc 3 1, 3) := by decide +kernel
theorem dX18_measure_191 : decode cX18_measure 191 = .ok (.goto (-88), 3) := by decide +kernel
theorem dX18_measure_194 : decode cX18_measure 194 = .ok (.return_, 1) := by decide +kernel
theorem dX18_depthOf_0 : decode cX18_depthOf 0 = .ok (.lload_n 2, 1) := by decide +kernel
theorem dX18_depthOf_1 : decode cX18_depthOf 1 = .ok (.invokestatic 150, 3) := by decide +kernel
theorem dX18_depthOf_4 : decode cX18_depthOf 4 = .ok (.ifCond .eq 22, 3) := by decide +kernel
theorem dX18_depthOf_7 : decode cX18_depthOf 7 = .ok (.aload_n 0, 1) := by decide +kernel
theorem dX18_depthOf_8 : decode cX18_depthOf 8 = .ok (.getfield 189, 3) := by decide +kernel
theorem dX18_depthOf_11 : decode cX18_depthOf 11 = .ok (.bipush 64, 2) := by decide +kernel
theorem dX18_depthOf_13 : decode cX18_depthOf 13 = .ok (.iload_n 1, 1) := by decide +kernel
theorem dX18_depthOf_14 : decode cX18_depthOf 14 = .ok (.imul, 1) := by decide +kernel
theorem dX18_depthOf_15 : decode cX18_depthOf 15 = .ok (.lload_n 2, 1) := by decide +kernel
theorem dX18_depthOf_16 : decode cX18_depthOf 16 = .ok (.ldc2_w 146, 3) := by decide +kernel
theorem dX18_depthOf_19 : decode cX18_depthOf 19 = .ok (.land, 1) := by decide +kernel
theorem dX18_depthOf_20 : decode cX18_depthOf 20 = .ok (.l2i, 1) := by decide +kernel
theorem dX18_depthOf_21 : decode cX18_depthOf 21 = .ok (.iadd, 1) := by decide +kernel
theorem dX18_depthOf_22 : decode cX18_depthOf 22 = .ok (.iaload, 1) := by decide +kernel
theorem dX18_depthOf_23 : decode cX18_depthOf 23 = .ok (.goto 4, 3) := by decide +kernel
theorem dX18_depthOf_26 : decode cX18_depthOf 26 = .ok (.iconst 1, 1) := by decide +kernel
theorem dX18_depthOf_27 : decode cX18_depthOf 27 = .ok (.istore 4, 2) := by decide +kernel
theorem dX18_depthOf_29 : decode cX18_depthOf 29 = .ok (.iconst 0, 1) := by decide +kernel
theorem dX18_depthOf_30 : decode cX18_depthOf 30 = .ok (.istore 5, 2) := by decide +kernel
theorem dX18_depthOf_32 : decode cX18_depthOf 32 = .ok (.iload 5, 2) := by decide +kernel
theorem dX18_depthOf_34 : decode cX18_depthOf 34 = .ok (.bipush 8, 2) := by decide +kernel
theorem dX18_depthOf_36 : decode cX18_depthOf 36 = .ok (.if_icmp .ge 21, 3) := by decide +kernel
theorem dX18_depthOf_39 : decode cX18_depthOf 39 = .ok (.lload_n 2, 1) := by decide +kernel
theorem dX18_depthOf_40 : decode cX18_depthOf 40 = .ok (.bipush 8, 2) := by decide +kernel
theorem dX18_depthOf_42 : decode cX18_depthOf 42 = .ok (.iload 5, 2) := by decide +kernel
theorem dX18_depthOf_44 : decode cX18_depthOf 44 = .ok (.imul, 1) := by decide +kernel
theorem dX18_depthOf_45 : decode cX18_depthOf 45 = .ok (.lshr, 1) := by decide +kernel
theorem dX18_depthOf_46 : decode cX18_depthOf 46 = .ok (.lconst 0, 1) := by decide +kernel
theorem dX18_depthOf_47 : decode cX18_depthOf 47 = .ok (.lcmp, 1) := by decide +kernel
theorem dX18_depthOf_48 : decode cX18_depthOf 48 = .ok (.ifCond .le 9, 3) := by decide +kernel
theorem dX18_depthOf_51 : decode cX18_depthOf 51 = .ok (.iinc 5 1, 3) := by decide +kernel
theorem dX18_depthOf_54 : decode cX18_depthOf 54 = .ok (.goto (-22), 3) := by decide +kernel
theorem dX18_depthOf_57 : decode cX18_depthOf 57 = .ok (.iload 4, 2) := by decide +kernel
theorem dX18_depthOf_59 : decode cX18_depthOf 59 = .ok (.lload_n 2, 1) := by decide +kernel
theorem dX18_depthOf_60 : decode cX18_depthOf 60 = .ok (.invokestatic 150, 3) := by decide +kernel
theorem dX18_depthOf_63 : decode cX18_depthOf 63 = .ok (.ifCond .eq 10, 3) := by decide +kernel
theorem dX18_depthOf_66 : decode cX18_depthOf 66 = .ok (.iload 5, 2) := by decide +kernel
theorem dX18_depthOf_68 : decode cX18_depthOf 68 = .ok (.iconst 2, 1) := by decide +kernel
theorem dX18_depthOf_69 : decode cX18_depthOf 69 = .ok (.isub, 1) := by decide +kernel
theorem dX18_depthOf_70 : decode cX18_depthOf 70 = .ok (.goto 7, 3) := by decide +kernel
theorem dX18_depthOf_73 : decode cX18_depthOf 73 = .ok (.iload 5, 2) := by decide +kernel
theorem dX18_depthOf_75 : decode cX18_depthOf 75 = .ok (.iconst 1, 1) := by decide +kernel
theorem dX18_depthOf_76 : decode cX18_depthOf 76 = .ok (.isub, 1) := by decide +kernel
theorem dX18_depthOf_77 : decode cX18_depthOf 77 = .ok (.iadd, 1) := by decide +kernel
theorem dX18_depthOf_78 : decode cX18_depthOf 78 = .ok (.ireturn, 1) := by decide +kernel
theorem dX18_takeModule_0 : decode cX18_takeModule 0 = .ok (.aload_n 0, 1) := by decide +kernel
theorem dX18_takeModule_1 : decode cX18_takeModule 1 = .ok (.getfield 17, 3) := by decide +kernel
theorem dX18_takeModule_4 : decode cX18_takeModule 4 = .ok (.iload 4, 2) := by decide +kernel
theorem dX18_takeModule_6 : decode cX18_takeModule 6 = .ok (.aaload, 1) := by decide +kernel
theorem dX18_takeModule_7 : decode cX18_takeModule 7 = .ok (.astore 5, 2) := by decide +kernel
theorem dX18_takeModule_9 : decode cX18_takeModule 9 = .ok (.aload 5, 2) := by decide +kernel
theorem dX18_takeModule_11 : decode cX18_takeModule 11 = .ok (.aload_n 1, 1) := by decide +kernel
theorem dX18_takeModule_12 : decode cX18_takeModule 12 = .ok (.iload_n 2, 1) := by decide +kernel
theorem dX18_takeModule_13 : decode cX18_takeModule 13 = .ok (.iload_n 3, 1) := by decide +kernel
theorem dX18_takeModule_14 : decode cX18_takeModule 14 = .ok (.invokevirtual 208, 3) := by decide +kernel
theorem dX18_takeModule_17 : decode cX18_takeModule 17 = .ok (.istore 6, 2) := by decide +kernel
theorem dX18_takeModule_19 : decode cX18_takeModule 19 = .ok (.aload_n 0, 1) := by decide +kernel
theorem dX18_takeModule_20 : decode cX18_takeModule 20 = .ok (.iload 6, 2) := by decide +kernel
theorem dX18_takeModule_22 : decode cX18_takeModule 22 = .ok (.ifCond .eq 11, 3) := by decide +kernel
theorem dX18_takeModule_25 : decode cX18_takeModule 25 = .ok (.aload 5, 2) := by decide +kernel
theorem dX18_takeModule_27 : decode cX18_takeModule 27 = .ok (.getfield 212, 3) := by decide +kernel
theorem dX18_takeModule_30 : decode cX18_takeModule 30 = .ok (.goto 4, 3) := by decide +kernel
theorem dX18_takeModule_33 : decode cX18_takeModule 33 = .ok (.iconst 0, 1) := by decide +kernel
theorem dX18_takeModule_34 : decode cX18_takeModule 34 = .ok (.putfield 215, 3) := by decide +kernel
theorem dX18_takeModule_37 : decode cX18_takeModule 37 = .ok (.iload 6, 2) := by decide +kernel
theorem dX18_takeModule_39 : decode cX18_takeModule 39 = .ok (.ifCond .eq 6, 3) := by decide +kernel
theorem dX18_takeModule_42 : decode cX18_takeModule 42 = .ok (.iload 6, 2) := by decide +kernel
theorem dX18_takeModule_44 : decode cX18_takeModule 44 = .ok (.ireturn, 1) := by decide +kernel
theorem dX18_takeModule_45 : decode cX18_takeModule 45 = .ok (.aload 5, 2) := by decide +kernel
theorem dX18_takeModule_47 : decode cX18_takeModule 47 = .ok (.invokevirtual 21, 3) := by decide +kernel
theorem dX18_takeModule_50 : decode cX18_takeModule 50 = .ok (.ifCond .eq 15, 3) := by decide +kernel
theorem dX18_takeModule_53 : decode cX18_takeModule 53 = .ok (.aload_n 0, 1) := by decide +kernel
theorem dX18_takeModule_54 : decode cX18_takeModule 54 = .ok (.aload 5, 2) := by decide +kernel
theorem dX18_takeModule_56 : decode cX18_takeModule 56 = .ok (.invokevirtual 21, 3) := by decide +kernel
theorem dX18_takeModule_59 : decode cX18_takeModule 59 = .ok (.invokevirtual 106, 3) := by decide +kernel
theorem dX18_takeModule_62 : decode cX18_takeModule 62 = .ok (.ifCond .le 11, 3) := by decide +kernel
theorem dX18_takeModule_65 : decode cX18_takeModule 65 = .ok (.aload_n 0, 1) := by decide +kernel
theorem dX18_takeModule_66 : decode cX18_takeModule 66 = .ok (.bipush 21, 2) := by decide +kernel
theorem dX18_takeModule_68 : decode cX18_takeModule 68 = .ok (.iconst 4, 1) := by decide +kernel
theorem dX18_takeModule_69 : decode cX18_takeModule 69 = .ok (.invokevirtual 218, 3) := by decide +kernel
theorem dX18_takeModule_72 : decode cX18_takeModule 72 = .ok (.ireturn, 1) := by decide +kernel
theorem dX18_takeModule_73 : decode cX18_takeModule 73 = .ok (.aload 5, 2) := by decide +kernel
theorem dX18_takeModule_75 : decode cX18_takeModule 75 = .ok (.getfield 109, 3) := by decide +kernel
theorem dX18_takeModule_78 : decode cX18_takeModule 78 = .ok (.istore 7, 2) := by decide +kernel
theorem dX18_takeModule_80 : decode cX18_takeModule 80 = .ok (.iload 7, 2) := by decide +kernel
theorem dX18_takeModule_82 : decode cX18_takeModule 82 = .ok (.aload 5, 2) := by decide +kernel
theorem dX18_takeModule_84 : decode cX18_takeModule 84 = .ok (.invokevirtual 186, 3) := by decide +kernel
theorem dX18_takeModule_87 : decode cX18_takeModule 87 = .ok (.if_icmp .ge 77, 3) := by decide +kernel
theorem dX18_takeModule_90 : decode cX18_takeModule 90 = .ok (.aload 5, 2) := by decide +kernel
theorem dX18_takeModule_92 : decode cX18_takeModule 92 = .ok (.iload 7, 2) := by decide +kernel
theorem dX18_takeModule_94 : decode cX18_takeModule 94 = .ok (.invokevirtual 143, 3) := by decide +kernel
theorem dX18_takeModule_97 : decode cX18_takeModule 97 = .ok (.istore 8, 2) := by decide +kernel
theorem dX18_takeModule_99 : decode cX18_takeModule 99 = .ok (.aload_n 0, 1) := by decide +kernel
theorem dX18_takeModule_100 : decode cX18_takeModule 100 = .ok (.iload 8, 2) := by decide +kernel
theorem dX18_takeModule_102 : decode cX18_takeModule 102 = .ok (.bipush 8, 2) := by decide +kernel
theorem dX18_takeModule_104 : decode cX18_takeModule 104 = .ok (.ishr, 1) := by decide +kernel
theorem dX18_takeModule_105 : decode cX18_takeModule 105 = .ok (.iload 8, 2) := by decide +kernel
theorem dX18_takeModule_107 : decode cX18_takeModule 107 = .ok (.sipush 255, 3) := by decide +kernel
theorem dX18_takeModule_110 : decode cX18_takeModule 110 = .ok (.iand, 1) := by decide +kernel
theorem dX18_takeModule_111 : decode cX18_takeModule 111 = .ok (.iconst 1, 1) := by decide +kernel
theorem dX18_takeModule_112 : decode cX18_takeModule 112 = .ok (.invokevirtual 175, 3) := by decide +kernel
theorem dX18_takeModule_115 : decode cX18_takeModule 115 = .ok (.ifCond .eq 28, 3) := by decide +kernel
theorem dX18_takeModule_118 : decode cX18_takeModule 118 = .ok (.aload_n 0, 1) := by decide +kernel
theorem dX18_takeModule_119 : decode cX18_takeModule 119 = .ok (.iload 8, 2) := by decide +kernel
theorem dX18_takeModule_121 : decode cX18_takeModule 121 = .ok (.bipush 8, 2) := by decide +kernel
theorem dX18_takeModule_123 : decode cX18_takeModule 123 = .ok (.ishr, 1) := by decide +kernel
theorem dX18_takeModule_124 : decode cX18_takeModule 124 = .ok (.iload 8, 2) := by decide +kernel
theorem dX18_takeModule_126 : decode cX18_takeModule 126 = .ok (.sipush 255, 3) := by decide +kernel
theorem dX18_takeModule_129 : decode cX18_takeModule 129 = .ok (.iand, 1) := by decide +kernel
theorem dX18_takeModule_130 : decode cX18_takeModule 130 = .ok (.invokevirtual 221, 3) := by decide +kernel
theorem dX18_takeModule_133 : decode cX18_takeModule 133 = .ok (.aload 5, 2) := by decide +kernel
theorem dX18_takeModule_135 : decode cX18_takeModule 135 = .ok (.iload 7, 2) := by decide +kernel
theorem dX18_takeModule_137 : decode cX18_takeModule 137 = .ok (.invokevirtual 115, 3) := by decide +kernel
theorem dX18_takeModule_140 : decode cX18_takeModule 140 = .ok (.if_icmp .eq 18, 3) := by decide +kernel
theorem dX18_takeModule_143 : decode cX18_takeModule 143 = .ok (.aload_n 0, 1) := by decide +kernel
theorem dX18_takeModule_144 : decode cX18_takeModule 144 = .ok (.bipush 22, 2) := by decide +kernel
theorem dX18_takeModule_146 : decode cX18_takeModule 146 = .ok (.iload 7, 2) := by decide +kernel
theorem dX18_takeModule_148 : decode cX18_takeModule 148 = .ok (.aload 5, 2) := by decide +kernel
theorem dX18_takeModule_150 : decode cX18_takeModule 150 = .ok (.getfield 109, 3) := by decide +kernel
theorem dX18_takeModule_153 : decode cX18_takeModule 153 = .ok (.isub, 1) := by decide +kernel
theorem dX18_takeModule_154 : decode cX18_takeModule 154 = .ok (.invokevirtual 218, 3) := by decide +kernel
theorem dX18_takeModule_157 : decode cX18_takeModule 157 = .ok (.ireturn, 1) := by decide +kernel
theorem dX18_takeModule_158 : decode cX18_takeModule 158 = .ok (.iinc 7 1, 3) := by decide +kernel
theorem dX18_takeModule_161 : decode cX18_takeModule 161 = .ok (.goto (-81), 3) := by decide +kernel
theorem dX18_takeModule_164 : decode cX18_takeModule 164 = .ok (.aload 5, 2) := by decide +kernel
theorem dX18_takeModule_166 : decode cX18_takeModule 166 = .ok (.getfield 112, 3) := by decide +kernel
theorem dX18_takeModule_169 : decode cX18_takeModule 169 = .ok (.istore 7, 2) := by decide +kernel
theorem dX18_takeModule_171 : decode cX18_takeModule 171 = .ok (.iload 7, 2) := by decide +kernel
theorem dX18_takeModule_173 : decode cX18_takeModule 173 = .ok (.aload 5, 2) := by decide +kernel
theorem dX18_takeModule_175 : decode cX18_takeModule 175 = .ok (.invokevirtual 224, 3) := by decide +kernel
theorem dX18_takeModule_178 : decode cX18_takeModule 178 = .ok (.if_icmp .ge 35, 3) := by decide +kernel
theorem dX18_takeModule_181 : decode cX18_takeModule 181 = .ok (.aload_n 0, 1) := by decide +kernel
theorem dX18_takeModule_182 : decode cX18_takeModule 182 = .ok (.aload 5, 2) := by decide +kernel
theorem dX18_takeModule_184 : decode cX18_takeModule 184 = .ok (.iload 7, 2) := by decide +kernel
theorem dX18_takeModule_186 : decode cX18_takeModule 186 = .ok (.invokevirtual 227, 3) := by decide +kernel
theorem dX18_takeModule_189 : decode cX18_takeModule 189 = .ok (.ifCond .ne 18, 3) := by decide +kernel
theorem dX18_takeModule_192 : decode cX18_takeModule 192 = .ok (.aload_n 0, 1) := by decide +kernel
theorem dX18_takeModule_193 : decode cX18_takeModule 193 = .ok (.bipush 23, 2) := by decide +kernel
theorem dX18_takeModule_195 : decode cX18_takeModule 195 = .ok (.iload 7, 2) := by decide +kernel
theorem dX18_takeModule_197 : decode cX18_takeModule 197 = .ok (.aload 5, 2) := by decide +kernel
theorem dX18_takeModule_199 : decode cX18_takeModule 199 = .ok (.getfield 112, 3) := by decide +kernel
theorem dX18_takeModule_202 : decode cX18_takeModule 202 = .ok (.isub, 1) := by decide +kernel
theorem dX18_takeModule_203 : decode cX18_takeModule 203 = .ok (.invokevirtual 218, 3) := by decide +kernel
theorem dX18_takeModule_206 : decode cX18_takeModule 206 = .ok (.ireturn, 1) := by decide +kernel
theorem dX18_takeModule_207 : decode cX18_takeModule 207 = .ok (.iinc 7 1, 3) := by decide +kernel
theorem dX18_takeModule_210 : decode cX18_takeModule 210 = .ok (.goto (-39), 3) := by decide +kernel
theorem dX18_takeModule_213 : decode cX18_takeModule 213 = .ok (.iconst 0, 1) := by decide +kernel
theorem dX18_takeModule_214 : decode cX18_takeModule 214 = .ok (.istore 7, 2) := by decide +kernel
theorem dX18_takeModule_216 : decode cX18_takeModule 216 = .ok (.iload 7, 2) := by decide +kernel
theorem dX18_takeModule_218 : decode cX18_takeModule 218 = .ok (.aload 5, 2) := by decide +kernel
theorem dX18_takeModule_220 : decode cX18_takeModule 220 = .ok (.getfield 109, 3) := by decide +kernel
theorem dX18_takeModule_223 : decode cX18_takeModule 223 = .ok (.if_icmp .ge 32, 3) := by decide +kernel
theorem dX18_takeModule_226 : decode cX18_takeModule 226 = .ok (.aload_n 0, 1) := by decide +kernel
theorem dX18_takeModule_227 : decode cX18_takeModule 227 = .ok (.getfield 231, 3) := by decide +kernel
theorem dX18_takeModule_230 : decode cX18_takeModule 230 = .ok (.aload 5, 2) := by decide +kernel
theorem dX18_takeModule_232 : decode cX18_takeModule 232 = .ok (.iload 7, 2) := by decide +kernel
theorem dX18_takeModule_234 : decode cX18_takeModule 234 = .ok (.invokevirtual 235, 3) := by decide +kernel
