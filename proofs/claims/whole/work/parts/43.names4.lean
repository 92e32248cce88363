def wsX7_findProgram : List Cond := .code yX7_findProgram cX7_findProgram 3 (some (.object "ResourceLedger$Program")) :: ([.fieldLink RX7 55 "ResourceLedger$State" "moduleCount" "I", .fieldLink RX7 23 "ResourceLedger$State" "programs" "[LResourceLedger$Program;", .fieldLink RX7 86 "ResourceLedger$Program" "number" "I"] ++ wsX70 ++ wsX50)
set_option maxRecDepth 20000 in
theorem ggX5_measure_X7_findProgram : GoodIn wsX5_measure wsX7_findProgram := goodIn_r _ [17, 18, 19, 20, 67, 68, 69, 70, 71, 72, 73, 74, 75, 76, 77, 78, 79, 80, 81, 82, 52, 53, 54, 55, 56, 57, 58, 59, 60, 61, 62, 63, 64, 65, 66] rfl (by decide +kernel)
set_option maxRecDepth 20000 in
theorem gX5_measure_X7_findProgram : GoodIn wsX5_measure (wsV RX5 105 RX7 yX7_findProgram wsX7_findProgram) := goodIn_app (goodIn_of _ (by decide +kernel)) ggX5_measure_X7_findProgram
theorem dX7_findProgram_0 : decode cX7_findProgram 0 = .ok (.iconst 0, 1) := by decide +kernel
theorem dX7_findProgram_1 : decode cX7_findProgram 1 = .ok (.istore_n 2, 1) := by decide +kernel
theorem dX7_findProgram_2 : decode cX7_findProgram 2 = .ok (.iload_n 2, 1) := by decide +kernel
theorem dX7_findProgram_3 : decode cX7_findProgram 3 = .ok (.aload_n 0, 1) := by decide +kernel
theorem dX7_findProgram_4 : decode cX7_findProgram 4 = .ok (.getfield 55, 3) := by decide +kernel
theorem dX7_findProgram_7 : decode cX7_findProgram 7 = .ok (.if_icmp .gt 29, 3) := by decide +kernel
theorem dX7_findProgram_10 : decode cX7_findProgram 10 = .ok (.aload_n 0, 1) := by decide +kernel
theorem dX7_findProgram_11 : decode cX7_findProgram 11 = .ok (.getfield 23, 3) := by decide +kernel
theorem dX7_findProgram_14 : decode cX7_findProgram 14 = .ok (.iload_n 2, 1) := by decide +kernel
theorem dX7_findProgram_15 : decode cX7_findProgram 15 = .ok (.aaload, 1) := by decide +kernel
theorem dX7_findProgram_16 : decode cX7_findProgram 16 = .ok (.getfield 86, 3) := by decide +kernel
theorem dX7_findProgram_19 : decode cX7_findProgram 19 = .ok (.iload_n 1, 1) := by decide +kernel
theorem dX7_findProgram_20 : decode cX7_findProgram 20 = .ok (.if_icmp .ne 10, 3) := by decide +kernel
theorem dX7_findProgram_23 : decode cX7_findProgram 23 = .ok (.aload_n 0, 1) := by decide +kernel
theorem dX7_findProgram_24 : decode cX7_findProgram 24 = .ok (.getfield 23, 3) := by decide +kernel
theorem dX7_findProgram_27 : decode cX7_findProgram 27 = .ok (.iload_n 2, 1) := by decide +kernel
theorem dX7_findProgram_28 : decode cX7_findProgram 28 = .ok (.aaload, 1) := by decide +kernel
theorem dX7_findProgram_29 : decode cX7_findProgram 29 = .ok (.areturn, 1) := by decide +kernel
theorem dX7_findProgram_30 : decode cX7_findProgram 30 = .ok (.iinc 2 1, 3) := by decide +kernel
theorem dX7_findProgram_33 : decode cX7_findProgram 33 = .ok (.goto (-31), 3) := by decide +kernel
theorem dX7_findProgram_36 : decode cX7_findProgram 36 = .ok (.aconst_null, 1) := by decide +kernel
theorem dX7_findProgram_37 : decode cX7_findProgram 37 = .ok (.areturn, 1) := by decide +kernel
