abbrev TYS (cy : Nat → ClassId) : List (ClassId × FieldType) := [(cy 0, .byte), (cy 1, .int), (cy 2, .long), (cy 3, .boolean), (cy 4, .object "ResourceLedger$Program"), (cy 5, .object "ResourceLedger$Transaction"), (cy 6, .object "ResourceLedgerModel$Unit")]
def nestM : List (String × Nat × MethodName × String) := [(RX7, 50, yX5_init, "ResourceLedger"), (RX11, 28, yX6_init, "ResourceLedger"), (RX11, 35, yX3_init, "ResourceLedger"), (RX11, 42, yX9_init, "ResourceLedger"), (RX9, 17, yX0_init, "ResourceLedger"), (RX4, 11, yX1_init, "ResourceLedger"), (RX4, 20, yX10_init, "ResourceLedger"), (RX4, 27, yX0_init, "ResourceLedger"), (RX11, 59, yX8_init, "ResourceLedger"), (RX18, 522, yX15_init, "ResourceLedgerModel"), (RX18, 523, yX13_init, "ResourceLedgerModel"), (RX18, 524, yX17_init, "ResourceLedgerModel"), (RX18, 525, yX12_init, "ResourceLedgerModel"), (RX18, 608, yX16_init, "ResourceLedgerModel"), (RX13, 85, yX16_fieldsOf, "ResourceLedgerModel"), (RX18, 192, yX16_fieldsOf, "ResourceLedgerModel")]
def nestF : List (String × Nat × String × String × String × String) := [(RX18, 71, "ResourceLedgerModel$Trees", "kinds", "[B", "ResourceLedgerModel"), (RX18, 74, "ResourceLedgerModel$Trees", "highs", "[J", "ResourceLedgerModel"), (RX18, 77, "ResourceLedgerModel$Trees", "lows", "[J", "ResourceLedgerModel"), (RX18, 84, "ResourceLedgerModel$Trees", "firsts", "[I", "ResourceLedgerModel"), (RX18, 87, "ResourceLedgerModel$Trees", "nexts", "[I", "ResourceLedgerModel"), (RX18, 659, "ResourceLedgerModel$Trees", "size", "I", "ResourceLedgerModel"), (RX18, 247, "ResourceLedgerModel$Looker", "found", "I", "ResourceLedgerModel"), (RX18, 386, "ResourceLedgerModel$Wide", "high", "J", "ResourceLedgerModel"), (RX18, 389, "ResourceLedgerModel$Wide", "low", "J", "ResourceLedgerModel"), (RX18, 691, "ResourceLedgerModel$Digester", "message", "[B", "ResourceLedgerModel"), (RX18, 690, "ResourceLedgerModel$Digester", "size", "I", "ResourceLedgerModel"), (RX18, 709, "ResourceLedgerModel$Unit", "bytes", "[B", "ResourceLedgerModel"), (RX18, 706, "ResourceLedgerModel$Unit", "length", "I", "ResourceLedgerModel"), (RX18, 212, "ResourceLedgerModel$Unit", "where", "I", "ResourceLedgerModel"), (RX18, 109, "ResourceLedgerModel$Unit", "structures", "I", "ResourceLedgerModel"), (RX18, 112, "ResourceLedgerModel$Unit", "functions", "I", "ResourceLedgerModel")]
/-- the links between nest mates, which ride beside the words -/
def NK (U : State) : Prop := (∀ q ∈ nestM, va_Nw (.methodLinkNest q.1 q.2.1 q.2.2.1 q.2.2.2) U) ∧ (∀ q ∈ nestF, va_Nw (.fieldLinkNest q.1 q.2.1 q.2.2.1 q.2.2.2.1 q.2.2.2.2.1 q.2.2.2.2.2) U) ∧ va_AO "ResourceLedger$Program" U ∧ va_AO "ResourceLedger$Transaction" U ∧ va_AO "ResourceLedgerModel$Unit" U
theorem NK.warm {s U : State} (h : NK s) (hW : s.WarmedH U.vm) : NK U := ⟨fun q hq => va_Nw.warmM hW (h.1 q hq), fun q hq => va_Nw.warmF hW (h.2.1 q hq), h.2.2.1.moved hW.alike, h.2.2.2.1.moved hW.alike, h.2.2.2.2.moved hW.alike⟩
theorem NK.same {u U : State} (h : NK u) (e : u.vm = U.vm) : NK U := ⟨fun q hq => va_Nw.same rfl e (h.1 q hq), fun q hq => va_Nw.same rfl e (h.2.1 q hq), h.2.2.1.moved (e ▸ Vm.Alike.refl u.vm), h.2.2.2.1.moved (e ▸ Vm.Alike.refl u.vm), h.2.2.2.2.moved (e ▸ Vm.Alike.refl u.vm)⟩
theorem NK_m_X7_50 {U : State} (h : NK U) : va_Nw (.methodLinkNest RX7 50 yX5_init "ResourceLedger") U := h.1 (RX7, 50, yX5_init, "ResourceLedger") (List.mem_of_getElem? (i := 0) rfl)
theorem NK_m_X11_28 {U : State} (h : NK U) : va_Nw (.methodLinkNest RX11 28 yX6_init "ResourceLedger") U := h.1 (RX11, 28, yX6_init, "ResourceLedger") (List.mem_of_getElem? (i := 1) rfl)
theorem NK_m_X11_35 {U : State} (h : NK U) : va_Nw (.methodLinkNest RX11 35 yX3_init "ResourceLedger") U := h.1 (RX11, 35, yX3_init, "ResourceLedger") (List.mem_of_getElem? (i := 2) rfl)
theorem NK_m_X11_42 {U : State} (h : NK U) : va_Nw (.methodLinkNest RX11 42 yX9_init "ResourceLedger") U := h.1 (RX11, 42, yX9_init, "ResourceLedger") (List.mem_of_getElem? (i := 3) rfl)
theorem NK_m_X9_17 {U : State} (h : NK U) : va_Nw (.methodLinkNest RX9 17 yX0_init "ResourceLedger") U := h.1 (RX9, 17, yX0_init, "ResourceLedger") (List.mem_of_getElem? (i := 4) rfl)
theorem NK_m_X4_11 {U : State} (h : NK U) : va_Nw (.methodLinkNest RX4 11 yX1_init "ResourceLedger") U := h.1 (RX4, 11, yX1_init, "ResourceLedger") (List.mem_of_getElem? (i := 5) rfl)
theorem NK_m_X4_20 {U : State} (h : NK U) : va_Nw (.methodLinkNest RX4 20 yX10_init "ResourceLedger") U := h.1 (RX4, 20, yX10_init, "ResourceLedger") (List.mem_of_getElem? (i := 6) rfl)
theorem NK_m_X4_27 {U : State} (h : NK U) : va_Nw (.methodLinkNest RX4 27 yX0_init "ResourceLedger") U := h.1 (RX4, 27, yX0_init, "ResourceLedger") (List.mem_of_getElem? (i := 7) rfl)
theorem NK_m_X11_59 {U : State} (h : NK U) : va_Nw (.methodLinkNest RX11 59 yX8_init "ResourceLedger") U := h.1 (RX11, 59, yX8_init, "ResourceLedger") (List.mem_of_getElem? (i := 8) rfl)
theorem NK_m_X18_522 {U : State} (h : NK U) : va_Nw (.methodLinkNest RX18 522 yX15_init "ResourceLedgerModel") U := h.1 (RX18, 522, yX15_init, "ResourceLedgerModel") (List.mem_of_getElem? (i := 9) rfl)
theorem NK_m_X18_523 {U : State} (h : NK U) : va_Nw (.methodLinkNest RX18 523 yX13_init "ResourceLedgerModel") U := h.1 (RX18, 523, yX13_init, "ResourceLedgerModel") (List.mem_of_getElem? (i := 10) rfl)
theorem NK_m_X18_524 {U : State} (h : NK U) : va_Nw (.methodLinkNest RX18 524 yX17_init "ResourceLedgerModel") U := h.1 (RX18, 524, yX17_init, "ResourceLedgerModel") (List.mem_of_getElem? (i := 11) rfl)
theorem NK_m_X18_525 {U : State} (h : NK U) : va_Nw (.methodLinkNest RX18 525 yX12_init "ResourceLedgerModel") U := h.1 (RX18, 525, yX12_init, "ResourceLedgerModel") (List.mem_of_getElem? (i := 12) rfl)
theorem NK_m_X18_608 {U : State} (h : NK U) : va_Nw (.methodLinkNest RX18 608 yX16_init "ResourceLedgerModel") U := h.1 (RX18, 608, yX16_init, "ResourceLedgerModel") (List.mem_of_getElem? (i := 13) rfl)
theorem NK_m_X13_85 {U : State} (h : NK U) : va_Nw (.methodLinkNest RX13 85 yX16_fieldsOf "ResourceLedgerModel") U := h.1 (RX13, 85, yX16_fieldsOf, "ResourceLedgerModel") (List.mem_of_getElem? (i := 14) rfl)
theorem NK_m_X18_192 {U : State} (h : NK U) : va_Nw (.methodLinkNest RX18 192 yX16_fieldsOf "ResourceLedgerModel") U := h.1 (RX18, 192, yX16_fieldsOf, "ResourceLedgerModel") (List.mem_of_getElem? (i := 15) rfl)
theorem NK_f_X18_71 {U : State} (h : NK U) : va_Nw (.fieldLinkNest RX18 71 "ResourceLedgerModel$Trees" "kinds" "[B" "ResourceLedgerModel") U := h.2.1 (RX18, 71, "ResourceLedgerModel$Trees", "kinds", "[B", "ResourceLedgerModel") (List.mem_of_getElem? (i := 0) rfl)
theorem NK_f_X18_74 {U : State} (h : NK U) : va_Nw (.fieldLinkNest RX18 74 "ResourceLedgerModel$Trees" "highs" "[J" "ResourceLedgerModel") U := h.2.1 (RX18, 74, "ResourceLedgerModel$Trees", "highs", "[J", "ResourceLedgerModel") (List.mem_of_getElem? (i := 1) rfl)
theorem NK_f_X18_77 {U : State} (h : NK U) : va_Nw (.fieldLinkNest RX18 77 "ResourceLedgerModel$Trees" "lows" "[J" "ResourceLedgerModel") U := h.2.1 (RX18, 77, "ResourceLedgerModel$Trees", "lows", "[J", "ResourceLedgerModel") (List.mem_of_getElem? (i := 2) rfl)
theorem NK_f_X18_84 {U : State} (h : NK U) : va_Nw (.fieldLinkNest RX18 84 "ResourceLedgerModel$Trees" "firsts" "[I" "ResourceLedgerModel") U := h.2.1 (RX18, 84, "ResourceLedgerModel$Trees", "firsts", "[I", "ResourceLedgerModel") (List.mem_of_getElem? (i := 3) rfl)
theorem NK_f_X18_87 {U : State} (h : NK U) : va_Nw (.fieldLinkNest RX18 87 "ResourceLedgerModel$Trees" "nexts" "[I" "ResourceLedgerModel") U := h.2.1 (RX18, 87, "ResourceLedgerModel$Trees", "nexts", "[I", "ResourceLedgerModel") (List.mem_of_getElem? (i := 4) rfl)
theorem NK_f_X18_659 {U : State} (h : NK U) : va_Nw (.fieldLinkNest RX18 659 "ResourceLedgerModel$Trees" "size" "I" "ResourceLedgerModel") U := h.2.1 (RX18, 659, "ResourceLedgerModel$Trees", "size", "I", "ResourceLedgerModel") (List.mem_of_getElem? (i := 5) rfl)
theorem NK_f_X18_247 {U : State} (h : NK U) : va_Nw (.fieldLinkNest RX18 247 "ResourceLedgerModel$Looker" "found" "I" "ResourceLedgerModel") U := h.2.1 (RX18, 247, "ResourceLedgerModel$Looker", "found", "I", "ResourceLedgerModel") (List.mem_of_getElem? (i := 6) rfl)
theorem NK_f_X18_386 {U : State} (h : NK U) : va_Nw (.fieldLinkNest RX18 386 "ResourceLedgerModel$Wide" "high" "J" "ResourceLedgerModel") U := h.2.1 (RX18, 386, "ResourceLedgerModel$Wide", "high", "J", "ResourceLedgerModel") (List.mem_of_getElem? (i := 7) rfl)
theorem NK_f_X18_389 {U : State} (h : NK U) : va_Nw (.fieldLinkNest RX18 389 "ResourceLedgerModel$Wide" "low" "J" "ResourceLedgerModel") U := h.2.1 (RX18, 389, "ResourceLedgerModel$Wide", "low", "J", "ResourceLedgerModel") (List.mem_of_getElem? (i := 8) rfl)
theorem NK_f_X18_691 {U : State} (h : NK U) : va_Nw (.fieldLinkNest RX18 691 "ResourceLedgerModel$Digester" "message" "[B" "ResourceLedgerModel") U := h.2.1 (RX18, 691, "ResourceLedgerModel$Digester", "message", "[B", "ResourceLedgerModel") (List.mem_of_getElem? (i := 9) rfl)
theorem NK_f_X18_690 {U : State} (h : NK U) : va_Nw (.fieldLinkNest RX18 690 "ResourceLedgerModel$Digester" "size" "I" "ResourceLedgerModel") U := h.2.1 (RX18, 690, "ResourceLedgerModel$Digester", "size", "I", "ResourceLedgerModel") (List.mem_of_getElem? (i := 10) rfl)
theorem NK_f_X18_709 {U : State} (h : NK U) : va_Nw (.fieldLinkNest RX18 709 "ResourceLedgerModel$Unit" "bytes" "[B" "ResourceLedgerModel") U := h.2.1 (RX18, 709, "ResourceLedgerModel$Unit", "bytes", "[B", "ResourceLedgerModel") (List.mem_of_getElem? (i := 11) rfl)
theorem NK_f_X18_706 {U : State} (h : NK U) : va_Nw (.fieldLinkNest RX18 706 "ResourceLedgerModel$Unit" "length" "I" "ResourceLedgerModel") U := h.2.1 (RX18, 706, "ResourceLedgerModel$Unit", "length", "I", "ResourceLedgerModel") (List.mem_of_getElem? (i := 12) rfl)
theorem NK_f_X18_212 {U : State} (h : NK U) : va_Nw (.fieldLinkNest RX18 212 "ResourceLedgerModel$Unit" "where" "I" "ResourceLedgerModel") U := h.2.1 (RX18, 212, "ResourceLedgerModel$Unit", "where", "I", "ResourceLedgerModel") (List.mem_of_getElem? (i := 13) rfl)
theorem NK_f_X18_109 {U : State} (h : NK U) : va_Nw (.fieldLinkNest RX18 109 "ResourceLedgerModel$Unit" "structures" "I" "ResourceLedgerModel") U := h.2.1 (RX18, 109, "ResourceLedgerModel$Unit", "structures", "I", "ResourceLedgerModel") (List.mem_of_getElem? (i := 14) rfl)
theorem NK_f_X18_112 {U : State} (h : NK U) : va_Nw (.fieldLinkNest RX18 112 "ResourceLedgerModel$Unit" "functions" "I" "ResourceLedgerModel") U := h.2.1 (RX18, 112, "ResourceLedgerModel$Unit", "functions", "I", "ResourceLedgerModel") (List.mem_of_getElem? (i := 15) rfl)
theorem df_X0 : ∀ j, j < 4 → defaultValue (tyX0 j) = vp_V [.null, .null, .int 0, .long 0] j := fun j hj => match j, hj with
  | 0, _ => rfl
  | 1, _ => rfl
  | 2, _ => rfl
  | 3, _ => rfl
  | j + 4, h => absurd h (Nat.not_lt.mpr (Nat.le_add_left _ _))
theorem df_X1 : ∀ j, j < 7 → defaultValue (tyX1 j) = vp_V [.null, .null, .null, .null, .int 0, .int 0, .int 0] j := fun j hj => match j, hj with
  | 0, _ => rfl
  | 1, _ => rfl
  | 2, _ => rfl
  | 3, _ => rfl
  | 4, _ => rfl
  | 5, _ => rfl
  | 6, _ => rfl
  | j + 7, h => absurd h (Nat.not_lt.mpr (Nat.le_add_left _ _))
theorem df_X2 : ∀ j, j < 11 → defaultValue (tyX2 j) = vp_V [.null, .null, .null, .null, .null, .null, .null, .int 0, .null, .null, .null] j := fun j hj => match j, hj with
  | 0, _ => rfl
  | 1, _ => rfl
  | 2, _ => rfl
  | 3, _ => rfl
  | 4, _ => rfl
  | 5, _ => rfl
  | 6, _ => rfl
  | 7, _ => rfl
  | 8, _ => rfl
  | 9, _ => rfl
  | 10, _ => rfl
  | j + 11, h => absurd h (Nat.not_lt.mpr (Nat.le_add_left _ _))
theorem df_X3 : ∀ j, j < 22 → defaultValue (tyX3 j) = vp_V [.int 0, .int 0, .null, .int 0, .int 0, .null, .null, .null, .int 0, .null, .null, .long 0, .long 0, .long 0, .long 0, .int 0, .int 0, .null, .null, .null, .null, .null] j := fun j hj => match j, hj with
  | 0, _ => rfl
  | 1, _ => rfl
  | 2, _ => rfl
  | 3, _ => rfl
  | 4, _ => rfl
  | 5, _ => rfl
  | 6, _ => rfl
  | 7, _ => rfl
  | 8, _ => rfl
  | 9, _ => rfl
  | 10, _ => rfl
  | 11, _ => rfl
  | 12, _ => rfl
  | 13, _ => rfl
  | 14, _ => rfl
  | 15, _ => rfl
  | 16, _ => rfl
  | 17, _ => rfl
  | 18, _ => rfl
  | 19, _ => rfl
  | 20, _ => rfl
  | 21, _ => rfl
  | j + 22, h => absurd h (Nat.not_lt.mpr (Nat.le_add_left _ _))
theorem df_X4 : ∀ j, j < 18 → defaultValue (tyX4 j) = vp_V [.null, .null, .null, .null, .null, .null, .null, .null, .null, .null, .null, .null, .int 0, .null, .int 0, .int 0, .int 0, .long 0] j := fun j hj => match j, hj with
  | 0, _ => rfl
  | 1, _ => rfl
  | 2, _ => rfl
  | 3, _ => rfl
  | 4, _ => rfl
  | 5, _ => rfl
  | 6, _ => rfl
  | 7, _ => rfl
  | 8, _ => rfl
  | 9, _ => rfl
  | 10, _ => rfl
  | 11, _ => rfl
  | 12, _ => rfl
  | 13, _ => rfl
  | 14, _ => rfl
  | 15, _ => rfl
  | 16, _ => rfl
  | 17, _ => rfl
  | j + 18, h => absurd h (Nat.not_lt.mpr (Nat.le_add_left _ _))
theorem df_X5 : ∀ j, j < 15 → defaultValue (tyX5 j) = vp_V [.null, .int 0, .int 0, .null, .int 0, .null, .int 0, .null, .int 0, .int 0, .null, .int 0, .int 0, .int 0, .int 0] j := fun j hj => match j, hj with
  | 0, _ => rfl
  | 1, _ => rfl
  | 2, _ => rfl
  | 3, _ => rfl
  | 4, _ => rfl
  | 5, _ => rfl
  | 6, _ => rfl
  | 7, _ => rfl
  | 8, _ => rfl
  | 9, _ => rfl
  | 10, _ => rfl
  | 11, _ => rfl
  | 12, _ => rfl
  | 13, _ => rfl
  | 14, _ => rfl
  | j + 15, h => absurd h (Nat.not_lt.mpr (Nat.le_add_left _ _))
theorem df_X6 : ∀ j, j < 9 → defaultValue (tyX6 j) = vp_V [.int 0, .int 0, .null, .int 0, .int 0, .int 0, .int 0, .int 0, .null] j := fun j hj => match j, hj with
  | 0, _ => rfl
  | 1, _ => rfl
  | 2, _ => rfl
  | 3, _ => rfl
  | 4, _ => rfl
  | 5, _ => rfl
  | 6, _ => rfl
  | 7, _ => rfl
  | 8, _ => rfl
  | j + 9, h => absurd h (Nat.not_lt.mpr (Nat.le_add_left _ _))
theorem df_X7 : ∀ j, j < 16 → defaultValue (tyX7 j) = vp_V [.null, .null, .null, .int 0, .null, .int 0, .null, .null, .null, .null, .int 0, .null, .null, .null, .long 0, .long 0] j := fun j hj => match j, hj with
  | 0, _ => rfl
  | 1, _ => rfl
  | 2, _ => rfl
  | 3, _ => rfl
  | 4, _ => rfl
  | 5, _ => rfl
  | 6, _ => rfl
  | 7, _ => rfl
  | 8, _ => rfl
  | 9, _ => rfl
  | 10, _ => rfl
  | 11, _ => rfl
  | 12, _ => rfl
  | 13, _ => rfl
  | 14, _ => rfl
  | 15, _ => rfl
  | j + 16, h => absurd h (Nat.not_lt.mpr (Nat.le_add_left _ _))
theorem df_X8 : ∀ j, j < 19 → defaultValue (tyX8 j) = vp_V [.int 0, .long 0, .long 0, .int 0, .int 0, .int 0, .null, .int 0, .null, .null, .null, .int 0, .long 0, .int 0, .int 0, .int 0, .null, .null, .null] j := fun j hj => match j, hj with
  | 0, _ => rfl
  | 1, _ => rfl
  | 2, _ => rfl
  | 3, _ => rfl
  | 4, _ => rfl
  | 5, _ => rfl
  | 6, _ => rfl
  | 7, _ => rfl
  | 8, _ => rfl
  | 9, _ => rfl
  | 10, _ => rfl
  | 11, _ => rfl
  | 12, _ => rfl
  | 13, _ => rfl
  | 14, _ => rfl
  | 15, _ => rfl
  | 16, _ => rfl
  | 17, _ => rfl
  | 18, _ => rfl
  | j + 19, h => absurd h (Nat.not_lt.mpr (Nat.le_add_left _ _))
theorem df_X9 : ∀ j, j < 13 → defaultValue (tyX9 j) = vp_V [.null, .int 0, .null, .null, .null, .null, .null, .int 0, .null, .null, .null, .null, .int 0] j := fun j hj => match j, hj with
  | 0, _ => rfl
  | 1, _ => rfl
  | 2, _ => rfl
  | 3, _ => rfl
  | 4, _ => rfl
  | 5, _ => rfl
  | 6, _ => rfl
  | 7, _ => rfl
  | 8, _ => rfl
  | 9, _ => rfl
  | 10, _ => rfl
  | 11, _ => rfl
  | 12, _ => rfl
  | j + 13, h => absurd h (Nat.not_lt.mpr (Nat.le_add_left _ _))
theorem df_X10 : ∀ j, j < 5 → defaultValue (tyX10 j) = vp_V [.long 0, .long 0, .int 0, .long 0, .long 0] j := fun j hj => match j, hj with
  | 0, _ => rfl
  | 1, _ => rfl
  | 2, _ => rfl
  | 3, _ => rfl
  | 4, _ => rfl
  | j + 5, h => absurd h (Nat.not_lt.mpr (Nat.le_add_left _ _))
theorem df_X11 : ∀ j, j < 13 → defaultValue (tyX11 j) = vp_V [.null, .int 0, .int 0, .null, .int 0, .int 0, .null, .null, .null, .null, .null, .null, .int 0] j := fun j hj => match j, hj with
  | 0, _ => rfl
  | 1, _ => rfl
  | 2, _ => rfl
  | 3, _ => rfl
  | 4, _ => rfl
  | 5, _ => rfl
  | 6, _ => rfl
  | 7, _ => rfl
  | 8, _ => rfl
  | 9, _ => rfl
  | 10, _ => rfl
  | 11, _ => rfl
  | 12, _ => rfl
  | j + 13, h => absurd h (Nat.not_lt.mpr (Nat.le_add_left _ _))
theorem df_X12 : ∀ j, j < 4 → defaultValue (tyX12 j) = vp_V [.null, .int 0, .null, .null] j := fun j hj => match j, hj with
  | 0, _ => rfl
  | 1, _ => rfl
  | 2, _ => rfl
  | 3, _ => rfl
  | j + 4, h => absurd h (Nat.not_lt.mpr (Nat.le_add_left _ _))
theorem df_X13 : ∀ j, j < 22 → defaultValue (tyX13 j) = vp_V [.null, .int 0, .int 0, .null, .int 0, .int 0, .null, .null, .null, .null, .null, .null, .null, .null, .int 0, .null, .null, .null, .int 0, .long 0, .long 0, .int 0] j := fun j hj => match j, hj with
  | 0, _ => rfl
  | 1, _ => rfl
  | 2, _ => rfl
  | 3, _ => rfl
  | 4, _ => rfl
  | 5, _ => rfl
  | 6, _ => rfl
  | 7, _ => rfl
  | 8, _ => rfl
  | 9, _ => rfl
  | 10, _ => rfl
  | 11, _ => rfl
  | 12, _ => rfl
  | 13, _ => rfl
  | 14, _ => rfl
  | 15, _ => rfl
  | 16, _ => rfl
  | 17, _ => rfl
  | 18, _ => rfl
  | 19, _ => rfl
  | 20, _ => rfl
  | 21, _ => rfl
  | j + 22, h => absurd h (Nat.not_lt.mpr (Nat.le_add_left _ _))
theorem df_X14 : ∀ j, j < 11 → defaultValue (tyX14 j) = vp_V [.null, .null, .null, .null, .null, .int 0, .null, .null, .null, .int 0, .null] j := fun j hj => match j, hj with
  | 0, _ => rfl
  | 1, _ => rfl
  | 2, _ => rfl
  | 3, _ => rfl
  | 4, _ => rfl
  | 5, _ => rfl
  | 6, _ => rfl
  | 7, _ => rfl
  | 8, _ => rfl
  | 9, _ => rfl
  | 10, _ => rfl
  | j + 11, h => absurd h (Nat.not_lt.mpr (Nat.le_add_left _ _))
theorem df_X15 : ∀ j, j < 6 → defaultValue (tyX15 j) = vp_V [.null, .null, .null, .null, .null, .int 0] j := fun j hj => match j, hj with
  | 0, _ => rfl
  | 1, _ => rfl
  | 2, _ => rfl
  | 3, _ => rfl
  | 4, _ => rfl
  | 5, _ => rfl
  | j + 6, h => absurd h (Nat.not_lt.mpr (Nat.le_add_left _ _))
theorem df_X16 : ∀ j, j < 18 → defaultValue (tyX16 j) = vp_V [.null, .int 0, .int 0, .int 0, .int 0, .int 0, .int 0, .int 0, .int 0, .int 0, .int 0, .null, .null, .null, .null, .null, .null, .null] j := fun j hj => match j, hj with
  | 0, _ => rfl
  | 1, _ => rfl
  | 2, _ => rfl
  | 3, _ => rfl
  | 4, _ => rfl
  | 5, _ => rfl
  | 6, _ => rfl
  | 7, _ => rfl
  | 8, _ => rfl
  | 9, _ => rfl
  | 10, _ => rfl
  | 11, _ => rfl
  | 12, _ => rfl
  | 13, _ => rfl
  | 14, _ => rfl
  | 15, _ => rfl
  | 16, _ => rfl
  | 17, _ => rfl
  | j + 18, h => absurd h (Nat.not_lt.mpr (Nat.le_add_left _ _))
theorem df_X17 : ∀ j, j < 5 → defaultValue (tyX17 j) = vp_V [.null, .null, .null, .long 0, .long 0] j := fun j hj => match j, hj with
  | 0, _ => rfl
  | 1, _ => rfl
  | 2, _ => rfl
  | 3, _ => rfl
  | 4, _ => rfl
  | j + 5, h => absurd h (Nat.not_lt.mpr (Nat.le_add_left _ _))
theorem df_X18 : ∀ j, j < 78 → defaultValue (tyX18 j) = vp_V [.null, .null, .null, .int 0, .null, .int 0, .null, .null, .null, .int 0, .null, .null, .null, .null, .int 0, .null, .null, .null, .null, .null, .long 0, .long 0, .int 0, .int 0, .long 0, .int 0, .int 0, .int 0, .long 0, .int 0, .null, .null, .null, .null, .null, .null, .int 0, .null, .null, .null, .null, .null, .null, .null, .null, .int 0, .int 0, .int 0, .null, .null, .int 0, .int 0, .int 0, .int 0, .null, .null, .null, .null, .null, .null, .null, .null, .null, .null, .null, .null, .null, .null, .null, .null, .null, .null, .null, .null, .null, .int 0, .null, .null] j := fun j hj => match j, hj with
  | 0, _ => rfl
  | 1, _ => rfl
  | 2, _ => rfl
  | 3, _ => rfl
  | 4, _ => rfl
  | 5, _ => rfl
  | 6, _ => rfl
  | 7, _ => rfl
  | 8, _ => rfl
  | 9, _ => rfl
  | 10, _ => rfl
  | 11, _ => rfl
  | 12, _ => rfl
  | 13, _ => rfl
  | 14, _ => rfl
  | 15, _ => rfl
  | 16, _ => rfl
  | 17, _ => rfl
  | 18, _ => rfl
  | 19, _ => rfl
  | 20, _ => rfl
  | 21, _ => rfl
  | 22, _ => rfl
  | 23, _ => rfl
  | 24, _ => rfl
  | 25, _ => rfl
  | 26, _ => rfl
  | 27, _ => rfl
  | 28, _ => rfl
  | 29, _ => rfl
  | 30, _ => rfl
  | 31, _ => rfl
  | 32, _ => rfl
  | 33, _ => rfl
  | 34, _ => rfl
  | 35, _ => rfl
  | 36, _ => rfl
  | 37, _ => rfl
  | 38, _ => rfl
  | 39, _ => rfl
  | 40, _ => rfl
  | 41, _ => rfl
  | 42, _ => rfl
  | 43, _ => rfl
  | 44, _ => rfl
  | 45, _ => rfl
  | 46, _ => rfl
  | 47, _ => rfl
  | 48, _ => rfl
  | 49, _ => rfl
  | 50, _ => rfl
  | 51, _ => rfl
  | 52, _ => rfl
  | 53, _ => rfl
  | 54, _ => rfl
  | 55, _ => rfl
  | 56, _ => rfl
  | 57, _ => rfl
  | 58, _ => rfl
  | 59, _ => rfl
  | 60, _ => rfl
  | 61, _ => rfl
  | 62, _ => rfl
  | 63, _ => rfl
  | 64, _ => rfl
  | 65, _ => rfl
  | 66, _ => rfl
  | 67, _ => rfl
  | 68, _ => rfl
  | 69, _ => rfl
  | 70, _ => rfl
  | 71, _ => rfl
  | 72, _ => rfl
  | 73, _ => rfl
  | 74, _ => rfl
  | 75, _ => rfl
  | 76, _ => rfl
  | 77, _ => rfl
  | j + 78, h => absurd h (Nat.not_lt.mpr (Nat.le_add_left _ _))
section RLB
variable {p : Program} {l : Launch} {e : Env} {R : Room} {s : State} {m : MethodId} {args : Array Value} {below : List Frame} {meth : Method} {c : Code} {H : Heap} {locs : List Loc} {cells slots : Nat} {Q : State → Prop}
variable {cc : ByteArray} {pc : Nat} {ls : Array Slot} {rest : List Value} {D : va_G} {cl : List vw_C} {A : Nat → Prop} {a : Nat} {tys : List (ClassId × FieldType)} {ws : va_W} {H0 : Heap}
/-- a new array of numbers, its class known already -/
theorem rl_newa (hexec : p.tables.exec = Jvm.exec) (hb : c.code = cc) {atype : ArrayType} (harr : (Cond.arrayClass (newarray.typeOf atype)).before args s = true) {ty : FieldType} (hty : newarray.typeOf atype = ty) (hK : va_K D cl tys s) (hP : va_P D cl ws H) (hD : va_D A ws) (hS : va_S A H0 H locs) (hA : ∀ q, H0.size ≤ q → A q)
    (t0 : Nat) {cA : ClassId} (ht : tys[t0]? = some (cA, ty))
    {n : Int32} {N' : Nat} {a0 : vp_A} (ha : ∀ cA : ClassId, vp_cell cA a0 = arrV cA N' (fun _ => defaultValue ty)) (hn : ¬ n < 0) (hN : n.toNatClampNeg = N') (hbytes : N' * componentBytes ty ≤ 536870912) (hcells : cells + 1 ≤ R.cells) (hslots : slots + N' ≤ R.slots) (hdg : decode cc pc = .ok (.newarray atype, 2))
    (kk : ∀ (q : Nat) (H1 : Heap), va_P D cl (ws ++ [(q, .inl (cA, a0))]) H1 → va_D A (ws ++ [(q, .inl (cA, a0))]) → va_S A H0 H1 locs →
      W p l e R s m args below meth c H1 locs (cells + 1) (slots + N') Q (F0 m (pc + 2) ls (.ref q :: rest))) : W p l e R s m args below meth c H locs cells slots Q (F0 m pc ls (.int n :: rest)) := by
  refine va_newa hexec hb harr hty hK hP hD hS hA ha hn hN hbytes hcells hslots hdg (fun q cB H1 hK1 hP1 hD1 hS1 => ?_)
  have e1 := (hK.2 t0 _ ht).2
  have e2 := (hK1.2 tys.length (cB, ty) (by simp)).2
  have he : cB = cA := by
    subst hty
    cases atype <;> exact Option.some.inj (e2.symm.trans e1)
  subst he
  exact kk q H1 hP1 hD1 hS1
/-- a new array of references, its class known already -/
theorem rl_newq (hexec : p.tables.exec = Jvm.exec) (hb : c.code = cc) {own C : String} {index : Nat} (hown : s.vm.findClass own = some m.cls) (hclink : (Cond.classLink own index C).before args s = true) (hover : va_AO C s) (hK : va_K D cl tys s) (hP : va_P D cl ws H) (hD : va_D A ws) (hS : va_S A H0 H locs) (hA : ∀ q, H0.size ≤ q → A q)
    (t0 : Nat) {cA : ClassId} (ht : tys[t0]? = some (cA, .object C))
    {n : Int32} {N' : Nat} (hn : ¬ n < 0) (hN : n.toNatClampNeg = N') (hbytes : N' * 4 ≤ 536870912) (hcells : cells + 1 ≤ R.cells) (hslots : slots + N' ≤ R.slots) (hdg : decode cc pc = .ok (.anewarray index, 3))
    (kk : ∀ (q : Nat) (H1 : Heap), va_P D cl (ws ++ [(q, .inl (cA, N', .inr (.inr (.inr (.inr (fun _ => none))))))]) H1 → va_D A (ws ++ [(q, .inl (cA, N', .inr (.inr (.inr (.inr (fun _ => none))))))]) → va_S A H0 H1 locs →
      W p l e R s m args below meth c H1 locs (cells + 1) (slots + N') Q (F0 m (pc + 3) ls (.ref q :: rest))) : W p l e R s m args below meth c H locs cells slots Q (F0 m pc ls (.int n :: rest)) := by
  refine va_newq hexec hb hown hclink hover hK hP hD hS hA hn hN hbytes hcells hslots hdg (fun q cB H1 hK1 hP1 hD1 hS1 => ?_)
  obtain ⟨kA, comp, -, -, -, e1⟩ := (hK.2 t0 _ ht).2
  obtain ⟨kB, comB, -, -, -, e2⟩ := (hK1.2 tys.length (cB, .object C) (by simp)).2
  have he : cB = cA := Option.some.inj (e2.symm.trans e1)
  subst he
  exact kk q H1 hP1 hD1 hS1
end RLB
