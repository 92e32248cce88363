def coinL : List Int32 := [82, 76, 77, 49, 0, 0, 1, 4, 1, 3, 0, 0, 0, 6, 1, 1, 3, 1, 6, 0, 0, 0, 1, 35, 1, 2, 5, 6, 0, 0, 0, 0, 1, 35, 1, 1, 8, 6, 0, 1, 3, 0, 0, 1, 35, 1, 2, 6, 0, 6, 0, 1, 6, 0, 0, 0, 1, 35, 1, 2, 6, 0, 3, 2, 6, 0, 6, 0, 0, 0, 1, 35, 1, 1, 5, 1, 3, 0, 0, 1, 35]
def coinV (j : Nat) : Value := .int (coinL.getD j 0)
/-- the class's only static row that is read: module 0 as bytes -/
def SK (cb : Nat) (A : Nat → Prop) (U : State) (H : Heap) : Prop := va_Z "ResourceLedger$Program" "COIN_BYTES" "[B" (.ref cb) A U H ∧ va_T .byte cb 81 coinV A U H
theorem SK.moved {cb : Nat} {A : Nat → Prop} {u U : State} {H : Heap} (hvm : u.vm.Alike U.vm) (h : SK cb A u H) : SK cb A U H := ⟨h.1.moved hvm, h.2.moved hvm⟩
theorem SK.kept {cb : Nat} {A : Nat → Prop} {U : State} {H H1 : Heap} (h : SK cb A U H) (hq : ∀ a : Nat, a < H.size → ¬ A a → H1[a]? = H[a]?) : SK cb A U H1 := ⟨h.1.kept hq, h.2.kept hq⟩
theorem SK.narrow {cb : Nat} {A B : Nat → Prop} {U : State} {H : Heap} (h : SK cb A U H) (hAB : ∀ q, B q → A q) : SK cb B U H := ⟨h.1.narrow hAB, h.2.narrow hAB⟩
theorem m_X11_init_1 : (.methodLink RX11 1 objectInit : Cond) ∈ wsX11_init := List.mem_of_getElem? (i := 1) rfl
theorem m_X11_init_2 : (.instanceMethod objectInit : Cond) ∈ wsX11_init := List.mem_of_getElem? (i := 2) rfl
theorem m_X11_init_3 : (.code objectInit ⟨#[0xb1]⟩ 1 none : Cond) ∈ wsX11_init := List.mem_of_getElem? (i := 3) rfl
theorem m_X11_init_4 : (.arrayClass .byte : Cond) ∈ wsX11_init := List.mem_of_getElem? (i := 4) rfl
theorem m_X11_init_5 : (.fieldLink RX11 9 "ResourceLedger" "tape" "[B" : Cond) ∈ wsX11_init := List.mem_of_getElem? (i := 5) rfl
theorem iw_X11_init_X11 : ∀ w ∈ wsX110, w ∈ wsX11_init := fun _ h => List.mem_cons_of_mem _ (List.mem_append_left _ (List.mem_append_left _ (List.mem_append_left _ (List.mem_append_left _ (List.mem_append_left _ (List.mem_append_left _ (List.mem_append_left _ (List.mem_append_left _ (List.mem_append_left _ (List.mem_append_left _ (List.mem_append_left _ (List.mem_append_right _ h))))))))))))
theorem m_X11_init_6 : (.classLink RX11 13 RX8 : Cond) ∈ wsX11_init := List.mem_of_getElem? (i := 6) rfl
theorem m_X11_init_7 : (.fieldLink RX11 15 "ResourceLedger" "block" "[LResourceLedger$Transaction;" : Cond) ∈ wsX11_init := List.mem_of_getElem? (i := 7) rfl
theorem iw_X11_init_X7 : ∀ w ∈ wsX70, w ∈ wsX11_init := fun _ h => List.mem_cons_of_mem _ (List.mem_append_left _ (List.mem_append_left _ (List.mem_append_left _ (List.mem_append_left _ (List.mem_append_left _ (List.mem_append_left _ (List.mem_append_left _ (List.mem_append_left _ (List.mem_append_left _ (List.mem_append_left _ (List.mem_append_right _ h)))))))))))
theorem m_X11_init_8 : (.classLink RX11 19 RX7 : Cond) ∈ wsX11_init := List.mem_of_getElem? (i := 8) rfl
theorem m_X11_init_9 : (.instantiable RX7 16 : Cond) ∈ wsX11_init := List.mem_of_getElem? (i := 9) rfl
theorem m_X11_init_10 : (.initialized RX7 : Cond) ∈ wsX11_init := List.mem_of_getElem? (i := 10) rfl
theorem m_X11_init_33 : (.methodLink RX11 21 yX7_init : Cond) ∈ wsX11_init := List.mem_of_getElem? (i := 33) rfl
theorem m_X11_init_34 : (.instanceMethod yX7_init : Cond) ∈ wsX11_init := List.mem_of_getElem? (i := 34) rfl
theorem m_X11_init_11 : (.fieldLink RX11 22 "ResourceLedger" "state" "LResourceLedger$State;" : Cond) ∈ wsX11_init := List.mem_of_getElem? (i := 11) rfl
theorem iw_X11_init_X6 : ∀ w ∈ wsX60, w ∈ wsX11_init := fun _ h => List.mem_cons_of_mem _ (List.mem_append_left _ (List.mem_append_left _ (List.mem_append_left _ (List.mem_append_left _ (List.mem_append_left _ (List.mem_append_left _ (List.mem_append_left _ (List.mem_append_left _ (List.mem_append_left _ (List.mem_append_right _ h))))))))))
theorem m_X11_init_12 : (.classLink RX11 26 RX6 : Cond) ∈ wsX11_init := List.mem_of_getElem? (i := 12) rfl
theorem m_X11_init_13 : (.instantiable RX6 9 : Cond) ∈ wsX11_init := List.mem_of_getElem? (i := 13) rfl
theorem m_X11_init_14 : (.initialized RX6 : Cond) ∈ wsX11_init := List.mem_of_getElem? (i := 14) rfl
theorem m_X11_init_60 : (.instanceMethod yX6_init : Cond) ∈ wsX11_init := List.mem_of_getElem? (i := 60) rfl
theorem m_X11_init_15 : (.fieldLink RX11 29 "ResourceLedger" "reader" "LResourceLedger$Reader;" : Cond) ∈ wsX11_init := List.mem_of_getElem? (i := 15) rfl
theorem iw_X11_init_X3 : ∀ w ∈ wsX30, w ∈ wsX11_init := fun _ h => List.mem_cons_of_mem _ (List.mem_append_left _ (List.mem_append_left _ (List.mem_append_left _ (List.mem_append_left _ (List.mem_append_left _ (List.mem_append_left _ (List.mem_append_left _ (List.mem_append_left _ (List.mem_append_right _ h)))))))))
theorem m_X11_init_16 : (.classLink RX11 33 RX3 : Cond) ∈ wsX11_init := List.mem_of_getElem? (i := 16) rfl
theorem m_X11_init_17 : (.instantiable RX3 22 : Cond) ∈ wsX11_init := List.mem_of_getElem? (i := 17) rfl
theorem m_X11_init_18 : (.initialized RX3 : Cond) ∈ wsX11_init := List.mem_of_getElem? (i := 18) rfl
theorem m_X11_init_64 : (.instanceMethod yX3_init : Cond) ∈ wsX11_init := List.mem_of_getElem? (i := 64) rfl
theorem m_X11_init_19 : (.fieldLink RX11 36 "ResourceLedger" "looker" "LResourceLedger$Looker;" : Cond) ∈ wsX11_init := List.mem_of_getElem? (i := 19) rfl
theorem iw_X11_init_X9 : ∀ w ∈ wsX90, w ∈ wsX11_init := fun _ h => List.mem_cons_of_mem _ (List.mem_append_left _ (List.mem_append_left _ (List.mem_append_left _ (List.mem_append_left _ (List.mem_append_left _ (List.mem_append_left _ (List.mem_append_left _ (List.mem_append_right _ h))))))))
theorem m_X11_init_20 : (.classLink RX11 40 RX9 : Cond) ∈ wsX11_init := List.mem_of_getElem? (i := 20) rfl
theorem m_X11_init_21 : (.instantiable RX9 13 : Cond) ∈ wsX11_init := List.mem_of_getElem? (i := 21) rfl
theorem m_X11_init_22 : (.initialized RX9 : Cond) ∈ wsX11_init := List.mem_of_getElem? (i := 22) rfl
theorem m_X11_init_79 : (.instanceMethod yX9_init : Cond) ∈ wsX11_init := List.mem_of_getElem? (i := 79) rfl
theorem m_X11_init_23 : (.fieldLink RX11 43 "ResourceLedger" "tree" "LResourceLedger$Tree;" : Cond) ∈ wsX11_init := List.mem_of_getElem? (i := 23) rfl
theorem m_X11_init_24 : (.fieldLink RX11 47 "ResourceLedger" "asked" "[B" : Cond) ∈ wsX11_init := List.mem_of_getElem? (i := 24) rfl
theorem iw_X11_init_X4 : ∀ w ∈ wsX40, w ∈ wsX11_init := fun _ h => List.mem_cons_of_mem _ (List.mem_append_left _ (List.mem_append_left _ (List.mem_append_left _ (List.mem_append_left _ (List.mem_append_left _ (List.mem_append_left _ (List.mem_append_right _ h)))))))
theorem m_X11_init_25 : (.classLink RX11 50 RX4 : Cond) ∈ wsX11_init := List.mem_of_getElem? (i := 25) rfl
theorem m_X11_init_26 : (.instantiable RX4 19 : Cond) ∈ wsX11_init := List.mem_of_getElem? (i := 26) rfl
theorem m_X11_init_27 : (.initialized RX4 : Cond) ∈ wsX11_init := List.mem_of_getElem? (i := 27) rfl
theorem m_X11_init_100 : (.methodLink RX11 52 yX4_init : Cond) ∈ wsX11_init := List.mem_of_getElem? (i := 100) rfl
theorem m_X11_init_101 : (.instanceMethod yX4_init : Cond) ∈ wsX11_init := List.mem_of_getElem? (i := 101) rfl
theorem m_X11_init_28 : (.fieldLink RX11 55 "ResourceLedger" "machine" "LResourceLedger$Machine;" : Cond) ∈ wsX11_init := List.mem_of_getElem? (i := 28) rfl
theorem iw_X11_init_X8 : ∀ w ∈ wsX80, w ∈ wsX11_init := fun _ h => List.mem_cons_of_mem _ (List.mem_append_left _ (List.mem_append_left _ (List.mem_append_left _ (List.mem_append_left _ (List.mem_append_left _ (List.mem_append_right _ h))))))
theorem m_X11_init_29 : (.instantiable RX8 19 : Cond) ∈ wsX11_init := List.mem_of_getElem? (i := 29) rfl
theorem m_X11_init_30 : (.initialized RX8 : Cond) ∈ wsX11_init := List.mem_of_getElem? (i := 30) rfl
theorem m_X11_init_151 : (.instanceMethod yX8_init : Cond) ∈ wsX11_init := List.mem_of_getElem? (i := 151) rfl
theorem m_X11_init_31 : (.fieldLink RX11 60 "ResourceLedger$State" "programs" "[LResourceLedger$Program;" : Cond) ∈ wsX11_init := List.mem_of_getElem? (i := 31) rfl
theorem m_X11_init_32 : (.fieldLink RX11 64 "ResourceLedger$Program" "COIN_BYTES" "[B" : Cond) ∈ wsX11_init := List.mem_of_getElem? (i := 32) rfl
theorem m_X5_lay_1 : (.fieldLink RX5 25 "ResourceLedger$Program" "bytes" "[B" : Cond) ∈ wsX5_lay := List.mem_of_getElem? (i := 1) rfl
theorem iw_X5_lay_X5 : ∀ w ∈ wsX50, w ∈ wsX5_lay := fun _ h => List.mem_cons_of_mem _ (List.mem_append_right _ h)
theorem m_X5_lay_2 : (.fieldLink RX5 29 "ResourceLedger$Program" "length" "I" : Cond) ∈ wsX5_lay := List.mem_of_getElem? (i := 2) rfl
theorem m_X5_clear_1 : (.fieldLink RX5 36 "ResourceLedger$Program" "number" "I" : Cond) ∈ wsX5_clear := List.mem_of_getElem? (i := 1) rfl
theorem iw_X5_clear_X5 : ∀ w ∈ wsX50, w ∈ wsX5_clear := fun _ h => List.mem_cons_of_mem _ (List.mem_append_right _ h)
theorem m_X5_clear_2 : (.fieldLink RX5 39 "ResourceLedger$Program" "typeCount" "I" : Cond) ∈ wsX5_clear := List.mem_of_getElem? (i := 2) rfl
theorem m_X5_clear_3 : (.fieldLink RX5 42 "ResourceLedger$Program" "startCount" "I" : Cond) ∈ wsX5_clear := List.mem_of_getElem? (i := 3) rfl
theorem m_X5_clear_4 : (.fieldLink RX5 45 "ResourceLedger$Program" "foreignFunctions" "I" : Cond) ∈ wsX5_clear := List.mem_of_getElem? (i := 4) rfl
theorem m_X6_read_1 : (.fieldLink RX6 17 "ResourceLedger$Reader" "p" "LResourceLedger$Program;" : Cond) ∈ wsX6_read := List.mem_of_getElem? (i := 1) rfl
theorem iw_X6_read_X6 : ∀ w ∈ wsX60, w ∈ wsX6_read := fun _ h => List.mem_cons_of_mem _ (List.mem_append_left _ (List.mem_append_right _ h))
theorem m_X6_read_2 : (.fieldLink RX6 21 "ResourceLedger$Reader" "fault" "I" : Cond) ∈ wsX6_read := List.mem_of_getElem? (i := 2) rfl
theorem m_X6_read_3 : (.fieldLink RX6 25 "ResourceLedger$Reader" "place" "I" : Cond) ∈ wsX6_read := List.mem_of_getElem? (i := 3) rfl
theorem m_X6_read_4 : (.fieldLink RX6 28 "ResourceLedger$Reader" "judging" "Z" : Cond) ∈ wsX6_read := List.mem_of_getElem? (i := 4) rfl
theorem m_X6_read_5 : (.fieldLink RX6 32 "ResourceLedger$Reader" "at" "I" : Cond) ∈ wsX6_read := List.mem_of_getElem? (i := 5) rfl
theorem m_X6_read_6 : (.fieldLink RX6 35 "ResourceLedger$Reader" "told" "I" : Cond) ∈ wsX6_read := List.mem_of_getElem? (i := 6) rfl
theorem m_X6_readBeginning_1 : (.fieldLink RX6 32 "ResourceLedger$Reader" "at" "I" : Cond) ∈ wsX6_readBeginning := List.mem_of_getElem? (i := 1) rfl
theorem iw_X6_readBeginning_X6 : ∀ w ∈ wsX60, w ∈ wsX6_readBeginning := fun _ h => List.mem_cons_of_mem _ (List.mem_append_left _ (List.mem_append_right _ h))
theorem m_X6_readByte_1 : (.fieldLink RX6 21 "ResourceLedger$Reader" "fault" "I" : Cond) ∈ wsX6_readByte := List.mem_of_getElem? (i := 1) rfl
theorem iw_X6_readByte_X6 : ∀ w ∈ wsX60, w ∈ wsX6_readByte := fun _ h => List.mem_cons_of_mem _ (List.mem_append_left _ (List.mem_append_right _ h))
theorem m_X6_readByte_2 : (.fieldLink RX6 32 "ResourceLedger$Reader" "at" "I" : Cond) ∈ wsX6_readByte := List.mem_of_getElem? (i := 2) rfl
theorem m_X6_readByte_3 : (.fieldLink RX6 17 "ResourceLedger$Reader" "p" "LResourceLedger$Program;" : Cond) ∈ wsX6_readByte := List.mem_of_getElem? (i := 3) rfl
theorem m_X6_readByte_4 : (.fieldLink RX6 73 "ResourceLedger$Program" "length" "I" : Cond) ∈ wsX6_readByte := List.mem_of_getElem? (i := 4) rfl
theorem iw_X6_readByte_X5 : ∀ w ∈ wsX50, w ∈ wsX6_readByte := fun _ h => List.mem_cons_of_mem _ (List.mem_append_right _ h)
theorem m_X6_readByte_6 : (.fieldLink RX6 83 "ResourceLedger$Program" "bytes" "[B" : Cond) ∈ wsX6_readByte := List.mem_of_getElem? (i := 6) rfl
theorem m_X6_readBeginning_2 : (.fieldLink RX6 91 "ResourceLedger$Program" "COIN_BYTES" "[B" : Cond) ∈ wsX6_readBeginning := List.mem_of_getElem? (i := 2) rfl
theorem m_X6_readBeginning_3 : (.fieldLink RX6 17 "ResourceLedger$Reader" "p" "LResourceLedger$Program;" : Cond) ∈ wsX6_readBeginning := List.mem_of_getElem? (i := 3) rfl
theorem m_X6_readBeginning_4 : (.fieldLink RX6 97 "ResourceLedger$Program" "number" "I" : Cond) ∈ wsX6_readBeginning := List.mem_of_getElem? (i := 4) rfl
theorem iw_X6_readBeginning_X5 : ∀ w ∈ wsX50, w ∈ wsX6_readBeginning := fun _ h => List.mem_cons_of_mem _ (List.mem_append_right _ h)
theorem m_X6_readStructures_1 : (.fieldLink RX6 17 "ResourceLedger$Reader" "p" "LResourceLedger$Program;" : Cond) ∈ wsX6_readStructures := List.mem_of_getElem? (i := 1) rfl
theorem iw_X6_readStructures_X6 : ∀ w ∈ wsX60, w ∈ wsX6_readStructures := fun _ h => List.mem_cons_of_mem _ (List.mem_append_left _ (List.mem_append_right _ h))
theorem m_X6_readNumber_1 : (.fieldLink RX6 32 "ResourceLedger$Reader" "at" "I" : Cond) ∈ wsX6_readNumber := List.mem_of_getElem? (i := 1) rfl
theorem iw_X6_readNumber_X6 : ∀ w ∈ wsX60, w ∈ wsX6_readNumber := fun _ h => List.mem_cons_of_mem _ (List.mem_append_left _ (List.mem_append_right _ h))
theorem m_X6_readNumber_2 : (.fieldLink RX6 21 "ResourceLedger$Reader" "fault" "I" : Cond) ∈ wsX6_readNumber := List.mem_of_getElem? (i := 2) rfl
theorem m_X6_readStructures_2 : (.fieldLink RX6 100 "ResourceLedger$Program" "ownStructures" "I" : Cond) ∈ wsX6_readStructures := List.mem_of_getElem? (i := 2) rfl
theorem iw_X6_readStructures_X5 : ∀ w ∈ wsX50, w ∈ wsX6_readStructures := fun _ h => List.mem_cons_of_mem _ (List.mem_append_right _ h)
theorem m_X6_readStructures_3 : (.fieldLink RX6 28 "ResourceLedger$Reader" "judging" "Z" : Cond) ∈ wsX6_readStructures := List.mem_of_getElem? (i := 3) rfl
theorem m_X6_readStructures_4 : (.fieldLink RX6 103 "ResourceLedger$Program" "allStructures" "I" : Cond) ∈ wsX6_readStructures := List.mem_of_getElem? (i := 4) rfl
theorem m_X6_readStructures_5 : (.fieldLink RX6 21 "ResourceLedger$Reader" "fault" "I" : Cond) ∈ wsX6_readStructures := List.mem_of_getElem? (i := 5) rfl
theorem m_X6_readStructures_6 : (.fieldLink RX6 32 "ResourceLedger$Reader" "at" "I" : Cond) ∈ wsX6_readStructures := List.mem_of_getElem? (i := 6) rfl
theorem m_X5_setStructure_1 : (.fieldLink RX5 19 "ResourceLedger$Program" "structureRows" "[I" : Cond) ∈ wsX5_setStructure := List.mem_of_getElem? (i := 1) rfl
theorem iw_X5_setStructure_X5 : ∀ w ∈ wsX50, w ∈ wsX5_setStructure := fun _ h => List.mem_cons_of_mem _ (List.mem_append_right _ h)
theorem m_X6_readStructures_7 : (.fieldLink RX6 53 "ResourceLedger$Program" "typeCount" "I" : Cond) ∈ wsX6_readStructures := List.mem_of_getElem? (i := 7) rfl
theorem m_X6_readStructures_8 : (.fieldLink RX6 97 "ResourceLedger$Program" "number" "I" : Cond) ∈ wsX6_readStructures := List.mem_of_getElem? (i := 8) rfl
theorem m_X6_readTypes_1 : (.fieldLink RX6 21 "ResourceLedger$Reader" "fault" "I" : Cond) ∈ wsX6_readTypes := List.mem_of_getElem? (i := 1) rfl
theorem iw_X6_readTypes_X6 : ∀ w ∈ wsX60, w ∈ wsX6_readTypes := fun _ h => List.mem_cons_of_mem _ (List.mem_append_left _ (List.mem_append_right _ h))
theorem m_X6_readTypes_2 : (.fieldLink RX6 17 "ResourceLedger$Reader" "p" "LResourceLedger$Program;" : Cond) ∈ wsX6_readTypes := List.mem_of_getElem? (i := 2) rfl
theorem m_X6_readOneType_1 : (.fieldLink RX6 32 "ResourceLedger$Reader" "at" "I" : Cond) ∈ wsX6_readOneType := List.mem_of_getElem? (i := 1) rfl
theorem iw_X6_readOneType_X6 : ∀ w ∈ wsX60, w ∈ wsX6_readOneType := fun _ h => List.mem_cons_of_mem _ (List.mem_append_left _ (List.mem_append_right _ h))
theorem m_X5_addType_1 : (.fieldLink RX5 39 "ResourceLedger$Program" "typeCount" "I" : Cond) ∈ wsX5_addType := List.mem_of_getElem? (i := 1) rfl
theorem iw_X5_addType_X5 : ∀ w ∈ wsX50, w ∈ wsX5_addType := fun _ h => List.mem_cons_of_mem _ (List.mem_append_right _ h)
theorem m_X5_addType_2 : (.fieldLink RX5 9 "ResourceLedger$Program" "types" "[J" : Cond) ∈ wsX5_addType := List.mem_of_getElem? (i := 2) rfl
theorem m_X6_readForeignStructures_1 : (.fieldLink RX6 17 "ResourceLedger$Reader" "p" "LResourceLedger$Program;" : Cond) ∈ wsX6_readForeignStructures := List.mem_of_getElem? (i := 1) rfl
theorem iw_X6_readForeignStructures_X6 : ∀ w ∈ wsX60, w ∈ wsX6_readForeignStructures := fun _ h => List.mem_cons_of_mem _ (List.mem_append_left _ (List.mem_append_right _ h))
theorem m_X6_readForeignStructures_2 : (.fieldLink RX6 100 "ResourceLedger$Program" "ownStructures" "I" : Cond) ∈ wsX6_readForeignStructures := List.mem_of_getElem? (i := 2) rfl
theorem iw_X6_readForeignStructures_X5 : ∀ w ∈ wsX50, w ∈ wsX6_readForeignStructures := fun _ h => List.mem_cons_of_mem _ (List.mem_append_right _ h)
theorem m_X6_readForeignStructures_3 : (.fieldLink RX6 103 "ResourceLedger$Program" "allStructures" "I" : Cond) ∈ wsX6_readForeignStructures := List.mem_of_getElem? (i := 3) rfl
theorem m_X6_readForeignFunctions_1 : (.fieldLink RX6 17 "ResourceLedger$Reader" "p" "LResourceLedger$Program;" : Cond) ∈ wsX6_readForeignFunctions := List.mem_of_getElem? (i := 1) rfl
theorem iw_X6_readForeignFunctions_X6 : ∀ w ∈ wsX60, w ∈ wsX6_readForeignFunctions := fun _ h => List.mem_cons_of_mem _ (List.mem_append_left _ (List.mem_append_right _ h))
theorem m_X6_readForeignFunctions_2 : (.fieldLink RX6 110 "ResourceLedger$Program" "foreignFunctions" "I" : Cond) ∈ wsX6_readForeignFunctions := List.mem_of_getElem? (i := 2) rfl
theorem iw_X6_readForeignFunctions_X5 : ∀ w ∈ wsX50, w ∈ wsX6_readForeignFunctions := fun _ h => List.mem_cons_of_mem _ (List.mem_append_right _ h)
theorem m_X6_read_7 : (.fieldLink RX6 53 "ResourceLedger$Program" "typeCount" "I" : Cond) ∈ wsX6_read := List.mem_of_getElem? (i := 7) rfl
theorem iw_X6_read_X5 : ∀ w ∈ wsX50, w ∈ wsX6_read := fun _ h => List.mem_cons_of_mem _ (List.mem_append_right _ h)
theorem m_X6_read_8 : (.fieldLink RX6 56 "ResourceLedger$Program" "firstElement" "I" : Cond) ∈ wsX6_read := List.mem_of_getElem? (i := 8) rfl
theorem m_X6_read_9 : (.fieldLink RX6 63 "ResourceLedger$Program" "elementCount" "I" : Cond) ∈ wsX6_read := List.mem_of_getElem? (i := 9) rfl
theorem m_X6_readFunctions_1 : (.fieldLink RX6 17 "ResourceLedger$Reader" "p" "LResourceLedger$Program;" : Cond) ∈ wsX6_readFunctions := List.mem_of_getElem? (i := 1) rfl
theorem iw_X6_readFunctions_X6 : ∀ w ∈ wsX60, w ∈ wsX6_readFunctions := fun _ h => List.mem_cons_of_mem _ (List.mem_append_left _ (List.mem_append_right _ h))
theorem m_X6_readFunctions_2 : (.fieldLink RX6 120 "ResourceLedger$Program" "ownFunctions" "I" : Cond) ∈ wsX6_readFunctions := List.mem_of_getElem? (i := 2) rfl
theorem iw_X6_readFunctions_X5 : ∀ w ∈ wsX50, w ∈ wsX6_readFunctions := fun _ h => List.mem_cons_of_mem _ (List.mem_append_right _ h)
theorem m_X6_readFunctions_3 : (.fieldLink RX6 21 "ResourceLedger$Reader" "fault" "I" : Cond) ∈ wsX6_readFunctions := List.mem_of_getElem? (i := 3) rfl
theorem m_X6_readFunctions_4 : (.fieldLink RX6 97 "ResourceLedger$Program" "number" "I" : Cond) ∈ wsX6_readFunctions := List.mem_of_getElem? (i := 4) rfl
theorem m_X5_setFunction_1 : (.fieldLink RX5 22 "ResourceLedger$Program" "functionRows" "[I" : Cond) ∈ wsX5_setFunction := List.mem_of_getElem? (i := 1) rfl
theorem iw_X5_setFunction_X5 : ∀ w ∈ wsX50, w ∈ wsX5_setFunction := fun _ h => List.mem_cons_of_mem _ (List.mem_append_right _ h)
theorem m_X6_readFunctions_5 : (.fieldLink RX6 53 "ResourceLedger$Program" "typeCount" "I" : Cond) ∈ wsX6_readFunctions := List.mem_of_getElem? (i := 5) rfl
theorem m_X6_readOneType_2 : (.fieldLink RX6 28 "ResourceLedger$Reader" "judging" "Z" : Cond) ∈ wsX6_readOneType := List.mem_of_getElem? (i := 2) rfl
theorem m_X6_readFunctions_6 : (.fieldLink RX6 123 "ResourceLedger$Reader" "locals" "I" : Cond) ∈ wsX6_readFunctions := List.mem_of_getElem? (i := 6) rfl
theorem m_X6_readFunctions_7 : (.fieldLink RX6 32 "ResourceLedger$Reader" "at" "I" : Cond) ∈ wsX6_readFunctions := List.mem_of_getElem? (i := 7) rfl
theorem m_X6_readFunctions_8 : (.fieldLink RX6 126 "ResourceLedger$Reader" "instructions" "I" : Cond) ∈ wsX6_readFunctions := List.mem_of_getElem? (i := 8) rfl
theorem m_X6_readFunctions_9 : (.fieldLink RX6 35 "ResourceLedger$Reader" "told" "I" : Cond) ∈ wsX6_readFunctions := List.mem_of_getElem? (i := 9) rfl
theorem m_X6_readFunctions_10 : (.fieldLink RX6 129 "ResourceLedger$Program" "startCount" "I" : Cond) ∈ wsX6_readFunctions := List.mem_of_getElem? (i := 10) rfl
theorem m_X6_readInstruction_1 : (.fieldLink RX6 17 "ResourceLedger$Reader" "p" "LResourceLedger$Program;" : Cond) ∈ wsX6_readInstruction := List.mem_of_getElem? (i := 1) rfl
theorem iw_X6_readInstruction_X6 : ∀ w ∈ wsX60, w ∈ wsX6_readInstruction := fun _ h => List.mem_cons_of_mem _ (List.mem_append_left _ (List.mem_append_right _ h))
theorem m_X6_readInstruction_2 : (.fieldLink RX6 32 "ResourceLedger$Reader" "at" "I" : Cond) ∈ wsX6_readInstruction := List.mem_of_getElem? (i := 2) rfl
theorem m_X5_addStart_1 : (.fieldLink RX5 42 "ResourceLedger$Program" "startCount" "I" : Cond) ∈ wsX5_addStart := List.mem_of_getElem? (i := 1) rfl
theorem iw_X5_addStart_X5 : ∀ w ∈ wsX50, w ∈ wsX5_addStart := fun _ h => List.mem_cons_of_mem _ (List.mem_append_right _ h)
theorem m_X5_addStart_2 : (.fieldLink RX5 15 "ResourceLedger$Program" "starts" "[I" : Cond) ∈ wsX5_addStart := List.mem_of_getElem? (i := 2) rfl
theorem m_X6_read_10 : (.fieldLink RX6 73 "ResourceLedger$Program" "length" "I" : Cond) ∈ wsX6_read := List.mem_of_getElem? (i := 10) rfl
theorem m_X6_readOneType_3 : (.fieldLink RX6 17 "ResourceLedger$Reader" "p" "LResourceLedger$Program;" : Cond) ∈ wsX6_readOneType := List.mem_of_getElem? (i := 3) rfl
theorem m_X6_readOneType_4 : (.fieldLink RX6 103 "ResourceLedger$Program" "allStructures" "I" : Cond) ∈ wsX6_readOneType := List.mem_of_getElem? (i := 4) rfl
theorem iw_X6_readOneType_X5 : ∀ w ∈ wsX50, w ∈ wsX6_readOneType := fun _ h => List.mem_cons_of_mem _ (List.mem_append_right _ h)
theorem m_X6_findRound_1 : (.fieldLink RX6 17 "ResourceLedger$Reader" "p" "LResourceLedger$Program;" : Cond) ∈ wsX6_findRound := List.mem_of_getElem? (i := 1) rfl
theorem iw_X6_findRound_X6 : ∀ w ∈ wsX60, w ∈ wsX6_findRound := fun _ h => List.mem_cons_of_mem _ (List.mem_append_left _ (List.mem_append_right _ h))
theorem m_X6_findRound_2 : (.fieldLink RX6 100 "ResourceLedger$Program" "ownStructures" "I" : Cond) ∈ wsX6_findRound := List.mem_of_getElem? (i := 2) rfl
theorem iw_X6_findRound_X5 : ∀ w ∈ wsX50, w ∈ wsX6_findRound := fun _ h => List.mem_cons_of_mem _ (List.mem_append_right _ h)
theorem m_X6_findRound_3 : (.fieldLink RX6 11 "ResourceLedger$Reader" "holds" "[I" : Cond) ∈ wsX6_findRound := List.mem_of_getElem? (i := 3) rfl
theorem m_X5_structureColumn_1 : (.fieldLink RX5 52 "ResourceLedger$Program" "allStructures" "I" : Cond) ∈ wsX5_structureColumn := List.mem_of_getElem? (i := 1) rfl
theorem iw_X5_structureColumn_X5 : ∀ w ∈ wsX50, w ∈ wsX5_structureColumn := fun _ h => List.mem_cons_of_mem _ (List.mem_append_right _ h)
theorem m_X5_structureColumn_2 : (.fieldLink RX5 19 "ResourceLedger$Program" "structureRows" "[I" : Cond) ∈ wsX5_structureColumn := List.mem_of_getElem? (i := 2) rfl
theorem m_X5_typeAt_1 : (.fieldLink RX5 39 "ResourceLedger$Program" "typeCount" "I" : Cond) ∈ wsX5_typeAt := List.mem_of_getElem? (i := 1) rfl
theorem iw_X5_typeAt_X5 : ∀ w ∈ wsX50, w ∈ wsX5_typeAt := fun _ h => List.mem_cons_of_mem _ (List.mem_append_right _ h)
theorem m_X5_typeAt_2 : (.fieldLink RX5 9 "ResourceLedger$Program" "types" "[J" : Cond) ∈ wsX5_typeAt := List.mem_of_getElem? (i := 2) rfl
theorem m_X5_endsInStructure_1 : (.constantLong RX5 92 (255) : Cond) ∈ wsX5_endsInStructure := List.mem_of_getElem? (i := 1) rfl
theorem m_X5_endsInStructure_2 : (.constantLong RX5 94 (6) : Cond) ∈ wsX5_endsInStructure := List.mem_of_getElem? (i := 2) rfl
theorem m_X5_measure_1 : (.fieldLink RX5 52 "ResourceLedger$Program" "allStructures" "I" : Cond) ∈ wsX5_measure := List.mem_of_getElem? (i := 1) rfl
theorem iw_X5_measure_X5 : ∀ w ∈ wsX50, w ∈ wsX5_measure := fun _ h => List.mem_cons_of_mem _ (List.mem_append_left _ (List.mem_append_right _ h))
theorem m_X5_measure_2 : (.fieldLink RX5 102 "ResourceLedger$Program" "ownStructures" "I" : Cond) ∈ wsX5_measure := List.mem_of_getElem? (i := 2) rfl
theorem m_X5_measure_3 : (.methodLink RX5 138 Lib.Math.max.name : Cond) ∈ wsX5_measure := List.mem_of_getElem? (i := 3) rfl
theorem m_X5_measure_4 : (.static Lib.Math.max.name : Cond) ∈ wsX5_measure := List.mem_of_getElem? (i := 4) rfl
theorem m_X5_measure_5 : (.initialized "java/lang/Math" : Cond) ∈ wsX5_measure := List.mem_of_getElem? (i := 5) rfl
theorem m_X5_measure_6 : (.code Lib.Math.max.name Lib.Math.max.code 2 (some .int) : Cond) ∈ wsX5_measure := List.mem_of_getElem? (i := 6) rfl
set_option maxHeartbeats 4000000 in
set_option maxRecDepth 100000 in
theorem cc_2_X5_clear (l : Launch) (dC : Nat → ClassId) (dI : Nat → Nat → Nat) (cy : Nat → ClassId) (sz : Nat) (cb : Nat) (a0 : Nat) (a1 : Nat) (a2 : Nat) (a3 : Nat) (a4 : Nat)  : Met l yX5_clear wsX5_clear ({ frames := 0, cells := 0, slots := 0, locals := 0 }) (va_Pc [.ref a0] (fun U => U.heap.size = sz ∧ va_P (dC, dI) vwCl [(a0, .inr (5, [.ref cb, .int 81, .int 0, .ref a1, .int 0, .ref a2, .int 0, .ref a3, .int 0, .int 0, .ref a4, .int 0, .int 0, .int 0, .int 0]))] U.heap ∧ va_K (dC, dI) vwCl (TYS cy) U ∧ va_D (fun _ => True) [(a0, .inr (5, [.ref cb, .int 81, .int 0, .ref a1, .int 0, .ref a2, .int 0, .ref a3, .int 0, .int 0, .ref a4, .int 0, .int 0, .int 0, .int 0]))] ∧ NK U ∧ SK cb (va_A [(a0, .inr (5, [.ref cb, .int 81, .int 0, .ref a1, .int 0, .ref a2, .int 0, .ref a3, .int 0, .int 0, .ref a4, .int 0, .int 0, .int 0, .int 0]))] sz) U U.heap)) (va_Qv (fun u : Unit => True) (fun u t => va_P (dC, dI) vwCl [(a0, .inr (5, [.ref cb, .int 81, .int 0, .ref a1, .int 0, .ref a2, .int 0, .ref a3, .int 0, .int 0, .ref a4, .int 0, .int 0, .int 0, .int 0]))] t.heap ∧ va_K (dC, dI) vwCl (TYS cy) t ∧ va_D (va_A [(a0, .inr (5, [.ref cb, .int 81, .int 0, .ref a1, .int 0, .ref a2, .int 0, .ref a3, .int 0, .int 0, .ref a4, .int 0, .int 0, .int 0, .int 0]))] sz) [(a0, .inr (5, [.ref cb, .int 81, .int 0, .ref a1, .int 0, .ref a2, .int 0, .ref a3, .int 0, .int 0, .ref a4, .int 0, .int 0, .int 0, .int 0]))]) (va_A [(a0, .inr (5, [.ref cb, .int 81, .int 0, .ref a1, .int 0, .ref a2, .int 0, .ref a3, .int 0, .int 0, .ref a4, .int 0, .int 0, .int 0, .int 0]))] sz)) 0 0 (va_A [(a0, .inr (5, [.ref cb, .int 81, .int 0, .ref a1, .int 0, .ref a2, .int 0, .ref a3, .int 0, .int 0, .ref a4, .int 0, .int 0, .int 0, .int 0]))] sz) := by
  refine Met.ofW (cc := cX5_clear) (maxL := 1) (ret := none) (by decide) rfl ?_
  intro p e s m args below meth c s₁ B hml hv
  obtain ⟨rfl, hsz, hP, hK, hD0, hN, hSK⟩ := hv
  have hx := B.exec
  have hb := B.bytes
  have hr := B.returns
  have hts := atoms_spec (ws := wsX5_clear) B.pre
  have hown : s.vm.findClass RX5 = some m.cls := findClass_of_methodNamed B.named
  have hlocks := B.notSynchronized
  subst hsz
  have hD := hD0.self (sz := s.heap.size)
  generalize hAe : va_A [(a0, .inr (5, [.ref cb, .int 81, .int 0, .ref a1, .int 0, .ref a2, .int 0, .ref a3, .int 0, .int 0, .ref a4, .int 0, .int 0, .int 0, .int 0]))] s.heap.size = A at hD hSK ⊢
  have hA : ∀ q : Nat, s.heap.size ≤ q → A q := fun q h => by rw [← hAe]; exact Or.inr h
  have hS : va_S A s.heap s.heap [] := va_S.rf
  have hP : va_P (dC, dI) vwCl [(a0, .inr (5, [.ref cb, .int 81, .int 0, .ref a1, .int 0, .ref a2, .int 0, .ref a3, .int 0, .int 0, .ref a4, .int 0, .int 0, .int 0, .int 0]))] s.heap := hP
  have hl := lv_entry ([.ref a0]) (n := 1) (Nat.le_of_ble_eq_true rfl)
  rw [lg_entry_eq]
  generalize (lg_sl ([.ref a0]) ++ List.replicate (1 - (lg_sl ([.ref a0])).length) Slot.unset).toArray = ls at hl ⊢
  replace hl : lv_has ls 1 [(0, .ref a0)] := hl
  refine lv_aload_n hx hb dX5_clear_0 rfl (lv_at hl 0 rfl) ?_
  refine lv_iconst (v := 0) hx hb dX5_clear_1 (by decide) ?_
  refine va_put (D := (dC, dI)) (ci := 5) (v := .int 0) (ty := .int) (C := RX5) (T := TX5) (N := 15) hx hb hts iw_X5_clear_X5 tyX5 tyX5_ok nmX5 hown hK hP hD hS 0 rfl rfl 2 (by decide) (hts _ m_X5_clear_1) (fun _ h9 => h9) rfl (by decide +kernel) rfl rfl (Nat.le_of_ble_eq_true rfl) dX5_clear_2 (fun H_1 locs hP2 hD2 hS2 => ?_)
  replace hP : va_P (dC, dI) vwCl [(a0, .inr (5, [.ref cb, .int 81, .int 0, .ref a1, .int 0, .ref a2, .int 0, .ref a3, .int 0, .int 0, .ref a4, .int 0, .int 0, .int 0, .int 0]))] H_1 := hP2
  replace hD : va_D A [(a0, .inr (5, [.ref cb, .int 81, .int 0, .ref a1, .int 0, .ref a2, .int 0, .ref a3, .int 0, .int 0, .ref a4, .int 0, .int 0, .int 0, .int 0]))] := hD2
  replace hS := hS2
  clear hP2 hD2 hS2
  refine lv_aload_n hx hb dX5_clear_5 rfl (lv_at hl 0 rfl) ?_
  refine lv_iconst (v := 0) hx hb dX5_clear_6 (by decide) ?_
  refine va_put (D := (dC, dI)) (ci := 5) (v := .int 0) (ty := .int) (C := RX5) (T := TX5) (N := 15) hx hb hts iw_X5_clear_X5 tyX5 tyX5_ok nmX5 hown hK hP hD hS 0 rfl rfl 4 (by decide) (hts _ m_X5_clear_2) (fun _ h9 => h9) rfl (by decide +kernel) rfl rfl (Nat.le_of_ble_eq_true rfl) dX5_clear_7 (fun H_2 locs hP2 hD2 hS2 => ?_)
  replace hP : va_P (dC, dI) vwCl [(a0, .inr (5, [.ref cb, .int 81, .int 0, .ref a1, .int 0, .ref a2, .int 0, .ref a3, .int 0, .int 0, .ref a4, .int 0, .int 0, .int 0, .int 0]))] H_2 := hP2
  replace hD : va_D A [(a0, .inr (5, [.ref cb, .int 81, .int 0, .ref a1, .int 0, .ref a2, .int 0, .ref a3, .int 0, .int 0, .ref a4, .int 0, .int 0, .int 0, .int 0]))] := hD2
  replace hS := hS2
  clear hP2 hD2 hS2
  refine lv_aload_n hx hb dX5_clear_10 rfl (lv_at hl 0 rfl) ?_
  refine lv_iconst (v := 0) hx hb dX5_clear_11 (by decide) ?_
  refine va_put (D := (dC, dI)) (ci := 5) (v := .int 0) (ty := .int) (C := RX5) (T := TX5) (N := 15) hx hb hts iw_X5_clear_X5 tyX5 tyX5_ok nmX5 hown hK hP hD hS 0 rfl rfl 6 (by decide) (hts _ m_X5_clear_3) (fun _ h9 => h9) rfl (by decide +kernel) rfl rfl (Nat.le_of_ble_eq_true rfl) dX5_clear_12 (fun H_3 locs hP2 hD2 hS2 => ?_)
  replace hP : va_P (dC, dI) vwCl [(a0, .inr (5, [.ref cb, .int 81, .int 0, .ref a1, .int 0, .ref a2, .int 0, .ref a3, .int 0, .int 0, .ref a4, .int 0, .int 0, .int 0, .int 0]))] H_3 := hP2
  replace hD : va_D A [(a0, .inr (5, [.ref cb, .int 81, .int 0, .ref a1, .int 0, .ref a2, .int 0, .ref a3, .int 0, .int 0, .ref a4, .int 0, .int 0, .int 0, .int 0]))] := hD2
  replace hS := hS2
  clear hP2 hD2 hS2
  refine lv_aload_n hx hb dX5_clear_15 rfl (lv_at hl 0 rfl) ?_
  refine lv_iconst (v := 0) hx hb dX5_clear_16 (by decide) ?_
  refine va_put (D := (dC, dI)) (ci := 5) (v := .int 0) (ty := .int) (C := RX5) (T := TX5) (N := 15) hx hb hts iw_X5_clear_X5 tyX5 tyX5_ok nmX5 hown hK hP hD hS 0 rfl rfl 12 (by decide) (hts _ m_X5_clear_4) (fun _ h9 => h9) rfl (by decide +kernel) rfl rfl (Nat.le_of_ble_eq_true rfl) dX5_clear_17 (fun H_4 locs hP2 hD2 hS2 => ?_)
  replace hP : va_P (dC, dI) vwCl [(a0, .inr (5, [.ref cb, .int 81, .int 0, .ref a1, .int 0, .ref a2, .int 0, .ref a3, .int 0, .int 0, .ref a4, .int 0, .int 0, .int 0, .int 0]))] H_4 := hP2
  replace hD : va_D A [(a0, .inr (5, [.ref cb, .int 81, .int 0, .ref a1, .int 0, .ref a2, .int 0, .ref a3, .int 0, .int 0, .ref a4, .int 0, .int 0, .int 0, .int 0]))] := hD2
  replace hS := hS2
  clear hP2 hD2 hS2
  exact W.vret hx hb hr (fun t ht hW => ⟨⟨(), rfl, trivial, by rw [ht]; exact hP, va_K.moved hW.alike hK, hD⟩, hS.F ht⟩) hS.2.2 dX5_clear_20

set_option maxHeartbeats 4000000 in
set_option maxRecDepth 100000 in
theorem cc_1_X5_lay (l : Launch) (dC : Nat → ClassId) (dI : Nat → Nat → Nat) (cy : Nat → ClassId) (sz : Nat) (cb : Nat) (a0 : Nat) (a1 : Nat) (a2 : Nat) (a3 : Nat) (a4 : Nat)  : Met l yX5_lay wsX5_lay ({ frames := 1, cells := 0, slots := 0, locals := 20 }) (va_Pc [.ref a0, .ref cb] (fun U => U.heap.size = sz ∧ va_P (dC, dI) vwCl [(a0, .inr (5, [.null, .int 0, .int 0, .ref a1, .int 0, .ref a2, .int 0, .ref a3, .int 0, .int 0, .ref a4, .int 0, .int 0, .int 0, .int 0]))] U.heap ∧ va_K (dC, dI) vwCl (TYS cy) U ∧ va_D (fun _ => True) [(a0, .inr (5, [.null, .int 0, .int 0, .ref a1, .int 0, .ref a2, .int 0, .ref a3, .int 0, .int 0, .ref a4, .int 0, .int 0, .int 0, .int 0]))] ∧ NK U ∧ SK cb (va_A [(a0, .inr (5, [.null, .int 0, .int 0, .ref a1, .int 0, .ref a2, .int 0, .ref a3, .int 0, .int 0, .ref a4, .int 0, .int 0, .int 0, .int 0]))] sz) U U.heap)) (va_Qv (fun u : Unit => True) (fun u t => va_P (dC, dI) vwCl [(a0, .inr (5, [.ref cb, .int 81, .int 0, .ref a1, .int 0, .ref a2, .int 0, .ref a3, .int 0, .int 0, .ref a4, .int 0, .int 0, .int 0, .int 0]))] t.heap ∧ va_K (dC, dI) vwCl (TYS cy) t ∧ va_D (va_A [(a0, .inr (5, [.null, .int 0, .int 0, .ref a1, .int 0, .ref a2, .int 0, .ref a3, .int 0, .int 0, .ref a4, .int 0, .int 0, .int 0, .int 0]))] sz) [(a0, .inr (5, [.ref cb, .int 81, .int 0, .ref a1, .int 0, .ref a2, .int 0, .ref a3, .int 0, .int 0, .ref a4, .int 0, .int 0, .int 0, .int 0]))]) (va_A [(a0, .inr (5, [.null, .int 0, .int 0, .ref a1, .int 0, .ref a2, .int 0, .ref a3, .int 0, .int 0, .ref a4, .int 0, .int 0, .int 0, .int 0]))] sz)) 0 0 (va_A [(a0, .inr (5, [.null, .int 0, .int 0, .ref a1, .int 0, .ref a2, .int 0, .ref a3, .int 0, .int 0, .ref a4, .int 0, .int 0, .int 0, .int 0]))] sz) := by
  refine Met.ofW (cc := cX5_lay) (maxL := 2) (ret := none) (by decide) rfl ?_
  intro p e s m args below meth c s₁ B hml hv
  obtain ⟨rfl, hsz, hP, hK, hD0, hN, hSK⟩ := hv
  have hx := B.exec
  have hb := B.bytes
  have hr := B.returns
  have hts := atoms_spec (ws := wsX5_lay) B.pre
  have hown : s.vm.findClass RX5 = some m.cls := findClass_of_methodNamed B.named
  have hlocks := B.notSynchronized
  subst hsz
  have hD := hD0.self (sz := s.heap.size)
  generalize hAe : va_A [(a0, .inr (5, [.null, .int 0, .int 0, .ref a1, .int 0, .ref a2, .int 0, .ref a3, .int 0, .int 0, .ref a4, .int 0, .int 0, .int 0, .int 0]))] s.heap.size = A at hD hSK ⊢
  have hA : ∀ q : Nat, s.heap.size ≤ q → A q := fun q h => by rw [← hAe]; exact Or.inr h
  have hS : va_S A s.heap s.heap [] := va_S.rf
  have hP : va_P (dC, dI) vwCl [(a0, .inr (5, [.null, .int 0, .int 0, .ref a1, .int 0, .ref a2, .int 0, .ref a3, .int 0, .int 0, .ref a4, .int 0, .int 0, .int 0, .int 0]))] s.heap := hP
  have hl := lv_entry ([.ref a0, .ref cb]) (n := 2) (Nat.le_of_ble_eq_true rfl)
  rw [lg_entry_eq]
  generalize (lg_sl ([.ref a0, .ref cb]) ++ List.replicate (2 - (lg_sl ([.ref a0, .ref cb])).length) Slot.unset).toArray = ls at hl ⊢
  replace hl : lv_has ls 2 [(0, .ref a0), (1, .ref cb)] := hl
  refine lv_aload_n hx hb dX5_lay_0 rfl (lv_at hl 0 rfl) ?_
  refine lv_aload_n hx hb dX5_lay_1 rfl (lv_at hl 1 rfl) ?_
  refine va_put (D := (dC, dI)) (ci := 5) (v := .ref cb) (ty := .array .byte) (C := RX5) (T := TX5) (N := 15) hx hb hts iw_X5_lay_X5 tyX5 tyX5_ok nmX5 hown hK hP hD hS 0 rfl rfl 0 (by decide) (hts _ m_X5_lay_1) (fun _ h9 => h9) rfl (by decide +kernel) rfl rfl (Nat.le_of_ble_eq_true rfl) dX5_lay_2 (fun H_1 locs hP2 hD2 hS2 => ?_)
  replace hP : va_P (dC, dI) vwCl [(a0, .inr (5, [.ref cb, .int 0, .int 0, .ref a1, .int 0, .ref a2, .int 0, .ref a3, .int 0, .int 0, .ref a4, .int 0, .int 0, .int 0, .int 0]))] H_1 := hP2
  replace hD : va_D A [(a0, .inr (5, [.ref cb, .int 0, .int 0, .ref a1, .int 0, .ref a2, .int 0, .ref a3, .int 0, .int 0, .ref a4, .int 0, .int 0, .int 0, .int 0]))] := hD2
  replace hS := hS2
  clear hP2 hD2 hS2
  refine lv_aload_n hx hb dX5_lay_5 rfl (lv_at hl 0 rfl) ?_
  refine lv_aload_n hx hb dX5_lay_6 rfl (lv_at hl 1 rfl) ?_
  refine va_tlen (v := 81) hx hb hSK.2 hS (by decide) dX5_lay_7 ?_
  refine va_put (D := (dC, dI)) (ci := 5) (v := .int 81) (ty := .int) (C := RX5) (T := TX5) (N := 15) hx hb hts iw_X5_lay_X5 tyX5 tyX5_ok nmX5 hown hK hP hD hS 0 rfl rfl 1 (by decide) (hts _ m_X5_lay_2) (fun _ h9 => h9) rfl (by decide +kernel) rfl rfl (Nat.le_of_ble_eq_true rfl) dX5_lay_8 (fun H_2 locs hP2 hD2 hS2 => ?_)
  replace hP : va_P (dC, dI) vwCl [(a0, .inr (5, [.ref cb, .int 81, .int 0, .ref a1, .int 0, .ref a2, .int 0, .ref a3, .int 0, .int 0, .ref a4, .int 0, .int 0, .int 0, .int 0]))] H_2 := hP2
  replace hD : va_D A [(a0, .inr (5, [.ref cb, .int 81, .int 0, .ref a1, .int 0, .ref a2, .int 0, .ref a3, .int 0, .int 0, .ref a4, .int 0, .int 0, .int 0, .int 0]))] := hD2
  replace hS := hS2
  clear hP2 hD2 hS2
  refine lv_aload_n hx hb dX5_lay_11 rfl (lv_at hl 0 rfl) ?_
  have hPc := hP.sub (ws' := [(a0, .inr (5, [.ref cb, .int 81, .int 0, .ref a1, .int 0, .ref a2, .int 0, .ref a3, .int 0, .int 0, .ref a4, .int 0, .int 0, .int 0, .int 0]))]) [0] rfl
  have hDc := hD.sub (ws' := [(a0, .inr (5, [.ref cb, .int 81, .int 0, .ref a1, .int 0, .ref a2, .int 0, .ref a3, .int 0, .int 0, .ref a4, .int 0, .int 0, .int 0, .int 0]))]) [0] (by decide) rfl
  have hFc := va_free (wc := [(a0, .inr (5, [.ref cb, .int 81, .int 0, .ref a1, .int 0, .ref a2, .int 0, .ref a3, .int 0, .int 0, .ref a4, .int 0, .int 0, .int 0, .int 0]))]) hD hS hA [0] rfl
  refine va_callv (va_runV (As := []) (rest := []) ⟨hx, hb, hml, hown, hts⟩ (cc_2_X5_clear l dC dI cy H_2.size cb a0 a1 a2 a3 a4) (cwV 0 hts gX5_lay_X5_clear rfl rfl rfl (by decide +kernel) ⟨Nat.le_of_ble_eq_true rfl, Nat.le_of_ble_eq_true rfl⟩) ⟨fun a U g mk q => by obtain ⟨q0, q1, qP, qK, qD, qN, qS⟩ := q; exact ⟨q0, q1, qP, va_K.moved (u := U) (U := U.calling g mk a) (Vm.Alike.refl U.vm) qK, qD, qN.same rfl, SK.moved (u := U) (U := U.calling g mk a) (Vm.Alike.refl U.vm) qS⟩, va_recv hK hPc (ci := 5) (q0 := 0) rfl rfl, fun U hU hW => ⟨rfl, by rw [hU], by rw [hU]; exact hPc, va_K.moved hW.alike hK, hDc.weaken (fun _ _ _ _ => trivial), hN.warm hW, by rw [hU]; exact ((hSK.kept hS.2.1).narrow hFc).moved hW.alike⟩⟩ rfl rfl hl.1 rfl (lv_room (Nat.le_of_ble_eq_true rfl)) dX5_lay_12 ⟨Nat.le_of_ble_eq_true rfl, Nat.le_of_ble_eq_true rfl⟩) hS (fun q _ h => hFc q h) hFc (fun u t H_3 locs ht hvm hw hB hz1 hk1 hS2 => ?_)
  obtain ⟨hP1, hK1, hD1⟩ := hB
  rw [ht] at hP1
  obtain ⟨hP2, hD2⟩ := va_join (wr := []) (w1 := [(a0, .inr (5, [.ref cb, .int 81, .int 0, .ref a1, .int 0, .ref a2, .int 0, .ref a3, .int 0, .int 0, .ref a4, .int 0, .int 0, .int 0, .int 0]))]) hP hD [0] [] rfl rfl (by decide) (by decide) hk1 hFc hP1 hD1
  replace hP : va_P (dC, dI) vwCl [(a0, .inr (5, [.ref cb, .int 81, .int 0, .ref a1, .int 0, .ref a2, .int 0, .ref a3, .int 0, .int 0, .ref a4, .int 0, .int 0, .int 0, .int 0]))] H_3 := hP2
  replace hD : va_D A [(a0, .inr (5, [.ref cb, .int 81, .int 0, .ref a1, .int 0, .ref a2, .int 0, .ref a3, .int 0, .int 0, .ref a4, .int 0, .int 0, .int 0, .int 0]))] := hD2
  replace hS := hS2
  clear hP2 hD2 hS2
  clear hPc hDc hFc hP1 hD1 hK1 hk1 hz1 hvm ht
  refine W.widen (k := 0) (n := 0) (Nat.le_of_ble_eq_true rfl) (Nat.le_of_ble_eq_true rfl) ?_
  exact W.vret hx hb hr (fun t ht hW => ⟨⟨(), rfl, trivial, by rw [ht]; exact hP, va_K.moved hW.alike hK, hD⟩, hS.F ht⟩) hS.2.2 dX5_lay_15

set_option maxHeartbeats 4000000 in
set_option maxRecDepth 100000 in
theorem cc_5_X6_readByte (l : Launch) (dC : Nat → ClassId) (dI : Nat → Nat → Nat) (cy : Nat → ClassId) (sz : Nat) (cb : Nat) (a0 : Nat) (a1 : Nat) (a2 : Nat) (a3 : Nat) (a4 : Nat) (a5 : Nat) (a6 : Nat)  : Met l yX6_readByte wsX6_readByte ({ frames := 0, cells := 0, slots := 0, locals := 0 }) (va_Pc [.ref a0] (fun U => U.heap.size = sz ∧ va_P (dC, dI) vwCl [(a0, .inr (6, [.int 0, .int 0, .ref a1, .int 0, .int 0, .int 0, .int 0, .int 0, .ref a2])), (a1, .inr (5, [.ref cb, .int 81, .int 0, .ref a3, .int 0, .ref a4, .int 0, .ref a5, .int 0, .int 0, .ref a6, .int 0, .int 0, .int 0, .int 0]))] U.heap ∧ va_K (dC, dI) vwCl (TYS cy) U ∧ va_D (fun _ => True) [(a0, .inr (6, [.int 0, .int 0, .ref a1, .int 0, .int 0, .int 0, .int 0, .int 0, .ref a2])), (a1, .inr (5, [.ref cb, .int 81, .int 0, .ref a3, .int 0, .ref a4, .int 0, .ref a5, .int 0, .int 0, .ref a6, .int 0, .int 0, .int 0, .int 0]))] ∧ NK U ∧ SK cb (va_A [(a0, .inr (6, [.int 0, .int 0, .ref a1, .int 0, .int 0, .int 0, .int 0, .int 0, .ref a2])), (a1, .inr (5, [.ref cb, .int 81, .int 0, .ref a3, .int 0, .ref a4, .int 0, .ref a5, .int 0, .int 0, .ref a6, .int 0, .int 0, .int 0, .int 0]))] sz) U U.heap)) (va_Qi (fun (r : Int32) (u : Unit) => r = 82) (fun u t => va_P (dC, dI) vwCl [(a0, .inr (6, [.int 0, .int 0, .ref a1, .int 1, .int 0, .int 0, .int 0, .int 0, .ref a2])), (a1, .inr (5, [.ref cb, .int 81, .int 0, .ref a3, .int 0, .ref a4, .int 0, .ref a5, .int 0, .int 0, .ref a6, .int 0, .int 0, .int 0, .int 0]))] t.heap ∧ va_K (dC, dI) vwCl (TYS cy) t ∧ va_D (va_A [(a0, .inr (6, [.int 0, .int 0, .ref a1, .int 0, .int 0, .int 0, .int 0, .int 0, .ref a2])), (a1, .inr (5, [.ref cb, .int 81, .int 0, .ref a3, .int 0, .ref a4, .int 0, .ref a5, .int 0, .int 0, .ref a6, .int 0, .int 0, .int 0, .int 0]))] sz) [(a0, .inr (6, [.int 0, .int 0, .ref a1, .int 1, .int 0, .int 0, .int 0, .int 0, .ref a2])), (a1, .inr (5, [.ref cb, .int 81, .int 0, .ref a3, .int 0, .ref a4, .int 0, .ref a5, .int 0, .int 0, .ref a6, .int 0, .int 0, .int 0, .int 0]))]) (va_A [(a0, .inr (6, [.int 0, .int 0, .ref a1, .int 0, .int 0, .int 0, .int 0, .int 0, .ref a2])), (a1, .inr (5, [.ref cb, .int 81, .int 0, .ref a3, .int 0, .ref a4, .int 0, .ref a5, .int 0, .int 0, .ref a6, .int 0, .int 0, .int 0, .int 0]))] sz)) 0 0 (va_A [(a0, .inr (6, [.int 0, .int 0, .ref a1, .int 0, .int 0, .int 0, .int 0, .int 0, .ref a2])), (a1, .inr (5, [.ref cb, .int 81, .int 0, .ref a3, .int 0, .ref a4, .int 0, .ref a5, .int 0, .int 0, .ref a6, .int 0, .int 0, .int 0, .int 0]))] sz) := by
  refine Met.ofW (cc := cX6_readByte) (maxL := 1) (ret := (some .int)) (by decide) rfl ?_
  intro p e s m args below meth c s₁ B hml hv
  obtain ⟨rfl, hsz, hP, hK, hD0, hN, hSK⟩ := hv
  have hx := B.exec
  have hb := B.bytes
  have hr := B.returns
  have hts := atoms_spec (ws := wsX6_readByte) B.pre
  have hown : s.vm.findClass RX6 = some m.cls := findClass_of_methodNamed B.named
  have hlocks := B.notSynchronized
  subst hsz
  have hD := hD0.self (sz := s.heap.size)
  generalize hAe : va_A [(a0, .inr (6, [.int 0, .int 0, .ref a1, .int 0, .int 0, .int 0, .int 0, .int 0, .ref a2])), (a1, .inr (5, [.ref cb, .int 81, .int 0, .ref a3, .int 0, .ref a4, .int 0, .ref a5, .int 0, .int 0, .ref a6, .int 0, .int 0, .int 0, .int 0]))] s.heap.size = A at hD hSK ⊢
  have hA : ∀ q : Nat, s.heap.size ≤ q → A q := fun q h => by rw [← hAe]; exact Or.inr h
  have hS : va_S A s.heap s.heap [] := va_S.rf
  have hP : va_P (dC, dI) vwCl [(a0, .inr (6, [.int 0, .int 0, .ref a1, .int 0, .int 0, .int 0, .int 0, .int 0, .ref a2])), (a1, .inr (5, [.ref cb, .int 81, .int 0, .ref a3, .int 0, .ref a4, .int 0, .ref a5, .int 0, .int 0, .ref a6, .int 0, .int 0, .int 0, .int 0]))] s.heap := hP
  have hl := lv_entry ([.ref a0]) (n := 1) (Nat.le_of_ble_eq_true rfl)
  rw [lg_entry_eq]
  generalize (lg_sl ([.ref a0]) ++ List.replicate (1 - (lg_sl ([.ref a0])).length) Slot.unset).toArray = ls at hl ⊢
  replace hl : lv_has ls 1 [(0, .ref a0)] := hl
  refine lv_aload_n hx hb dX6_readByte_0 rfl (lv_at hl 0 rfl) ?_
  refine va_get (D := (dC, dI)) (ci := 6) (v := .int 0) (C := RX6) (T := TX6) (N := 9) hx hb hts iw_X6_readByte_X6 hown hK hP 0 rfl rfl 1 (by decide) (hts _ m_X6_readByte_1) (fun _ h9 => h9) rfl dX6_readByte_1 ?_
  refine lv_if_eq (tgt := 9) hx hb dX6_readByte_4 (by decide) (fun _ => ?_) (fun h => absurd (by decide) h)
  refine lv_aload_n hx hb dX6_readByte_9 rfl (lv_at hl 0 rfl) ?_
  refine va_get (D := (dC, dI)) (ci := 6) (v := .int 0) (C := RX6) (T := TX6) (N := 9) hx hb hts iw_X6_readByte_X6 hown hK hP 0 rfl rfl 3 (by decide) (hts _ m_X6_readByte_2) (fun _ h9 => h9) rfl dX6_readByte_10 ?_
  refine lv_aload_n hx hb dX6_readByte_13 rfl (lv_at hl 0 rfl) ?_
  refine va_get (D := (dC, dI)) (ci := 6) (v := .ref a1) (C := RX6) (T := TX6) (N := 9) hx hb hts iw_X6_readByte_X6 hown hK hP 0 rfl rfl 2 (by decide) (hts _ m_X6_readByte_3) (fun _ h9 => h9) rfl dX6_readByte_14 ?_
  refine va_get (D := (dC, dI)) (ci := 5) (v := .int 81) (C := RX5) (T := TX5) (N := 15) hx hb hts iw_X6_readByte_X5 hown hK hP 1 rfl rfl 1 (by decide) (hts _ m_X6_readByte_4) (fun _ h9 => h9) rfl dX6_readByte_17 ?_
  refine lv_icmp_lt (tgt := 41) hx hb dX6_readByte_20 (by decide) (fun _ => ?_) (fun h => absurd (by decide) h)
  refine lv_aload_n hx hb dX6_readByte_41 rfl (lv_at hl 0 rfl) ?_
  refine va_get (D := (dC, dI)) (ci := 6) (v := .ref a1) (C := RX6) (T := TX6) (N := 9) hx hb hts iw_X6_readByte_X6 hown hK hP 0 rfl rfl 2 (by decide) (hts _ m_X6_readByte_3) (fun _ h9 => h9) rfl dX6_readByte_42 ?_
  refine va_get (D := (dC, dI)) (ci := 5) (v := .ref cb) (C := RX5) (T := TX5) (N := 15) hx hb hts iw_X6_readByte_X5 hown hK hP 1 rfl rfl 0 (by decide) (hts _ m_X6_readByte_6) (fun _ h9 => h9) rfl dX6_readByte_45 ?_
  refine lv_aload_n hx hb dX6_readByte_48 rfl (lv_at hl 0 rfl) ?_
  refine lv_dup hx hb dX6_readByte_49 rfl ?_
  refine va_get (D := (dC, dI)) (ci := 6) (v := .int 0) (C := RX6) (T := TX6) (N := 9) hx hb hts iw_X6_readByte_X6 hown hK hP 0 rfl rfl 3 (by decide) (hts _ m_X6_readByte_2) (fun _ h9 => h9) rfl dX6_readByte_50 ?_
  refine lv_dup_x1 hx hb dX6_readByte_53 rfl rfl ?_
  refine lv_iconst (v := 1) hx hb dX6_readByte_54 (by decide) ?_
  refine lv_iadd hx hb dX6_readByte_55 ?_
  refine lv_topi (fun z_1 ez_1 => ?_)
  obtain rfl : z_1 = 1 := ez_1.trans (by decide)
  clear ez_1
  refine va_put (D := (dC, dI)) (ci := 6) (v := .int 1) (ty := .int) (C := RX6) (T := TX6) (N := 9) hx hb hts iw_X6_readByte_X6 tyX6 tyX6_ok nmX6 hown hK hP hD hS 0 rfl rfl 3 (by decide) (hts _ m_X6_readByte_2) (fun _ h9 => h9) rfl (by decide +kernel) rfl rfl (Nat.le_of_ble_eq_true rfl) dX6_readByte_56 (fun H_2 locs hP2 hD2 hS2 => ?_)
  replace hP : va_P (dC, dI) vwCl [(a0, .inr (6, [.int 0, .int 0, .ref a1, .int 1, .int 0, .int 0, .int 0, .int 0, .ref a2])), (a1, .inr (5, [.ref cb, .int 81, .int 0, .ref a3, .int 0, .ref a4, .int 0, .ref a5, .int 0, .int 0, .ref a6, .int 0, .int 0, .int 0, .int 0]))] H_2 := hP2
  replace hD : va_D A [(a0, .inr (6, [.int 0, .int 0, .ref a1, .int 1, .int 0, .int 0, .int 0, .int 0, .ref a2])), (a1, .inr (5, [.ref cb, .int 81, .int 0, .ref a3, .int 0, .ref a4, .int 0, .ref a5, .int 0, .int 0, .ref a6, .int 0, .int 0, .int 0, .int 0]))] := hD2
  replace hS := hS2
  clear hP2 hD2 hS2
  refine va_tb (v := .int 82) hx hb hSK.2 hS (by unfold vp_in; decide) rfl dX6_readByte_59 ?_
  refine lv_sipush (v := 255) hx hb dX6_readByte_60 (by decide) ?_
  refine lv_iand hx hb dX6_readByte_63 ?_
  refine lv_topi (fun z_3 ez_3 => ?_)
  obtain rfl : z_3 = 82 := ez_3.trans (by decide)
  clear ez_3
  exact W.iret hx hb hr (fun t ht hW => ⟨⟨82, (), rfl, rfl, by rw [ht]; exact hP, va_K.moved hW.alike hK, hD⟩, hS.F ht⟩) hS.2.2 dX6_readByte_64

set_option maxHeartbeats 4000000 in
set_option maxRecDepth 100000 in
theorem cc_6_X6_readByte (l : Launch) (dC : Nat → ClassId) (dI : Nat → Nat → Nat) (cy : Nat → ClassId) (sz : Nat) (cb : Nat) (a0 : Nat) (a1 : Nat) (a2 : Nat) (a3 : Nat) (a4 : Nat) (a5 : Nat) (a6 : Nat)  : Met l yX6_readByte wsX6_readByte ({ frames := 0, cells := 0, slots := 0, locals := 0 }) (va_Pc [.ref a0] (fun U => U.heap.size = sz ∧ va_P (dC, dI) vwCl [(a0, .inr (6, [.int 0, .int 0, .ref a1, .int 1, .int 0, .int 0, .int 0, .int 0, .ref a2])), (a1, .inr (5, [.ref cb, .int 81, .int 0, .ref a3, .int 0, .ref a4, .int 0, .ref a5, .int 0, .int 0, .ref a6, .int 0, .int 0, .int 0, .int 0]))] U.heap ∧ va_K (dC, dI) vwCl (TYS cy) U ∧ va_D (fun _ => True) [(a0, .inr (6, [.int 0, .int 0, .ref a1, .int 1, .int 0, .int 0, .int 0, .int 0, .ref a2])), (a1, .inr (5, [.ref cb, .int 81, .int 0, .ref a3, .int 0, .ref a4, .int 0, .ref a5, .int 0, .int 0, .ref a6, .int 0, .int 0, .int 0, .int 0]))] ∧ NK U ∧ SK cb (va_A [(a0, .inr (6, [.int 0, .int 0, .ref a1, .int 1, .int 0, .int 0, .int 0, .int 0, .ref a2])), (a1, .inr (5, [.ref cb, .int 81, .int 0, .ref a3, .int 0, .ref a4, .int 0, .ref a5, .int 0, .int 0, .ref a6, .int 0, .int 0, .int 0, .int 0]))] sz) U U.heap)) (va_Qi (fun (r : Int32) (u : Unit) => r = 76) (fun u t => va_P (dC, dI) vwCl [(a0, .inr (6, [.int 0, .int 0, .ref a1, .int 2, .int 0, .int 0, .int 0, .int 0, .ref a2])), (a1, .inr (5, [.ref cb, .int 81, .int 0, .ref a3, .int 0, .ref a4, .int 0, .ref a5, .int 0, .int 0, .ref a6, .int 0, .int 0, .int 0, .int 0]))] t.heap ∧ va_K (dC, dI) vwCl (TYS cy) t ∧ va_D (va_A [(a0, .inr (6, [.int 0, .int 0, .ref a1, .int 1, .int 0, .int 0, .int 0, .int 0, .ref a2])), (a1, .inr (5, [.ref cb, .int 81, .int 0, .ref a3, .int 0, .ref a4, .int 0, .ref a5, .int 0, .int 0, .ref a6, .int 0, .int 0, .int 0, .int 0]))] sz) [(a0, .inr (6, [.int 0, .int 0, .ref a1, .int 2, .int 0, .int 0, .int 0, .int 0, .ref a2])), (a1, .inr (5, [.ref cb, .int 81, .int 0, .ref a3, .int 0, .ref a4, .int 0, .ref a5, .int 0, .int 0, .ref a6, .int 0, .int 0, .int 0, .int 0]))]) (va_A [(a0, .inr (6, [.int 0, .int 0, .ref a1, .int 1, .int 0, .int 0, .int 0, .int 0, .ref a2])), (a1, .inr (5, [.ref cb, .int 81, .int 0, .ref a3, .int 0, .ref a4, .int 0, .ref a5, .int 0, .int 0, .ref a6, .int 0, .int 0, .int 0, .int 0]))] sz)) 0 0 (va_A [(a0, .inr (6, [.int 0, .int 0, .ref a1, .int 1, .int 0, .int 0, .int 0, .int 0, .ref a2])), (a1, .inr (5, [.ref cb, .int 81, .int 0, .ref a3, .int 0, .ref a4, .int 0, .ref a5, .int 0, .int 0, .ref a6, .int 0, .int 0, .int 0, .int 0]))] sz) := by
  refine Met.ofW (cc := cX6_readByte) (maxL := 1) (ret := (some .int)) (by decide) rfl ?_
  intro p e s m args below meth c s₁ B hml hv
  obtain ⟨rfl, hsz, hP, hK, hD0, hN, hSK⟩ := hv
  have hx := B.exec
  have hb := B.bytes
  have hr := B.returns
  have hts := atoms_spec (ws := wsX6_readByte) B.pre
  have hown : s.vm.findClass RX6 = some m.cls := findClass_of_methodNamed B.named
  have hlocks := B.notSynchronized
  subst hsz
  have hD := hD0.self (sz := s.heap.size)
  generalize hAe : va_A [(a0, .inr (6, [.int 0, .int 0, .ref a1, .int 1, .int 0, .int 0, .int 0, .int 0, .ref a2])), (a1, .inr (5, [.ref cb, .int 81, .int 0, .ref a3, .int 0, .ref a4, .int 0, .ref a5, .int 0, .int 0, .ref a6, .int 0, .int 0, .int 0, .int 0]))] s.heap.size = A at hD hSK ⊢
  have hA : ∀ q : Nat, s.heap.size ≤ q → A q := fun q h => by rw [← hAe]; exact Or.inr h
  have hS : va_S A s.heap s.heap [] := va_S.rf
  have hP : va_P (dC, dI) vwCl [(a0, .inr (6, [.int 0, .int 0, .ref a1, .int 1, .int 0, .int 0, .int 0, .int 0, .ref a2])), (a1, .inr (5, [.ref cb, .int 81, .int 0, .ref a3, .int 0, .ref a4, .int 0, .ref a5, .int 0, .int 0, .ref a6, .int 0, .int 0, .int 0, .int 0]))] s.heap := hP
  have hl := lv_entry ([.ref a0]) (n := 1) (Nat.le_of_ble_eq_true rfl)
  rw [lg_entry_eq]
  generalize (lg_sl ([.ref a0]) ++ List.replicate (1 - (lg_sl ([.ref a0])).length) Slot.unset).toArray = ls at hl ⊢
  replace hl : lv_has ls 1 [(0, .ref a0)] := hl
  refine lv_aload_n hx hb dX6_readByte_0 rfl (lv_at hl 0 rfl) ?_
  refine va_get (D := (dC, dI)) (ci := 6) (v := .int 0) (C := RX6) (T := TX6) (N := 9) hx hb hts iw_X6_readByte_X6 hown hK hP 0 rfl rfl 1 (by decide) (hts _ m_X6_readByte_1) (fun _ h9 => h9) rfl dX6_readByte_1 ?_
  refine lv_if_eq (tgt := 9) hx hb dX6_readByte_4 (by decide) (fun _ => ?_) (fun h => absurd (by decide) h)
  refine lv_aload_n hx hb dX6_readByte_9 rfl (lv_at hl 0 rfl) ?_
  refine va_get (D := (dC, dI)) (ci := 6) (v := .int 1) (C := RX6) (T := TX6) (N := 9) hx hb hts iw_X6_readByte_X6 hown hK hP 0 rfl rfl 3 (by decide) (hts _ m_X6_readByte_2) (fun _ h9 => h9) rfl dX6_readByte_10 ?_
  refine lv_aload_n hx hb dX6_readByte_13 rfl (lv_at hl 0 rfl) ?_
  refine va_get (D := (dC, dI)) (ci := 6) (v := .ref a1) (C := RX6) (T := TX6) (N := 9) hx hb hts iw_X6_readByte_X6 hown hK hP 0 rfl rfl 2 (by decide) (hts _ m_X6_readByte_3) (fun _ h9 => h9) rfl dX6_readByte_14 ?_
  refine va_get (D := (dC, dI)) (ci := 5) (v := .int 81) (C := RX5) (T := TX5) (N := 15) hx hb hts iw_X6_readByte_X5 hown hK hP 1 rfl rfl 1 (by decide) (hts _ m_X6_readByte_4) (fun _ h9 => h9) rfl dX6_readByte_17 ?_
  refine lv_icmp_lt (tgt := 41) hx hb dX6_readByte_20 (by decide) (fun _ => ?_) (fun h => absurd (by decide) h)
  refine lv_aload_n hx hb dX6_readByte_41 rfl (lv_at hl 0 rfl) ?_
  refine va_get (D := (dC, dI)) (ci := 6) (v := .ref a1) (C := RX6) (T := TX6) (N := 9) hx hb hts iw_X6_readByte_X6 hown hK hP 0 rfl rfl 2 (by decide) (hts _ m_X6_readByte_3) (fun _ h9 => h9) rfl dX6_readByte_42 ?_
  refine va_get (D := (dC, dI)) (ci := 5) (v := .ref cb) (C := RX5) (T := TX5) (N := 15) hx hb hts iw_X6_readByte_X5 hown hK hP 1 rfl rfl 0 (by decide) (hts _ m_X6_readByte_6) (fun _ h9 => h9) rfl dX6_readByte_45 ?_
  refine lv_aload_n hx hb dX6_readByte_48 rfl (lv_at hl 0 rfl) ?_
  refine lv_dup hx hb dX6_readByte_49 rfl ?_
  refine va_get (D := (dC, dI)) (ci := 6) (v := .int 1) (C := RX6) (T := TX6) (N := 9) hx hb hts iw_X6_readByte_X6 hown hK hP 0 rfl rfl 3 (by decide) (hts _ m_X6_readByte_2) (fun _ h9 => h9) rfl dX6_readByte_50 ?_
  refine lv_dup_x1 hx hb dX6_readByte_53 rfl rfl ?_
  refine lv_iconst (v := 1) hx hb dX6_readByte_54 (by decide) ?_
  refine lv_iadd hx hb dX6_readByte_55 ?_
  refine lv_topi (fun z_1 ez_1 => ?_)
  obtain rfl : z_1 = 2 := ez_1.trans (by decide)
  clear ez_1
  refine va_put (D := (dC, dI)) (ci := 6) (v := .int 2) (ty := .int) (C := RX6) (T := TX6) (N := 9) hx hb hts iw_X6_readByte_X6 tyX6 tyX6_ok nmX6 hown hK hP hD hS 0 rfl rfl 3 (by decide) (hts _ m_X6_readByte_2) (fun _ h9 => h9) rfl (by decide +kernel) rfl rfl (Nat.le_of_ble_eq_true rfl) dX6_readByte_56 (fun H_2 locs hP2 hD2 hS2 => ?_)
  replace hP : va_P (dC, dI) vwCl [(a0, .inr (6, [.int 0, .int 0, .ref a1, .int 2, .int 0, .int 0, .int 0, .int 0, .ref a2])), (a1, .inr (5, [.ref cb, .int 81, .int 0, .ref a3, .int 0, .ref a4, .int 0, .ref a5, .int 0, .int 0, .ref a6, .int 0, .int 0, .int 0, .int 0]))] H_2 := hP2
  replace hD : va_D A [(a0, .inr (6, [.int 0, .int 0, .ref a1, .int 2, .int 0, .int 0, .int 0, .int 0, .ref a2])), (a1, .inr (5, [.ref cb, .int 81, .int 0, .ref a3, .int 0, .ref a4, .int 0, .ref a5, .int 0, .int 0, .ref a6, .int 0, .int 0, .int 0, .int 0]))] := hD2
  replace hS := hS2
  clear hP2 hD2 hS2
  refine va_tb (v := .int 76) hx hb hSK.2 hS (by unfold vp_in; decide) rfl dX6_readByte_59 ?_
  refine lv_sipush (v := 255) hx hb dX6_readByte_60 (by decide) ?_
  refine lv_iand hx hb dX6_readByte_63 ?_
  refine lv_topi (fun z_3 ez_3 => ?_)
  obtain rfl : z_3 = 76 := ez_3.trans (by decide)
  clear ez_3
  exact W.iret hx hb hr (fun t ht hW => ⟨⟨76, (), rfl, rfl, by rw [ht]; exact hP, va_K.moved hW.alike hK, hD⟩, hS.F ht⟩) hS.2.2 dX6_readByte_64

set_option maxHeartbeats 4000000 in
set_option maxRecDepth 100000 in
theorem cc_7_X6_readByte (l : Launch) (dC : Nat → ClassId) (dI : Nat → Nat → Nat) (cy : Nat → ClassId) (sz : Nat) (cb : Nat) (a0 : Nat) (a1 : Nat) (a2 : Nat) (a3 : Nat) (a4 : Nat) (a5 : Nat) (a6 : Nat)  : Met l yX6_readByte wsX6_readByte ({ frames := 0, cells := 0, slots := 0, locals := 0 }) (va_Pc [.ref a0] (fun U => U.heap.size = sz ∧ va_P (dC, dI) vwCl [(a0, .inr (6, [.int 0, .int 0, .ref a1, .int 2, .int 0, .int 0, .int 0, .int 0, .ref a2])), (a1, .inr (5, [.ref cb, .int 81, .int 0, .ref a3, .int 0, .ref a4, .int 0, .ref a5, .int 0, .int 0, .ref a6, .int 0, .int 0, .int 0, .int 0]))] U.heap ∧ va_K (dC, dI) vwCl (TYS cy) U ∧ va_D (fun _ => True) [(a0, .inr (6, [.int 0, .int 0, .ref a1, .int 2, .int 0, .int 0, .int 0, .int 0, .ref a2])), (a1, .inr (5, [.ref cb, .int 81, .int 0, .ref a3, .int 0, .ref a4, .int 0, .ref a5, .int 0, .int 0, .ref a6, .int 0, .int 0, .int 0, .int 0]))] ∧ NK U ∧ SK cb (va_A [(a0, .inr (6, [.int 0, .int 0, .ref a1, .int 2, .int 0, .int 0, .int 0, .int 0, .ref a2])), (a1, .inr (5, [.ref cb, .int 81, .int 0, .ref a3, .int 0, .ref a4, .int 0, .ref a5, .int 0, .int 0, .ref a6, .int 0, .int 0, .int 0, .int 0]))] sz) U U.heap)) (va_Qi (fun (r : Int32) (u : Unit) => r = 77) (fun u t => va_P (dC, dI) vwCl [(a0, .inr (6, [.int 0, .int 0, .ref a1, .int 3, .int 0, .int 0, .int 0, .int 0, .ref a2])), (a1, .inr (5, [.ref cb, .int 81, .int 0, .ref a3, .int 0, .ref a4, .int 0, .ref a5, .int 0, .int 0, .ref a6, .int 0, .int 0, .int 0, .int 0]))] t.heap ∧ va_K (dC, dI) vwCl (TYS cy) t ∧ va_D (va_A [(a0, .inr (6, [.int 0, .int 0, .ref a1, .int 2, .int 0, .int 0, .int 0, .int 0, .ref a2])), (a1, .inr (5, [.ref cb, .int 81, .int 0, .ref a3, .int 0, .ref a4, .int 0, .ref a5, .int 0, .int 0, .ref a6, .int 0, .int 0, .int 0, .int 0]))] sz) [(a0, .inr (6, [.int 0, .int 0, .ref a1, .int 3, .int 0, .int 0, .int 0, .int 0, .ref a2])), (a1, .inr (5, [.ref cb, .int 81, .int 0, .ref a3, .int 0, .ref a4, .int 0, .ref a5, .int 0, .int 0, .ref a6, .int 0, .int 0, .int 0, .int 0]))]) (va_A [(a0, .inr (6, [.int 0, .int 0, .ref a1, .int 2, .int 0, .int 0, .int 0, .int 0, .ref a2])), (a1, .inr (5, [.ref cb, .int 81, .int 0, .ref a3, .int 0, .ref a4, .int 0, .ref a5, .int 0, .int 0, .ref a6, .int 0, .int 0, .int 0, .int 0]))] sz)) 0 0 (va_A [(a0, .inr (6, [.int 0, .int 0, .ref a1, .int 2, .int 0, .int 0, .int 0, .int 0, .ref a2])), (a1, .inr (5, [.ref cb, .int 81, .int 0, .ref a3, .int 0, .ref a4, .int 0, .ref a5, .int 0, .int 0, .ref a6, .int 0, .int 0, .int 0, .int 0]))] sz) := by
  refine Met.ofW (cc := cX6_readByte) (maxL := 1) (ret := (some .int)) (by decide) rfl ?_
  intro p e s m args below meth c s₁ B hml hv
  obtain ⟨rfl, hsz, hP, hK, hD0, hN, hSK⟩ := hv
  have hx := B.exec
  have hb := B.bytes
  have hr := B.returns
  have hts := atoms_spec (ws := wsX6_readByte) B.pre
  have hown : s.vm.findClass RX6 = some m.cls := findClass_of_methodNamed B.named
  have hlocks := B.notSynchronized
  subst hsz
  have hD := hD0.self (sz := s.heap.size)
  generalize hAe : va_A [(a0, .inr (6, [.int 0, .int 0, .ref a1, .int 2, .int 0, .int 0, .int 0, .int 0, .ref a2])), (a1, .inr (5, [.ref cb, .int 81, .int 0, .ref a3, .int 0, .ref a4, .int 0, .ref a5, .int 0, .int 0, .ref a6, .int 0, .int 0, .int 0, .int 0]))] s.heap.size = A at hD hSK ⊢
  have hA : ∀ q : Nat, s.heap.size ≤ q → A q := fun q h => by rw [← hAe]; exact Or.inr h
  have hS : va_S A s.heap s.heap [] := va_S.rf
  have hP : va_P (dC, dI) vwCl [(a0, .inr (6, [.int 0, .int 0, .ref a1, .int 2, .int 0, .int 0, .int 0, .int 0, .ref a2])), (a1, .inr (5, [.ref cb, .int 81, .int 0, .ref a3, .int 0, .ref a4, .int 0, .ref a5, .int 0, .int 0, .ref a6, .int 0, .int 0, .int 0, .int 0]))] s.heap := hP
  have hl := lv_entry ([.ref a0]) (n := 1) (Nat.le_of_ble_eq_true rfl)
  rw [lg_entry_eq]
  generalize (lg_sl ([.ref a0]) ++ List.replicate (1 - (lg_sl ([.ref a0])).length) Slot.unset).toArray = ls at hl ⊢
  replace hl : lv_has ls 1 [(0, .ref a0)] := hl
  refine lv_aload_n hx hb dX6_readByte_0 rfl (lv_at hl 0 rfl) ?_
  refine va_get (D := (dC, dI)) (ci := 6) (v := .int 0) (C := RX6) (T := TX6) (N := 9) hx hb hts iw_X6_readByte_X6 hown hK hP 0 rfl rfl 1 (by decide) (hts _ m_X6_readByte_1) (fun _ h9 => h9) rfl dX6_readByte_1 ?_
  refine lv_if_eq (tgt := 9) hx hb dX6_readByte_4 (by decide) (fun _ => ?_) (fun h => absurd (by decide) h)
  refine lv_aload_n hx hb dX6_readByte_9 rfl (lv_at hl 0 rfl) ?_
  refine va_get (D := (dC, dI)) (ci := 6) (v := .int 2) (C := RX6) (T := TX6) (N := 9) hx hb hts iw_X6_readByte_X6 hown hK hP 0 rfl rfl 3 (by decide) (hts _ m_X6_readByte_2) (fun _ h9 => h9) rfl dX6_readByte_10 ?_
  refine lv_aload_n hx hb dX6_readByte_13 rfl (lv_at hl 0 rfl) ?_
  refine va_get (D := (dC, dI)) (ci := 6) (v := .ref a1) (C := RX6) (T := TX6) (N := 9) hx hb hts iw_X6_readByte_X6 hown hK hP 0 rfl rfl 2 (by decide) (hts _ m_X6_readByte_3) (fun _ h9 => h9) rfl dX6_readByte_14 ?_
  refine va_get (D := (dC, dI)) (ci := 5) (v := .int 81) (C := RX5) (T := TX5) (N := 15) hx hb hts iw_X6_readByte_X5 hown hK hP 1 rfl rfl 1 (by decide) (hts _ m_X6_readByte_4) (fun _ h9 => h9) rfl dX6_readByte_17 ?_
  refine lv_icmp_lt (tgt := 41) hx hb dX6_readByte_20 (by decide) (fun _ => ?_) (fun h => absurd (by decide) h)
  refine lv_aload_n hx hb dX6_readByte_41 rfl (lv_at hl 0 rfl) ?_
  refine va_get (D := (dC, dI)) (ci := 6) (v := .ref a1) (C := RX6) (T := TX6) (N := 9) hx hb hts iw_X6_readByte_X6 hown hK hP 0 rfl rfl 2 (by decide) (hts _ m_X6_readByte_3) (fun _ h9 => h9) rfl dX6_readByte_42 ?_
  refine va_get (D := (dC, dI)) (ci := 5) (v := .ref cb) (C := RX5) (T := TX5) (N := 15) hx hb hts iw_X6_readByte_X5 hown hK hP 1 rfl rfl 0 (by decide) (hts _ m_X6_readByte_6) (fun _ h9 => h9) rfl dX6_readByte_45 ?_
  refine lv_aload_n hx hb dX6_readByte_48 rfl (lv_at hl 0 rfl) ?_
  refine lv_dup hx hb dX6_readByte_49 rfl ?_
  refine va_get (D := (dC, dI)) (ci := 6) (v := .int 2) (C := RX6) (T := TX6) (N := 9) hx hb hts iw_X6_readByte_X6 hown hK hP 0 rfl rfl 3 (by decide) (hts _ m_X6_readByte_2) (fun _ h9 => h9) rfl dX6_readByte_50 ?_
  refine lv_dup_x1 hx hb dX6_readByte_53 rfl rfl ?_
  refine lv_iconst (v := 1) hx hb dX6_readByte_54 (by decide) ?_
  refine lv_iadd hx hb dX6_readByte_55 ?_
  refine lv_topi (fun z_1 ez_1 => ?_)
  obtain rfl : z_1 = 3 := ez_1.trans (by decide)
  clear ez_1
  refine va_put (D := (dC, dI)) (ci := 6) (v := .int 3) (ty := .int) (C := RX6) (T := TX6) (N := 9) hx hb hts iw_X6_readByte_X6 tyX6 tyX6_ok nmX6 hown hK hP hD hS 0 rfl rfl 3 (by decide) (hts _ m_X6_readByte_2) (fun _ h9 => h9) rfl (by decide +kernel) rfl rfl (Nat.le_of_ble_eq_true rfl) dX6_readByte_56 (fun H_2 locs hP2 hD2 hS2 => ?_)
  replace hP : va_P (dC, dI) vwCl [(a0, .inr (6, [.int 0, .int 0, .ref a1, .int 3, .int 0, .int 0, .int 0, .int 0, .ref a2])), (a1, .inr (5, [.ref cb, .int 81, .int 0, .ref a3, .int 0, .ref a4, .int 0, .ref a5, .int 0, .int 0, .ref a6, .int 0, .int 0, .int 0, .int 0]))] H_2 := hP2
  replace hD : va_D A [(a0, .inr (6, [.int 0, .int 0, .ref a1, .int 3, .int 0, .int 0, .int 0, .int 0, .ref a2])), (a1, .inr (5, [.ref cb, .int 81, .int 0, .ref a3, .int 0, .ref a4, .int 0, .ref a5, .int 0, .int 0, .ref a6, .int 0, .int 0, .int 0, .int 0]))] := hD2
  replace hS := hS2
  clear hP2 hD2 hS2
  refine va_tb (v := .int 77) hx hb hSK.2 hS (by unfold vp_in; decide) rfl dX6_readByte_59 ?_
  refine lv_sipush (v := 255) hx hb dX6_readByte_60 (by decide) ?_
  refine lv_iand hx hb dX6_readByte_63 ?_
  refine lv_topi (fun z_3 ez_3 => ?_)
  obtain rfl : z_3 = 77 := ez_3.trans (by decide)
  clear ez_3
  exact W.iret hx hb hr (fun t ht hW => ⟨⟨77, (), rfl, rfl, by rw [ht]; exact hP, va_K.moved hW.alike hK, hD⟩, hS.F ht⟩) hS.2.2 dX6_readByte_64

set_option maxHeartbeats 4000000 in
set_option maxRecDepth 100000 in
theorem cc_8_X6_readByte (l : Launch) (dC : Nat → ClassId) (dI : Nat → Nat → Nat) (cy : Nat → ClassId) (sz : Nat) (cb : Nat) (a0 : Nat) (a1 : Nat) (a2 : Nat) (a3 : Nat) (a4 : Nat) (a5 : Nat) (a6 : Nat)  : Met l yX6_readByte wsX6_readByte ({ frames := 0, cells := 0, slots := 0, locals := 0 }) (va_Pc [.ref a0] (fun U => U.heap.size = sz ∧ va_P (dC, dI) vwCl [(a0, .inr (6, [.int 0, .int 0, .ref a1, .int 3, .int 0, .int 0, .int 0, .int 0, .ref a2])), (a1, .inr (5, [.ref cb, .int 81, .int 0, .ref a3, .int 0, .ref a4, .int 0, .ref a5, .int 0, .int 0, .ref a6, .int 0, .int 0, .int 0, .int 0]))] U.heap ∧ va_K (dC, dI) vwCl (TYS cy) U ∧ va_D (fun _ => True) [(a0, .inr (6, [.int 0, .int 0, .ref a1, .int 3, .int 0, .int 0, .int 0, .int 0, .ref a2])), (a1, .inr (5, [.ref cb, .int 81, .int 0, .ref a3, .int 0, .ref a4, .int 0, .ref a5, .int 0, .int 0, .ref a6, .int 0, .int 0, .int 0, .int 0]))] ∧ NK U ∧ SK cb (va_A [(a0, .inr (6, [.int 0, .int 0, .ref a1, .int 3, .int 0, .int 0, .int 0, .int 0, .ref a2])), (a1, .inr (5, [.ref cb, .int 81, .int 0, .ref a3, .int 0, .ref a4, .int 0, .ref a5, .int 0, .int 0, .ref a6, .int 0, .int 0, .int 0, .int 0]))] sz) U U.heap)) (va_Qi (fun (r : Int32) (u : Unit) => r = 49) (fun u t => va_P (dC, dI) vwCl [(a0, .inr (6, [.int 0, .int 0, .ref a1, .int 4, .int 0, .int 0, .int 0, .int 0, .ref a2])), (a1, .inr (5, [.ref cb, .int 81, .int 0, .ref a3, .int 0, .ref a4, .int 0, .ref a5, .int 0, .int 0, .ref a6, .int 0, .int 0, .int 0, .int 0]))] t.heap ∧ va_K (dC, dI) vwCl (TYS cy) t ∧ va_D (va_A [(a0, .inr (6, [.int 0, .int 0, .ref a1, .int 3, .int 0, .int 0, .int 0, .int 0, .ref a2])), (a1, .inr (5, [.ref cb, .int 81, .int 0, .ref a3, .int 0, .ref a4, .int 0, .ref a5, .int 0, .int 0, .ref a6, .int 0, .int 0, .int 0, .int 0]))] sz) [(a0, .inr (6, [.int 0, .int 0, .ref a1, .int 4, .int 0, .int 0, .int 0, .int 0, .ref a2])), (a1, .inr (5, [.ref cb, .int 81, .int 0, .ref a3, .int 0, .ref a4, .int 0, .ref a5, .int 0, .int 0, .ref a6, .int 0, .int 0, .int 0, .int 0]))]) (va_A [(a0, .inr (6, [.int 0, .int 0, .ref a1, .int 3, .int 0, .int 0, .int 0, .int 0, .ref a2])), (a1, .inr (5, [.ref cb, .int 81, .int 0, .ref a3, .int 0, .ref a4, .int 0, .ref a5, .int 0, .int 0, .ref a6, .int 0, .int 0, .int 0, .int 0]))] sz)) 0 0 (va_A [(a0, .inr (6, [.int 0, .int 0, .ref a1, .int 3, .int 0, .int 0, .int 0, .int 0, .ref a2])), (a1, .inr (5, [.ref cb, .int 81, .int 0, .ref a3, .int 0, .ref a4, .int 0, .ref a5, .int 0, .int 0, .ref a6, .int 0, .int 0, .int 0, .int 0]))] sz) := by
  refine Met.ofW (cc := cX6_readByte) (maxL := 1) (ret := (some .int)) (by decide) rfl ?_
  intro p e s m args below meth c s₁ B hml hv
  obtain ⟨rfl, hsz, hP, hK, hD0, hN, hSK⟩ := hv
  have hx := B.exec
  have hb := B.bytes
  have hr := B.returns
  have hts := atoms_spec (ws := wsX6_readByte) B.pre
  have hown : s.vm.findClass RX6 = some m.cls := findClass_of_methodNamed B.named
  have hlocks := B.notSynchronized
  subst hsz
  have hD := hD0.self (sz := s.heap.size)
  generalize hAe : va_A [(a0, .inr (6, [.int 0, .int 0, .ref a1, .int 3, .int 0, .int 0, .int 0, .int 0, .ref a2])), (a1, .inr (5, [.ref cb, .int 81, .int 0, .ref a3, .int 0, .ref a4, .int 0, .ref a5, .int 0, .int 0, .ref a6, .int 0, .int 0, .int 0, .int 0]))] s.heap.size = A at hD hSK ⊢
  have hA : ∀ q : Nat, s.heap.size ≤ q → A q := fun q h => by rw [← hAe]; exact Or.inr h
  have hS : va_S A s.heap s.heap [] := va_S.rf
  have hP : va_P (dC, dI) vwCl [(a0, .inr (6, [.int 0, .int 0, .ref a1, .int 3, .int 0, .int 0, .int 0, .int 0, .ref a2])), (a1, .inr (5, [.ref cb, .int 81, .int 0, .ref a3, .int 0, .ref a4, .int 0, .ref a5, .int 0, .int 0, .ref a6, .int 0, .int 0, .int 0, .int 0]))] s.heap := hP
  have hl := lv_entry ([.ref a0]) (n := 1) (Nat.le_of_ble_eq_true rfl)
  rw [lg_entry_eq]
  generalize (lg_sl ([.ref a0]) ++ List.replicate (1 - (lg_sl ([.ref a0])).length) Slot.unset).toArray = ls at hl ⊢
  replace hl : lv_has ls 1 [(0, .ref a0)] := hl
  refine lv_aload_n hx hb dX6_readByte_0 rfl (lv_at hl 0 rfl) ?_
  refine va_get (D := (dC, dI)) (ci := 6) (v := .int 0) (C := RX6) (T := TX6) (N := 9) hx hb hts iw_X6_readByte_X6 hown hK hP 0 rfl rfl 1 (by decide) (hts _ m_X6_readByte_1) (fun _ h9 => h9) rfl dX6_readByte_1 ?_
  refine lv_if_eq (tgt := 9) hx hb dX6_readByte_4 (by decide) (fun _ => ?_) (fun h => absurd (by decide) h)
  refine lv_aload_n hx hb dX6_readByte_9 rfl (lv_at hl 0 rfl) ?_
  refine va_get (D := (dC, dI)) (ci := 6) (v := .int 3) (C := RX6) (T := TX6) (N := 9) hx hb hts iw_X6_readByte_X6 hown hK hP 0 rfl rfl 3 (by decide) (hts _ m_X6_readByte_2) (fun _ h9 => h9) rfl dX6_readByte_10 ?_
  refine lv_aload_n hx hb dX6_readByte_13 rfl (lv_at hl 0 rfl) ?_
  refine va_get (D := (dC, dI)) (ci := 6) (v := .ref a1) (C := RX6) (T := TX6) (N := 9) hx hb hts iw_X6_readByte_X6 hown hK hP 0 rfl rfl 2 (by decide) (hts _ m_X6_readByte_3) (fun _ h9 => h9) rfl dX6_readByte_14 ?_
  refine va_get (D := (dC, dI)) (ci := 5) (v := .int 81) (C := RX5) (T := TX5) (N := 15) hx hb hts iw_X6_readByte_X5 hown hK hP 1 rfl rfl 1 (by decide) (hts _ m_X6_readByte_4) (fun _ h9 => h9) rfl dX6_readByte_17 ?_
  refine lv_icmp_lt (tgt := 41) hx hb dX6_readByte_20 (by decide) (fun _ => ?_) (fun h => absurd (by decide) h)
  refine lv_aload_n hx hb dX6_readByte_41 rfl (lv_at hl 0 rfl) ?_
  refine va_get (D := (dC, dI)) (ci := 6) (v := .ref a1) (C := RX6) (T := TX6) (N := 9) hx hb hts iw_X6_readByte_X6 hown hK hP 0 rfl rfl 2 (by decide) (hts _ m_X6_readByte_3) (fun _ h9 => h9) rfl dX6_readByte_42 ?_
  refine va_get (D := (dC, dI)) (ci := 5) (v := .ref cb) (C := RX5) (T := TX5) (N := 15) hx hb hts iw_X6_readByte_X5 hown hK hP 1 rfl rfl 0 (by decide) (hts _ m_X6_readByte_6) (fun _ h9 => h9) rfl dX6_readByte_45 ?_
  refine lv_aload_n hx hb dX6_readByte_48 rfl (lv_at hl 0 rfl) ?_
  refine lv_dup hx hb dX6_readByte_49 rfl ?_
  refine va_get (D := (dC, dI)) (ci := 6) (v := .int 3) (C := RX6) (T := TX6) (N := 9) hx hb hts iw_X6_readByte_X6 hown hK hP 0 rfl rfl 3 (by decide) (hts _ m_X6_readByte_2) (fun _ h9 => h9) rfl dX6_readByte_50 ?_
  refine lv_dup_x1 hx hb dX6_readByte_53 rfl rfl ?_
  refine lv_iconst (v := 1) hx hb dX6_readByte_54 (by decide) ?_
  refine lv_iadd hx hb dX6_readByte_55 ?_
  refine lv_topi (fun z_1 ez_1 => ?_)
  obtain rfl : z_1 = 4 := ez_1.trans (by decide)
  clear ez_1
  refine va_put (D := (dC, dI)) (ci := 6) (v := .int 4) (ty := .int) (C := RX6) (T := TX6) (N := 9) hx hb hts iw_X6_readByte_X6 tyX6 tyX6_ok nmX6 hown hK hP hD hS 0 rfl rfl 3 (by decide) (hts _ m_X6_readByte_2) (fun _ h9 => h9) rfl (by decide +kernel) rfl rfl (Nat.le_of_ble_eq_true rfl) dX6_readByte_56 (fun H_2 locs hP2 hD2 hS2 => ?_)
  replace hP : va_P (dC, dI) vwCl [(a0, .inr (6, [.int 0, .int 0, .ref a1, .int 4, .int 0, .int 0, .int 0, .int 0, .ref a2])), (a1, .inr (5, [.ref cb, .int 81, .int 0, .ref a3, .int 0, .ref a4, .int 0, .ref a5, .int 0, .int 0, .ref a6, .int 0, .int 0, .int 0, .int 0]))] H_2 := hP2
  replace hD : va_D A [(a0, .inr (6, [.int 0, .int 0, .ref a1, .int 4, .int 0, .int 0, .int 0, .int 0, .ref a2])), (a1, .inr (5, [.ref cb, .int 81, .int 0, .ref a3, .int 0, .ref a4, .int 0, .ref a5, .int 0, .int 0, .ref a6, .int 0, .int 0, .int 0, .int 0]))] := hD2
  replace hS := hS2
  clear hP2 hD2 hS2
  refine va_tb (v := .int 49) hx hb hSK.2 hS (by unfold vp_in; decide) rfl dX6_readByte_59 ?_
  refine lv_sipush (v := 255) hx hb dX6_readByte_60 (by decide) ?_
  refine lv_iand hx hb dX6_readByte_63 ?_
  refine lv_topi (fun z_3 ez_3 => ?_)
  obtain rfl : z_3 = 49 := ez_3.trans (by decide)
  clear ez_3
  exact W.iret hx hb hr (fun t ht hW => ⟨⟨49, (), rfl, rfl, by rw [ht]; exact hP, va_K.moved hW.alike hK, hD⟩, hS.F ht⟩) hS.2.2 dX6_readByte_64

set_option maxHeartbeats 4000000 in
set_option maxRecDepth 100000 in
theorem cc_10_X6_readByte (l : Launch) (dC : Nat → ClassId) (dI : Nat → Nat → Nat) (cy : Nat → ClassId) (sz : Nat) (cb : Nat) (a0 : Nat) (a1 : Nat) (a2 : Nat) (a3 : Nat) (a4 : Nat) (a5 : Nat) (a6 : Nat)  : Met l yX6_readByte wsX6_readByte ({ frames := 0, cells := 0, slots := 0, locals := 0 }) (va_Pc [.ref a0] (fun U => U.heap.size = sz ∧ va_P (dC, dI) vwCl [(a0, .inr (6, [.int 0, .int 0, .ref a1, .int 4, .int 0, .int 0, .int 0, .int 0, .ref a2])), (a1, .inr (5, [.ref cb, .int 81, .int 0, .ref a3, .int 0, .ref a4, .int 0, .ref a5, .int 0, .int 0, .ref a6, .int 0, .int 0, .int 0, .int 0]))] U.heap ∧ va_K (dC, dI) vwCl (TYS cy) U ∧ va_D (fun _ => True) [(a0, .inr (6, [.int 0, .int 0, .ref a1, .int 4, .int 0, .int 0, .int 0, .int 0, .ref a2])), (a1, .inr (5, [.ref cb, .int 81, .int 0, .ref a3, .int 0, .ref a4, .int 0, .ref a5, .int 0, .int 0, .ref a6, .int 0, .int 0, .int 0, .int 0]))] ∧ NK U ∧ SK cb (va_A [(a0, .inr (6, [.int 0, .int 0, .ref a1, .int 4, .int 0, .int 0, .int 0, .int 0, .ref a2])), (a1, .inr (5, [.ref cb, .int 81, .int 0, .ref a3, .int 0, .ref a4, .int 0, .ref a5, .int 0, .int 0, .ref a6, .int 0, .int 0, .int 0, .int 0]))] sz) U U.heap)) (va_Qi (fun (r : Int32) (u : Unit) => r = 0) (fun u t => va_P (dC, dI) vwCl [(a0, .inr (6, [.int 0, .int 0, .ref a1, .int 5, .int 0, .int 0, .int 0, .int 0, .ref a2])), (a1, .inr (5, [.ref cb, .int 81, .int 0, .ref a3, .int 0, .ref a4, .int 0, .ref a5, .int 0, .int 0, .ref a6, .int 0, .int 0, .int 0, .int 0]))] t.heap ∧ va_K (dC, dI) vwCl (TYS cy) t ∧ va_D (va_A [(a0, .inr (6, [.int 0, .int 0, .ref a1, .int 4, .int 0, .int 0, .int 0, .int 0, .ref a2])), (a1, .inr (5, [.ref cb, .int 81, .int 0, .ref a3, .int 0, .ref a4, .int 0, .ref a5, .int 0, .int 0, .ref a6, .int 0, .int 0, .int 0, .int 0]))] sz) [(a0, .inr (6, [.int 0, .int 0, .ref a1, .int 5, .int 0, .int 0, .int 0, .int 0, .ref a2])), (a1, .inr (5, [.ref cb, .int 81, .int 0, .ref a3, .int 0, .ref a4, .int 0, .ref a5, .int 0, .int 0, .ref a6, .int 0, .int 0, .int 0, .int 0]))]) (va_A [(a0, .inr (6, [.int 0, .int 0, .ref a1, .int 4, .int 0, .int 0, .int 0, .int 0, .ref a2])), (a1, .inr (5, [.ref cb, .int 81, .int 0, .ref a3, .int 0, .ref a4, .int 0, .ref a5, .int 0, .int 0, .ref a6, .int 0, .int 0, .int 0, .int 0]))] sz)) 0 0 (va_A [(a0, .inr (6, [.int 0, .int 0, .ref a1, .int 4, .int 0, .int 0, .int 0, .int 0, .ref a2])), (a1, .inr (5, [.ref cb, .int 81, .int 0, .ref a3, .int 0, .ref a4, .int 0, .ref a5, .int 0, .int 0, .ref a6, .int 0, .int 0, .int 0, .int 0]))] sz) := by
  refine Met.ofW (cc := cX6_readByte) (maxL := 1) (ret := (some .int)) (by decide) rfl ?_
  intro p e s m args below meth c s₁ B hml hv
  obtain ⟨rfl, hsz, hP, hK, hD0, hN, hSK⟩ := hv
  have hx := B.exec
  have hb := B.bytes
  have hr := B.returns
  have hts := atoms_spec (ws := wsX6_readByte) B.pre
  have hown : s.vm.findClass RX6 = some m.cls := findClass_of_methodNamed B.named
  have hlocks := B.notSynchronized
  subst hsz
  have hD := hD0.self (sz := s.heap.size)
  generalize hAe : va_A [(a0, .inr (6, [.int 0, .int 0, .ref a1, .int 4, .int 0, .int 0, .int 0, .int 0, .ref a2])), (a1, .inr (5, [.ref cb, .int 81, .int 0, .ref a3, .int 0, .ref a4, .int 0, .ref a5, .int 0, .int 0, .ref a6, .int 0, .int 0, .int 0, .int 0]))] s.heap.size = A at hD hSK ⊢
  have hA : ∀ q : Nat, s.heap.size ≤ q → A q := fun q h => by rw [← hAe]; exact Or.inr h
  have hS : va_S A s.heap s.heap [] := va_S.rf
  have hP : va_P (dC, dI) vwCl [(a0, .inr (6, [.int 0, .int 0, .ref a1, .int 4, .int 0, .int 0, .int 0, .int 0, .ref a2])), (a1, .inr (5, [.ref cb, .int 81, .int 0, .ref a3, .int 0, .ref a4, .int 0, .ref a5, .int 0, .int 0, .ref a6, .int 0, .int 0, .int 0, .int 0]))] s.heap := hP
  have hl := lv_entry ([.ref a0]) (n := 1) (Nat.le_of_ble_eq_true rfl)
  rw [lg_entry_eq]
  generalize (lg_sl ([.ref a0]) ++ List.replicate (1 - (lg_sl ([.ref a0])).length) Slot.unset).toArray = ls at hl ⊢
  replace hl : lv_has ls 1 [(0, .ref a0)] := hl
  refine lv_aload_n hx hb dX6_readByte_0 rfl (lv_at hl 0 rfl) ?_
  refine va_get (D := (dC, dI)) (ci := 6) (v := .int 0) (C := RX6) (T := TX6) (N := 9) hx hb hts iw_X6_readByte_X6 hown hK hP 0 rfl rfl 1 (by decide) (hts _ m_X6_readByte_1) (fun _ h9 => h9) rfl dX6_readByte_1 ?_
  refine lv_if_eq (tgt := 9) hx hb dX6_readByte_4 (by decide) (fun _ => ?_) (fun h => absurd (by decide) h)
  refine lv_aload_n hx hb dX6_readByte_9 rfl (lv_at hl 0 rfl) ?_
  refine va_get (D := (dC, dI)) (ci := 6) (v := .int 4) (C := RX6) (T := TX6) (N := 9) hx hb hts iw_X6_readByte_X6 hown hK hP 0 rfl rfl 3 (by decide) (hts _ m_X6_readByte_2) (fun _ h9 => h9) rfl dX6_readByte_10 ?_
  refine lv_aload_n hx hb dX6_readByte_13 rfl (lv_at hl 0 rfl) ?_
  refine va_get (D := (dC, dI)) (ci := 6) (v := .ref a1) (C := RX6) (T := TX6) (N := 9) hx hb hts iw_X6_readByte_X6 hown hK hP 0 rfl rfl 2 (by decide) (hts _ m_X6_readByte_3) (fun _ h9 => h9) rfl dX6_readByte_14 ?_
  refine va_get (D := (dC, dI)) (ci := 5) (v := .int 81) (C := RX5) (T := TX5) (N := 15) hx hb hts iw_X6_readByte_X5 hown hK hP 1 rfl rfl 1 (by decide) (hts _ m_X6_readByte_4) (fun _ h9 => h9) rfl dX6_readByte_17 ?_
  refine lv_icmp_lt (tgt := 41) hx hb dX6_readByte_20 (by decide) (fun _ => ?_) (fun h => absurd (by decide) h)
  refine lv_aload_n hx hb dX6_readByte_41 rfl (lv_at hl 0 rfl) ?_
  refine va_get (D := (dC, dI)) (ci := 6) (v := .ref a1) (C := RX6) (T := TX6) (N := 9) hx hb hts iw_X6_readByte_X6 hown hK hP 0 rfl rfl 2 (by decide) (hts _ m_X6_readByte_3) (fun _ h9 => h9) rfl dX6_readByte_42 ?_
  refine va_get (D := (dC, dI)) (ci := 5) (v := .ref cb) (C := RX5) (T := TX5) (N := 15) hx hb hts iw_X6_readByte_X5 hown hK hP 1 rfl rfl 0 (by decide) (hts _ m_X6_readByte_6) (fun _ h9 => h9) rfl dX6_readByte_45 ?_
  refine lv_aload_n hx hb dX6_readByte_48 rfl (lv_at hl 0 rfl) ?_
  refine lv_dup hx hb dX6_readByte_49 rfl ?_
  refine va_get (D := (dC, dI)) (ci := 6) (v := .int 4) (C := RX6) (T := TX6) (N := 9) hx hb hts iw_X6_readByte_X6 hown hK hP 0 rfl rfl 3 (by decide) (hts _ m_X6_readByte_2) (fun _ h9 => h9) rfl dX6_readByte_50 ?_
  refine lv_dup_x1 hx hb dX6_readByte_53 rfl rfl ?_
  refine lv_iconst (v := 1) hx hb dX6_readByte_54 (by decide) ?_
  refine lv_iadd hx hb dX6_readByte_55 ?_
  refine lv_topi (fun z_1 ez_1 => ?_)
  obtain rfl : z_1 = 5 := ez_1.trans (by decide)
  clear ez_1
  refine va_put (D := (dC, dI)) (ci := 6) (v := .int 5) (ty := .int) (C := RX6) (T := TX6) (N := 9) hx hb hts iw_X6_readByte_X6 tyX6 tyX6_ok nmX6 hown hK hP hD hS 0 rfl rfl 3 (by decide) (hts _ m_X6_readByte_2) (fun _ h9 => h9) rfl (by decide +kernel) rfl rfl (Nat.le_of_ble_eq_true rfl) dX6_readByte_56 (fun H_2 locs hP2 hD2 hS2 => ?_)
  replace hP : va_P (dC, dI) vwCl [(a0, .inr (6, [.int 0, .int 0, .ref a1, .int 5, .int 0, .int 0, .int 0, .int 0, .ref a2])), (a1, .inr (5, [.ref cb, .int 81, .int 0, .ref a3, .int 0, .ref a4, .int 0, .ref a5, .int 0, .int 0, .ref a6, .int 0, .int 0, .int 0, .int 0]))] H_2 := hP2
  replace hD : va_D A [(a0, .inr (6, [.int 0, .int 0, .ref a1, .int 5, .int 0, .int 0, .int 0, .int 0, .ref a2])), (a1, .inr (5, [.ref cb, .int 81, .int 0, .ref a3, .int 0, .ref a4, .int 0, .ref a5, .int 0, .int 0, .ref a6, .int 0, .int 0, .int 0, .int 0]))] := hD2
  replace hS := hS2
  clear hP2 hD2 hS2
  refine va_tb (v := .int 0) hx hb hSK.2 hS (by unfold vp_in; decide) rfl dX6_readByte_59 ?_
  refine lv_sipush (v := 255) hx hb dX6_readByte_60 (by decide) ?_
  refine lv_iand hx hb dX6_readByte_63 ?_
  refine lv_topi (fun z_3 ez_3 => ?_)
  obtain rfl : z_3 = 0 := ez_3.trans (by decide)
  clear ez_3
  exact W.iret hx hb hr (fun t ht hW => ⟨⟨0, (), rfl, rfl, by rw [ht]; exact hP, va_K.moved hW.alike hK, hD⟩, hS.F ht⟩) hS.2.2 dX6_readByte_64

set_option maxHeartbeats 4000000 in
set_option maxRecDepth 100000 in
theorem cc_11_X6_readByte (l : Launch) (dC : Nat → ClassId) (dI : Nat → Nat → Nat) (cy : Nat → ClassId) (sz : Nat) (cb : Nat) (a0 : Nat) (a1 : Nat) (a2 : Nat) (a3 : Nat) (a4 : Nat) (a5 : Nat) (a6 : Nat)  : Met l yX6_readByte wsX6_readByte ({ frames := 0, cells := 0, slots := 0, locals := 0 }) (va_Pc [.ref a0] (fun U => U.heap.size = sz ∧ va_P (dC, dI) vwCl [(a0, .inr (6, [.int 0, .int 0, .ref a1, .int 5, .int 0, .int 0, .int 0, .int 0, .ref a2])), (a1, .inr (5, [.ref cb, .int 81, .int 0, .ref a3, .int 0, .ref a4, .int 0, .ref a5, .int 0, .int 0, .ref a6, .int 0, .int 0, .int 0, .int 0]))] U.heap ∧ va_K (dC, dI) vwCl (TYS cy) U ∧ va_D (fun _ => True) [(a0, .inr (6, [.int 0, .int 0, .ref a1, .int 5, .int 0, .int 0, .int 0, .int 0, .ref a2])), (a1, .inr (5, [.ref cb, .int 81, .int 0, .ref a3, .int 0, .ref a4, .int 0, .ref a5, .int 0, .int 0, .ref a6, .int 0, .int 0, .int 0, .int 0]))] ∧ NK U ∧ SK cb (va_A [(a0, .inr (6, [.int 0, .int 0, .ref a1, .int 5, .int 0, .int 0, .int 0, .int 0, .ref a2])), (a1, .inr (5, [.ref cb, .int 81, .int 0, .ref a3, .int 0, .ref a4, .int 0, .ref a5, .int 0, .int 0, .ref a6, .int 0, .int 0, .int 0, .int 0]))] sz) U U.heap)) (va_Qi (fun (r : Int32) (u : Unit) => r = 0) (fun u t => va_P (dC, dI) vwCl [(a0, .inr (6, [.int 0, .int 0, .ref a1, .int 6, .int 0, .int 0, .int 0, .int 0, .ref a2])), (a1, .inr (5, [.ref cb, .int 81, .int 0, .ref a3, .int 0, .ref a4, .int 0, .ref a5, .int 0, .int 0, .ref a6, .int 0, .int 0, .int 0, .int 0]))] t.heap ∧ va_K (dC, dI) vwCl (TYS cy) t ∧ va_D (va_A [(a0, .inr (6, [.int 0, .int 0, .ref a1, .int 5, .int 0, .int 0, .int 0, .int 0, .ref a2])), (a1, .inr (5, [.ref cb, .int 81, .int 0, .ref a3, .int 0, .ref a4, .int 0, .ref a5, .int 0, .int 0, .ref a6, .int 0, .int 0, .int 0, .int 0]))] sz) [(a0, .inr (6, [.int 0, .int 0, .ref a1, .int 6, .int 0, .int 0, .int 0, .int 0, .ref a2])), (a1, .inr (5, [.ref cb, .int 81, .int 0, .ref a3, .int 0, .ref a4, .int 0, .ref a5, .int 0, .int 0, .ref a6, .int 0, .int 0, .int 0, .int 0]))]) (va_A [(a0, .inr (6, [.int 0, .int 0, .ref a1, .int 5, .int 0, .int 0, .int 0, .int 0, .ref a2])), (a1, .inr (5, [.ref cb, .int 81, .int 0, .ref a3, .int 0, .ref a4, .int 0, .ref a5, .int 0, .int 0, .ref a6, .int 0, .int 0, .int 0, .int 0]))] sz)) 0 0 (va_A [(a0, .inr (6, [.int 0, .int 0, .ref a1, .int 5, .int 0, .int 0, .int 0, .int 0, .ref a2])), (a1, .inr (5, [.ref cb, .int 81, .int 0, .ref a3, .int 0, .ref a4, .int 0, .ref a5, .int 0, .int 0, .ref a6, .int 0, .int 0, .int 0, .int 0]))] sz) := by
  refine Met.ofW (cc := cX6_readByte) (maxL := 1) (ret := (some .int)) (by decide) rfl ?_
  intro p e s m args below meth c s₁ B hml hv
  obtain ⟨rfl, hsz, hP, hK, hD0, hN, hSK⟩ := hv
  have hx := B.exec
  have hb := B.bytes
  have hr := B.returns
  have hts := atoms_spec (ws := wsX6_readByte) B.pre
  have hown : s.vm.findClass RX6 = some m.cls := findClass_of_methodNamed B.named
  have hlocks := B.notSynchronized
  subst hsz
  have hD := hD0.self (sz := s.heap.size)
  generalize hAe : va_A [(a0, .inr (6, [.int 0, .int 0, .ref a1, .int 5, .int 0, .int 0, .int 0, .int 0, .ref a2])), (a1, .inr (5, [.ref cb, .int 81, .int 0, .ref a3, .int 0, .ref a4, .int 0, .ref a5, .int 0, .int 0, .ref a6, .int 0, .int 0, .int 0, .int 0]))] s.heap.size = A at hD hSK ⊢
  have hA : ∀ q : Nat, s.heap.size ≤ q → A q := fun q h => by rw [← hAe]; exact Or.inr h
  have hS : va_S A s.heap s.heap [] := va_S.rf
  have hP : va_P (dC, dI) vwCl [(a0, .inr (6, [.int 0, .int 0, .ref a1, .int 5, .int 0, .int 0, .int 0, .int 0, .ref a2])), (a1, .inr (5, [.ref cb, .int 81, .int 0, .ref a3, .int 0, .ref a4, .int 0, .ref a5, .int 0, .int 0, .ref a6, .int 0, .int 0, .int 0, .int 0]))] s.heap := hP
  have hl := lv_entry ([.ref a0]) (n := 1) (Nat.le_of_ble_eq_true rfl)
  rw [lg_entry_eq]
  generalize (lg_sl ([.ref a0]) ++ List.replicate (1 - (lg_sl ([.ref a0])).length) Slot.unset).toArray = ls at hl ⊢
  replace hl : lv_has ls 1 [(0, .ref a0)] := hl
  refine lv_aload_n hx hb dX6_readByte_0 rfl (lv_at hl 0 rfl) ?_
  refine va_get (D := (dC, dI)) (ci := 6) (v := .int 0) (C := RX6) (T := TX6) (N := 9) hx hb hts iw_X6_readByte_X6 hown hK hP 0 rfl rfl 1 (by decide) (hts _ m_X6_readByte_1) (fun _ h9 => h9) rfl dX6_readByte_1 ?_
  refine lv_if_eq (tgt := 9) hx hb dX6_readByte_4 (by decide) (fun _ => ?_) (fun h => absurd (by decide) h)
  refine lv_aload_n hx hb dX6_readByte_9 rfl (lv_at hl 0 rfl) ?_
  refine va_get (D := (dC, dI)) (ci := 6) (v := .int 5) (C := RX6) (T := TX6) (N := 9) hx hb hts iw_X6_readByte_X6 hown hK hP 0 rfl rfl 3 (by decide) (hts _ m_X6_readByte_2) (fun _ h9 => h9) rfl dX6_readByte_10 ?_
  refine lv_aload_n hx hb dX6_readByte_13 rfl (lv_at hl 0 rfl) ?_
  refine va_get (D := (dC, dI)) (ci := 6) (v := .ref a1) (C := RX6) (T := TX6) (N := 9) hx hb hts iw_X6_readByte_X6 hown hK hP 0 rfl rfl 2 (by decide) (hts _ m_X6_readByte_3) (fun _ h9 => h9) rfl dX6_readByte_14 ?_
  refine va_get (D := (dC, dI)) (ci := 5) (v := .int 81) (C := RX5) (T := TX5) (N := 15) hx hb hts iw_X6_readByte_X5 hown hK hP 1 rfl rfl 1 (by decide) (hts _ m_X6_readByte_4) (fun _ h9 => h9) rfl dX6_readByte_17 ?_
  refine lv_icmp_lt (tgt := 41) hx hb dX6_readByte_20 (by decide) (fun _ => ?_) (fun h => absurd (by decide) h)
  refine lv_aload_n hx hb dX6_readByte_41 rfl (lv_at hl 0 rfl) ?_
  refine va_get (D := (dC, dI)) (ci := 6) (v := .ref a1) (C := RX6) (T := TX6) (N := 9) hx hb hts iw_X6_readByte_X6 hown hK hP 0 rfl rfl 2 (by decide) (hts _ m_X6_readByte_3) (fun _ h9 => h9) rfl dX6_readByte_42 ?_
  refine va_get (D := (dC, dI)) (ci := 5) (v := .ref cb) (C := RX5) (T := TX5) (N := 15) hx hb hts iw_X6_readByte_X5 hown hK hP 1 rfl rfl 0 (by decide) (hts _ m_X6_readByte_6) (fun _ h9 => h9) rfl dX6_readByte_45 ?_
  refine lv_aload_n hx hb dX6_readByte_48 rfl (lv_at hl 0 rfl) ?_
  refine lv_dup hx hb dX6_readByte_49 rfl ?_
  refine va_get (D := (dC, dI)) (ci := 6) (v := .int 5) (C := RX6) (T := TX6) (N := 9) hx hb hts iw_X6_readByte_X6 hown hK hP 0 rfl rfl 3 (by decide) (hts _ m_X6_readByte_2) (fun _ h9 => h9) rfl dX6_readByte_50 ?_
  refine lv_dup_x1 hx hb dX6_readByte_53 rfl rfl ?_
  refine lv_iconst (v := 1) hx hb dX6_readByte_54 (by decide) ?_
  refine lv_iadd hx hb dX6_readByte_55 ?_
  refine lv_topi (fun z_1 ez_1 => ?_)
  obtain rfl : z_1 = 6 := ez_1.trans (by decide)
  clear ez_1
  refine va_put (D := (dC, dI)) (ci := 6) (v := .int 6) (ty := .int) (C := RX6) (T := TX6) (N := 9) hx hb hts iw_X6_readByte_X6 tyX6 tyX6_ok nmX6 hown hK hP hD hS 0 rfl rfl 3 (by decide) (hts _ m_X6_readByte_2) (fun _ h9 => h9) rfl (by decide +kernel) rfl rfl (Nat.le_of_ble_eq_true rfl) dX6_readByte_56 (fun H_2 locs hP2 hD2 hS2 => ?_)
  replace hP : va_P (dC, dI) vwCl [(a0, .inr (6, [.int 0, .int 0, .ref a1, .int 6, .int 0, .int 0, .int 0, .int 0, .ref a2])), (a1, .inr (5, [.ref cb, .int 81, .int 0, .ref a3, .int 0, .ref a4, .int 0, .ref a5, .int 0, .int 0, .ref a6, .int 0, .int 0, .int 0, .int 0]))] H_2 := hP2
  replace hD : va_D A [(a0, .inr (6, [.int 0, .int 0, .ref a1, .int 6, .int 0, .int 0, .int 0, .int 0, .ref a2])), (a1, .inr (5, [.ref cb, .int 81, .int 0, .ref a3, .int 0, .ref a4, .int 0, .ref a5, .int 0, .int 0, .ref a6, .int 0, .int 0, .int 0, .int 0]))] := hD2
  replace hS := hS2
  clear hP2 hD2 hS2
  refine va_tb (v := .int 0) hx hb hSK.2 hS (by unfold vp_in; decide) rfl dX6_readByte_59 ?_
  refine lv_sipush (v := 255) hx hb dX6_readByte_60 (by decide) ?_
  refine lv_iand hx hb dX6_readByte_63 ?_
  refine lv_topi (fun z_3 ez_3 => ?_)
  obtain rfl : z_3 = 0 := ez_3.trans (by decide)
  clear ez_3
  exact W.iret hx hb hr (fun t ht hW => ⟨⟨0, (), rfl, rfl, by rw [ht]; exact hP, va_K.moved hW.alike hK, hD⟩, hS.F ht⟩) hS.2.2 dX6_readByte_64

set_option maxHeartbeats 4000000 in
set_option maxRecDepth 100000 in
theorem cc_9_X6_readShort (l : Launch) (dC : Nat → ClassId) (dI : Nat → Nat → Nat) (cy : Nat → ClassId) (sz : Nat) (cb : Nat) (a0 : Nat) (a1 : Nat) (a2 : Nat) (a3 : Nat) (a4 : Nat) (a5 : Nat) (a6 : Nat)  : Met l yX6_readShort wsX6_readShort ({ frames := 1, cells := 0, slots := 0, locals := 20 }) (va_Pc [.ref a0] (fun U => U.heap.size = sz ∧ va_P (dC, dI) vwCl [(a0, .inr (6, [.int 0, .int 0, .ref a1, .int 4, .int 0, .int 0, .int 0, .int 0, .ref a2])), (a1, .inr (5, [.ref cb, .int 81, .int 0, .ref a3, .int 0, .ref a4, .int 0, .ref a5, .int 0, .int 0, .ref a6, .int 0, .int 0, .int 0, .int 0]))] U.heap ∧ va_K (dC, dI) vwCl (TYS cy) U ∧ va_D (fun _ => True) [(a0, .inr (6, [.int 0, .int 0, .ref a1, .int 4, .int 0, .int 0, .int 0, .int 0, .ref a2])), (a1, .inr (5, [.ref cb, .int 81, .int 0, .ref a3, .int 0, .ref a4, .int 0, .ref a5, .int 0, .int 0, .ref a6, .int 0, .int 0, .int 0, .int 0]))] ∧ NK U ∧ SK cb (va_A [(a0, .inr (6, [.int 0, .int 0, .ref a1, .int 4, .int 0, .int 0, .int 0, .int 0, .ref a2])), (a1, .inr (5, [.ref cb, .int 81, .int 0, .ref a3, .int 0, .ref a4, .int 0, .ref a5, .int 0, .int 0, .ref a6, .int 0, .int 0, .int 0, .int 0]))] sz) U U.heap)) (va_Qi (fun (r : Int32) (u : Unit) => r = 0) (fun u t => va_P (dC, dI) vwCl [(a0, .inr (6, [.int 0, .int 0, .ref a1, .int 6, .int 0, .int 0, .int 0, .int 0, .ref a2])), (a1, .inr (5, [.ref cb, .int 81, .int 0, .ref a3, .int 0, .ref a4, .int 0, .ref a5, .int 0, .int 0, .ref a6, .int 0, .int 0, .int 0, .int 0]))] t.heap ∧ va_K (dC, dI) vwCl (TYS cy) t ∧ va_D (va_A [(a0, .inr (6, [.int 0, .int 0, .ref a1, .int 4, .int 0, .int 0, .int 0, .int 0, .ref a2])), (a1, .inr (5, [.ref cb, .int 81, .int 0, .ref a3, .int 0, .ref a4, .int 0, .ref a5, .int 0, .int 0, .ref a6, .int 0, .int 0, .int 0, .int 0]))] sz) [(a0, .inr (6, [.int 0, .int 0, .ref a1, .int 6, .int 0, .int 0, .int 0, .int 0, .ref a2])), (a1, .inr (5, [.ref cb, .int 81, .int 0, .ref a3, .int 0, .ref a4, .int 0, .ref a5, .int 0, .int 0, .ref a6, .int 0, .int 0, .int 0, .int 0]))]) (va_A [(a0, .inr (6, [.int 0, .int 0, .ref a1, .int 4, .int 0, .int 0, .int 0, .int 0, .ref a2])), (a1, .inr (5, [.ref cb, .int 81, .int 0, .ref a3, .int 0, .ref a4, .int 0, .ref a5, .int 0, .int 0, .ref a6, .int 0, .int 0, .int 0, .int 0]))] sz)) 0 0 (va_A [(a0, .inr (6, [.int 0, .int 0, .ref a1, .int 4, .int 0, .int 0, .int 0, .int 0, .ref a2])), (a1, .inr (5, [.ref cb, .int 81, .int 0, .ref a3, .int 0, .ref a4, .int 0, .ref a5, .int 0, .int 0, .ref a6, .int 0, .int 0, .int 0, .int 0]))] sz) := by
  refine Met.ofW (cc := cX6_readShort) (maxL := 2) (ret := (some .int)) (by decide) rfl ?_
  intro p e s m args below meth c s₁ B hml hv
  obtain ⟨rfl, hsz, hP, hK, hD0, hN, hSK⟩ := hv
  have hx := B.exec
  have hb := B.bytes
  have hr := B.returns
  have hts := atoms_spec (ws := wsX6_readShort) B.pre
  have hown : s.vm.findClass RX6 = some m.cls := findClass_of_methodNamed B.named
  have hlocks := B.notSynchronized
  subst hsz
  have hD := hD0.self (sz := s.heap.size)
  generalize hAe : va_A [(a0, .inr (6, [.int 0, .int 0, .ref a1, .int 4, .int 0, .int 0, .int 0, .int 0, .ref a2])), (a1, .inr (5, [.ref cb, .int 81, .int 0, .ref a3, .int 0, .ref a4, .int 0, .ref a5, .int 0, .int 0, .ref a6, .int 0, .int 0, .int 0, .int 0]))] s.heap.size = A at hD hSK ⊢
  have hA : ∀ q : Nat, s.heap.size ≤ q → A q := fun q h => by rw [← hAe]; exact Or.inr h
  have hS : va_S A s.heap s.heap [] := va_S.rf
  have hP : va_P (dC, dI) vwCl [(a0, .inr (6, [.int 0, .int 0, .ref a1, .int 4, .int 0, .int 0, .int 0, .int 0, .ref a2])), (a1, .inr (5, [.ref cb, .int 81, .int 0, .ref a3, .int 0, .ref a4, .int 0, .ref a5, .int 0, .int 0, .ref a6, .int 0, .int 0, .int 0, .int 0]))] s.heap := hP
  have hl := lv_entry ([.ref a0]) (n := 2) (Nat.le_of_ble_eq_true rfl)
  rw [lg_entry_eq]
  generalize (lg_sl ([.ref a0]) ++ List.replicate (2 - (lg_sl ([.ref a0])).length) Slot.unset).toArray = ls at hl ⊢
  replace hl : lv_has ls 2 [(0, .ref a0)] := hl
  refine lv_aload_n hx hb dX6_readShort_0 rfl (lv_at hl 0 rfl) ?_
  have hPc := hP.sub (ws' := [(a0, .inr (6, [.int 0, .int 0, .ref a1, .int 4, .int 0, .int 0, .int 0, .int 0, .ref a2])), (a1, .inr (5, [.ref cb, .int 81, .int 0, .ref a3, .int 0, .ref a4, .int 0, .ref a5, .int 0, .int 0, .ref a6, .int 0, .int 0, .int 0, .int 0]))]) [0, 1] rfl
  have hDc := hD.sub (ws' := [(a0, .inr (6, [.int 0, .int 0, .ref a1, .int 4, .int 0, .int 0, .int 0, .int 0, .ref a2])), (a1, .inr (5, [.ref cb, .int 81, .int 0, .ref a3, .int 0, .ref a4, .int 0, .ref a5, .int 0, .int 0, .ref a6, .int 0, .int 0, .int 0, .int 0]))]) [0, 1] (by decide) rfl
  have hFc := va_free (wc := [(a0, .inr (6, [.int 0, .int 0, .ref a1, .int 4, .int 0, .int 0, .int 0, .int 0, .ref a2])), (a1, .inr (5, [.ref cb, .int 81, .int 0, .ref a3, .int 0, .ref a4, .int 0, .ref a5, .int 0, .int 0, .ref a6, .int 0, .int 0, .int 0, .int 0]))]) hD hS hA [0, 1] rfl
  refine va_calli (va_runV (As := []) (rest := []) ⟨hx, hb, hml, hown, hts⟩ (cc_10_X6_readByte l dC dI cy s.heap.size cb a0 a1 a2 a3 a4 a5 a6) (cwV 0 hts gX6_readShort_X6_readByte rfl rfl rfl (by decide +kernel) ⟨Nat.le_of_ble_eq_true rfl, Nat.le_of_ble_eq_true rfl⟩) ⟨fun a U g mk q => by obtain ⟨q0, q1, qP, qK, qD, qN, qS⟩ := q; exact ⟨q0, q1, qP, va_K.moved (u := U) (U := U.calling g mk a) (Vm.Alike.refl U.vm) qK, qD, qN.same rfl, SK.moved (u := U) (U := U.calling g mk a) (Vm.Alike.refl U.vm) qS⟩, va_recv hK hPc (ci := 6) (q0 := 0) rfl rfl, fun U hU hW => ⟨rfl, by rw [hU], by rw [hU]; exact hPc, va_K.moved hW.alike hK, hDc.weaken (fun _ _ _ _ => trivial), hN.warm hW, by rw [hU]; exact ((hSK.kept hS.2.1).narrow hFc).moved hW.alike⟩⟩ rfl rfl hl.1 rfl (lv_room (Nat.le_of_ble_eq_true rfl)) dX6_readShort_1 ⟨Nat.le_of_ble_eq_true rfl, Nat.le_of_ble_eq_true rfl⟩) hS (fun q _ h => hFc q h) hFc (fun r_1 u t H_2 locs ht hvm hw hB hz1 hk1 hS2 => ?_)
  obtain ⟨hP1, hK1, hD1⟩ := hB
  rw [ht] at hP1
  obtain rfl := hw
  obtain ⟨hP2, hD2⟩ := va_join (wr := []) (w1 := [(a0, .inr (6, [.int 0, .int 0, .ref a1, .int 5, .int 0, .int 0, .int 0, .int 0, .ref a2])), (a1, .inr (5, [.ref cb, .int 81, .int 0, .ref a3, .int 0, .ref a4, .int 0, .ref a5, .int 0, .int 0, .ref a6, .int 0, .int 0, .int 0, .int 0]))]) hP hD [0, 1] [] rfl rfl (by decide) (by decide) hk1 hFc hP1 hD1
  replace hP : va_P (dC, dI) vwCl [(a0, .inr (6, [.int 0, .int 0, .ref a1, .int 5, .int 0, .int 0, .int 0, .int 0, .ref a2])), (a1, .inr (5, [.ref cb, .int 81, .int 0, .ref a3, .int 0, .ref a4, .int 0, .ref a5, .int 0, .int 0, .ref a6, .int 0, .int 0, .int 0, .int 0]))] H_2 := hP2
  replace hD : va_D A [(a0, .inr (6, [.int 0, .int 0, .ref a1, .int 5, .int 0, .int 0, .int 0, .int 0, .ref a2])), (a1, .inr (5, [.ref cb, .int 81, .int 0, .ref a3, .int 0, .ref a4, .int 0, .ref a5, .int 0, .int 0, .ref a6, .int 0, .int 0, .int 0, .int 0]))] := hD2
  replace hS := hS2
  clear hP2 hD2 hS2
  clear hPc hDc hFc hP1 hD1 hK1 hk1 hz1 hvm ht
  refine W.widen (k := 0) (n := 0) (Nat.le_of_ble_eq_true rfl) (Nat.le_of_ble_eq_true rfl) ?_
  refine lv_istore_n (lv' := [(1, .int 0), (0, .ref a0)]) hx hb dX6_readShort_4 rfl hl (by decide) rfl (fun ls hl2 => ?_)
  replace hl := hl2
  clear hl2
  refine lv_iload_n hx hb dX6_readShort_5 rfl (lv_at hl 0 rfl) ?_
  refine lv_bipush (v := 8) hx hb dX6_readShort_6 (by decide) ?_
  refine lv_ishl hx hb dX6_readShort_8 ?_
  refine lv_topi (fun z_3 ez_3 => ?_)
  obtain rfl : z_3 = 0 := ez_3.trans (by decide)
  clear ez_3
  refine lv_aload_n hx hb dX6_readShort_9 rfl (lv_at hl 1 rfl) ?_
  have hPc := hP.sub (ws' := [(a0, .inr (6, [.int 0, .int 0, .ref a1, .int 5, .int 0, .int 0, .int 0, .int 0, .ref a2])), (a1, .inr (5, [.ref cb, .int 81, .int 0, .ref a3, .int 0, .ref a4, .int 0, .ref a5, .int 0, .int 0, .ref a6, .int 0, .int 0, .int 0, .int 0]))]) [0, 1] rfl
  have hDc := hD.sub (ws' := [(a0, .inr (6, [.int 0, .int 0, .ref a1, .int 5, .int 0, .int 0, .int 0, .int 0, .ref a2])), (a1, .inr (5, [.ref cb, .int 81, .int 0, .ref a3, .int 0, .ref a4, .int 0, .ref a5, .int 0, .int 0, .ref a6, .int 0, .int 0, .int 0, .int 0]))]) [0, 1] (by decide) rfl
  have hFc := va_free (wc := [(a0, .inr (6, [.int 0, .int 0, .ref a1, .int 5, .int 0, .int 0, .int 0, .int 0, .ref a2])), (a1, .inr (5, [.ref cb, .int 81, .int 0, .ref a3, .int 0, .ref a4, .int 0, .ref a5, .int 0, .int 0, .ref a6, .int 0, .int 0, .int 0, .int 0]))]) hD hS hA [0, 1] rfl
  refine va_calli (va_runV (As := []) (rest := [.int 0]) ⟨hx, hb, hml, hown, hts⟩ (cc_11_X6_readByte l dC dI cy H_2.size cb a0 a1 a2 a3 a4 a5 a6) (cwV 0 hts gX6_readShort_X6_readByte rfl rfl rfl (by decide +kernel) ⟨Nat.le_of_ble_eq_true rfl, Nat.le_of_ble_eq_true rfl⟩) ⟨fun a U g mk q => by obtain ⟨q0, q1, qP, qK, qD, qN, qS⟩ := q; exact ⟨q0, q1, qP, va_K.moved (u := U) (U := U.calling g mk a) (Vm.Alike.refl U.vm) qK, qD, qN.same rfl, SK.moved (u := U) (U := U.calling g mk a) (Vm.Alike.refl U.vm) qS⟩, va_recv hK hPc (ci := 6) (q0 := 0) rfl rfl, fun U hU hW => ⟨rfl, by rw [hU], by rw [hU]; exact hPc, va_K.moved hW.alike hK, hDc.weaken (fun _ _ _ _ => trivial), hN.warm hW, by rw [hU]; exact ((hSK.kept hS.2.1).narrow hFc).moved hW.alike⟩⟩ rfl rfl hl.1 rfl (lv_room (Nat.le_of_ble_eq_true rfl)) dX6_readShort_10 ⟨Nat.le_of_ble_eq_true rfl, Nat.le_of_ble_eq_true rfl⟩) hS (fun q _ h => hFc q h) hFc (fun r_4 u t H_5 locs ht hvm hw hB hz1 hk1 hS2 => ?_)
  obtain ⟨hP1, hK1, hD1⟩ := hB
  rw [ht] at hP1
  obtain rfl := hw
  obtain ⟨hP2, hD2⟩ := va_join (wr := []) (w1 := [(a0, .inr (6, [.int 0, .int 0, .ref a1, .int 6, .int 0, .int 0, .int 0, .int 0, .ref a2])), (a1, .inr (5, [.ref cb, .int 81, .int 0, .ref a3, .int 0, .ref a4, .int 0, .ref a5, .int 0, .int 0, .ref a6, .int 0, .int 0, .int 0, .int 0]))]) hP hD [0, 1] [] rfl rfl (by decide) (by decide) hk1 hFc hP1 hD1
  replace hP : va_P (dC, dI) vwCl [(a0, .inr (6, [.int 0, .int 0, .ref a1, .int 6, .int 0, .int 0, .int 0, .int 0, .ref a2])), (a1, .inr (5, [.ref cb, .int 81, .int 0, .ref a3, .int 0, .ref a4, .int 0, .ref a5, .int 0, .int 0, .ref a6, .int 0, .int 0, .int 0, .int 0]))] H_5 := hP2
  replace hD : va_D A [(a0, .inr (6, [.int 0, .int 0, .ref a1, .int 6, .int 0, .int 0, .int 0, .int 0, .ref a2])), (a1, .inr (5, [.ref cb, .int 81, .int 0, .ref a3, .int 0, .ref a4, .int 0, .ref a5, .int 0, .int 0, .ref a6, .int 0, .int 0, .int 0, .int 0]))] := hD2
  replace hS := hS2
  clear hP2 hD2 hS2
  clear hPc hDc hFc hP1 hD1 hK1 hk1 hz1 hvm ht
  refine W.widen (k := 0) (n := 0) (Nat.le_of_ble_eq_true rfl) (Nat.le_of_ble_eq_true rfl) ?_
  refine lv_ior hx hb dX6_readShort_13 ?_
  refine lv_topi (fun z_6 ez_6 => ?_)
  obtain rfl : z_6 = 0 := ez_6.trans (by decide)
  clear ez_6
  exact W.iret hx hb hr (fun t ht hW => ⟨⟨0, (), rfl, rfl, by rw [ht]; exact hP, va_K.moved hW.alike hK, hD⟩, hS.F ht⟩) hS.2.2 dX6_readShort_14

set_option maxHeartbeats 4000000 in
set_option maxRecDepth 100000 in
theorem cc_4_X6_readBeginning (l : Launch) (dC : Nat → ClassId) (dI : Nat → Nat → Nat) (cy : Nat → ClassId) (sz : Nat) (cb : Nat) (a0 : Nat) (a1 : Nat) (a2 : Nat) (a3 : Nat) (a4 : Nat) (a5 : Nat) (a6 : Nat)  : Met l yX6_readBeginning wsX6_readBeginning ({ frames := 2, cells := 0, slots := 0, locals := 41 }) (va_Pc [.ref a0] (fun U => U.heap.size = sz ∧ va_P (dC, dI) vwCl [(a0, .inr (6, [.int 0, .int 0, .ref a1, .int 0, .int 0, .int 0, .int 0, .int 0, .ref a2])), (a1, .inr (5, [.ref cb, .int 81, .int 0, .ref a3, .int 0, .ref a4, .int 0, .ref a5, .int 0, .int 0, .ref a6, .int 0, .int 0, .int 0, .int 0]))] U.heap ∧ va_K (dC, dI) vwCl (TYS cy) U ∧ va_D (fun _ => True) [(a0, .inr (6, [.int 0, .int 0, .ref a1, .int 0, .int 0, .int 0, .int 0, .int 0, .ref a2])), (a1, .inr (5, [.ref cb, .int 81, .int 0, .ref a3, .int 0, .ref a4, .int 0, .ref a5, .int 0, .int 0, .ref a6, .int 0, .int 0, .int 0, .int 0]))] ∧ NK U ∧ SK cb (va_A [(a0, .inr (6, [.int 0, .int 0, .ref a1, .int 0, .int 0, .int 0, .int 0, .int 0, .ref a2])), (a1, .inr (5, [.ref cb, .int 81, .int 0, .ref a3, .int 0, .ref a4, .int 0, .ref a5, .int 0, .int 0, .ref a6, .int 0, .int 0, .int 0, .int 0]))] sz) U U.heap)) (va_Qv (fun u : Unit => True) (fun u t => va_P (dC, dI) vwCl [(a0, .inr (6, [.int 0, .int 0, .ref a1, .int 6, .int 0, .int 0, .int 0, .int 0, .ref a2])), (a1, .inr (5, [.ref cb, .int 81, .int 0, .ref a3, .int 0, .ref a4, .int 0, .ref a5, .int 0, .int 0, .ref a6, .int 0, .int 0, .int 0, .int 0]))] t.heap ∧ va_K (dC, dI) vwCl (TYS cy) t ∧ va_D (va_A [(a0, .inr (6, [.int 0, .int 0, .ref a1, .int 0, .int 0, .int 0, .int 0, .int 0, .ref a2])), (a1, .inr (5, [.ref cb, .int 81, .int 0, .ref a3, .int 0, .ref a4, .int 0, .ref a5, .int 0, .int 0, .ref a6, .int 0, .int 0, .int 0, .int 0]))] sz) [(a0, .inr (6, [.int 0, .int 0, .ref a1, .int 6, .int 0, .int 0, .int 0, .int 0, .ref a2])), (a1, .inr (5, [.ref cb, .int 81, .int 0, .ref a3, .int 0, .ref a4, .int 0, .ref a5, .int 0, .int 0, .ref a6, .int 0, .int 0, .int 0, .int 0]))]) (va_A [(a0, .inr (6, [.int 0, .int 0, .ref a1, .int 0, .int 0, .int 0, .int 0, .int 0, .ref a2])), (a1, .inr (5, [.ref cb, .int 81, .int 0, .ref a3, .int 0, .ref a4, .int 0, .ref a5, .int 0, .int 0, .ref a6, .int 0, .int 0, .int 0, .int 0]))] sz)) 0 0 (va_A [(a0, .inr (6, [.int 0, .int 0, .ref a1, .int 0, .int 0, .int 0, .int 0, .int 0, .ref a2])), (a1, .inr (5, [.ref cb, .int 81, .int 0, .ref a3, .int 0, .ref a4, .int 0, .ref a5, .int 0, .int 0, .ref a6, .int 0, .int 0, .int 0, .int 0]))] sz) := by
  refine Met.ofW (cc := cX6_readBeginning) (maxL := 3) (ret := none) (by decide) rfl ?_
  intro p e s m args below meth c s₁ B hml hv
  obtain ⟨rfl, hsz, hP, hK, hD0, hN, hSK⟩ := hv
  have hx := B.exec
  have hb := B.bytes
  have hr := B.returns
  have hts := atoms_spec (ws := wsX6_readBeginning) B.pre
  have hown : s.vm.findClass RX6 = some m.cls := findClass_of_methodNamed B.named
  have hlocks := B.notSynchronized
  subst hsz
  have hD := hD0.self (sz := s.heap.size)
  generalize hAe : va_A [(a0, .inr (6, [.int 0, .int 0, .ref a1, .int 0, .int 0, .int 0, .int 0, .int 0, .ref a2])), (a1, .inr (5, [.ref cb, .int 81, .int 0, .ref a3, .int 0, .ref a4, .int 0, .ref a5, .int 0, .int 0, .ref a6, .int 0, .int 0, .int 0, .int 0]))] s.heap.size = A at hD hSK ⊢
  have hA : ∀ q : Nat, s.heap.size ≤ q → A q := fun q h => by rw [← hAe]; exact Or.inr h
  have hS : va_S A s.heap s.heap [] := va_S.rf
  have hP : va_P (dC, dI) vwCl [(a0, .inr (6, [.int 0, .int 0, .ref a1, .int 0, .int 0, .int 0, .int 0, .int 0, .ref a2])), (a1, .inr (5, [.ref cb, .int 81, .int 0, .ref a3, .int 0, .ref a4, .int 0, .ref a5, .int 0, .int 0, .ref a6, .int 0, .int 0, .int 0, .int 0]))] s.heap := hP
  have hl := lv_entry ([.ref a0]) (n := 3) (Nat.le_of_ble_eq_true rfl)
  rw [lg_entry_eq]
  generalize (lg_sl ([.ref a0]) ++ List.replicate (3 - (lg_sl ([.ref a0])).length) Slot.unset).toArray = ls at hl ⊢
  replace hl : lv_has ls 3 [(0, .ref a0)] := hl
  refine lv_iconst (v := 0) hx hb dX6_readBeginning_0 (by decide) ?_
  refine lv_istore_n (lv' := [(1, .int 0), (0, .ref a0)]) hx hb dX6_readBeginning_1 rfl hl (by decide) rfl (fun ls hl2 => ?_)
  replace hl := hl2
  clear hl2
  refine lv_iload_n hx hb dX6_readBeginning_2 rfl (lv_at hl 0 rfl) ?_
  refine lv_iconst (v := 4) hx hb dX6_readBeginning_3 (by decide) ?_
  refine lv_icmp_ge (tgt := 36) hx hb dX6_readBeginning_4 (by decide) (fun h => absurd h (by decide)) (fun _ => ?_)
  refine lv_aload_n hx hb dX6_readBeginning_7 rfl (lv_at hl 1 rfl) ?_
  refine va_get (D := (dC, dI)) (ci := 6) (v := .int 0) (C := RX6) (T := TX6) (N := 9) hx hb hts iw_X6_readBeginning_X6 hown hK hP 0 rfl rfl 3 (by decide) (hts _ m_X6_readBeginning_1) (fun _ h9 => h9) rfl dX6_readBeginning_8 ?_
  refine lv_istore_n (lv' := [(2, .int 0), (1, .int 0), (0, .ref a0)]) hx hb dX6_readBeginning_11 rfl hl (by decide) rfl (fun ls hl2 => ?_)
  replace hl := hl2
  clear hl2
  refine lv_aload_n hx hb dX6_readBeginning_12 rfl (lv_at hl 2 rfl) ?_
  have hPc := hP.sub (ws' := [(a0, .inr (6, [.int 0, .int 0, .ref a1, .int 0, .int 0, .int 0, .int 0, .int 0, .ref a2])), (a1, .inr (5, [.ref cb, .int 81, .int 0, .ref a3, .int 0, .ref a4, .int 0, .ref a5, .int 0, .int 0, .ref a6, .int 0, .int 0, .int 0, .int 0]))]) [0, 1] rfl
  have hDc := hD.sub (ws' := [(a0, .inr (6, [.int 0, .int 0, .ref a1, .int 0, .int 0, .int 0, .int 0, .int 0, .ref a2])), (a1, .inr (5, [.ref cb, .int 81, .int 0, .ref a3, .int 0, .ref a4, .int 0, .ref a5, .int 0, .int 0, .ref a6, .int 0, .int 0, .int 0, .int 0]))]) [0, 1] (by decide) rfl
  have hFc := va_free (wc := [(a0, .inr (6, [.int 0, .int 0, .ref a1, .int 0, .int 0, .int 0, .int 0, .int 0, .ref a2])), (a1, .inr (5, [.ref cb, .int 81, .int 0, .ref a3, .int 0, .ref a4, .int 0, .ref a5, .int 0, .int 0, .ref a6, .int 0, .int 0, .int 0, .int 0]))]) hD hS hA [0, 1] rfl
  refine va_calli (va_runV (As := []) (rest := []) ⟨hx, hb, hml, hown, hts⟩ (cc_5_X6_readByte l dC dI cy s.heap.size cb a0 a1 a2 a3 a4 a5 a6) (cwV 0 hts gX6_readBeginning_X6_readByte rfl rfl rfl (by decide +kernel) ⟨Nat.le_of_ble_eq_true rfl, Nat.le_of_ble_eq_true rfl⟩) ⟨fun a U g mk q => by obtain ⟨q0, q1, qP, qK, qD, qN, qS⟩ := q; exact ⟨q0, q1, qP, va_K.moved (u := U) (U := U.calling g mk a) (Vm.Alike.refl U.vm) qK, qD, qN.same rfl, SK.moved (u := U) (U := U.calling g mk a) (Vm.Alike.refl U.vm) qS⟩, va_recv hK hPc (ci := 6) (q0 := 0) rfl rfl, fun U hU hW => ⟨rfl, by rw [hU], by rw [hU]; exact hPc, va_K.moved hW.alike hK, hDc.weaken (fun _ _ _ _ => trivial), hN.warm hW, by rw [hU]; exact ((hSK.kept hS.2.1).narrow hFc).moved hW.alike⟩⟩ rfl rfl hl.1 rfl (lv_room (Nat.le_of_ble_eq_true rfl)) dX6_readBeginning_13 ⟨Nat.le_of_ble_eq_true rfl, Nat.le_of_ble_eq_true rfl⟩) hS (fun q _ h => hFc q h) hFc (fun r_1 u t H_2 locs ht hvm hw hB hz1 hk1 hS2 => ?_)
  obtain ⟨hP1, hK1, hD1⟩ := hB
  rw [ht] at hP1
  obtain rfl := hw
  obtain ⟨hP2, hD2⟩ := va_join (wr := []) (w1 := [(a0, .inr (6, [.int 0, .int 0, .ref a1, .int 1, .int 0, .int 0, .int 0, .int 0, .ref a2])), (a1, .inr (5, [.ref cb, .int 81, .int 0, .ref a3, .int 0, .ref a4, .int 0, .ref a5, .int 0, .int 0, .ref a6, .int 0, .int 0, .int 0, .int 0]))]) hP hD [0, 1] [] rfl rfl (by decide) (by decide) hk1 hFc hP1 hD1
  replace hP : va_P (dC, dI) vwCl [(a0, .inr (6, [.int 0, .int 0, .ref a1, .int 1, .int 0, .int 0, .int 0, .int 0, .ref a2])), (a1, .inr (5, [.ref cb, .int 81, .int 0, .ref a3, .int 0, .ref a4, .int 0, .ref a5, .int 0, .int 0, .ref a6, .int 0, .int 0, .int 0, .int 0]))] H_2 := hP2
  replace hD : va_D A [(a0, .inr (6, [.int 0, .int 0, .ref a1, .int 1, .int 0, .int 0, .int 0, .int 0, .ref a2])), (a1, .inr (5, [.ref cb, .int 81, .int 0, .ref a3, .int 0, .ref a4, .int 0, .ref a5, .int 0, .int 0, .ref a6, .int 0, .int 0, .int 0, .int 0]))] := hD2
  replace hS := hS2
  clear hP2 hD2 hS2
  clear hPc hDc hFc hP1 hD1 hK1 hk1 hz1 hvm ht
  refine W.widen (k := 0) (n := 0) (Nat.le_of_ble_eq_true rfl) (Nat.le_of_ble_eq_true rfl) ?_
  refine va_gets hx hb hSK.1 hS hown (hts _ m_X6_readBeginning_2) (fun _ h => h) dX6_readBeginning_16 ?_
  refine lv_iload_n hx hb dX6_readBeginning_19 rfl (lv_at hl 1 rfl) ?_
  refine va_tb (v := .int 82) hx hb hSK.2 hS (by unfold vp_in; decide) rfl dX6_readBeginning_20 ?_
  refine lv_icmp_eq (tgt := 30) hx hb dX6_readBeginning_21 (by decide) (fun _ => ?_) (fun h => absurd (by decide) h)
  refine lv_iinc (v := 1) (lv' := [(1, .int 1), (2, .int 0), (0, .ref a0)]) hx hb dX6_readBeginning_30 hl (k := 1) rfl (by decide) (by decide) rfl (fun ls hl2 => ?_)
  replace hl := hl2
  clear hl2
  refine lv_goto (tgt := 2) hx hb dX6_readBeginning_33 (by decide) ?_
  refine lv_iload_n hx hb dX6_readBeginning_2 rfl (lv_at hl 0 rfl) ?_
  refine lv_iconst (v := 4) hx hb dX6_readBeginning_3 (by decide) ?_
  refine lv_icmp_ge (tgt := 36) hx hb dX6_readBeginning_4 (by decide) (fun h => absurd h (by decide)) (fun _ => ?_)
  refine lv_aload_n hx hb dX6_readBeginning_7 rfl (lv_at hl 2 rfl) ?_
  refine va_get (D := (dC, dI)) (ci := 6) (v := .int 1) (C := RX6) (T := TX6) (N := 9) hx hb hts iw_X6_readBeginning_X6 hown hK hP 0 rfl rfl 3 (by decide) (hts _ m_X6_readBeginning_1) (fun _ h9 => h9) rfl dX6_readBeginning_8 ?_
  refine lv_istore_n (lv' := [(2, .int 1), (1, .int 1), (0, .ref a0)]) hx hb dX6_readBeginning_11 rfl hl (by decide) rfl (fun ls hl2 => ?_)
  replace hl := hl2
  clear hl2
  refine lv_aload_n hx hb dX6_readBeginning_12 rfl (lv_at hl 2 rfl) ?_
  have hPc := hP.sub (ws' := [(a0, .inr (6, [.int 0, .int 0, .ref a1, .int 1, .int 0, .int 0, .int 0, .int 0, .ref a2])), (a1, .inr (5, [.ref cb, .int 81, .int 0, .ref a3, .int 0, .ref a4, .int 0, .ref a5, .int 0, .int 0, .ref a6, .int 0, .int 0, .int 0, .int 0]))]) [0, 1] rfl
  have hDc := hD.sub (ws' := [(a0, .inr (6, [.int 0, .int 0, .ref a1, .int 1, .int 0, .int 0, .int 0, .int 0, .ref a2])), (a1, .inr (5, [.ref cb, .int 81, .int 0, .ref a3, .int 0, .ref a4, .int 0, .ref a5, .int 0, .int 0, .ref a6, .int 0, .int 0, .int 0, .int 0]))]) [0, 1] (by decide) rfl
  have hFc := va_free (wc := [(a0, .inr (6, [.int 0, .int 0, .ref a1, .int 1, .int 0, .int 0, .int 0, .int 0, .ref a2])), (a1, .inr (5, [.ref cb, .int 81, .int 0, .ref a3, .int 0, .ref a4, .int 0, .ref a5, .int 0, .int 0, .ref a6, .int 0, .int 0, .int 0, .int 0]))]) hD hS hA [0, 1] rfl
  refine va_calli (va_runV (As := []) (rest := []) ⟨hx, hb, hml, hown, hts⟩ (cc_6_X6_readByte l dC dI cy H_2.size cb a0 a1 a2 a3 a4 a5 a6) (cwV 0 hts gX6_readBeginning_X6_readByte rfl rfl rfl (by decide +kernel) ⟨Nat.le_of_ble_eq_true rfl, Nat.le_of_ble_eq_true rfl⟩) ⟨fun a U g mk q => by obtain ⟨q0, q1, qP, qK, qD, qN, qS⟩ := q; exact ⟨q0, q1, qP, va_K.moved (u := U) (U := U.calling g mk a) (Vm.Alike.refl U.vm) qK, qD, qN.same rfl, SK.moved (u := U) (U := U.calling g mk a) (Vm.Alike.refl U.vm) qS⟩, va_recv hK hPc (ci := 6) (q0 := 0) rfl rfl, fun U hU hW => ⟨rfl, by rw [hU], by rw [hU]; exact hPc, va_K.moved hW.alike hK, hDc.weaken (fun _ _ _ _ => trivial), hN.warm hW, by rw [hU]; exact ((hSK.kept hS.2.1).narrow hFc).moved hW.alike⟩⟩ rfl rfl hl.1 rfl (lv_room (Nat.le_of_ble_eq_true rfl)) dX6_readBeginning_13 ⟨Nat.le_of_ble_eq_true rfl, Nat.le_of_ble_eq_true rfl⟩) hS (fun q _ h => hFc q h) hFc (fun r_3 u t H_4 locs ht hvm hw hB hz1 hk1 hS2 => ?_)
  obtain ⟨hP1, hK1, hD1⟩ := hB
  rw [ht] at hP1
  obtain rfl := hw
  obtain ⟨hP2, hD2⟩ := va_join (wr := []) (w1 := [(a0, .inr (6, [.int 0, .int 0, .ref a1, .int 2, .int 0, .int 0, .int 0, .int 0, .ref a2])), (a1, .inr (5, [.ref cb, .int 81, .int 0, .ref a3, .int 0, .ref a4, .int 0, .ref a5, .int 0, .int 0, .ref a6, .int 0, .int 0, .int 0, .int 0]))]) hP hD [0, 1] [] rfl rfl (by decide) (by decide) hk1 hFc hP1 hD1
  replace hP : va_P (dC, dI) vwCl [(a0, .inr (6, [.int 0, .int 0, .ref a1, .int 2, .int 0, .int 0, .int 0, .int 0, .ref a2])), (a1, .inr (5, [.ref cb, .int 81, .int 0, .ref a3, .int 0, .ref a4, .int 0, .ref a5, .int 0, .int 0, .ref a6, .int 0, .int 0, .int 0, .int 0]))] H_4 := hP2
  replace hD : va_D A [(a0, .inr (6, [.int 0, .int 0, .ref a1, .int 2, .int 0, .int 0, .int 0, .int 0, .ref a2])), (a1, .inr (5, [.ref cb, .int 81, .int 0, .ref a3, .int 0, .ref a4, .int 0, .ref a5, .int 0, .int 0, .ref a6, .int 0, .int 0, .int 0, .int 0]))] := hD2
  replace hS := hS2
  clear hP2 hD2 hS2
  clear hPc hDc hFc hP1 hD1 hK1 hk1 hz1 hvm ht
  refine W.widen (k := 0) (n := 0) (Nat.le_of_ble_eq_true rfl) (Nat.le_of_ble_eq_true rfl) ?_
  refine va_gets hx hb hSK.1 hS hown (hts _ m_X6_readBeginning_2) (fun _ h => h) dX6_readBeginning_16 ?_
  refine lv_iload_n hx hb dX6_readBeginning_19 rfl (lv_at hl 1 rfl) ?_
  refine va_tb (v := .int 76) hx hb hSK.2 hS (by unfold vp_in; decide) rfl dX6_readBeginning_20 ?_
  refine lv_icmp_eq (tgt := 30) hx hb dX6_readBeginning_21 (by decide) (fun _ => ?_) (fun h => absurd (by decide) h)
  refine lv_iinc (v := 2) (lv' := [(1, .int 2), (2, .int 1), (0, .ref a0)]) hx hb dX6_readBeginning_30 hl (k := 1) rfl (by decide) (by decide) rfl (fun ls hl2 => ?_)
  replace hl := hl2
  clear hl2
  refine lv_goto (tgt := 2) hx hb dX6_readBeginning_33 (by decide) ?_
  refine lv_iload_n hx hb dX6_readBeginning_2 rfl (lv_at hl 0 rfl) ?_
  refine lv_iconst (v := 4) hx hb dX6_readBeginning_3 (by decide) ?_
  refine lv_icmp_ge (tgt := 36) hx hb dX6_readBeginning_4 (by decide) (fun h => absurd h (by decide)) (fun _ => ?_)
  refine lv_aload_n hx hb dX6_readBeginning_7 rfl (lv_at hl 2 rfl) ?_
  refine va_get (D := (dC, dI)) (ci := 6) (v := .int 2) (C := RX6) (T := TX6) (N := 9) hx hb hts iw_X6_readBeginning_X6 hown hK hP 0 rfl rfl 3 (by decide) (hts _ m_X6_readBeginning_1) (fun _ h9 => h9) rfl dX6_readBeginning_8 ?_
  refine lv_istore_n (lv' := [(2, .int 2), (1, .int 2), (0, .ref a0)]) hx hb dX6_readBeginning_11 rfl hl (by decide) rfl (fun ls hl2 => ?_)
  replace hl := hl2
  clear hl2
  refine lv_aload_n hx hb dX6_readBeginning_12 rfl (lv_at hl 2 rfl) ?_
  have hPc := hP.sub (ws' := [(a0, .inr (6, [.int 0, .int 0, .ref a1, .int 2, .int 0, .int 0, .int 0, .int 0, .ref a2])), (a1, .inr (5, [.ref cb, .int 81, .int 0, .ref a3, .int 0, .ref a4, .int 0, .ref a5, .int 0, .int 0, .ref a6, .int 0, .int 0, .int 0, .int 0]))]) [0, 1] rfl
  have hDc := hD.sub (ws' := [(a0, .inr (6, [.int 0, .int 0, .ref a1, .int 2, .int 0, .int 0, .int 0, .int 0, .ref a2])), (a1, .inr (5, [.ref cb, .int 81, .int 0, .ref a3, .int 0, .ref a4, .int 0, .ref a5, .int 0, .int 0, .ref a6, .int 0, .int 0, .int 0, .int 0]))]) [0, 1] (by decide) rfl
  have hFc := va_free (wc := [(a0, .inr (6, [.int 0, .int 0, .ref a1, .int 2, .int 0, .int 0, .int 0, .int 0, .ref a2])), (a1, .inr (5, [.ref cb, .int 81, .int 0, .ref a3, .int 0, .ref a4, .int 0, .ref a5, .int 0, .int 0, .ref a6, .int 0, .int 0, .int 0, .int 0]))]) hD hS hA [0, 1] rfl
  refine va_calli (va_runV (As := []) (rest := []) ⟨hx, hb, hml, hown, hts⟩ (cc_7_X6_readByte l dC dI cy H_4.size cb a0 a1 a2 a3 a4 a5 a6) (cwV 0 hts gX6_readBeginning_X6_readByte rfl rfl rfl (by decide +kernel) ⟨Nat.le_of_ble_eq_true rfl, Nat.le_of_ble_eq_true rfl⟩) ⟨fun a U g mk q => by obtain ⟨q0, q1, qP, qK, qD, qN, qS⟩ := q; exact ⟨q0, q1, qP, va_K.moved (u := U) (U := U.calling g mk a) (Vm.Alike.refl U.vm) qK, qD, qN.same rfl, SK.moved (u := U) (U := U.calling g mk a) (Vm.Alike.refl U.vm) qS⟩, va_recv hK hPc (ci := 6) (q0 := 0) rfl rfl, fun U hU hW => ⟨rfl, by rw [hU], by rw [hU]; exact hPc, va_K.moved hW.alike hK, hDc.weaken (fun _ _ _ _ => trivial), hN.warm hW, by rw [hU]; exact ((hSK.kept hS.2.1).narrow hFc).moved hW.alike⟩⟩ rfl rfl hl.1 rfl (lv_room (Nat.le_of_ble_eq_true rfl)) dX6_readBeginning_13 ⟨Nat.le_of_ble_eq_true rfl, Nat.le_of_ble_eq_true rfl⟩) hS (fun q _ h => hFc q h) hFc (fun r_5 u t H_6 locs ht hvm hw hB hz1 hk1 hS2 => ?_)
  obtain ⟨hP1, hK1, hD1⟩ := hB
  rw [ht] at hP1
  obtain rfl := hw
  obtain ⟨hP2, hD2⟩ := va_join (wr := []) (w1 := [(a0, .inr (6, [.int 0, .int 0, .ref a1, .int 3, .int 0, .int 0, .int 0, .int 0, .ref a2])), (a1, .inr (5, [.ref cb, .int 81, .int 0, .ref a3, .int 0, .ref a4, .int 0, .ref a5, .int 0, .int 0, .ref a6, .int 0, .int 0, .int 0, .int 0]))]) hP hD [0, 1] [] rfl rfl (by decide) (by decide) hk1 hFc hP1 hD1
  replace hP : va_P (dC, dI) vwCl [(a0, .inr (6, [.int 0, .int 0, .ref a1, .int 3, .int 0, .int 0, .int 0, .int 0, .ref a2])), (a1, .inr (5, [.ref cb, .int 81, .int 0, .ref a3, .int 0, .ref a4, .int 0, .ref a5, .int 0, .int 0, .ref a6, .int 0, .int 0, .int 0, .int 0]))] H_6 := hP2
  replace hD : va_D A [(a0, .inr (6, [.int 0, .int 0, .ref a1, .int 3, .int 0, .int 0, .int 0, .int 0, .ref a2])), (a1, .inr (5, [.ref cb, .int 81, .int 0, .ref a3, .int 0, .ref a4, .int 0, .ref a5, .int 0, .int 0, .ref a6, .int 0, .int 0, .int 0, .int 0]))] := hD2
  replace hS := hS2
  clear hP2 hD2 hS2
  clear hPc hDc hFc hP1 hD1 hK1 hk1 hz1 hvm ht
  refine W.widen (k := 0) (n := 0) (Nat.le_of_ble_eq_true rfl) (Nat.le_of_ble_eq_true rfl) ?_
  refine va_gets hx hb hSK.1 hS hown (hts _ m_X6_readBeginning_2) (fun _ h => h) dX6_readBeginning_16 ?_
  refine lv_iload_n hx hb dX6_readBeginning_19 rfl (lv_at hl 1 rfl) ?_
  refine va_tb (v := .int 77) hx hb hSK.2 hS (by unfold vp_in; decide) rfl dX6_readBeginning_20 ?_
  refine lv_icmp_eq (tgt := 30) hx hb dX6_readBeginning_21 (by decide) (fun _ => ?_) (fun h => absurd (by decide) h)
  refine lv_iinc (v := 3) (lv' := [(1, .int 3), (2, .int 2), (0, .ref a0)]) hx hb dX6_readBeginning_30 hl (k := 1) rfl (by decide) (by decide) rfl (fun ls hl2 => ?_)
  replace hl := hl2
  clear hl2
  refine lv_goto (tgt := 2) hx hb dX6_readBeginning_33 (by decide) ?_
  refine lv_iload_n hx hb dX6_readBeginning_2 rfl (lv_at hl 0 rfl) ?_
  refine lv_iconst (v := 4) hx hb dX6_readBeginning_3 (by decide) ?_
  refine lv_icmp_ge (tgt := 36) hx hb dX6_readBeginning_4 (by decide) (fun h => absurd h (by decide)) (fun _ => ?_)
  refine lv_aload_n hx hb dX6_readBeginning_7 rfl (lv_at hl 2 rfl) ?_
  refine va_get (D := (dC, dI)) (ci := 6) (v := .int 3) (C := RX6) (T := TX6) (N := 9) hx hb hts iw_X6_readBeginning_X6 hown hK hP 0 rfl rfl 3 (by decide) (hts _ m_X6_readBeginning_1) (fun _ h9 => h9) rfl dX6_readBeginning_8 ?_
  refine lv_istore_n (lv' := [(2, .int 3), (1, .int 3), (0, .ref a0)]) hx hb dX6_readBeginning_11 rfl hl (by decide) rfl (fun ls hl2 => ?_)
  replace hl := hl2
  clear hl2
  refine lv_aload_n hx hb dX6_readBeginning_12 rfl (lv_at hl 2 rfl) ?_
  have hPc := hP.sub (ws' := [(a0, .inr (6, [.int 0, .int 0, .ref a1, .int 3, .int 0, .int 0, .int 0, .int 0, .ref a2])), (a1, .inr (5, [.ref cb, .int 81, .int 0, .ref a3, .int 0, .ref a4, .int 0, .ref a5, .int 0, .int 0, .ref a6, .int 0, .int 0, .int 0, .int 0]))]) [0, 1] rfl
  have hDc := hD.sub (ws' := [(a0, .inr (6, [.int 0, .int 0, .ref a1, .int 3, .int 0, .int 0, .int 0, .int 0, .ref a2])), (a1, .inr (5, [.ref cb, .int 81, .int 0, .ref a3, .int 0, .ref a4, .int 0, .ref a5, .int 0, .int 0, .ref a6, .int 0, .int 0, .int 0, .int 0]))]) [0, 1] (by decide) rfl
  have hFc := va_free (wc := [(a0, .inr (6, [.int 0, .int 0, .ref a1, .int 3, .int 0, .int 0, .int 0, .int 0, .ref a2])), (a1, .inr (5, [.ref cb, .int 81, .int 0, .ref a3, .int 0, .ref a4, .int 0, .ref a5, .int 0, .int 0, .ref a6, .int 0, .int 0, .int 0, .int 0]))]) hD hS hA [0, 1] rfl
  refine va_calli (va_runV (As := []) (rest := []) ⟨hx, hb, hml, hown, hts⟩ (cc_8_X6_readByte l dC dI cy H_6.size cb a0 a1 a2 a3 a4 a5 a6) (cwV 0 hts gX6_readBeginning_X6_readByte rfl rfl rfl (by decide +kernel) ⟨Nat.le_of_ble_eq_true rfl, Nat.le_of_ble_eq_true rfl⟩) ⟨fun a U g mk q => by obtain ⟨q0, q1, qP, qK, qD, qN, qS⟩ := q; exact ⟨q0, q1, qP, va_K.moved (u := U) (U := U.calling g mk a) (Vm.Alike.refl U.vm) qK, qD, qN.same rfl, SK.moved (u := U) (U := U.calling g mk a) (Vm.Alike.refl U.vm) qS⟩, va_recv hK hPc (ci := 6) (q0 := 0) rfl rfl, fun U hU hW => ⟨rfl, by rw [hU], by rw [hU]; exact hPc, va_K.moved hW.alike hK, hDc.weaken (fun _ _ _ _ => trivial), hN.warm hW, by rw [hU]; exact ((hSK.kept hS.2.1).narrow hFc).moved hW.alike⟩⟩ rfl rfl hl.1 rfl (lv_room (Nat.le_of_ble_eq_true rfl)) dX6_readBeginning_13 ⟨Nat.le_of_ble_eq_true rfl, Nat.le_of_ble_eq_true rfl⟩) hS (fun q _ h => hFc q h) hFc (fun r_7 u t H_8 locs ht hvm hw hB hz1 hk1 hS2 => ?_)
  obtain ⟨hP1, hK1, hD1⟩ := hB
  rw [ht] at hP1
  obtain rfl := hw
  obtain ⟨hP2, hD2⟩ := va_join (wr := []) (w1 := [(a0, .inr (6, [.int 0, .int 0, .ref a1, .int 4, .int 0, .int 0, .int 0, .int 0, .ref a2])), (a1, .inr (5, [.ref cb, .int 81, .int 0, .ref a3, .int 0, .ref a4, .int 0, .ref a5, .int 0, .int 0, .ref a6, .int 0, .int 0, .int 0, .int 0]))]) hP hD [0, 1] [] rfl rfl (by decide) (by decide) hk1 hFc hP1 hD1
  replace hP : va_P (dC, dI) vwCl [(a0, .inr (6, [.int 0, .int 0, .ref a1, .int 4, .int 0, .int 0, .int 0, .int 0, .ref a2])), (a1, .inr (5, [.ref cb, .int 81, .int 0, .ref a3, .int 0, .ref a4, .int 0, .ref a5, .int 0, .int 0, .ref a6, .int 0, .int 0, .int 0, .int 0]))] H_8 := hP2
  replace hD : va_D A [(a0, .inr (6, [.int 0, .int 0, .ref a1, .int 4, .int 0, .int 0, .int 0, .int 0, .ref a2])), (a1, .inr (5, [.ref cb, .int 81, .int 0, .ref a3, .int 0, .ref a4, .int 0, .ref a5, .int 0, .int 0, .ref a6, .int 0, .int 0, .int 0, .int 0]))] := hD2
  replace hS := hS2
  clear hP2 hD2 hS2
  clear hPc hDc hFc hP1 hD1 hK1 hk1 hz1 hvm ht
  refine W.widen (k := 0) (n := 0) (Nat.le_of_ble_eq_true rfl) (Nat.le_of_ble_eq_true rfl) ?_
  refine va_gets hx hb hSK.1 hS hown (hts _ m_X6_readBeginning_2) (fun _ h => h) dX6_readBeginning_16 ?_
  refine lv_iload_n hx hb dX6_readBeginning_19 rfl (lv_at hl 1 rfl) ?_
  refine va_tb (v := .int 49) hx hb hSK.2 hS (by unfold vp_in; decide) rfl dX6_readBeginning_20 ?_
  refine lv_icmp_eq (tgt := 30) hx hb dX6_readBeginning_21 (by decide) (fun _ => ?_) (fun h => absurd (by decide) h)
  refine lv_iinc (v := 4) (lv' := [(1, .int 4), (2, .int 3), (0, .ref a0)]) hx hb dX6_readBeginning_30 hl (k := 1) rfl (by decide) (by decide) rfl (fun ls hl2 => ?_)
  replace hl := hl2
  clear hl2
  refine lv_goto (tgt := 2) hx hb dX6_readBeginning_33 (by decide) ?_
  refine lv_iload_n hx hb dX6_readBeginning_2 rfl (lv_at hl 0 rfl) ?_
  refine lv_iconst (v := 4) hx hb dX6_readBeginning_3 (by decide) ?_
  refine lv_icmp_ge (tgt := 36) hx hb dX6_readBeginning_4 (by decide) (fun _ => ?_) (fun h => absurd (by decide) h)
  refine lv_aload_n hx hb dX6_readBeginning_36 rfl (lv_at hl 2 rfl) ?_
  refine va_get (D := (dC, dI)) (ci := 6) (v := .ref a1) (C := RX6) (T := TX6) (N := 9) hx hb hts iw_X6_readBeginning_X6 hown hK hP 0 rfl rfl 2 (by decide) (hts _ m_X6_readBeginning_3) (fun _ h9 => h9) rfl dX6_readBeginning_37 ?_
  refine lv_aload_n hx hb dX6_readBeginning_40 rfl (lv_at hl 2 rfl) ?_
  have hPc := hP.sub (ws' := [(a0, .inr (6, [.int 0, .int 0, .ref a1, .int 4, .int 0, .int 0, .int 0, .int 0, .ref a2])), (a1, .inr (5, [.ref cb, .int 81, .int 0, .ref a3, .int 0, .ref a4, .int 0, .ref a5, .int 0, .int 0, .ref a6, .int 0, .int 0, .int 0, .int 0]))]) [0, 1] rfl
  have hDc := hD.sub (ws' := [(a0, .inr (6, [.int 0, .int 0, .ref a1, .int 4, .int 0, .int 0, .int 0, .int 0, .ref a2])), (a1, .inr (5, [.ref cb, .int 81, .int 0, .ref a3, .int 0, .ref a4, .int 0, .ref a5, .int 0, .int 0, .ref a6, .int 0, .int 0, .int 0, .int 0]))]) [0, 1] (by decide) rfl
  have hFc := va_free (wc := [(a0, .inr (6, [.int 0, .int 0, .ref a1, .int 4, .int 0, .int 0, .int 0, .int 0, .ref a2])), (a1, .inr (5, [.ref cb, .int 81, .int 0, .ref a3, .int 0, .ref a4, .int 0, .ref a5, .int 0, .int 0, .ref a6, .int 0, .int 0, .int 0, .int 0]))]) hD hS hA [0, 1] rfl
  refine va_calli (va_runV (As := []) (rest := [.ref a1]) ⟨hx, hb, hml, hown, hts⟩ (cc_9_X6_readShort l dC dI cy H_8.size cb a0 a1 a2 a3 a4 a5 a6) (cwV 0 hts gX6_readBeginning_X6_readShort rfl rfl rfl (by decide +kernel) ⟨Nat.le_of_ble_eq_true rfl, Nat.le_of_ble_eq_true rfl⟩) ⟨fun a U g mk q => by obtain ⟨q0, q1, qP, qK, qD, qN, qS⟩ := q; exact ⟨q0, q1, qP, va_K.moved (u := U) (U := U.calling g mk a) (Vm.Alike.refl U.vm) qK, qD, qN.same rfl, SK.moved (u := U) (U := U.calling g mk a) (Vm.Alike.refl U.vm) qS⟩, va_recv hK hPc (ci := 6) (q0 := 0) rfl rfl, fun U hU hW => ⟨rfl, by rw [hU], by rw [hU]; exact hPc, va_K.moved hW.alike hK, hDc.weaken (fun _ _ _ _ => trivial), hN.warm hW, by rw [hU]; exact ((hSK.kept hS.2.1).narrow hFc).moved hW.alike⟩⟩ rfl rfl hl.1 rfl (lv_room (Nat.le_of_ble_eq_true rfl)) dX6_readBeginning_41 ⟨Nat.le_of_ble_eq_true rfl, Nat.le_of_ble_eq_true rfl⟩) hS (fun q _ h => hFc q h) hFc (fun r_9 u t H_10 locs ht hvm hw hB hz1 hk1 hS2 => ?_)
  obtain ⟨hP1, hK1, hD1⟩ := hB
  rw [ht] at hP1
  obtain rfl := hw
  obtain ⟨hP2, hD2⟩ := va_join (wr := []) (w1 := [(a0, .inr (6, [.int 0, .int 0, .ref a1, .int 6, .int 0, .int 0, .int 0, .int 0, .ref a2])), (a1, .inr (5, [.ref cb, .int 81, .int 0, .ref a3, .int 0, .ref a4, .int 0, .ref a5, .int 0, .int 0, .ref a6, .int 0, .int 0, .int 0, .int 0]))]) hP hD [0, 1] [] rfl rfl (by decide) (by decide) hk1 hFc hP1 hD1
  replace hP : va_P (dC, dI) vwCl [(a0, .inr (6, [.int 0, .int 0, .ref a1, .int 6, .int 0, .int 0, .int 0, .int 0, .ref a2])), (a1, .inr (5, [.ref cb, .int 81, .int 0, .ref a3, .int 0, .ref a4, .int 0, .ref a5, .int 0, .int 0, .ref a6, .int 0, .int 0, .int 0, .int 0]))] H_10 := hP2
  replace hD : va_D A [(a0, .inr (6, [.int 0, .int 0, .ref a1, .int 6, .int 0, .int 0, .int 0, .int 0, .ref a2])), (a1, .inr (5, [.ref cb, .int 81, .int 0, .ref a3, .int 0, .ref a4, .int 0, .ref a5, .int 0, .int 0, .ref a6, .int 0, .int 0, .int 0, .int 0]))] := hD2
  replace hS := hS2
  clear hP2 hD2 hS2
  clear hPc hDc hFc hP1 hD1 hK1 hk1 hz1 hvm ht
  refine W.widen (k := 0) (n := 0) (Nat.le_of_ble_eq_true rfl) (Nat.le_of_ble_eq_true rfl) ?_
  refine va_put (D := (dC, dI)) (ci := 5) (v := .int 0) (ty := .int) (C := RX5) (T := TX5) (N := 15) hx hb hts iw_X6_readBeginning_X5 tyX5 tyX5_ok nmX5 hown hK hP hD hS 1 rfl rfl 2 (by decide) (hts _ m_X6_readBeginning_4) (fun _ h9 => h9) rfl (by decide +kernel) rfl rfl (Nat.le_of_ble_eq_true rfl) dX6_readBeginning_44 (fun H_11 locs hP2 hD2 hS2 => ?_)
  replace hP : va_P (dC, dI) vwCl [(a0, .inr (6, [.int 0, .int 0, .ref a1, .int 6, .int 0, .int 0, .int 0, .int 0, .ref a2])), (a1, .inr (5, [.ref cb, .int 81, .int 0, .ref a3, .int 0, .ref a4, .int 0, .ref a5, .int 0, .int 0, .ref a6, .int 0, .int 0, .int 0, .int 0]))] H_11 := hP2
  replace hD : va_D A [(a0, .inr (6, [.int 0, .int 0, .ref a1, .int 6, .int 0, .int 0, .int 0, .int 0, .ref a2])), (a1, .inr (5, [.ref cb, .int 81, .int 0, .ref a3, .int 0, .ref a4, .int 0, .ref a5, .int 0, .int 0, .ref a6, .int 0, .int 0, .int 0, .int 0]))] := hD2
  replace hS := hS2
  clear hP2 hD2 hS2
  exact W.vret hx hb hr (fun t ht hW => ⟨⟨(), rfl, trivial, by rw [ht]; exact hP, va_K.moved hW.alike hK, hD⟩, hS.F ht⟩) hS.2.2 dX6_readBeginning_47

set_option maxHeartbeats 4000000 in
set_option maxRecDepth 100000 in
theorem cc_14_X6_readByte (l : Launch) (dC : Nat → ClassId) (dI : Nat → Nat → Nat) (cy : Nat → ClassId) (sz : Nat) (cb : Nat) (a0 : Nat) (a1 : Nat) (a2 : Nat) (a3 : Nat) (a4 : Nat) (a5 : Nat) (a6 : Nat)  : Met l yX6_readByte wsX6_readByte ({ frames := 0, cells := 0, slots := 0, locals := 0 }) (va_Pc [.ref a0] (fun U => U.heap.size = sz ∧ va_P (dC, dI) vwCl [(a0, .inr (6, [.int 0, .int 0, .ref a1, .int 6, .int 0, .int 0, .int 0, .int 0, .ref a2])), (a1, .inr (5, [.ref cb, .int 81, .int 0, .ref a3, .int 0, .ref a4, .int 0, .ref a5, .int 0, .int 0, .ref a6, .int 0, .int 0, .int 0, .int 0]))] U.heap ∧ va_K (dC, dI) vwCl (TYS cy) U ∧ va_D (fun _ => True) [(a0, .inr (6, [.int 0, .int 0, .ref a1, .int 6, .int 0, .int 0, .int 0, .int 0, .ref a2])), (a1, .inr (5, [.ref cb, .int 81, .int 0, .ref a3, .int 0, .ref a4, .int 0, .ref a5, .int 0, .int 0, .ref a6, .int 0, .int 0, .int 0, .int 0]))] ∧ NK U ∧ SK cb (va_A [(a0, .inr (6, [.int 0, .int 0, .ref a1, .int 6, .int 0, .int 0, .int 0, .int 0, .ref a2])), (a1, .inr (5, [.ref cb, .int 81, .int 0, .ref a3, .int 0, .ref a4, .int 0, .ref a5, .int 0, .int 0, .ref a6, .int 0, .int 0, .int 0, .int 0]))] sz) U U.heap)) (va_Qi (fun (r : Int32) (u : Unit) => r = 1) (fun u t => va_P (dC, dI) vwCl [(a0, .inr (6, [.int 0, .int 0, .ref a1, .int 7, .int 0, .int 0, .int 0, .int 0, .ref a2])), (a1, .inr (5, [.ref cb, .int 81, .int 0, .ref a3, .int 0, .ref a4, .int 0, .ref a5, .int 0, .int 0, .ref a6, .int 0, .int 0, .int 0, .int 0]))] t.heap ∧ va_K (dC, dI) vwCl (TYS cy) t ∧ va_D (va_A [(a0, .inr (6, [.int 0, .int 0, .ref a1, .int 6, .int 0, .int 0, .int 0, .int 0, .ref a2])), (a1, .inr (5, [.ref cb, .int 81, .int 0, .ref a3, .int 0, .ref a4, .int 0, .ref a5, .int 0, .int 0, .ref a6, .int 0, .int 0, .int 0, .int 0]))] sz) [(a0, .inr (6, [.int 0, .int 0, .ref a1, .int 7, .int 0, .int 0, .int 0, .int 0, .ref a2])), (a1, .inr (5, [.ref cb, .int 81, .int 0, .ref a3, .int 0, .ref a4, .int 0, .ref a5, .int 0, .int 0, .ref a6, .int 0, .int 0, .int 0, .int 0]))]) (va_A [(a0, .inr (6, [.int 0, .int 0, .ref a1, .int 6, .int 0, .int 0, .int 0, .int 0, .ref a2])), (a1, .inr (5, [.ref cb, .int 81, .int 0, .ref a3, .int 0, .ref a4, .int 0, .ref a5, .int 0, .int 0, .ref a6, .int 0, .int 0, .int 0, .int 0]))] sz)) 0 0 (va_A [(a0, .inr (6, [.int 0, .int 0, .ref a1, .int 6, .int 0, .int 0, .int 0, .int 0, .ref a2])), (a1, .inr (5, [.ref cb, .int 81, .int 0, .ref a3, .int 0, .ref a4, .int 0, .ref a5, .int 0, .int 0, .ref a6, .int 0, .int 0, .int 0, .int 0]))] sz) := by
  refine Met.ofW (cc := cX6_readByte) (maxL := 1) (ret := (some .int)) (by decide) rfl ?_
  intro p e s m args below meth c s₁ B hml hv
  obtain ⟨rfl, hsz, hP, hK, hD0, hN, hSK⟩ := hv
  have hx := B.exec
  have hb := B.bytes
  have hr := B.returns
  have hts := atoms_spec (ws := wsX6_readByte) B.pre
  have hown : s.vm.findClass RX6 = some m.cls := findClass_of_methodNamed B.named
  have hlocks := B.notSynchronized
  subst hsz
  have hD := hD0.self (sz := s.heap.size)
  generalize hAe : va_A [(a0, .inr (6, [.int 0, .int 0, .ref a1, .int 6, .int 0, .int 0, .int 0, .int 0, .ref a2])), (a1, .inr (5, [.ref cb, .int 81, .int 0, .ref a3, .int 0, .ref a4, .int 0, .ref a5, .int 0, .int 0, .ref a6, .int 0, .int 0, .int 0, .int 0]))] s.heap.size = A at hD hSK ⊢
  have hA : ∀ q : Nat, s.heap.size ≤ q → A q := fun q h => by rw [← hAe]; exact Or.inr h
  have hS : va_S A s.heap s.heap [] := va_S.rf
  have hP : va_P (dC, dI) vwCl [(a0, .inr (6, [.int 0, .int 0, .ref a1, .int 6, .int 0, .int 0, .int 0, .int 0, .ref a2])), (a1, .inr (5, [.ref cb, .int 81, .int 0, .ref a3, .int 0, .ref a4, .int 0, .ref a5, .int 0, .int 0, .ref a6, .int 0, .int 0, .int 0, .int 0]))] s.heap := hP
  have hl := lv_entry ([.ref a0]) (n := 1) (Nat.le_of_ble_eq_true rfl)
  rw [lg_entry_eq]
  generalize (lg_sl ([.ref a0]) ++ List.replicate (1 - (lg_sl ([.ref a0])).length) Slot.unset).toArray = ls at hl ⊢
  replace hl : lv_has ls 1 [(0, .ref a0)] := hl
  refine lv_aload_n hx hb dX6_readByte_0 rfl (lv_at hl 0 rfl) ?_
  refine va_get (D := (dC, dI)) (ci := 6) (v := .int 0) (C := RX6) (T := TX6) (N := 9) hx hb hts iw_X6_readByte_X6 hown hK hP 0 rfl rfl 1 (by decide) (hts _ m_X6_readByte_1) (fun _ h9 => h9) rfl dX6_readByte_1 ?_
  refine lv_if_eq (tgt := 9) hx hb dX6_readByte_4 (by decide) (fun _ => ?_) (fun h => absurd (by decide) h)
  refine lv_aload_n hx hb dX6_readByte_9 rfl (lv_at hl 0 rfl) ?_
  refine va_get (D := (dC, dI)) (ci := 6) (v := .int 6) (C := RX6) (T := TX6) (N := 9) hx hb hts iw_X6_readByte_X6 hown hK hP 0 rfl rfl 3 (by decide) (hts _ m_X6_readByte_2) (fun _ h9 => h9) rfl dX6_readByte_10 ?_
  refine lv_aload_n hx hb dX6_readByte_13 rfl (lv_at hl 0 rfl) ?_
  refine va_get (D := (dC, dI)) (ci := 6) (v := .ref a1) (C := RX6) (T := TX6) (N := 9) hx hb hts iw_X6_readByte_X6 hown hK hP 0 rfl rfl 2 (by decide) (hts _ m_X6_readByte_3) (fun _ h9 => h9) rfl dX6_readByte_14 ?_
  refine va_get (D := (dC, dI)) (ci := 5) (v := .int 81) (C := RX5) (T := TX5) (N := 15) hx hb hts iw_X6_readByte_X5 hown hK hP 1 rfl rfl 1 (by decide) (hts _ m_X6_readByte_4) (fun _ h9 => h9) rfl dX6_readByte_17 ?_
  refine lv_icmp_lt (tgt := 41) hx hb dX6_readByte_20 (by decide) (fun _ => ?_) (fun h => absurd (by decide) h)
  refine lv_aload_n hx hb dX6_readByte_41 rfl (lv_at hl 0 rfl) ?_
  refine va_get (D := (dC, dI)) (ci := 6) (v := .ref a1) (C := RX6) (T := TX6) (N := 9) hx hb hts iw_X6_readByte_X6 hown hK hP 0 rfl rfl 2 (by decide) (hts _ m_X6_readByte_3) (fun _ h9 => h9) rfl dX6_readByte_42 ?_
  refine va_get (D := (dC, dI)) (ci := 5) (v := .ref cb) (C := RX5) (T := TX5) (N := 15) hx hb hts iw_X6_readByte_X5 hown hK hP 1 rfl rfl 0 (by decide) (hts _ m_X6_readByte_6) (fun _ h9 => h9) rfl dX6_readByte_45 ?_
  refine lv_aload_n hx hb dX6_readByte_48 rfl (lv_at hl 0 rfl) ?_
  refine lv_dup hx hb dX6_readByte_49 rfl ?_
  refine va_get (D := (dC, dI)) (ci := 6) (v := .int 6) (C := RX6) (T := TX6) (N := 9) hx hb hts iw_X6_readByte_X6 hown hK hP 0 rfl rfl 3 (by decide) (hts _ m_X6_readByte_2) (fun _ h9 => h9) rfl dX6_readByte_50 ?_
  refine lv_dup_x1 hx hb dX6_readByte_53 rfl rfl ?_
  refine lv_iconst (v := 1) hx hb dX6_readByte_54 (by decide) ?_
  refine lv_iadd hx hb dX6_readByte_55 ?_
  refine lv_topi (fun z_1 ez_1 => ?_)
  obtain rfl : z_1 = 7 := ez_1.trans (by decide)
  clear ez_1
  refine va_put (D := (dC, dI)) (ci := 6) (v := .int 7) (ty := .int) (C := RX6) (T := TX6) (N := 9) hx hb hts iw_X6_readByte_X6 tyX6 tyX6_ok nmX6 hown hK hP hD hS 0 rfl rfl 3 (by decide) (hts _ m_X6_readByte_2) (fun _ h9 => h9) rfl (by decide +kernel) rfl rfl (Nat.le_of_ble_eq_true rfl) dX6_readByte_56 (fun H_2 locs hP2 hD2 hS2 => ?_)
  replace hP : va_P (dC, dI) vwCl [(a0, .inr (6, [.int 0, .int 0, .ref a1, .int 7, .int 0, .int 0, .int 0, .int 0, .ref a2])), (a1, .inr (5, [.ref cb, .int 81, .int 0, .ref a3, .int 0, .ref a4, .int 0, .ref a5, .int 0, .int 0, .ref a6, .int 0, .int 0, .int 0, .int 0]))] H_2 := hP2
  replace hD : va_D A [(a0, .inr (6, [.int 0, .int 0, .ref a1, .int 7, .int 0, .int 0, .int 0, .int 0, .ref a2])), (a1, .inr (5, [.ref cb, .int 81, .int 0, .ref a3, .int 0, .ref a4, .int 0, .ref a5, .int 0, .int 0, .ref a6, .int 0, .int 0, .int 0, .int 0]))] := hD2
  replace hS := hS2
  clear hP2 hD2 hS2
  refine va_tb (v := .int 1) hx hb hSK.2 hS (by unfold vp_in; decide) rfl dX6_readByte_59 ?_
  refine lv_sipush (v := 255) hx hb dX6_readByte_60 (by decide) ?_
  refine lv_iand hx hb dX6_readByte_63 ?_
  refine lv_topi (fun z_3 ez_3 => ?_)
  obtain rfl : z_3 = 1 := ez_3.trans (by decide)
  clear ez_3
  exact W.iret hx hb hr (fun t ht hW => ⟨⟨1, (), rfl, rfl, by rw [ht]; exact hP, va_K.moved hW.alike hK, hD⟩, hS.F ht⟩) hS.2.2 dX6_readByte_64

set_option maxHeartbeats 4000000 in
set_option maxRecDepth 100000 in
theorem cc_13_X6_readNumber (l : Launch) (dC : Nat → ClassId) (dI : Nat → Nat → Nat) (cy : Nat → ClassId) (sz : Nat) (cb : Nat) (a0 : Nat) (a1 : Nat) (a2 : Nat) (a3 : Nat) (a4 : Nat) (a5 : Nat) (a6 : Nat)  : Met l yX6_readNumber wsX6_readNumber ({ frames := 1, cells := 0, slots := 0, locals := 20 }) (va_Pc [.ref a0, .int 0, .int 32] (fun U => U.heap.size = sz ∧ va_P (dC, dI) vwCl [(a0, .inr (6, [.int 0, .int 0, .ref a1, .int 6, .int 0, .int 0, .int 0, .int 0, .ref a2])), (a1, .inr (5, [.ref cb, .int 81, .int 0, .ref a3, .int 0, .ref a4, .int 0, .ref a5, .int 0, .int 0, .ref a6, .int 0, .int 0, .int 0, .int 0]))] U.heap ∧ va_K (dC, dI) vwCl (TYS cy) U ∧ va_D (fun _ => True) [(a0, .inr (6, [.int 0, .int 0, .ref a1, .int 6, .int 0, .int 0, .int 0, .int 0, .ref a2])), (a1, .inr (5, [.ref cb, .int 81, .int 0, .ref a3, .int 0, .ref a4, .int 0, .ref a5, .int 0, .int 0, .ref a6, .int 0, .int 0, .int 0, .int 0]))] ∧ NK U ∧ SK cb (va_A [(a0, .inr (6, [.int 0, .int 0, .ref a1, .int 6, .int 0, .int 0, .int 0, .int 0, .ref a2])), (a1, .inr (5, [.ref cb, .int 81, .int 0, .ref a3, .int 0, .ref a4, .int 0, .ref a5, .int 0, .int 0, .ref a6, .int 0, .int 0, .int 0, .int 0]))] sz) U U.heap)) (va_Qi (fun (r : Int32) (u : Unit) => r = 1) (fun u t => va_P (dC, dI) vwCl [(a0, .inr (6, [.int 0, .int 0, .ref a1, .int 7, .int 0, .int 0, .int 0, .int 0, .ref a2])), (a1, .inr (5, [.ref cb, .int 81, .int 0, .ref a3, .int 0, .ref a4, .int 0, .ref a5, .int 0, .int 0, .ref a6, .int 0, .int 0, .int 0, .int 0]))] t.heap ∧ va_K (dC, dI) vwCl (TYS cy) t ∧ va_D (va_A [(a0, .inr (6, [.int 0, .int 0, .ref a1, .int 6, .int 0, .int 0, .int 0, .int 0, .ref a2])), (a1, .inr (5, [.ref cb, .int 81, .int 0, .ref a3, .int 0, .ref a4, .int 0, .ref a5, .int 0, .int 0, .ref a6, .int 0, .int 0, .int 0, .int 0]))] sz) [(a0, .inr (6, [.int 0, .int 0, .ref a1, .int 7, .int 0, .int 0, .int 0, .int 0, .ref a2])), (a1, .inr (5, [.ref cb, .int 81, .int 0, .ref a3, .int 0, .ref a4, .int 0, .ref a5, .int 0, .int 0, .ref a6, .int 0, .int 0, .int 0, .int 0]))]) (va_A [(a0, .inr (6, [.int 0, .int 0, .ref a1, .int 6, .int 0, .int 0, .int 0, .int 0, .ref a2])), (a1, .inr (5, [.ref cb, .int 81, .int 0, .ref a3, .int 0, .ref a4, .int 0, .ref a5, .int 0, .int 0, .ref a6, .int 0, .int 0, .int 0, .int 0]))] sz)) 0 0 (va_A [(a0, .inr (6, [.int 0, .int 0, .ref a1, .int 6, .int 0, .int 0, .int 0, .int 0, .ref a2])), (a1, .inr (5, [.ref cb, .int 81, .int 0, .ref a3, .int 0, .ref a4, .int 0, .ref a5, .int 0, .int 0, .ref a6, .int 0, .int 0, .int 0, .int 0]))] sz) := by
  refine Met.ofW (cc := cX6_readNumber) (maxL := 5) (ret := (some .int)) (by decide) rfl ?_
  intro p e s m args below meth c s₁ B hml hv
  obtain ⟨rfl, hsz, hP, hK, hD0, hN, hSK⟩ := hv
  have hx := B.exec
  have hb := B.bytes
  have hr := B.returns
  have hts := atoms_spec (ws := wsX6_readNumber) B.pre
  have hown : s.vm.findClass RX6 = some m.cls := findClass_of_methodNamed B.named
  have hlocks := B.notSynchronized
  subst hsz
  have hD := hD0.self (sz := s.heap.size)
  generalize hAe : va_A [(a0, .inr (6, [.int 0, .int 0, .ref a1, .int 6, .int 0, .int 0, .int 0, .int 0, .ref a2])), (a1, .inr (5, [.ref cb, .int 81, .int 0, .ref a3, .int 0, .ref a4, .int 0, .ref a5, .int 0, .int 0, .ref a6, .int 0, .int 0, .int 0, .int 0]))] s.heap.size = A at hD hSK ⊢
  have hA : ∀ q : Nat, s.heap.size ≤ q → A q := fun q h => by rw [← hAe]; exact Or.inr h
  have hS : va_S A s.heap s.heap [] := va_S.rf
  have hP : va_P (dC, dI) vwCl [(a0, .inr (6, [.int 0, .int 0, .ref a1, .int 6, .int 0, .int 0, .int 0, .int 0, .ref a2])), (a1, .inr (5, [.ref cb, .int 81, .int 0, .ref a3, .int 0, .ref a4, .int 0, .ref a5, .int 0, .int 0, .ref a6, .int 0, .int 0, .int 0, .int 0]))] s.heap := hP
  have hl := lv_entry ([.ref a0, .int 0, .int 32]) (n := 5) (Nat.le_of_ble_eq_true rfl)
  rw [lg_entry_eq]
  generalize (lg_sl ([.ref a0, .int 0, .int 32]) ++ List.replicate (5 - (lg_sl ([.ref a0, .int 0, .int 32])).length) Slot.unset).toArray = ls at hl ⊢
  replace hl : lv_has ls 5 [(0, .ref a0), (1, .int 0), (2, .int 32)] := hl
  refine lv_aload_n hx hb dX6_readNumber_0 rfl (lv_at hl 0 rfl) ?_
  refine va_get (D := (dC, dI)) (ci := 6) (v := .int 6) (C := RX6) (T := TX6) (N := 9) hx hb hts iw_X6_readNumber_X6 hown hK hP 0 rfl rfl 3 (by decide) (hts _ m_X6_readNumber_1) (fun _ h9 => h9) rfl dX6_readNumber_1 ?_
  refine lv_istore_n (lv' := [(3, .int 6), (0, .ref a0), (1, .int 0), (2, .int 32)]) hx hb dX6_readNumber_4 rfl hl (by decide) rfl (fun ls hl2 => ?_)
  replace hl := hl2
  clear hl2
  refine lv_aload_n hx hb dX6_readNumber_5 rfl (lv_at hl 1 rfl) ?_
  have hPc := hP.sub (ws' := [(a0, .inr (6, [.int 0, .int 0, .ref a1, .int 6, .int 0, .int 0, .int 0, .int 0, .ref a2])), (a1, .inr (5, [.ref cb, .int 81, .int 0, .ref a3, .int 0, .ref a4, .int 0, .ref a5, .int 0, .int 0, .ref a6, .int 0, .int 0, .int 0, .int 0]))]) [0, 1] rfl
  have hDc := hD.sub (ws' := [(a0, .inr (6, [.int 0, .int 0, .ref a1, .int 6, .int 0, .int 0, .int 0, .int 0, .ref a2])), (a1, .inr (5, [.ref cb, .int 81, .int 0, .ref a3, .int 0, .ref a4, .int 0, .ref a5, .int 0, .int 0, .ref a6, .int 0, .int 0, .int 0, .int 0]))]) [0, 1] (by decide) rfl
  have hFc := va_free (wc := [(a0, .inr (6, [.int 0, .int 0, .ref a1, .int 6, .int 0, .int 0, .int 0, .int 0, .ref a2])), (a1, .inr (5, [.ref cb, .int 81, .int 0, .ref a3, .int 0, .ref a4, .int 0, .ref a5, .int 0, .int 0, .ref a6, .int 0, .int 0, .int 0, .int 0]))]) hD hS hA [0, 1] rfl
  refine va_calli (va_runV (As := []) (rest := []) ⟨hx, hb, hml, hown, hts⟩ (cc_14_X6_readByte l dC dI cy s.heap.size cb a0 a1 a2 a3 a4 a5 a6) (cwV 0 hts gX6_readNumber_X6_readByte rfl rfl rfl (by decide +kernel) ⟨Nat.le_of_ble_eq_true rfl, Nat.le_of_ble_eq_true rfl⟩) ⟨fun a U g mk q => by obtain ⟨q0, q1, qP, qK, qD, qN, qS⟩ := q; exact ⟨q0, q1, qP, va_K.moved (u := U) (U := U.calling g mk a) (Vm.Alike.refl U.vm) qK, qD, qN.same rfl, SK.moved (u := U) (U := U.calling g mk a) (Vm.Alike.refl U.vm) qS⟩, va_recv hK hPc (ci := 6) (q0 := 0) rfl rfl, fun U hU hW => ⟨rfl, by rw [hU], by rw [hU]; exact hPc, va_K.moved hW.alike hK, hDc.weaken (fun _ _ _ _ => trivial), hN.warm hW, by rw [hU]; exact ((hSK.kept hS.2.1).narrow hFc).moved hW.alike⟩⟩ rfl rfl hl.1 rfl (lv_room (Nat.le_of_ble_eq_true rfl)) dX6_readNumber_6 ⟨Nat.le_of_ble_eq_true rfl, Nat.le_of_ble_eq_true rfl⟩) hS (fun q _ h => hFc q h) hFc (fun r_1 u t H_2 locs ht hvm hw hB hz1 hk1 hS2 => ?_)
  obtain ⟨hP1, hK1, hD1⟩ := hB
  rw [ht] at hP1
  obtain rfl := hw
  obtain ⟨hP2, hD2⟩ := va_join (wr := []) (w1 := [(a0, .inr (6, [.int 0, .int 0, .ref a1, .int 7, .int 0, .int 0, .int 0, .int 0, .ref a2])), (a1, .inr (5, [.ref cb, .int 81, .int 0, .ref a3, .int 0, .ref a4, .int 0, .ref a5, .int 0, .int 0, .ref a6, .int 0, .int 0, .int 0, .int 0]))]) hP hD [0, 1] [] rfl rfl (by decide) (by decide) hk1 hFc hP1 hD1
  replace hP : va_P (dC, dI) vwCl [(a0, .inr (6, [.int 0, .int 0, .ref a1, .int 7, .int 0, .int 0, .int 0, .int 0, .ref a2])), (a1, .inr (5, [.ref cb, .int 81, .int 0, .ref a3, .int 0, .ref a4, .int 0, .ref a5, .int 0, .int 0, .ref a6, .int 0, .int 0, .int 0, .int 0]))] H_2 := hP2
  replace hD : va_D A [(a0, .inr (6, [.int 0, .int 0, .ref a1, .int 7, .int 0, .int 0, .int 0, .int 0, .ref a2])), (a1, .inr (5, [.ref cb, .int 81, .int 0, .ref a3, .int 0, .ref a4, .int 0, .ref a5, .int 0, .int 0, .ref a6, .int 0, .int 0, .int 0, .int 0]))] := hD2
  replace hS := hS2
  clear hP2 hD2 hS2
  clear hPc hDc hFc hP1 hD1 hK1 hk1 hz1 hvm ht
  refine W.widen (k := 0) (n := 0) (Nat.le_of_ble_eq_true rfl) (Nat.le_of_ble_eq_true rfl) ?_
  refine lv_istore (lv' := [(4, .int 1), (3, .int 6), (0, .ref a0), (1, .int 0), (2, .int 32)]) hx hb dX6_readNumber_9 hl (by decide) rfl (fun ls hl2 => ?_)
  replace hl := hl2
  clear hl2
  refine lv_iload hx hb dX6_readNumber_11 (lv_at hl 0 rfl) ?_
  refine lv_iload_n hx hb dX6_readNumber_13 rfl (lv_at hl 3 rfl) ?_
  refine lv_icmp_lt (tgt := 23) hx hb dX6_readNumber_14 (by decide) (fun h => absurd h (by decide)) (fun _ => ?_)
  refine lv_iload hx hb dX6_readNumber_17 (lv_at hl 0 rfl) ?_
  refine lv_iload_n hx hb dX6_readNumber_19 rfl (lv_at hl 4 rfl) ?_
  refine lv_icmp_le (tgt := 29) hx hb dX6_readNumber_20 (by decide) (fun _ => ?_) (fun h => absurd (by decide) h)
  refine lv_aload_n hx hb dX6_readNumber_29 rfl (lv_at hl 2 rfl) ?_
  refine va_get (D := (dC, dI)) (ci := 6) (v := .int 0) (C := RX6) (T := TX6) (N := 9) hx hb hts iw_X6_readNumber_X6 hown hK hP 0 rfl rfl 1 (by decide) (hts _ m_X6_readNumber_2) (fun _ h9 => h9) rfl dX6_readNumber_30 ?_
  refine lv_if_ne (tgt := 41) hx hb dX6_readNumber_33 (by decide) (fun h => absurd (by decide) h) (fun _ => ?_)
  refine lv_iload hx hb dX6_readNumber_36 (lv_at hl 0 rfl) ?_
  refine lv_goto (tgt := 42) hx hb dX6_readNumber_38 (by decide) ?_
  exact W.iret hx hb hr (fun t ht hW => ⟨⟨1, (), rfl, rfl, by rw [ht]; exact hP, va_K.moved hW.alike hK, hD⟩, hS.F ht⟩) hS.2.2 dX6_readNumber_42

set_option maxHeartbeats 4000000 in
set_option maxRecDepth 100000 in
theorem cc_15_X5_setStructure (l : Launch) (dC : Nat → ClassId) (dI : Nat → Nat → Nat) (cy : Nat → ClassId) (sz : Nat) (cb : Nat) (a0 : Nat) (a1 : Nat) (a2 : Nat) (a3 : Nat) (a4 : Nat) (f0 : Nat → Int32)  : Met l yX5_setStructure wsX5_setStructure ({ frames := 0, cells := 0, slots := 0, locals := 0 }) (va_Pc [.ref a0, .int 0, .int 1, .int 7] (fun U => U.heap.size = sz ∧ va_P (dC, dI) vwCl [(a0, .inr (5, [.ref cb, .int 81, .int 0, .ref a2, .int 0, .ref a3, .int 0, .ref a1, .int 1, .int 1, .ref a4, .int 0, .int 0, .int 0, .int 0])), (a1, .inl (cy 1, 448, .inl f0))] U.heap ∧ va_K (dC, dI) vwCl (TYS cy) U ∧ va_D (fun _ => True) [(a0, .inr (5, [.ref cb, .int 81, .int 0, .ref a2, .int 0, .ref a3, .int 0, .ref a1, .int 1, .int 1, .ref a4, .int 0, .int 0, .int 0, .int 0])), (a1, .inl (cy 1, 448, .inl f0))] ∧ NK U ∧ SK cb (va_A [(a0, .inr (5, [.ref cb, .int 81, .int 0, .ref a2, .int 0, .ref a3, .int 0, .ref a1, .int 1, .int 1, .ref a4, .int 0, .int 0, .int 0, .int 0])), (a1, .inl (cy 1, 448, .inl f0))] sz) U U.heap)) (va_Qv (fun u : (Nat → Int32) => match u with | (u0) => u0 1 = 7) (fun u t => match u with | (u0) => va_P (dC, dI) vwCl [(a0, .inr (5, [.ref cb, .int 81, .int 0, .ref a2, .int 0, .ref a3, .int 0, .ref a1, .int 1, .int 1, .ref a4, .int 0, .int 0, .int 0, .int 0])), (a1, .inl (cy 1, 448, .inl u0))] t.heap ∧ va_K (dC, dI) vwCl (TYS cy) t ∧ va_D (va_A [(a0, .inr (5, [.ref cb, .int 81, .int 0, .ref a2, .int 0, .ref a3, .int 0, .ref a1, .int 1, .int 1, .ref a4, .int 0, .int 0, .int 0, .int 0])), (a1, .inl (cy 1, 448, .inl f0))] sz) [(a0, .inr (5, [.ref cb, .int 81, .int 0, .ref a2, .int 0, .ref a3, .int 0, .ref a1, .int 1, .int 1, .ref a4, .int 0, .int 0, .int 0, .int 0])), (a1, .inl (cy 1, 448, .inl u0))]) (va_A [(a0, .inr (5, [.ref cb, .int 81, .int 0, .ref a2, .int 0, .ref a3, .int 0, .ref a1, .int 1, .int 1, .ref a4, .int 0, .int 0, .int 0, .int 0])), (a1, .inl (cy 1, 448, .inl f0))] sz)) 0 0 (va_A [(a0, .inr (5, [.ref cb, .int 81, .int 0, .ref a2, .int 0, .ref a3, .int 0, .ref a1, .int 1, .int 1, .ref a4, .int 0, .int 0, .int 0, .int 0])), (a1, .inl (cy 1, 448, .inl f0))] sz) := by
  refine Met.ofW (cc := cX5_setStructure) (maxL := 4) (ret := none) (by decide) rfl ?_
  intro p e s m args below meth c s₁ B hml hv
  obtain ⟨rfl, hsz, hP, hK, hD0, hN, hSK⟩ := hv
  have hx := B.exec
  have hb := B.bytes
  have hr := B.returns
  have hts := atoms_spec (ws := wsX5_setStructure) B.pre
  have hown : s.vm.findClass RX5 = some m.cls := findClass_of_methodNamed B.named
  have hlocks := B.notSynchronized
  subst hsz
  have hD := hD0.self (sz := s.heap.size)
  generalize hAe : va_A [(a0, .inr (5, [.ref cb, .int 81, .int 0, .ref a2, .int 0, .ref a3, .int 0, .ref a1, .int 1, .int 1, .ref a4, .int 0, .int 0, .int 0, .int 0])), (a1, .inl (cy 1, 448, .inl f0))] s.heap.size = A at hD hSK ⊢
  have hA : ∀ q : Nat, s.heap.size ≤ q → A q := fun q h => by rw [← hAe]; exact Or.inr h
  have hS : va_S A s.heap s.heap [] := va_S.rf
  have hP : va_P (dC, dI) vwCl [(a0, .inr (5, [.ref cb, .int 81, .int 0, .ref a2, .int 0, .ref a3, .int 0, .ref a1, .int 1, .int 1, .ref a4, .int 0, .int 0, .int 0, .int 0])), (a1, .inl (cy 1, 448, .inl f0))] s.heap := hP
  have hl := lv_entry ([.ref a0, .int 0, .int 1, .int 7]) (n := 4) (Nat.le_of_ble_eq_true rfl)
  rw [lg_entry_eq]
  generalize (lg_sl ([.ref a0, .int 0, .int 1, .int 7]) ++ List.replicate (4 - (lg_sl ([.ref a0, .int 0, .int 1, .int 7])).length) Slot.unset).toArray = ls at hl ⊢
  replace hl : lv_has ls 4 [(0, .ref a0), (1, .int 0), (2, .int 1), (3, .int 7)] := hl
  refine lv_iload_n hx hb dX5_setStructure_0 rfl (lv_at hl 1 rfl) ?_
  refine lv_if_lt (tgt := 22) hx hb dX5_setStructure_1 (by decide) (fun h => absurd h (by decide)) (fun _ => ?_)
  refine lv_iload_n hx hb dX5_setStructure_4 rfl (lv_at hl 1 rfl) ?_
  refine lv_bipush (v := 64) hx hb dX5_setStructure_5 (by decide) ?_
  refine lv_icmp_ge (tgt := 22) hx hb dX5_setStructure_7 (by decide) (fun h => absurd h (by decide)) (fun _ => ?_)
  refine lv_aload_n hx hb dX5_setStructure_10 rfl (lv_at hl 0 rfl) ?_
  refine va_get (D := (dC, dI)) (ci := 5) (v := .ref a1) (C := RX5) (T := TX5) (N := 15) hx hb hts iw_X5_setStructure_X5 hown hK hP 0 rfl rfl 7 (by decide) (hts _ m_X5_setStructure_1) (fun _ h9 => h9) rfl dX5_setStructure_11 ?_
  refine lv_iload_n hx hb dX5_setStructure_14 rfl (lv_at hl 1 rfl) ?_
  refine lv_bipush (v := 7) hx hb dX5_setStructure_15 (by decide) ?_
  refine lv_imul hx hb dX5_setStructure_17 ?_
  refine lv_topi (fun z_1 ez_1 => ?_)
  obtain rfl : z_1 = 0 := ez_1.trans (by decide)
  clear ez_1
  refine lv_iload_n hx hb dX5_setStructure_18 rfl (lv_at hl 2 rfl) ?_
  refine lv_iadd hx hb dX5_setStructure_19 ?_
  refine lv_topi (fun z_2 ez_2 => ?_)
  obtain rfl : z_2 = 1 := ez_2.trans (by decide)
  clear ez_2
  refine lv_iload_n hx hb dX5_setStructure_20 rfl (lv_at hl 3 rfl) ?_
  refine va_iast hx hb hK hP hD hS 1 1 rfl rfl (by unfold vp_in; decide) dX5_setStructure_21 (fun H_4 locs hP2 hD2 hS2 => ?_)
  replace hP : va_P (dC, dI) vwCl [(a0, .inr (5, [.ref cb, .int 81, .int 0, .ref a2, .int 0, .ref a3, .int 0, .ref a1, .int 1, .int 1, .ref a4, .int 0, .int 0, .int 0, .int 0])), (a1, .inl (cy 1, 448, .inl (upd f0 1 7)))] H_4 := hP2
  replace hD : va_D A [(a0, .inr (5, [.ref cb, .int 81, .int 0, .ref a2, .int 0, .ref a3, .int 0, .ref a1, .int 1, .int 1, .ref a4, .int 0, .int 0, .int 0, .int 0])), (a1, .inl (cy 1, 448, .inl (upd f0 1 7)))] := hD2
  replace hS := hS2
  clear hP2 hD2 hS2
  obtain ⟨g_3, eg_3⟩ : ∃ z, upd f0 1 7 = z := ⟨_, rfl⟩
  rw [eg_3] at hP hD
  have kg_3_1 : g_3 1 = 7 := by rw [← eg_3, pk_us]
  exact W.vret hx hb hr (fun t ht hW => ⟨⟨(g_3), rfl, kg_3_1, by rw [ht]; exact hP, va_K.moved hW.alike hK, hD⟩, hS.F ht⟩) hS.2.2 dX5_setStructure_22

set_option maxHeartbeats 4000000 in
set_option maxRecDepth 100000 in
theorem cc_17_X6_readByte (l : Launch) (dC : Nat → ClassId) (dI : Nat → Nat → Nat) (cy : Nat → ClassId) (sz : Nat) (cb : Nat) (a0 : Nat) (a1 : Nat) (a2 : Nat) (a3 : Nat) (a4 : Nat) (a5 : Nat) (a6 : Nat)  : Met l yX6_readByte wsX6_readByte ({ frames := 0, cells := 0, slots := 0, locals := 0 }) (va_Pc [.ref a0] (fun U => U.heap.size = sz ∧ va_P (dC, dI) vwCl [(a0, .inr (6, [.int 0, .int 0, .ref a1, .int 7, .int 0, .int 0, .int 0, .int 0, .ref a2])), (a1, .inr (5, [.ref cb, .int 81, .int 0, .ref a3, .int 0, .ref a4, .int 0, .ref a5, .int 1, .int 1, .ref a6, .int 0, .int 0, .int 0, .int 0]))] U.heap ∧ va_K (dC, dI) vwCl (TYS cy) U ∧ va_D (fun _ => True) [(a0, .inr (6, [.int 0, .int 0, .ref a1, .int 7, .int 0, .int 0, .int 0, .int 0, .ref a2])), (a1, .inr (5, [.ref cb, .int 81, .int 0, .ref a3, .int 0, .ref a4, .int 0, .ref a5, .int 1, .int 1, .ref a6, .int 0, .int 0, .int 0, .int 0]))] ∧ NK U ∧ SK cb (va_A [(a0, .inr (6, [.int 0, .int 0, .ref a1, .int 7, .int 0, .int 0, .int 0, .int 0, .ref a2])), (a1, .inr (5, [.ref cb, .int 81, .int 0, .ref a3, .int 0, .ref a4, .int 0, .ref a5, .int 1, .int 1, .ref a6, .int 0, .int 0, .int 0, .int 0]))] sz) U U.heap)) (va_Qi (fun (r : Int32) (u : Unit) => r = 4) (fun u t => va_P (dC, dI) vwCl [(a0, .inr (6, [.int 0, .int 0, .ref a1, .int 8, .int 0, .int 0, .int 0, .int 0, .ref a2])), (a1, .inr (5, [.ref cb, .int 81, .int 0, .ref a3, .int 0, .ref a4, .int 0, .ref a5, .int 1, .int 1, .ref a6, .int 0, .int 0, .int 0, .int 0]))] t.heap ∧ va_K (dC, dI) vwCl (TYS cy) t ∧ va_D (va_A [(a0, .inr (6, [.int 0, .int 0, .ref a1, .int 7, .int 0, .int 0, .int 0, .int 0, .ref a2])), (a1, .inr (5, [.ref cb, .int 81, .int 0, .ref a3, .int 0, .ref a4, .int 0, .ref a5, .int 1, .int 1, .ref a6, .int 0, .int 0, .int 0, .int 0]))] sz) [(a0, .inr (6, [.int 0, .int 0, .ref a1, .int 8, .int 0, .int 0, .int 0, .int 0, .ref a2])), (a1, .inr (5, [.ref cb, .int 81, .int 0, .ref a3, .int 0, .ref a4, .int 0, .ref a5, .int 1, .int 1, .ref a6, .int 0, .int 0, .int 0, .int 0]))]) (va_A [(a0, .inr (6, [.int 0, .int 0, .ref a1, .int 7, .int 0, .int 0, .int 0, .int 0, .ref a2])), (a1, .inr (5, [.ref cb, .int 81, .int 0, .ref a3, .int 0, .ref a4, .int 0, .ref a5, .int 1, .int 1, .ref a6, .int 0, .int 0, .int 0, .int 0]))] sz)) 0 0 (va_A [(a0, .inr (6, [.int 0, .int 0, .ref a1, .int 7, .int 0, .int 0, .int 0, .int 0, .ref a2])), (a1, .inr (5, [.ref cb, .int 81, .int 0, .ref a3, .int 0, .ref a4, .int 0, .ref a5, .int 1, .int 1, .ref a6, .int 0, .int 0, .int 0, .int 0]))] sz) := by
  refine Met.ofW (cc := cX6_readByte) (maxL := 1) (ret := (some .int)) (by decide) rfl ?_
  intro p e s m args below meth c s₁ B hml hv
  obtain ⟨rfl, hsz, hP, hK, hD0, hN, hSK⟩ := hv
  have hx := B.exec
  have hb := B.bytes
  have hr := B.returns
  have hts := atoms_spec (ws := wsX6_readByte) B.pre
  have hown : s.vm.findClass RX6 = some m.cls := findClass_of_methodNamed B.named
  have hlocks := B.notSynchronized
  subst hsz
  have hD := hD0.self (sz := s.heap.size)
  generalize hAe : va_A [(a0, .inr (6, [.int 0, .int 0, .ref a1, .int 7, .int 0, .int 0, .int 0, .int 0, .ref a2])), (a1, .inr (5, [.ref cb, .int 81, .int 0, .ref a3, .int 0, .ref a4, .int 0, .ref a5, .int 1, .int 1, .ref a6, .int 0, .int 0, .int 0, .int 0]))] s.heap.size = A at hD hSK ⊢
  have hA : ∀ q : Nat, s.heap.size ≤ q → A q := fun q h => by rw [← hAe]; exact Or.inr h
  have hS : va_S A s.heap s.heap [] := va_S.rf
  have hP : va_P (dC, dI) vwCl [(a0, .inr (6, [.int 0, .int 0, .ref a1, .int 7, .int 0, .int 0, .int 0, .int 0, .ref a2])), (a1, .inr (5, [.ref cb, .int 81, .int 0, .ref a3, .int 0, .ref a4, .int 0, .ref a5, .int 1, .int 1, .ref a6, .int 0, .int 0, .int 0, .int 0]))] s.heap := hP
  have hl := lv_entry ([.ref a0]) (n := 1) (Nat.le_of_ble_eq_true rfl)
  rw [lg_entry_eq]
  generalize (lg_sl ([.ref a0]) ++ List.replicate (1 - (lg_sl ([.ref a0])).length) Slot.unset).toArray = ls at hl ⊢
  replace hl : lv_has ls 1 [(0, .ref a0)] := hl
  refine lv_aload_n hx hb dX6_readByte_0 rfl (lv_at hl 0 rfl) ?_
  refine va_get (D := (dC, dI)) (ci := 6) (v := .int 0) (C := RX6) (T := TX6) (N := 9) hx hb hts iw_X6_readByte_X6 hown hK hP 0 rfl rfl 1 (by decide) (hts _ m_X6_readByte_1) (fun _ h9 => h9) rfl dX6_readByte_1 ?_
  refine lv_if_eq (tgt := 9) hx hb dX6_readByte_4 (by decide) (fun _ => ?_) (fun h => absurd (by decide) h)
  refine lv_aload_n hx hb dX6_readByte_9 rfl (lv_at hl 0 rfl) ?_
  refine va_get (D := (dC, dI)) (ci := 6) (v := .int 7) (C := RX6) (T := TX6) (N := 9) hx hb hts iw_X6_readByte_X6 hown hK hP 0 rfl rfl 3 (by decide) (hts _ m_X6_readByte_2) (fun _ h9 => h9) rfl dX6_readByte_10 ?_
  refine lv_aload_n hx hb dX6_readByte_13 rfl (lv_at hl 0 rfl) ?_
  refine va_get (D := (dC, dI)) (ci := 6) (v := .ref a1) (C := RX6) (T := TX6) (N := 9) hx hb hts iw_X6_readByte_X6 hown hK hP 0 rfl rfl 2 (by decide) (hts _ m_X6_readByte_3) (fun _ h9 => h9) rfl dX6_readByte_14 ?_
  refine va_get (D := (dC, dI)) (ci := 5) (v := .int 81) (C := RX5) (T := TX5) (N := 15) hx hb hts iw_X6_readByte_X5 hown hK hP 1 rfl rfl 1 (by decide) (hts _ m_X6_readByte_4) (fun _ h9 => h9) rfl dX6_readByte_17 ?_
  refine lv_icmp_lt (tgt := 41) hx hb dX6_readByte_20 (by decide) (fun _ => ?_) (fun h => absurd (by decide) h)
  refine lv_aload_n hx hb dX6_readByte_41 rfl (lv_at hl 0 rfl) ?_
  refine va_get (D := (dC, dI)) (ci := 6) (v := .ref a1) (C := RX6) (T := TX6) (N := 9) hx hb hts iw_X6_readByte_X6 hown hK hP 0 rfl rfl 2 (by decide) (hts _ m_X6_readByte_3) (fun _ h9 => h9) rfl dX6_readByte_42 ?_
  refine va_get (D := (dC, dI)) (ci := 5) (v := .ref cb) (C := RX5) (T := TX5) (N := 15) hx hb hts iw_X6_readByte_X5 hown hK hP 1 rfl rfl 0 (by decide) (hts _ m_X6_readByte_6) (fun _ h9 => h9) rfl dX6_readByte_45 ?_
  refine lv_aload_n hx hb dX6_readByte_48 rfl (lv_at hl 0 rfl) ?_
  refine lv_dup hx hb dX6_readByte_49 rfl ?_
  refine va_get (D := (dC, dI)) (ci := 6) (v := .int 7) (C := RX6) (T := TX6) (N := 9) hx hb hts iw_X6_readByte_X6 hown hK hP 0 rfl rfl 3 (by decide) (hts _ m_X6_readByte_2) (fun _ h9 => h9) rfl dX6_readByte_50 ?_
  refine lv_dup_x1 hx hb dX6_readByte_53 rfl rfl ?_
  refine lv_iconst (v := 1) hx hb dX6_readByte_54 (by decide) ?_
  refine lv_iadd hx hb dX6_readByte_55 ?_
  refine lv_topi (fun z_1 ez_1 => ?_)
  obtain rfl : z_1 = 8 := ez_1.trans (by decide)
  clear ez_1
  refine va_put (D := (dC, dI)) (ci := 6) (v := .int 8) (ty := .int) (C := RX6) (T := TX6) (N := 9) hx hb hts iw_X6_readByte_X6 tyX6 tyX6_ok nmX6 hown hK hP hD hS 0 rfl rfl 3 (by decide) (hts _ m_X6_readByte_2) (fun _ h9 => h9) rfl (by decide +kernel) rfl rfl (Nat.le_of_ble_eq_true rfl) dX6_readByte_56 (fun H_2 locs hP2 hD2 hS2 => ?_)
  replace hP : va_P (dC, dI) vwCl [(a0, .inr (6, [.int 0, .int 0, .ref a1, .int 8, .int 0, .int 0, .int 0, .int 0, .ref a2])), (a1, .inr (5, [.ref cb, .int 81, .int 0, .ref a3, .int 0, .ref a4, .int 0, .ref a5, .int 1, .int 1, .ref a6, .int 0, .int 0, .int 0, .int 0]))] H_2 := hP2
  replace hD : va_D A [(a0, .inr (6, [.int 0, .int 0, .ref a1, .int 8, .int 0, .int 0, .int 0, .int 0, .ref a2])), (a1, .inr (5, [.ref cb, .int 81, .int 0, .ref a3, .int 0, .ref a4, .int 0, .ref a5, .int 1, .int 1, .ref a6, .int 0, .int 0, .int 0, .int 0]))] := hD2
  replace hS := hS2
  clear hP2 hD2 hS2
  refine va_tb (v := .int 4) hx hb hSK.2 hS (by unfold vp_in; decide) rfl dX6_readByte_59 ?_
  refine lv_sipush (v := 255) hx hb dX6_readByte_60 (by decide) ?_
  refine lv_iand hx hb dX6_readByte_63 ?_
  refine lv_topi (fun z_3 ez_3 => ?_)
  obtain rfl : z_3 = 4 := ez_3.trans (by decide)
  clear ez_3
  exact W.iret hx hb hr (fun t ht hW => ⟨⟨4, (), rfl, rfl, by rw [ht]; exact hP, va_K.moved hW.alike hK, hD⟩, hS.F ht⟩) hS.2.2 dX6_readByte_64

set_option maxHeartbeats 4000000 in
set_option maxRecDepth 100000 in
theorem cc_16_X6_readNumber (l : Launch) (dC : Nat → ClassId) (dI : Nat → Nat → Nat) (cy : Nat → ClassId) (sz : Nat) (cb : Nat) (a0 : Nat) (a1 : Nat) (a2 : Nat) (a3 : Nat) (a4 : Nat) (a5 : Nat) (a6 : Nat)  : Met l yX6_readNumber wsX6_readNumber ({ frames := 1, cells := 0, slots := 0, locals := 20 }) (va_Pc [.ref a0, .int 0, .int 15] (fun U => U.heap.size = sz ∧ va_P (dC, dI) vwCl [(a0, .inr (6, [.int 0, .int 0, .ref a1, .int 7, .int 0, .int 0, .int 0, .int 0, .ref a2])), (a1, .inr (5, [.ref cb, .int 81, .int 0, .ref a3, .int 0, .ref a4, .int 0, .ref a5, .int 1, .int 1, .ref a6, .int 0, .int 0, .int 0, .int 0]))] U.heap ∧ va_K (dC, dI) vwCl (TYS cy) U ∧ va_D (fun _ => True) [(a0, .inr (6, [.int 0, .int 0, .ref a1, .int 7, .int 0, .int 0, .int 0, .int 0, .ref a2])), (a1, .inr (5, [.ref cb, .int 81, .int 0, .ref a3, .int 0, .ref a4, .int 0, .ref a5, .int 1, .int 1, .ref a6, .int 0, .int 0, .int 0, .int 0]))] ∧ NK U ∧ SK cb (va_A [(a0, .inr (6, [.int 0, .int 0, .ref a1, .int 7, .int 0, .int 0, .int 0, .int 0, .ref a2])), (a1, .inr (5, [.ref cb, .int 81, .int 0, .ref a3, .int 0, .ref a4, .int 0, .ref a5, .int 1, .int 1, .ref a6, .int 0, .int 0, .int 0, .int 0]))] sz) U U.heap)) (va_Qi (fun (r : Int32) (u : Unit) => r = 4) (fun u t => va_P (dC, dI) vwCl [(a0, .inr (6, [.int 0, .int 0, .ref a1, .int 8, .int 0, .int 0, .int 0, .int 0, .ref a2])), (a1, .inr (5, [.ref cb, .int 81, .int 0, .ref a3, .int 0, .ref a4, .int 0, .ref a5, .int 1, .int 1, .ref a6, .int 0, .int 0, .int 0, .int 0]))] t.heap ∧ va_K (dC, dI) vwCl (TYS cy) t ∧ va_D (va_A [(a0, .inr (6, [.int 0, .int 0, .ref a1, .int 7, .int 0, .int 0, .int 0, .int 0, .ref a2])), (a1, .inr (5, [.ref cb, .int 81, .int 0, .ref a3, .int 0, .ref a4, .int 0, .ref a5, .int 1, .int 1, .ref a6, .int 0, .int 0, .int 0, .int 0]))] sz) [(a0, .inr (6, [.int 0, .int 0, .ref a1, .int 8, .int 0, .int 0, .int 0, .int 0, .ref a2])), (a1, .inr (5, [.ref cb, .int 81, .int 0, .ref a3, .int 0, .ref a4, .int 0, .ref a5, .int 1, .int 1, .ref a6, .int 0, .int 0, .int 0, .int 0]))]) (va_A [(a0, .inr (6, [.int 0, .int 0, .ref a1, .int 7, .int 0, .int 0, .int 0, .int 0, .ref a2])), (a1, .inr (5, [.ref cb, .int 81, .int 0, .ref a3, .int 0, .ref a4, .int 0, .ref a5, .int 1, .int 1, .ref a6, .int 0, .int 0, .int 0, .int 0]))] sz)) 0 0 (va_A [(a0, .inr (6, [.int 0, .int 0, .ref a1, .int 7, .int 0, .int 0, .int 0, .int 0, .ref a2])), (a1, .inr (5, [.ref cb, .int 81, .int 0, .ref a3, .int 0, .ref a4, .int 0, .ref a5, .int 1, .int 1, .ref a6, .int 0, .int 0, .int 0, .int 0]))] sz) := by
  refine Met.ofW (cc := cX6_readNumber) (maxL := 5) (ret := (some .int)) (by decide) rfl ?_
  intro p e s m args below meth c s₁ B hml hv
  obtain ⟨rfl, hsz, hP, hK, hD0, hN, hSK⟩ := hv
  have hx := B.exec
  have hb := B.bytes
  have hr := B.returns
  have hts := atoms_spec (ws := wsX6_readNumber) B.pre
  have hown : s.vm.findClass RX6 = some m.cls := findClass_of_methodNamed B.named
  have hlocks := B.notSynchronized
  subst hsz
  have hD := hD0.self (sz := s.heap.size)
  generalize hAe : va_A [(a0, .inr (6, [.int 0, .int 0, .ref a1, .int 7, .int 0, .int 0, .int 0, .int 0, .ref a2])), (a1, .inr (5, [.ref cb, .int 81, .int 0, .ref a3, .int 0, .ref a4, .int 0, .ref a5, .int 1, .int 1, .ref a6, .int 0, .int 0, .int 0, .int 0]))] s.heap.size = A at hD hSK ⊢
  have hA : ∀ q : Nat, s.heap.size ≤ q → A q := fun q h => by rw [← hAe]; exact Or.inr h
  have hS : va_S A s.heap s.heap [] := va_S.rf
  have hP : va_P (dC, dI) vwCl [(a0, .inr (6, [.int 0, .int 0, .ref a1, .int 7, .int 0, .int 0, .int 0, .int 0, .ref a2])), (a1, .inr (5, [.ref cb, .int 81, .int 0, .ref a3, .int 0, .ref a4, .int 0, .ref a5, .int 1, .int 1, .ref a6, .int 0, .int 0, .int 0, .int 0]))] s.heap := hP
  have hl := lv_entry ([.ref a0, .int 0, .int 15]) (n := 5) (Nat.le_of_ble_eq_true rfl)
  rw [lg_entry_eq]
  generalize (lg_sl ([.ref a0, .int 0, .int 15]) ++ List.replicate (5 - (lg_sl ([.ref a0, .int 0, .int 15])).length) Slot.unset).toArray = ls at hl ⊢
  replace hl : lv_has ls 5 [(0, .ref a0), (1, .int 0), (2, .int 15)] := hl
  refine lv_aload_n hx hb dX6_readNumber_0 rfl (lv_at hl 0 rfl) ?_
  refine va_get (D := (dC, dI)) (ci := 6) (v := .int 7) (C := RX6) (T := TX6) (N := 9) hx hb hts iw_X6_readNumber_X6 hown hK hP 0 rfl rfl 3 (by decide) (hts _ m_X6_readNumber_1) (fun _ h9 => h9) rfl dX6_readNumber_1 ?_
  refine lv_istore_n (lv' := [(3, .int 7), (0, .ref a0), (1, .int 0), (2, .int 15)]) hx hb dX6_readNumber_4 rfl hl (by decide) rfl (fun ls hl2 => ?_)
  replace hl := hl2
  clear hl2
  refine lv_aload_n hx hb dX6_readNumber_5 rfl (lv_at hl 1 rfl) ?_
  have hPc := hP.sub (ws' := [(a0, .inr (6, [.int 0, .int 0, .ref a1, .int 7, .int 0, .int 0, .int 0, .int 0, .ref a2])), (a1, .inr (5, [.ref cb, .int 81, .int 0, .ref a3, .int 0, .ref a4, .int 0, .ref a5, .int 1, .int 1, .ref a6, .int 0, .int 0, .int 0, .int 0]))]) [0, 1] rfl
  have hDc := hD.sub (ws' := [(a0, .inr (6, [.int 0, .int 0, .ref a1, .int 7, .int 0, .int 0, .int 0, .int 0, .ref a2])), (a1, .inr (5, [.ref cb, .int 81, .int 0, .ref a3, .int 0, .ref a4, .int 0, .ref a5, .int 1, .int 1, .ref a6, .int 0, .int 0, .int 0, .int 0]))]) [0, 1] (by decide) rfl
  have hFc := va_free (wc := [(a0, .inr (6, [.int 0, .int 0, .ref a1, .int 7, .int 0, .int 0, .int 0, .int 0, .ref a2])), (a1, .inr (5, [.ref cb, .int 81, .int 0, .ref a3, .int 0, .ref a4, .int 0, .ref a5, .int 1, .int 1, .ref a6, .int 0, .int 0, .int 0, .int 0]))]) hD hS hA [0, 1] rfl
  refine va_calli (va_runV (As := []) (rest := []) ⟨hx, hb, hml, hown, hts⟩ (cc_17_X6_readByte l dC dI cy s.heap.size cb a0 a1 a2 a3 a4 a5 a6) (cwV 0 hts gX6_readNumber_X6_readByte rfl rfl rfl (by decide +kernel) ⟨Nat.le_of_ble_eq_true rfl, Nat.le_of_ble_eq_true rfl⟩) ⟨fun a U g mk q => by obtain ⟨q0, q1, qP, qK, qD, qN, qS⟩ := q; exact ⟨q0, q1, qP, va_K.moved (u := U) (U := U.calling g mk a) (Vm.Alike.refl U.vm) qK, qD, qN.same rfl, SK.moved (u := U) (U := U.calling g mk a) (Vm.Alike.refl U.vm) qS⟩, va_recv hK hPc (ci := 6) (q0 := 0) rfl rfl, fun U hU hW => ⟨rfl, by rw [hU], by rw [hU]; exact hPc, va_K.moved hW.alike hK, hDc.weaken (fun _ _ _ _ => trivial), hN.warm hW, by rw [hU]; exact ((hSK.kept hS.2.1).narrow hFc).moved hW.alike⟩⟩ rfl rfl hl.1 rfl (lv_room (Nat.le_of_ble_eq_true rfl)) dX6_readNumber_6 ⟨Nat.le_of_ble_eq_true rfl, Nat.le_of_ble_eq_true rfl⟩) hS (fun q _ h => hFc q h) hFc (fun r_1 u t H_2 locs ht hvm hw hB hz1 hk1 hS2 => ?_)
  obtain ⟨hP1, hK1, hD1⟩ := hB
  rw [ht] at hP1
  obtain rfl := hw
  obtain ⟨hP2, hD2⟩ := va_join (wr := []) (w1 := [(a0, .inr (6, [.int 0, .int 0, .ref a1, .int 8, .int 0, .int 0, .int 0, .int 0, .ref a2])), (a1, .inr (5, [.ref cb, .int 81, .int 0, .ref a3, .int 0, .ref a4, .int 0, .ref a5, .int 1, .int 1, .ref a6, .int 0, .int 0, .int 0, .int 0]))]) hP hD [0, 1] [] rfl rfl (by decide) (by decide) hk1 hFc hP1 hD1
  replace hP : va_P (dC, dI) vwCl [(a0, .inr (6, [.int 0, .int 0, .ref a1, .int 8, .int 0, .int 0, .int 0, .int 0, .ref a2])), (a1, .inr (5, [.ref cb, .int 81, .int 0, .ref a3, .int 0, .ref a4, .int 0, .ref a5, .int 1, .int 1, .ref a6, .int 0, .int 0, .int 0, .int 0]))] H_2 := hP2
  replace hD : va_D A [(a0, .inr (6, [.int 0, .int 0, .ref a1, .int 8, .int 0, .int 0, .int 0, .int 0, .ref a2])), (a1, .inr (5, [.ref cb, .int 81, .int 0, .ref a3, .int 0, .ref a4, .int 0, .ref a5, .int 1, .int 1, .ref a6, .int 0, .int 0, .int 0, .int 0]))] := hD2
  replace hS := hS2
  clear hP2 hD2 hS2
  clear hPc hDc hFc hP1 hD1 hK1 hk1 hz1 hvm ht
  refine W.widen (k := 0) (n := 0) (Nat.le_of_ble_eq_true rfl) (Nat.le_of_ble_eq_true rfl) ?_
  refine lv_istore (lv' := [(4, .int 4), (3, .int 7), (0, .ref a0), (1, .int 0), (2, .int 15)]) hx hb dX6_readNumber_9 hl (by decide) rfl (fun ls hl2 => ?_)
  replace hl := hl2
  clear hl2
  refine lv_iload hx hb dX6_readNumber_11 (lv_at hl 0 rfl) ?_
  refine lv_iload_n hx hb dX6_readNumber_13 rfl (lv_at hl 3 rfl) ?_
  refine lv_icmp_lt (tgt := 23) hx hb dX6_readNumber_14 (by decide) (fun h => absurd h (by decide)) (fun _ => ?_)
  refine lv_iload hx hb dX6_readNumber_17 (lv_at hl 0 rfl) ?_
  refine lv_iload_n hx hb dX6_readNumber_19 rfl (lv_at hl 4 rfl) ?_
  refine lv_icmp_le (tgt := 29) hx hb dX6_readNumber_20 (by decide) (fun _ => ?_) (fun h => absurd (by decide) h)
  refine lv_aload_n hx hb dX6_readNumber_29 rfl (lv_at hl 2 rfl) ?_
  refine va_get (D := (dC, dI)) (ci := 6) (v := .int 0) (C := RX6) (T := TX6) (N := 9) hx hb hts iw_X6_readNumber_X6 hown hK hP 0 rfl rfl 1 (by decide) (hts _ m_X6_readNumber_2) (fun _ h9 => h9) rfl dX6_readNumber_30 ?_
  refine lv_if_ne (tgt := 41) hx hb dX6_readNumber_33 (by decide) (fun h => absurd (by decide) h) (fun _ => ?_)
  refine lv_iload hx hb dX6_readNumber_36 (lv_at hl 0 rfl) ?_
  refine lv_goto (tgt := 42) hx hb dX6_readNumber_38 (by decide) ?_
  exact W.iret hx hb hr (fun t ht hW => ⟨⟨4, (), rfl, rfl, by rw [ht]; exact hP, va_K.moved hW.alike hK, hD⟩, hS.F ht⟩) hS.2.2 dX6_readNumber_42

set_option maxHeartbeats 4000000 in
set_option maxRecDepth 100000 in
theorem cc_18_X5_setStructure (l : Launch) (dC : Nat → ClassId) (dI : Nat → Nat → Nat) (cy : Nat → ClassId) (sz : Nat) (cb : Nat) (a0 : Nat) (a1 : Nat) (a2 : Nat) (a3 : Nat) (a4 : Nat) (f0 : Nat → Int32) (f0_1 : f0 1 = 7) : Met l yX5_setStructure wsX5_setStructure ({ frames := 0, cells := 0, slots := 0, locals := 0 }) (va_Pc [.ref a0, .int 0, .int 0, .int 4] (fun U => U.heap.size = sz ∧ va_P (dC, dI) vwCl [(a0, .inr (5, [.ref cb, .int 81, .int 0, .ref a2, .int 0, .ref a3, .int 0, .ref a1, .int 1, .int 1, .ref a4, .int 0, .int 0, .int 0, .int 0])), (a1, .inl (cy 1, 448, .inl f0))] U.heap ∧ va_K (dC, dI) vwCl (TYS cy) U ∧ va_D (fun _ => True) [(a0, .inr (5, [.ref cb, .int 81, .int 0, .ref a2, .int 0, .ref a3, .int 0, .ref a1, .int 1, .int 1, .ref a4, .int 0, .int 0, .int 0, .int 0])), (a1, .inl (cy 1, 448, .inl f0))] ∧ NK U ∧ SK cb (va_A [(a0, .inr (5, [.ref cb, .int 81, .int 0, .ref a2, .int 0, .ref a3, .int 0, .ref a1, .int 1, .int 1, .ref a4, .int 0, .int 0, .int 0, .int 0])), (a1, .inl (cy 1, 448, .inl f0))] sz) U U.heap)) (va_Qv (fun u : (Nat → Int32) => match u with | (u0) => u0 0 = 4 ∧ u0 1 = 7) (fun u t => match u with | (u0) => va_P (dC, dI) vwCl [(a0, .inr (5, [.ref cb, .int 81, .int 0, .ref a2, .int 0, .ref a3, .int 0, .ref a1, .int 1, .int 1, .ref a4, .int 0, .int 0, .int 0, .int 0])), (a1, .inl (cy 1, 448, .inl u0))] t.heap ∧ va_K (dC, dI) vwCl (TYS cy) t ∧ va_D (va_A [(a0, .inr (5, [.ref cb, .int 81, .int 0, .ref a2, .int 0, .ref a3, .int 0, .ref a1, .int 1, .int 1, .ref a4, .int 0, .int 0, .int 0, .int 0])), (a1, .inl (cy 1, 448, .inl f0))] sz) [(a0, .inr (5, [.ref cb, .int 81, .int 0, .ref a2, .int 0, .ref a3, .int 0, .ref a1, .int 1, .int 1, .ref a4, .int 0, .int 0, .int 0, .int 0])), (a1, .inl (cy 1, 448, .inl u0))]) (va_A [(a0, .inr (5, [.ref cb, .int 81, .int 0, .ref a2, .int 0, .ref a3, .int 0, .ref a1, .int 1, .int 1, .ref a4, .int 0, .int 0, .int 0, .int 0])), (a1, .inl (cy 1, 448, .inl f0))] sz)) 0 0 (va_A [(a0, .inr (5, [.ref cb, .int 81, .int 0, .ref a2, .int 0, .ref a3, .int 0, .ref a1, .int 1, .int 1, .ref a4, .int 0, .int 0, .int 0, .int 0])), (a1, .inl (cy 1, 448, .inl f0))] sz) := by
  refine Met.ofW (cc := cX5_setStructure) (maxL := 4) (ret := none) (by decide) rfl ?_
  intro p e s m args below meth c s₁ B hml hv
  obtain ⟨rfl, hsz, hP, hK, hD0, hN, hSK⟩ := hv
  have hx := B.exec
  have hb := B.bytes
  have hr := B.returns
  have hts := atoms_spec (ws := wsX5_setStructure) B.pre
  have hown : s.vm.findClass RX5 = some m.cls := findClass_of_methodNamed B.named
  have hlocks := B.notSynchronized
  subst hsz
  have hD := hD0.self (sz := s.heap.size)
  generalize hAe : va_A [(a0, .inr (5, [.ref cb, .int 81, .int 0, .ref a2, .int 0, .ref a3, .int 0, .ref a1, .int 1, .int 1, .ref a4, .int 0, .int 0, .int 0, .int 0])), (a1, .inl (cy 1, 448, .inl f0))] s.heap.size = A at hD hSK ⊢
  have hA : ∀ q : Nat, s.heap.size ≤ q → A q := fun q h => by rw [← hAe]; exact Or.inr h
  have hS : va_S A s.heap s.heap [] := va_S.rf
  have hP : va_P (dC, dI) vwCl [(a0, .inr (5, [.ref cb, .int 81, .int 0, .ref a2, .int 0, .ref a3, .int 0, .ref a1, .int 1, .int 1, .ref a4, .int 0, .int 0, .int 0, .int 0])), (a1, .inl (cy 1, 448, .inl f0))] s.heap := hP
  have hl := lv_entry ([.ref a0, .int 0, .int 0, .int 4]) (n := 4) (Nat.le_of_ble_eq_true rfl)
  rw [lg_entry_eq]
  generalize (lg_sl ([.ref a0, .int 0, .int 0, .int 4]) ++ List.replicate (4 - (lg_sl ([.ref a0, .int 0, .int 0, .int 4])).length) Slot.unset).toArray = ls at hl ⊢
  replace hl : lv_has ls 4 [(0, .ref a0), (1, .int 0), (2, .int 0), (3, .int 4)] := hl
  refine lv_iload_n hx hb dX5_setStructure_0 rfl (lv_at hl 1 rfl) ?_
  refine lv_if_lt (tgt := 22) hx hb dX5_setStructure_1 (by decide) (fun h => absurd h (by decide)) (fun _ => ?_)
  refine lv_iload_n hx hb dX5_setStructure_4 rfl (lv_at hl 1 rfl) ?_
  refine lv_bipush (v := 64) hx hb dX5_setStructure_5 (by decide) ?_
  refine lv_icmp_ge (tgt := 22) hx hb dX5_setStructure_7 (by decide) (fun h => absurd h (by decide)) (fun _ => ?_)
  refine lv_aload_n hx hb dX5_setStructure_10 rfl (lv_at hl 0 rfl) ?_
  refine va_get (D := (dC, dI)) (ci := 5) (v := .ref a1) (C := RX5) (T := TX5) (N := 15) hx hb hts iw_X5_setStructure_X5 hown hK hP 0 rfl rfl 7 (by decide) (hts _ m_X5_setStructure_1) (fun _ h9 => h9) rfl dX5_setStructure_11 ?_
  refine lv_iload_n hx hb dX5_setStructure_14 rfl (lv_at hl 1 rfl) ?_
  refine lv_bipush (v := 7) hx hb dX5_setStructure_15 (by decide) ?_
  refine lv_imul hx hb dX5_setStructure_17 ?_
  refine lv_topi (fun z_1 ez_1 => ?_)
  obtain rfl : z_1 = 0 := ez_1.trans (by decide)
  clear ez_1
  refine lv_iload_n hx hb dX5_setStructure_18 rfl (lv_at hl 2 rfl) ?_
  refine lv_iadd hx hb dX5_setStructure_19 ?_
  refine lv_topi (fun z_2 ez_2 => ?_)
  obtain rfl : z_2 = 0 := ez_2.trans (by decide)
  clear ez_2
  refine lv_iload_n hx hb dX5_setStructure_20 rfl (lv_at hl 3 rfl) ?_
  refine va_iast hx hb hK hP hD hS 1 1 rfl rfl (by unfold vp_in; decide) dX5_setStructure_21 (fun H_4 locs hP2 hD2 hS2 => ?_)
  replace hP : va_P (dC, dI) vwCl [(a0, .inr (5, [.ref cb, .int 81, .int 0, .ref a2, .int 0, .ref a3, .int 0, .ref a1, .int 1, .int 1, .ref a4, .int 0, .int 0, .int 0, .int 0])), (a1, .inl (cy 1, 448, .inl (upd f0 0 4)))] H_4 := hP2
  replace hD : va_D A [(a0, .inr (5, [.ref cb, .int 81, .int 0, .ref a2, .int 0, .ref a3, .int 0, .ref a1, .int 1, .int 1, .ref a4, .int 0, .int 0, .int 0, .int 0])), (a1, .inl (cy 1, 448, .inl (upd f0 0 4)))] := hD2
  replace hS := hS2
  clear hP2 hD2 hS2
  obtain ⟨g_3, eg_3⟩ : ∃ z, upd f0 0 4 = z := ⟨_, rfl⟩
  rw [eg_3] at hP hD
  have kg_3_1 : g_3 1 = 7 := by rw [← eg_3, pk_un (by decide)]; exact f0_1
  have kg_3_0 : g_3 0 = 4 := by rw [← eg_3, pk_us]
  exact W.vret hx hb hr (fun t ht hW => ⟨⟨(g_3), rfl, ⟨kg_3_0, kg_3_1⟩, by rw [ht]; exact hP, va_K.moved hW.alike hK, hD⟩, hS.F ht⟩) hS.2.2 dX5_setStructure_22

set_option maxHeartbeats 4000000 in
set_option maxRecDepth 100000 in
theorem cc_20_X6_readByte (l : Launch) (dC : Nat → ClassId) (dI : Nat → Nat → Nat) (cy : Nat → ClassId) (sz : Nat) (cb : Nat) (a0 : Nat) (a1 : Nat) (a2 : Nat) (a3 : Nat) (a4 : Nat) (a5 : Nat) (a6 : Nat)  : Met l yX6_readByte wsX6_readByte ({ frames := 0, cells := 0, slots := 0, locals := 0 }) (va_Pc [.ref a0] (fun U => U.heap.size = sz ∧ va_P (dC, dI) vwCl [(a0, .inr (6, [.int 0, .int 0, .ref a1, .int 8, .int 0, .int 0, .int 0, .int 0, .ref a2])), (a1, .inr (5, [.ref cb, .int 81, .int 0, .ref a3, .int 0, .ref a4, .int 0, .ref a5, .int 1, .int 1, .ref a6, .int 0, .int 0, .int 0, .int 0]))] U.heap ∧ va_K (dC, dI) vwCl (TYS cy) U ∧ va_D (fun _ => True) [(a0, .inr (6, [.int 0, .int 0, .ref a1, .int 8, .int 0, .int 0, .int 0, .int 0, .ref a2])), (a1, .inr (5, [.ref cb, .int 81, .int 0, .ref a3, .int 0, .ref a4, .int 0, .ref a5, .int 1, .int 1, .ref a6, .int 0, .int 0, .int 0, .int 0]))] ∧ NK U ∧ SK cb (va_A [(a0, .inr (6, [.int 0, .int 0, .ref a1, .int 8, .int 0, .int 0, .int 0, .int 0, .ref a2])), (a1, .inr (5, [.ref cb, .int 81, .int 0, .ref a3, .int 0, .ref a4, .int 0, .ref a5, .int 1, .int 1, .ref a6, .int 0, .int 0, .int 0, .int 0]))] sz) U U.heap)) (va_Qi (fun (r : Int32) (u : Unit) => r = 1) (fun u t => va_P (dC, dI) vwCl [(a0, .inr (6, [.int 0, .int 0, .ref a1, .int 9, .int 0, .int 0, .int 0, .int 0, .ref a2])), (a1, .inr (5, [.ref cb, .int 81, .int 0, .ref a3, .int 0, .ref a4, .int 0, .ref a5, .int 1, .int 1, .ref a6, .int 0, .int 0, .int 0, .int 0]))] t.heap ∧ va_K (dC, dI) vwCl (TYS cy) t ∧ va_D (va_A [(a0, .inr (6, [.int 0, .int 0, .ref a1, .int 8, .int 0, .int 0, .int 0, .int 0, .ref a2])), (a1, .inr (5, [.ref cb, .int 81, .int 0, .ref a3, .int 0, .ref a4, .int 0, .ref a5, .int 1, .int 1, .ref a6, .int 0, .int 0, .int 0, .int 0]))] sz) [(a0, .inr (6, [.int 0, .int 0, .ref a1, .int 9, .int 0, .int 0, .int 0, .int 0, .ref a2])), (a1, .inr (5, [.ref cb, .int 81, .int 0, .ref a3, .int 0, .ref a4, .int 0, .ref a5, .int 1, .int 1, .ref a6, .int 0, .int 0, .int 0, .int 0]))]) (va_A [(a0, .inr (6, [.int 0, .int 0, .ref a1, .int 8, .int 0, .int 0, .int 0, .int 0, .ref a2])), (a1, .inr (5, [.ref cb, .int 81, .int 0, .ref a3, .int 0, .ref a4, .int 0, .ref a5, .int 1, .int 1, .ref a6, .int 0, .int 0, .int 0, .int 0]))] sz)) 0 0 (va_A [(a0, .inr (6, [.int 0, .int 0, .ref a1, .int 8, .int 0, .int 0, .int 0, .int 0, .ref a2])), (a1, .inr (5, [.ref cb, .int 81, .int 0, .ref a3, .int 0, .ref a4, .int 0, .ref a5, .int 1, .int 1, .ref a6, .int 0, .int 0, .int 0, .int 0]))] sz) := by
  refine Met.ofW (cc := cX6_readByte) (maxL := 1) (ret := (some .int)) (by decide) rfl ?_
  intro p e s m args below meth c s₁ B hml hv
  obtain ⟨rfl, hsz, hP, hK, hD0, hN, hSK⟩ := hv
  have hx := B.exec
  have hb := B.bytes
  have hr := B.returns
  have hts := atoms_spec (ws := wsX6_readByte) B.pre
  have hown : s.vm.findClass RX6 = some m.cls := findClass_of_methodNamed B.named
  have hlocks := B.notSynchronized
  subst hsz
  have hD := hD0.self (sz := s.heap.size)
  generalize hAe : va_A [(a0, .inr (6, [.int 0, .int 0, .ref a1, .int 8, .int 0, .int 0, .int 0, .int 0, .ref a2])), (a1, .inr (5, [.ref cb, .int 81, .int 0, .ref a3, .int 0, .ref a4, .int 0, .ref a5, .int 1, .int 1, .ref a6, .int 0, .int 0, .int 0, .int 0]))] s.heap.size = A at hD hSK ⊢
  have hA : ∀ q : Nat, s.heap.size ≤ q → A q := fun q h => by rw [← hAe]; exact Or.inr h
  have hS : va_S A s.heap s.heap [] := va_S.rf
  have hP : va_P (dC, dI) vwCl [(a0, .inr (6, [.int 0, .int 0, .ref a1, .int 8, .int 0, .int 0, .int 0, .int 0, .ref a2])), (a1, .inr (5, [.ref cb, .int 81, .int 0, .ref a3, .int 0, .ref a4, .int 0, .ref a5, .int 1, .int 1, .ref a6, .int 0, .int 0, .int 0, .int 0]))] s.heap := hP
  have hl := lv_entry ([.ref a0]) (n := 1) (Nat.le_of_ble_eq_true rfl)
  rw [lg_entry_eq]
  generalize (lg_sl ([.ref a0]) ++ List.replicate (1 - (lg_sl ([.ref a0])).length) Slot.unset).toArray = ls at hl ⊢
  replace hl : lv_has ls 1 [(0, .ref a0)] := hl
  refine lv_aload_n hx hb dX6_readByte_0 rfl (lv_at hl 0 rfl) ?_
  refine va_get (D := (dC, dI)) (ci := 6) (v := .int 0) (C := RX6) (T := TX6) (N := 9) hx hb hts iw_X6_readByte_X6 hown hK hP 0 rfl rfl 1 (by decide) (hts _ m_X6_readByte_1) (fun _ h9 => h9) rfl dX6_readByte_1 ?_
  refine lv_if_eq (tgt := 9) hx hb dX6_readByte_4 (by decide) (fun _ => ?_) (fun h => absurd (by decide) h)
  refine lv_aload_n hx hb dX6_readByte_9 rfl (lv_at hl 0 rfl) ?_
  refine va_get (D := (dC, dI)) (ci := 6) (v := .int 8) (C := RX6) (T := TX6) (N := 9) hx hb hts iw_X6_readByte_X6 hown hK hP 0 rfl rfl 3 (by decide) (hts _ m_X6_readByte_2) (fun _ h9 => h9) rfl dX6_readByte_10 ?_
  refine lv_aload_n hx hb dX6_readByte_13 rfl (lv_at hl 0 rfl) ?_
  refine va_get (D := (dC, dI)) (ci := 6) (v := .ref a1) (C := RX6) (T := TX6) (N := 9) hx hb hts iw_X6_readByte_X6 hown hK hP 0 rfl rfl 2 (by decide) (hts _ m_X6_readByte_3) (fun _ h9 => h9) rfl dX6_readByte_14 ?_
  refine va_get (D := (dC, dI)) (ci := 5) (v := .int 81) (C := RX5) (T := TX5) (N := 15) hx hb hts iw_X6_readByte_X5 hown hK hP 1 rfl rfl 1 (by decide) (hts _ m_X6_readByte_4) (fun _ h9 => h9) rfl dX6_readByte_17 ?_
  refine lv_icmp_lt (tgt := 41) hx hb dX6_readByte_20 (by decide) (fun _ => ?_) (fun h => absurd (by decide) h)
  refine lv_aload_n hx hb dX6_readByte_41 rfl (lv_at hl 0 rfl) ?_
  refine va_get (D := (dC, dI)) (ci := 6) (v := .ref a1) (C := RX6) (T := TX6) (N := 9) hx hb hts iw_X6_readByte_X6 hown hK hP 0 rfl rfl 2 (by decide) (hts _ m_X6_readByte_3) (fun _ h9 => h9) rfl dX6_readByte_42 ?_
  refine va_get (D := (dC, dI)) (ci := 5) (v := .ref cb) (C := RX5) (T := TX5) (N := 15) hx hb hts iw_X6_readByte_X5 hown hK hP 1 rfl rfl 0 (by decide) (hts _ m_X6_readByte_6) (fun _ h9 => h9) rfl dX6_readByte_45 ?_
  refine lv_aload_n hx hb dX6_readByte_48 rfl (lv_at hl 0 rfl) ?_
  refine lv_dup hx hb dX6_readByte_49 rfl ?_
  refine va_get (D := (dC, dI)) (ci := 6) (v := .int 8) (C := RX6) (T := TX6) (N := 9) hx hb hts iw_X6_readByte_X6 hown hK hP 0 rfl rfl 3 (by decide) (hts _ m_X6_readByte_2) (fun _ h9 => h9) rfl dX6_readByte_50 ?_
  refine lv_dup_x1 hx hb dX6_readByte_53 rfl rfl ?_
  refine lv_iconst (v := 1) hx hb dX6_readByte_54 (by decide) ?_
  refine lv_iadd hx hb dX6_readByte_55 ?_
  refine lv_topi (fun z_1 ez_1 => ?_)
  obtain rfl : z_1 = 9 := ez_1.trans (by decide)
  clear ez_1
  refine va_put (D := (dC, dI)) (ci := 6) (v := .int 9) (ty := .int) (C := RX6) (T := TX6) (N := 9) hx hb hts iw_X6_readByte_X6 tyX6 tyX6_ok nmX6 hown hK hP hD hS 0 rfl rfl 3 (by decide) (hts _ m_X6_readByte_2) (fun _ h9 => h9) rfl (by decide +kernel) rfl rfl (Nat.le_of_ble_eq_true rfl) dX6_readByte_56 (fun H_2 locs hP2 hD2 hS2 => ?_)
  replace hP : va_P (dC, dI) vwCl [(a0, .inr (6, [.int 0, .int 0, .ref a1, .int 9, .int 0, .int 0, .int 0, .int 0, .ref a2])), (a1, .inr (5, [.ref cb, .int 81, .int 0, .ref a3, .int 0, .ref a4, .int 0, .ref a5, .int 1, .int 1, .ref a6, .int 0, .int 0, .int 0, .int 0]))] H_2 := hP2
  replace hD : va_D A [(a0, .inr (6, [.int 0, .int 0, .ref a1, .int 9, .int 0, .int 0, .int 0, .int 0, .ref a2])), (a1, .inr (5, [.ref cb, .int 81, .int 0, .ref a3, .int 0, .ref a4, .int 0, .ref a5, .int 1, .int 1, .ref a6, .int 0, .int 0, .int 0, .int 0]))] := hD2
  replace hS := hS2
  clear hP2 hD2 hS2
  refine va_tb (v := .int 1) hx hb hSK.2 hS (by unfold vp_in; decide) rfl dX6_readByte_59 ?_
  refine lv_sipush (v := 255) hx hb dX6_readByte_60 (by decide) ?_
  refine lv_iand hx hb dX6_readByte_63 ?_
  refine lv_topi (fun z_3 ez_3 => ?_)
  obtain rfl : z_3 = 1 := ez_3.trans (by decide)
  clear ez_3
  exact W.iret hx hb hr (fun t ht hW => ⟨⟨1, (), rfl, rfl, by rw [ht]; exact hP, va_K.moved hW.alike hK, hD⟩, hS.F ht⟩) hS.2.2 dX6_readByte_64

set_option maxHeartbeats 4000000 in
set_option maxRecDepth 100000 in
theorem cc_19_X6_readNumber (l : Launch) (dC : Nat → ClassId) (dI : Nat → Nat → Nat) (cy : Nat → ClassId) (sz : Nat) (cb : Nat) (a0 : Nat) (a1 : Nat) (a2 : Nat) (a3 : Nat) (a4 : Nat) (a5 : Nat) (a6 : Nat)  : Met l yX6_readNumber wsX6_readNumber ({ frames := 1, cells := 0, slots := 0, locals := 20 }) (va_Pc [.ref a0, .int 1, .int 16] (fun U => U.heap.size = sz ∧ va_P (dC, dI) vwCl [(a0, .inr (6, [.int 0, .int 0, .ref a1, .int 8, .int 0, .int 0, .int 0, .int 0, .ref a2])), (a1, .inr (5, [.ref cb, .int 81, .int 0, .ref a3, .int 0, .ref a4, .int 0, .ref a5, .int 1, .int 1, .ref a6, .int 0, .int 0, .int 0, .int 0]))] U.heap ∧ va_K (dC, dI) vwCl (TYS cy) U ∧ va_D (fun _ => True) [(a0, .inr (6, [.int 0, .int 0, .ref a1, .int 8, .int 0, .int 0, .int 0, .int 0, .ref a2])), (a1, .inr (5, [.ref cb, .int 81, .int 0, .ref a3, .int 0, .ref a4, .int 0, .ref a5, .int 1, .int 1, .ref a6, .int 0, .int 0, .int 0, .int 0]))] ∧ NK U ∧ SK cb (va_A [(a0, .inr (6, [.int 0, .int 0, .ref a1, .int 8, .int 0, .int 0, .int 0, .int 0, .ref a2])), (a1, .inr (5, [.ref cb, .int 81, .int 0, .ref a3, .int 0, .ref a4, .int 0, .ref a5, .int 1, .int 1, .ref a6, .int 0, .int 0, .int 0, .int 0]))] sz) U U.heap)) (va_Qi (fun (r : Int32) (u : Unit) => r = 1) (fun u t => va_P (dC, dI) vwCl [(a0, .inr (6, [.int 0, .int 0, .ref a1, .int 9, .int 0, .int 0, .int 0, .int 0, .ref a2])), (a1, .inr (5, [.ref cb, .int 81, .int 0, .ref a3, .int 0, .ref a4, .int 0, .ref a5, .int 1, .int 1, .ref a6, .int 0, .int 0, .int 0, .int 0]))] t.heap ∧ va_K (dC, dI) vwCl (TYS cy) t ∧ va_D (va_A [(a0, .inr (6, [.int 0, .int 0, .ref a1, .int 8, .int 0, .int 0, .int 0, .int 0, .ref a2])), (a1, .inr (5, [.ref cb, .int 81, .int 0, .ref a3, .int 0, .ref a4, .int 0, .ref a5, .int 1, .int 1, .ref a6, .int 0, .int 0, .int 0, .int 0]))] sz) [(a0, .inr (6, [.int 0, .int 0, .ref a1, .int 9, .int 0, .int 0, .int 0, .int 0, .ref a2])), (a1, .inr (5, [.ref cb, .int 81, .int 0, .ref a3, .int 0, .ref a4, .int 0, .ref a5, .int 1, .int 1, .ref a6, .int 0, .int 0, .int 0, .int 0]))]) (va_A [(a0, .inr (6, [.int 0, .int 0, .ref a1, .int 8, .int 0, .int 0, .int 0, .int 0, .ref a2])), (a1, .inr (5, [.ref cb, .int 81, .int 0, .ref a3, .int 0, .ref a4, .int 0, .ref a5, .int 1, .int 1, .ref a6, .int 0, .int 0, .int 0, .int 0]))] sz)) 0 0 (va_A [(a0, .inr (6, [.int 0, .int 0, .ref a1, .int 8, .int 0, .int 0, .int 0, .int 0, .ref a2])), (a1, .inr (5, [.ref cb, .int 81, .int 0, .ref a3, .int 0, .ref a4, .int 0, .ref a5, .int 1, .int 1, .ref a6, .int 0, .int 0, .int 0, .int 0]))] sz) := by
  refine Met.ofW (cc := cX6_readNumber) (maxL := 5) (ret := (some .int)) (by decide) rfl ?_
  intro p e s m args below meth c s₁ B hml hv
  obtain ⟨rfl, hsz, hP, hK, hD0, hN, hSK⟩ := hv
  have hx := B.exec
  have hb := B.bytes
  have hr := B.returns
  have hts := atoms_spec (ws := wsX6_readNumber) B.pre
  have hown : s.vm.findClass RX6 = some m.cls := findClass_of_methodNamed B.named
  have hlocks := B.notSynchronized
  subst hsz
  have hD := hD0.self (sz := s.heap.size)
  generalize hAe : va_A [(a0, .inr (6, [.int 0, .int 0, .ref a1, .int 8, .int 0, .int 0, .int 0, .int 0, .ref a2])), (a1, .inr (5, [.ref cb, .int 81, .int 0, .ref a3, .int 0, .ref a4, .int 0, .ref a5, .int 1, .int 1, .ref a6, .int 0, .int 0, .int 0, .int 0]))] s.heap.size = A at hD hSK ⊢
  have hA : ∀ q : Nat, s.heap.size ≤ q → A q := fun q h => by rw [← hAe]; exact Or.inr h
  have hS : va_S A s.heap s.heap [] := va_S.rf
  have hP : va_P (dC, dI) vwCl [(a0, .inr (6, [.int 0, .int 0, .ref a1, .int 8, .int 0, .int 0, .int 0, .int 0, .ref a2])), (a1, .inr (5, [.ref cb, .int 81, .int 0, .ref a3, .int 0, .ref a4, .int 0, .ref a5, .int 1, .int 1, .ref a6, .int 0, .int 0, .int 0, .int 0]))] s.heap := hP
  have hl := lv_entry ([.ref a0, .int 1, .int 16]) (n := 5) (Nat.le_of_ble_eq_true rfl)
  rw [lg_entry_eq]
  generalize (lg_sl ([.ref a0, .int 1, .int 16]) ++ List.replicate (5 - (lg_sl ([.ref a0, .int 1, .int 16])).length) Slot.unset).toArray = ls at hl ⊢
  replace hl : lv_has ls 5 [(0, .ref a0), (1, .int 1), (2, .int 16)] := hl
  refine lv_aload_n hx hb dX6_readNumber_0 rfl (lv_at hl 0 rfl) ?_
  refine va_get (D := (dC, dI)) (ci := 6) (v := .int 8) (C := RX6) (T := TX6) (N := 9) hx hb hts iw_X6_readNumber_X6 hown hK hP 0 rfl rfl 3 (by decide) (hts _ m_X6_readNumber_1) (fun _ h9 => h9) rfl dX6_readNumber_1 ?_
  refine lv_istore_n (lv' := [(3, .int 8), (0, .ref a0), (1, .int 1), (2, .int 16)]) hx hb dX6_readNumber_4 rfl hl (by decide) rfl (fun ls hl2 => ?_)
  replace hl := hl2
  clear hl2
  refine lv_aload_n hx hb dX6_readNumber_5 rfl (lv_at hl 1 rfl) ?_
  have hPc := hP.sub (ws' := [(a0, .inr (6, [.int 0, .int 0, .ref a1, .int 8, .int 0, .int 0, .int 0, .int 0, .ref a2])), (a1, .inr (5, [.ref cb, .int 81, .int 0, .ref a3, .int 0, .ref a4, .int 0, .ref a5, .int 1, .int 1, .ref a6, .int 0, .int 0, .int 0, .int 0]))]) [0, 1] rfl
  have hDc := hD.sub (ws' := [(a0, .inr (6, [.int 0, .int 0, .ref a1, .int 8, .int 0, .int 0, .int 0, .int 0, .ref a2])), (a1, .inr (5, [.ref cb, .int 81, .int 0, .ref a3, .int 0, .ref a4, .int 0, .ref a5, .int 1, .int 1, .ref a6, .int 0, .int 0, .int 0, .int 0]))]) [0, 1] (by decide) rfl
  have hFc := va_free (wc := [(a0, .inr (6, [.int 0, .int 0, .ref a1, .int 8, .int 0, .int 0, .int 0, .int 0, .ref a2])), (a1, .inr (5, [.ref cb, .int 81, .int 0, .ref a3, .int 0, .ref a4, .int 0, .ref a5, .int 1, .int 1, .ref a6, .int 0, .int 0, .int 0, .int 0]))]) hD hS hA [0, 1] rfl
  refine va_calli (va_runV (As := []) (rest := []) ⟨hx, hb, hml, hown, hts⟩ (cc_20_X6_readByte l dC dI cy s.heap.size cb a0 a1 a2 a3 a4 a5 a6) (cwV 0 hts gX6_readNumber_X6_readByte rfl rfl rfl (by decide +kernel) ⟨Nat.le_of_ble_eq_true rfl, Nat.le_of_ble_eq_true rfl⟩) ⟨fun a U g mk q => by obtain ⟨q0, q1, qP, qK, qD, qN, qS⟩ := q; exact ⟨q0, q1, qP, va_K.moved (u := U) (U := U.calling g mk a) (Vm.Alike.refl U.vm) qK, qD, qN.same rfl, SK.moved (u := U) (U := U.calling g mk a) (Vm.Alike.refl U.vm) qS⟩, va_recv hK hPc (ci := 6) (q0 := 0) rfl rfl, fun U hU hW => ⟨rfl, by rw [hU], by rw [hU]; exact hPc, va_K.moved hW.alike hK, hDc.weaken (fun _ _ _ _ => trivial), hN.warm hW, by rw [hU]; exact ((hSK.kept hS.2.1).narrow hFc).moved hW.alike⟩⟩ rfl rfl hl.1 rfl (lv_room (Nat.le_of_ble_eq_true rfl)) dX6_readNumber_6 ⟨Nat.le_of_ble_eq_true rfl, Nat.le_of_ble_eq_true rfl⟩) hS (fun q _ h => hFc q h) hFc (fun r_1 u t H_2 locs ht hvm hw hB hz1 hk1 hS2 => ?_)
  obtain ⟨hP1, hK1, hD1⟩ := hB
  rw [ht] at hP1
  obtain rfl := hw
  obtain ⟨hP2, hD2⟩ := va_join (wr := []) (w1 := [(a0, .inr (6, [.int 0, .int 0, .ref a1, .int 9, .int 0, .int 0, .int 0, .int 0, .ref a2])), (a1, .inr (5, [.ref cb, .int 81, .int 0, .ref a3, .int 0, .ref a4, .int 0, .ref a5, .int 1, .int 1, .ref a6, .int 0, .int 0, .int 0, .int 0]))]) hP hD [0, 1] [] rfl rfl (by decide) (by decide) hk1 hFc hP1 hD1
  replace hP : va_P (dC, dI) vwCl [(a0, .inr (6, [.int 0, .int 0, .ref a1, .int 9, .int 0, .int 0, .int 0, .int 0, .ref a2])), (a1, .inr (5, [.ref cb, .int 81, .int 0, .ref a3, .int 0, .ref a4, .int 0, .ref a5, .int 1, .int 1, .ref a6, .int 0, .int 0, .int 0, .int 0]))] H_2 := hP2
  replace hD : va_D A [(a0, .inr (6, [.int 0, .int 0, .ref a1, .int 9, .int 0, .int 0, .int 0, .int 0, .ref a2])), (a1, .inr (5, [.ref cb, .int 81, .int 0, .ref a3, .int 0, .ref a4, .int 0, .ref a5, .int 1, .int 1, .ref a6, .int 0, .int 0, .int 0, .int 0]))] := hD2
  replace hS := hS2
  clear hP2 hD2 hS2
  clear hPc hDc hFc hP1 hD1 hK1 hk1 hz1 hvm ht
  refine W.widen (k := 0) (n := 0) (Nat.le_of_ble_eq_true rfl) (Nat.le_of_ble_eq_true rfl) ?_
  refine lv_istore (lv' := [(4, .int 1), (3, .int 8), (0, .ref a0), (1, .int 1), (2, .int 16)]) hx hb dX6_readNumber_9 hl (by decide) rfl (fun ls hl2 => ?_)
  replace hl := hl2
  clear hl2
  refine lv_iload hx hb dX6_readNumber_11 (lv_at hl 0 rfl) ?_
  refine lv_iload_n hx hb dX6_readNumber_13 rfl (lv_at hl 3 rfl) ?_
  refine lv_icmp_lt (tgt := 23) hx hb dX6_readNumber_14 (by decide) (fun h => absurd h (by decide)) (fun _ => ?_)
  refine lv_iload hx hb dX6_readNumber_17 (lv_at hl 0 rfl) ?_
  refine lv_iload_n hx hb dX6_readNumber_19 rfl (lv_at hl 4 rfl) ?_
  refine lv_icmp_le (tgt := 29) hx hb dX6_readNumber_20 (by decide) (fun _ => ?_) (fun h => absurd (by decide) h)
  refine lv_aload_n hx hb dX6_readNumber_29 rfl (lv_at hl 2 rfl) ?_
  refine va_get (D := (dC, dI)) (ci := 6) (v := .int 0) (C := RX6) (T := TX6) (N := 9) hx hb hts iw_X6_readNumber_X6 hown hK hP 0 rfl rfl 1 (by decide) (hts _ m_X6_readNumber_2) (fun _ h9 => h9) rfl dX6_readNumber_30 ?_
  refine lv_if_ne (tgt := 41) hx hb dX6_readNumber_33 (by decide) (fun h => absurd (by decide) h) (fun _ => ?_)
  refine lv_iload hx hb dX6_readNumber_36 (lv_at hl 0 rfl) ?_
  refine lv_goto (tgt := 42) hx hb dX6_readNumber_38 (by decide) ?_
  exact W.iret hx hb hr (fun t ht hW => ⟨⟨1, (), rfl, rfl, by rw [ht]; exact hP, va_K.moved hW.alike hK, hD⟩, hS.F ht⟩) hS.2.2 dX6_readNumber_42

set_option maxHeartbeats 4000000 in
set_option maxRecDepth 100000 in
theorem cc_21_X5_setStructure (l : Launch) (dC : Nat → ClassId) (dI : Nat → Nat → Nat) (cy : Nat → ClassId) (sz : Nat) (cb : Nat) (a0 : Nat) (a1 : Nat) (a2 : Nat) (a3 : Nat) (a4 : Nat) (f0 : Nat → Int32) (f0_0 : f0 0 = 4) (f0_1 : f0 1 = 7) : Met l yX5_setStructure wsX5_setStructure ({ frames := 0, cells := 0, slots := 0, locals := 0 }) (va_Pc [.ref a0, .int 0, .int 2, .int 0] (fun U => U.heap.size = sz ∧ va_P (dC, dI) vwCl [(a0, .inr (5, [.ref cb, .int 81, .int 0, .ref a2, .int 0, .ref a3, .int 0, .ref a1, .int 1, .int 1, .ref a4, .int 0, .int 0, .int 0, .int 0])), (a1, .inl (cy 1, 448, .inl f0))] U.heap ∧ va_K (dC, dI) vwCl (TYS cy) U ∧ va_D (fun _ => True) [(a0, .inr (5, [.ref cb, .int 81, .int 0, .ref a2, .int 0, .ref a3, .int 0, .ref a1, .int 1, .int 1, .ref a4, .int 0, .int 0, .int 0, .int 0])), (a1, .inl (cy 1, 448, .inl f0))] ∧ NK U ∧ SK cb (va_A [(a0, .inr (5, [.ref cb, .int 81, .int 0, .ref a2, .int 0, .ref a3, .int 0, .ref a1, .int 1, .int 1, .ref a4, .int 0, .int 0, .int 0, .int 0])), (a1, .inl (cy 1, 448, .inl f0))] sz) U U.heap)) (va_Qv (fun u : (Nat → Int32) => match u with | (u0) => u0 0 = 4 ∧ u0 1 = 7 ∧ u0 2 = 0) (fun u t => match u with | (u0) => va_P (dC, dI) vwCl [(a0, .inr (5, [.ref cb, .int 81, .int 0, .ref a2, .int 0, .ref a3, .int 0, .ref a1, .int 1, .int 1, .ref a4, .int 0, .int 0, .int 0, .int 0])), (a1, .inl (cy 1, 448, .inl u0))] t.heap ∧ va_K (dC, dI) vwCl (TYS cy) t ∧ va_D (va_A [(a0, .inr (5, [.ref cb, .int 81, .int 0, .ref a2, .int 0, .ref a3, .int 0, .ref a1, .int 1, .int 1, .ref a4, .int 0, .int 0, .int 0, .int 0])), (a1, .inl (cy 1, 448, .inl f0))] sz) [(a0, .inr (5, [.ref cb, .int 81, .int 0, .ref a2, .int 0, .ref a3, .int 0, .ref a1, .int 1, .int 1, .ref a4, .int 0, .int 0, .int 0, .int 0])), (a1, .inl (cy 1, 448, .inl u0))]) (va_A [(a0, .inr (5, [.ref cb, .int 81, .int 0, .ref a2, .int 0, .ref a3, .int 0, .ref a1, .int 1, .int 1, .ref a4, .int 0, .int 0, .int 0, .int 0])), (a1, .inl (cy 1, 448, .inl f0))] sz)) 0 0 (va_A [(a0, .inr (5, [.ref cb, .int 81, .int 0, .ref a2, .int 0, .ref a3, .int 0, .ref a1, .int 1, .int 1, .ref a4, .int 0, .int 0, .int 0, .int 0])), (a1, .inl (cy 1, 448, .inl f0))] sz) := by
  refine Met.ofW (cc := cX5_setStructure) (maxL := 4) (ret := none) (by decide) rfl ?_
  intro p e s m args below meth c s₁ B hml hv
  obtain ⟨rfl, hsz, hP, hK, hD0, hN, hSK⟩ := hv
  have hx := B.exec
  have hb := B.bytes
  have hr := B.returns
  have hts := atoms_spec (ws := wsX5_setStructure) B.pre
  have hown : s.vm.findClass RX5 = some m.cls := findClass_of_methodNamed B.named
  have hlocks := B.notSynchronized
  subst hsz
  have hD := hD0.self (sz := s.heap.size)
  generalize hAe : va_A [(a0, .inr (5, [.ref cb, .int 81, .int 0, .ref a2, .int 0, .ref a3, .int 0, .ref a1, .int 1, .int 1, .ref a4, .int 0, .int 0, .int 0, .int 0])), (a1, .inl (cy 1, 448, .inl f0))] s.heap.size = A at hD hSK ⊢
  have hA : ∀ q : Nat, s.heap.size ≤ q → A q := fun q h => by rw [← hAe]; exact Or.inr h
  have hS : va_S A s.heap s.heap [] := va_S.rf
  have hP : va_P (dC, dI) vwCl [(a0, .inr (5, [.ref cb, .int 81, .int 0, .ref a2, .int 0, .ref a3, .int 0, .ref a1, .int 1, .int 1, .ref a4, .int 0, .int 0, .int 0, .int 0])), (a1, .inl (cy 1, 448, .inl f0))] s.heap := hP
  have hl := lv_entry ([.ref a0, .int 0, .int 2, .int 0]) (n := 4) (Nat.le_of_ble_eq_true rfl)
  rw [lg_entry_eq]
  generalize (lg_sl ([.ref a0, .int 0, .int 2, .int 0]) ++ List.replicate (4 - (lg_sl ([.ref a0, .int 0, .int 2, .int 0])).length) Slot.unset).toArray = ls at hl ⊢
  replace hl : lv_has ls 4 [(0, .ref a0), (1, .int 0), (2, .int 2), (3, .int 0)] := hl
  refine lv_iload_n hx hb dX5_setStructure_0 rfl (lv_at hl 1 rfl) ?_
  refine lv_if_lt (tgt := 22) hx hb dX5_setStructure_1 (by decide) (fun h => absurd h (by decide)) (fun _ => ?_)
  refine lv_iload_n hx hb dX5_setStructure_4 rfl (lv_at hl 1 rfl) ?_
  refine lv_bipush (v := 64) hx hb dX5_setStructure_5 (by decide) ?_
  refine lv_icmp_ge (tgt := 22) hx hb dX5_setStructure_7 (by decide) (fun h => absurd h (by decide)) (fun _ => ?_)
  refine lv_aload_n hx hb dX5_setStructure_10 rfl (lv_at hl 0 rfl) ?_
  refine va_get (D := (dC, dI)) (ci := 5) (v := .ref a1) (C := RX5) (T := TX5) (N := 15) hx hb hts iw_X5_setStructure_X5 hown hK hP 0 rfl rfl 7 (by decide) (hts _ m_X5_setStructure_1) (fun _ h9 => h9) rfl dX5_setStructure_11 ?_
  refine lv_iload_n hx hb dX5_setStructure_14 rfl (lv_at hl 1 rfl) ?_
  refine lv_bipush (v := 7) hx hb dX5_setStructure_15 (by decide) ?_
  refine lv_imul hx hb dX5_setStructure_17 ?_
  refine lv_topi (fun z_1 ez_1 => ?_)
  obtain rfl : z_1 = 0 := ez_1.trans (by decide)
  clear ez_1
  refine lv_iload_n hx hb dX5_setStructure_18 rfl (lv_at hl 2 rfl) ?_
  refine lv_iadd hx hb dX5_setStructure_19 ?_
  refine lv_topi (fun z_2 ez_2 => ?_)
  obtain rfl : z_2 = 2 := ez_2.trans (by decide)
  clear ez_2
  refine lv_iload_n hx hb dX5_setStructure_20 rfl (lv_at hl 3 rfl) ?_
  refine va_iast hx hb hK hP hD hS 1 1 rfl rfl (by unfold vp_in; decide) dX5_setStructure_21 (fun H_4 locs hP2 hD2 hS2 => ?_)
  replace hP : va_P (dC, dI) vwCl [(a0, .inr (5, [.ref cb, .int 81, .int 0, .ref a2, .int 0, .ref a3, .int 0, .ref a1, .int 1, .int 1, .ref a4, .int 0, .int 0, .int 0, .int 0])), (a1, .inl (cy 1, 448, .inl (upd f0 2 0)))] H_4 := hP2
  replace hD : va_D A [(a0, .inr (5, [.ref cb, .int 81, .int 0, .ref a2, .int 0, .ref a3, .int 0, .ref a1, .int 1, .int 1, .ref a4, .int 0, .int 0, .int 0, .int 0])), (a1, .inl (cy 1, 448, .inl (upd f0 2 0)))] := hD2
  replace hS := hS2
  clear hP2 hD2 hS2
  obtain ⟨g_3, eg_3⟩ : ∃ z, upd f0 2 0 = z := ⟨_, rfl⟩
  rw [eg_3] at hP hD
  have kg_3_0 : g_3 0 = 4 := by rw [← eg_3, pk_un (by decide)]; exact f0_0
  have kg_3_1 : g_3 1 = 7 := by rw [← eg_3, pk_un (by decide)]; exact f0_1
  have kg_3_2 : g_3 2 = 0 := by rw [← eg_3, pk_us]
  exact W.vret hx hb hr (fun t ht hW => ⟨⟨(g_3), rfl, ⟨kg_3_0, kg_3_1, kg_3_2⟩, by rw [ht]; exact hP, va_K.moved hW.alike hK, hD⟩, hS.F ht⟩) hS.2.2 dX5_setStructure_22

set_option maxHeartbeats 4000000 in
set_option maxRecDepth 100000 in
theorem cc_22_X5_setStructure (l : Launch) (dC : Nat → ClassId) (dI : Nat → Nat → Nat) (cy : Nat → ClassId) (sz : Nat) (cb : Nat) (a0 : Nat) (a1 : Nat) (a2 : Nat) (a3 : Nat) (a4 : Nat) (f0 : Nat → Int32) (f0_0 : f0 0 = 4) (f0_1 : f0 1 = 7) (f0_2 : f0 2 = 0) : Met l yX5_setStructure wsX5_setStructure ({ frames := 0, cells := 0, slots := 0, locals := 0 }) (va_Pc [.ref a0, .int 0, .int 3, .int 1] (fun U => U.heap.size = sz ∧ va_P (dC, dI) vwCl [(a0, .inr (5, [.ref cb, .int 81, .int 0, .ref a2, .int 0, .ref a3, .int 0, .ref a1, .int 1, .int 1, .ref a4, .int 0, .int 0, .int 0, .int 0])), (a1, .inl (cy 1, 448, .inl f0))] U.heap ∧ va_K (dC, dI) vwCl (TYS cy) U ∧ va_D (fun _ => True) [(a0, .inr (5, [.ref cb, .int 81, .int 0, .ref a2, .int 0, .ref a3, .int 0, .ref a1, .int 1, .int 1, .ref a4, .int 0, .int 0, .int 0, .int 0])), (a1, .inl (cy 1, 448, .inl f0))] ∧ NK U ∧ SK cb (va_A [(a0, .inr (5, [.ref cb, .int 81, .int 0, .ref a2, .int 0, .ref a3, .int 0, .ref a1, .int 1, .int 1, .ref a4, .int 0, .int 0, .int 0, .int 0])), (a1, .inl (cy 1, 448, .inl f0))] sz) U U.heap)) (va_Qv (fun u : (Nat → Int32) => match u with | (u0) => u0 0 = 4 ∧ u0 1 = 7 ∧ u0 2 = 0 ∧ u0 3 = 1) (fun u t => match u with | (u0) => va_P (dC, dI) vwCl [(a0, .inr (5, [.ref cb, .int 81, .int 0, .ref a2, .int 0, .ref a3, .int 0, .ref a1, .int 1, .int 1, .ref a4, .int 0, .int 0, .int 0, .int 0])), (a1, .inl (cy 1, 448, .inl u0))] t.heap ∧ va_K (dC, dI) vwCl (TYS cy) t ∧ va_D (va_A [(a0, .inr (5, [.ref cb, .int 81, .int 0, .ref a2, .int 0, .ref a3, .int 0, .ref a1, .int 1, .int 1, .ref a4, .int 0, .int 0, .int 0, .int 0])), (a1, .inl (cy 1, 448, .inl f0))] sz) [(a0, .inr (5, [.ref cb, .int 81, .int 0, .ref a2, .int 0, .ref a3, .int 0, .ref a1, .int 1, .int 1, .ref a4, .int 0, .int 0, .int 0, .int 0])), (a1, .inl (cy 1, 448, .inl u0))]) (va_A [(a0, .inr (5, [.ref cb, .int 81, .int 0, .ref a2, .int 0, .ref a3, .int 0, .ref a1, .int 1, .int 1, .ref a4, .int 0, .int 0, .int 0, .int 0])), (a1, .inl (cy 1, 448, .inl f0))] sz)) 0 0 (va_A [(a0, .inr (5, [.ref cb, .int 81, .int 0, .ref a2, .int 0, .ref a3, .int 0, .ref a1, .int 1, .int 1, .ref a4, .int 0, .int 0, .int 0, .int 0])), (a1, .inl (cy 1, 448, .inl f0))] sz) := by
  refine Met.ofW (cc := cX5_setStructure) (maxL := 4) (ret := none) (by decide) rfl ?_
  intro p e s m args below meth c s₁ B hml hv
  obtain ⟨rfl, hsz, hP, hK, hD0, hN, hSK⟩ := hv
  have hx := B.exec
  have hb := B.bytes
  have hr := B.returns
  have hts := atoms_spec (ws := wsX5_setStructure) B.pre
  have hown : s.vm.findClass RX5 = some m.cls := findClass_of_methodNamed B.named
  have hlocks := B.notSynchronized
  subst hsz
  have hD := hD0.self (sz := s.heap.size)
  generalize hAe : va_A [(a0, .inr (5, [.ref cb, .int 81, .int 0, .ref a2, .int 0, .ref a3, .int 0, .ref a1, .int 1, .int 1, .ref a4, .int 0, .int 0, .int 0, .int 0])), (a1, .inl (cy 1, 448, .inl f0))] s.heap.size = A at hD hSK ⊢
  have hA : ∀ q : Nat, s.heap.size ≤ q → A q := fun q h => by rw [← hAe]; exact Or.inr h
  have hS : va_S A s.heap s.heap [] := va_S.rf
  have hP : va_P (dC, dI) vwCl [(a0, .inr (5, [.ref cb, .int 81, .int 0, .ref a2, .int 0, .ref a3, .int 0, .ref a1, .int 1, .int 1, .ref a4, .int 0, .int 0, .int 0, .int 0])), (a1, .inl (cy 1, 448, .inl f0))] s.heap := hP
  have hl := lv_entry ([.ref a0, .int 0, .int 3, .int 1]) (n := 4) (Nat.le_of_ble_eq_true rfl)
  rw [lg_entry_eq]
  generalize (lg_sl ([.ref a0, .int 0, .int 3, .int 1]) ++ List.replicate (4 - (lg_sl ([.ref a0, .int 0, .int 3, .int 1])).length) Slot.unset).toArray = ls at hl ⊢
  replace hl : lv_has ls 4 [(0, .ref a0), (1, .int 0), (2, .int 3), (3, .int 1)] := hl
  refine lv_iload_n hx hb dX5_setStructure_0 rfl (lv_at hl 1 rfl) ?_
  refine lv_if_lt (tgt := 22) hx hb dX5_setStructure_1 (by decide) (fun h => absurd h (by decide)) (fun _ => ?_)
  refine lv_iload_n hx hb dX5_setStructure_4 rfl (lv_at hl 1 rfl) ?_
  refine lv_bipush (v := 64) hx hb dX5_setStructure_5 (by decide) ?_
  refine lv_icmp_ge (tgt := 22) hx hb dX5_setStructure_7 (by decide) (fun h => absurd h (by decide)) (fun _ => ?_)
  refine lv_aload_n hx hb dX5_setStructure_10 rfl (lv_at hl 0 rfl) ?_
  refine va_get (D := (dC, dI)) (ci := 5) (v := .ref a1) (C := RX5) (T := TX5) (N := 15) hx hb hts iw_X5_setStructure_X5 hown hK hP 0 rfl rfl 7 (by decide) (hts _ m_X5_setStructure_1) (fun _ h9 => h9) rfl dX5_setStructure_11 ?_
  refine lv_iload_n hx hb dX5_setStructure_14 rfl (lv_at hl 1 rfl) ?_
  refine lv_bipush (v := 7) hx hb dX5_setStructure_15 (by decide) ?_
  refine lv_imul hx hb dX5_setStructure_17 ?_
  refine lv_topi (fun z_1 ez_1 => ?_)
  obtain rfl : z_1 = 0 := ez_1.trans (by decide)
  clear ez_1
  refine lv_iload_n hx hb dX5_setStructure_18 rfl (lv_at hl 2 rfl) ?_
  refine lv_iadd hx hb dX5_setStructure_19 ?_
  refine lv_topi (fun z_2 ez_2 => ?_)
  obtain rfl : z_2 = 3 := ez_2.trans (by decide)
  clear ez_2
  refine lv_iload_n hx hb dX5_setStructure_20 rfl (lv_at hl 3 rfl) ?_
  refine va_iast hx hb hK hP hD hS 1 1 rfl rfl (by unfold vp_in; decide) dX5_setStructure_21 (fun H_4 locs hP2 hD2 hS2 => ?_)
  replace hP : va_P (dC, dI) vwCl [(a0, .inr (5, [.ref cb, .int 81, .int 0, .ref a2, .int 0, .ref a3, .int 0, .ref a1, .int 1, .int 1, .ref a4, .int 0, .int 0, .int 0, .int 0])), (a1, .inl (cy 1, 448, .inl (upd f0 3 1)))] H_4 := hP2
  replace hD : va_D A [(a0, .inr (5, [.ref cb, .int 81, .int 0, .ref a2, .int 0, .ref a3, .int 0, .ref a1, .int 1, .int 1, .ref a4, .int 0, .int 0, .int 0, .int 0])), (a1, .inl (cy 1, 448, .inl (upd f0 3 1)))] := hD2
  replace hS := hS2
  clear hP2 hD2 hS2
  obtain ⟨g_3, eg_3⟩ : ∃ z, upd f0 3 1 = z := ⟨_, rfl⟩
  rw [eg_3] at hP hD
  have kg_3_0 : g_3 0 = 4 := by rw [← eg_3, pk_un (by decide)]; exact f0_0
  have kg_3_1 : g_3 1 = 7 := by rw [← eg_3, pk_un (by decide)]; exact f0_1
  have kg_3_2 : g_3 2 = 0 := by rw [← eg_3, pk_un (by decide)]; exact f0_2
  have kg_3_3 : g_3 3 = 1 := by rw [← eg_3, pk_us]
  exact W.vret hx hb hr (fun t ht hW => ⟨⟨(g_3), rfl, ⟨kg_3_0, kg_3_1, kg_3_2, kg_3_3⟩, by rw [ht]; exact hP, va_K.moved hW.alike hK, hD⟩, hS.F ht⟩) hS.2.2 dX5_setStructure_22

set_option maxHeartbeats 4000000 in
set_option maxRecDepth 100000 in
theorem cc_23_X5_setStructure (l : Launch) (dC : Nat → ClassId) (dI : Nat → Nat → Nat) (cy : Nat → ClassId) (sz : Nat) (cb : Nat) (a0 : Nat) (a1 : Nat) (a2 : Nat) (a3 : Nat) (a4 : Nat) (f0 : Nat → Int32) (f0_0 : f0 0 = 4) (f0_1 : f0 1 = 7) (f0_2 : f0 2 = 0) (f0_3 : f0 3 = 1) : Met l yX5_setStructure wsX5_setStructure ({ frames := 0, cells := 0, slots := 0, locals := 0 }) (va_Pc [.ref a0, .int 0, .int 4, .int 0] (fun U => U.heap.size = sz ∧ va_P (dC, dI) vwCl [(a0, .inr (5, [.ref cb, .int 81, .int 0, .ref a2, .int 0, .ref a3, .int 0, .ref a1, .int 1, .int 1, .ref a4, .int 0, .int 0, .int 0, .int 0])), (a1, .inl (cy 1, 448, .inl f0))] U.heap ∧ va_K (dC, dI) vwCl (TYS cy) U ∧ va_D (fun _ => True) [(a0, .inr (5, [.ref cb, .int 81, .int 0, .ref a2, .int 0, .ref a3, .int 0, .ref a1, .int 1, .int 1, .ref a4, .int 0, .int 0, .int 0, .int 0])), (a1, .inl (cy 1, 448, .inl f0))] ∧ NK U ∧ SK cb (va_A [(a0, .inr (5, [.ref cb, .int 81, .int 0, .ref a2, .int 0, .ref a3, .int 0, .ref a1, .int 1, .int 1, .ref a4, .int 0, .int 0, .int 0, .int 0])), (a1, .inl (cy 1, 448, .inl f0))] sz) U U.heap)) (va_Qv (fun u : (Nat → Int32) => match u with | (u0) => u0 0 = 4 ∧ u0 1 = 7 ∧ u0 2 = 0 ∧ u0 3 = 1 ∧ u0 4 = 0) (fun u t => match u with | (u0) => va_P (dC, dI) vwCl [(a0, .inr (5, [.ref cb, .int 81, .int 0, .ref a2, .int 0, .ref a3, .int 0, .ref a1, .int 1, .int 1, .ref a4, .int 0, .int 0, .int 0, .int 0])), (a1, .inl (cy 1, 448, .inl u0))] t.heap ∧ va_K (dC, dI) vwCl (TYS cy) t ∧ va_D (va_A [(a0, .inr (5, [.ref cb, .int 81, .int 0, .ref a2, .int 0, .ref a3, .int 0, .ref a1, .int 1, .int 1, .ref a4, .int 0, .int 0, .int 0, .int 0])), (a1, .inl (cy 1, 448, .inl f0))] sz) [(a0, .inr (5, [.ref cb, .int 81, .int 0, .ref a2, .int 0, .ref a3, .int 0, .ref a1, .int 1, .int 1, .ref a4, .int 0, .int 0, .int 0, .int 0])), (a1, .inl (cy 1, 448, .inl u0))]) (va_A [(a0, .inr (5, [.ref cb, .int 81, .int 0, .ref a2, .int 0, .ref a3, .int 0, .ref a1, .int 1, .int 1, .ref a4, .int 0, .int 0, .int 0, .int 0])), (a1, .inl (cy 1, 448, .inl f0))] sz)) 0 0 (va_A [(a0, .inr (5, [.ref cb, .int 81, .int 0, .ref a2, .int 0, .ref a3, .int 0, .ref a1, .int 1, .int 1, .ref a4, .int 0, .int 0, .int 0, .int 0])), (a1, .inl (cy 1, 448, .inl f0))] sz) := by
  refine Met.ofW (cc := cX5_setStructure) (maxL := 4) (ret := none) (by decide) rfl ?_
  intro p e s m args below meth c s₁ B hml hv
  obtain ⟨rfl, hsz, hP, hK, hD0, hN, hSK⟩ := hv
  have hx := B.exec
  have hb := B.bytes
  have hr := B.returns
  have hts := atoms_spec (ws := wsX5_setStructure) B.pre
  have hown : s.vm.findClass RX5 = some m.cls := findClass_of_methodNamed B.named
  have hlocks := B.notSynchronized
  subst hsz
  have hD := hD0.self (sz := s.heap.size)
  generalize hAe : va_A [(a0, .inr (5, [.ref cb, .int 81, .int 0, .ref a2, .int 0, .ref a3, .int 0, .ref a1, .int 1, .int 1, .ref a4, .int 0, .int 0, .int 0, .int 0])), (a1, .inl (cy 1, 448, .inl f0))] s.heap.size = A at hD hSK ⊢
  have hA : ∀ q : Nat, s.heap.size ≤ q → A q := fun q h => by rw [← hAe]; exact Or.inr h
  have hS : va_S A s.heap s.heap [] := va_S.rf
  have hP : va_P (dC, dI) vwCl [(a0, .inr (5, [.ref cb, .int 81, .int 0, .ref a2, .int 0, .ref a3, .int 0, .ref a1, .int 1, .int 1, .ref a4, .int 0, .int 0, .int 0, .int 0])), (a1, .inl (cy 1, 448, .inl f0))] s.heap := hP
  have hl := lv_entry ([.ref a0, .int 0, .int 4, .int 0]) (n := 4) (Nat.le_of_ble_eq_true rfl)
  rw [lg_entry_eq]
  generalize (lg_sl ([.ref a0, .int 0, .int 4, .int 0]) ++ List.replicate (4 - (lg_sl ([.ref a0, .int 0, .int 4, .int 0])).length) Slot.unset).toArray = ls at hl ⊢
  replace hl : lv_has ls 4 [(0, .ref a0), (1, .int 0), (2, .int 4), (3, .int 0)] := hl
  refine lv_iload_n hx hb dX5_setStructure_0 rfl (lv_at hl 1 rfl) ?_
  refine lv_if_lt (tgt := 22) hx hb dX5_setStructure_1 (by decide) (fun h => absurd h (by decide)) (fun _ => ?_)
  refine lv_iload_n hx hb dX5_setStructure_4 rfl (lv_at hl 1 rfl) ?_
  refine lv_bipush (v := 64) hx hb dX5_setStructure_5 (by decide) ?_
  refine lv_icmp_ge (tgt := 22) hx hb dX5_setStructure_7 (by decide) (fun h => absurd h (by decide)) (fun _ => ?_)
  refine lv_aload_n hx hb dX5_setStructure_10 rfl (lv_at hl 0 rfl) ?_
  refine va_get (D := (dC, dI)) (ci := 5) (v := .ref a1) (C := RX5) (T := TX5) (N := 15) hx hb hts iw_X5_setStructure_X5 hown hK hP 0 rfl rfl 7 (by decide) (hts _ m_X5_setStructure_1) (fun _ h9 => h9) rfl dX5_setStructure_11 ?_
  refine lv_iload_n hx hb dX5_setStructure_14 rfl (lv_at hl 1 rfl) ?_
  refine lv_bipush (v := 7) hx hb dX5_setStructure_15 (by decide) ?_
  refine lv_imul hx hb dX5_setStructure_17 ?_
  refine lv_topi (fun z_1 ez_1 => ?_)
  obtain rfl : z_1 = 0 := ez_1.trans (by decide)
  clear ez_1
  refine lv_iload_n hx hb dX5_setStructure_18 rfl (lv_at hl 2 rfl) ?_
  refine lv_iadd hx hb dX5_setStructure_19 ?_
  refine lv_topi (fun z_2 ez_2 => ?_)
  obtain rfl : z_2 = 4 := ez_2.trans (by decide)
  clear ez_2
  refine lv_iload_n hx hb dX5_setStructure_20 rfl (lv_at hl 3 rfl) ?_
  refine va_iast hx hb hK hP hD hS 1 1 rfl rfl (by unfold vp_in; decide) dX5_setStructure_21 (fun H_4 locs hP2 hD2 hS2 => ?_)
  replace hP : va_P (dC, dI) vwCl [(a0, .inr (5, [.ref cb, .int 81, .int 0, .ref a2, .int 0, .ref a3, .int 0, .ref a1, .int 1, .int 1, .ref a4, .int 0, .int 0, .int 0, .int 0])), (a1, .inl (cy 1, 448, .inl (upd f0 4 0)))] H_4 := hP2
  replace hD : va_D A [(a0, .inr (5, [.ref cb, .int 81, .int 0, .ref a2, .int 0, .ref a3, .int 0, .ref a1, .int 1, .int 1, .ref a4, .int 0, .int 0, .int 0, .int 0])), (a1, .inl (cy 1, 448, .inl (upd f0 4 0)))] := hD2
  replace hS := hS2
  clear hP2 hD2 hS2
  obtain ⟨g_3, eg_3⟩ : ∃ z, upd f0 4 0 = z := ⟨_, rfl⟩
  rw [eg_3] at hP hD
  have kg_3_0 : g_3 0 = 4 := by rw [← eg_3, pk_un (by decide)]; exact f0_0
  have kg_3_1 : g_3 1 = 7 := by rw [← eg_3, pk_un (by decide)]; exact f0_1
  have kg_3_2 : g_3 2 = 0 := by rw [← eg_3, pk_un (by decide)]; exact f0_2
  have kg_3_3 : g_3 3 = 1 := by rw [← eg_3, pk_un (by decide)]; exact f0_3
  have kg_3_4 : g_3 4 = 0 := by rw [← eg_3, pk_us]
  exact W.vret hx hb hr (fun t ht hW => ⟨⟨(g_3), rfl, ⟨kg_3_0, kg_3_1, kg_3_2, kg_3_3, kg_3_4⟩, by rw [ht]; exact hP, va_K.moved hW.alike hK, hD⟩, hS.F ht⟩) hS.2.2 dX5_setStructure_22

set_option maxHeartbeats 4000000 in
set_option maxRecDepth 100000 in
theorem cc_24_X5_setStructure (l : Launch) (dC : Nat → ClassId) (dI : Nat → Nat → Nat) (cy : Nat → ClassId) (sz : Nat) (cb : Nat) (a0 : Nat) (a1 : Nat) (a2 : Nat) (a3 : Nat) (a4 : Nat) (f0 : Nat → Int32) (f0_0 : f0 0 = 4) (f0_1 : f0 1 = 7) (f0_2 : f0 2 = 0) (f0_3 : f0 3 = 1) (f0_4 : f0 4 = 0) : Met l yX5_setStructure wsX5_setStructure ({ frames := 0, cells := 0, slots := 0, locals := 0 }) (va_Pc [.ref a0, .int 0, .int 5, .int 0] (fun U => U.heap.size = sz ∧ va_P (dC, dI) vwCl [(a0, .inr (5, [.ref cb, .int 81, .int 0, .ref a2, .int 0, .ref a3, .int 0, .ref a1, .int 1, .int 1, .ref a4, .int 0, .int 0, .int 0, .int 0])), (a1, .inl (cy 1, 448, .inl f0))] U.heap ∧ va_K (dC, dI) vwCl (TYS cy) U ∧ va_D (fun _ => True) [(a0, .inr (5, [.ref cb, .int 81, .int 0, .ref a2, .int 0, .ref a3, .int 0, .ref a1, .int 1, .int 1, .ref a4, .int 0, .int 0, .int 0, .int 0])), (a1, .inl (cy 1, 448, .inl f0))] ∧ NK U ∧ SK cb (va_A [(a0, .inr (5, [.ref cb, .int 81, .int 0, .ref a2, .int 0, .ref a3, .int 0, .ref a1, .int 1, .int 1, .ref a4, .int 0, .int 0, .int 0, .int 0])), (a1, .inl (cy 1, 448, .inl f0))] sz) U U.heap)) (va_Qv (fun u : (Nat → Int32) => match u with | (u0) => u0 0 = 4 ∧ u0 1 = 7 ∧ u0 2 = 0 ∧ u0 3 = 1 ∧ u0 4 = 0 ∧ u0 5 = 0) (fun u t => match u with | (u0) => va_P (dC, dI) vwCl [(a0, .inr (5, [.ref cb, .int 81, .int 0, .ref a2, .int 0, .ref a3, .int 0, .ref a1, .int 1, .int 1, .ref a4, .int 0, .int 0, .int 0, .int 0])), (a1, .inl (cy 1, 448, .inl u0))] t.heap ∧ va_K (dC, dI) vwCl (TYS cy) t ∧ va_D (va_A [(a0, .inr (5, [.ref cb, .int 81, .int 0, .ref a2, .int 0, .ref a3, .int 0, .ref a1, .int 1, .int 1, .ref a4, .int 0, .int 0, .int 0, .int 0])), (a1, .inl (cy 1, 448, .inl f0))] sz) [(a0, .inr (5, [.ref cb, .int 81, .int 0, .ref a2, .int 0, .ref a3, .int 0, .ref a1, .int 1, .int 1, .ref a4, .int 0, .int 0, .int 0, .int 0])), (a1, .inl (cy 1, 448, .inl u0))]) (va_A [(a0, .inr (5, [.ref cb, .int 81, .int 0, .ref a2, .int 0, .ref a3, .int 0, .ref a1, .int 1, .int 1, .ref a4, .int 0, .int 0, .int 0, .int 0])), (a1, .inl (cy 1, 448, .inl f0))] sz)) 0 0 (va_A [(a0, .inr (5, [.ref cb, .int 81, .int 0, .ref a2, .int 0, .ref a3, .int 0, .ref a1, .int 1, .int 1, .ref a4, .int 0, .int 0, .int 0, .int 0])), (a1, .inl (cy 1, 448, .inl f0))] sz) := by
  refine Met.ofW (cc := cX5_setStructure) (maxL := 4) (ret := none) (by decide) rfl ?_
  intro p e s m args below meth c s₁ B hml hv
  obtain ⟨rfl, hsz, hP, hK, hD0, hN, hSK⟩ := hv
  have hx := B.exec
  have hb := B.bytes
  have hr := B.returns
  have hts := atoms_spec (ws := wsX5_setStructure) B.pre
  have hown : s.vm.findClass RX5 = some m.cls := findClass_of_methodNamed B.named
  have hlocks := B.notSynchronized
  subst hsz
  have hD := hD0.self (sz := s.heap.size)
  generalize hAe : va_A [(a0, .inr (5, [.ref cb, .int 81, .int 0, .ref a2, .int 0, .ref a3, .int 0, .ref a1, .int 1, .int 1, .ref a4, .int 0, .int 0, .int 0, .int 0])), (a1, .inl (cy 1, 448, .inl f0))] s.heap.size = A at hD hSK ⊢
  have hA : ∀ q : Nat, s.heap.size ≤ q → A q := fun q h => by rw [← hAe]; exact Or.inr h
  have hS : va_S A s.heap s.heap [] := va_S.rf
  have hP : va_P (dC, dI) vwCl [(a0, .inr (5, [.ref cb, .int 81, .int 0, .ref a2, .int 0, .ref a3, .int 0, .ref a1, .int 1, .int 1, .ref a4, .int 0, .int 0, .int 0, .int 0])), (a1, .inl (cy 1, 448, .inl f0))] s.heap := hP
  have hl := lv_entry ([.ref a0, .int 0, .int 5, .int 0]) (n := 4) (Nat.le_of_ble_eq_true rfl)
  rw [lg_entry_eq]
  generalize (lg_sl ([.ref a0, .int 0, .int 5, .int 0]) ++ List.replicate (4 - (lg_sl ([.ref a0, .int 0, .int 5, .int 0])).length) Slot.unset).toArray = ls at hl ⊢
  replace hl : lv_has ls 4 [(0, .ref a0), (1, .int 0), (2, .int 5), (3, .int 0)] := hl
  refine lv_iload_n hx hb dX5_setStructure_0 rfl (lv_at hl 1 rfl) ?_
  refine lv_if_lt (tgt := 22) hx hb dX5_setStructure_1 (by decide) (fun h => absurd h (by decide)) (fun _ => ?_)
  refine lv_iload_n hx hb dX5_setStructure_4 rfl (lv_at hl 1 rfl) ?_
  refine lv_bipush (v := 64) hx hb dX5_setStructure_5 (by decide) ?_
  refine lv_icmp_ge (tgt := 22) hx hb dX5_setStructure_7 (by decide) (fun h => absurd h (by decide)) (fun _ => ?_)
  refine lv_aload_n hx hb dX5_setStructure_10 rfl (lv_at hl 0 rfl) ?_
  refine va_get (D := (dC, dI)) (ci := 5) (v := .ref a1) (C := RX5) (T := TX5) (N := 15) hx hb hts iw_X5_setStructure_X5 hown hK hP 0 rfl rfl 7 (by decide) (hts _ m_X5_setStructure_1) (fun _ h9 => h9) rfl dX5_setStructure_11 ?_
  refine lv_iload_n hx hb dX5_setStructure_14 rfl (lv_at hl 1 rfl) ?_
  refine lv_bipush (v := 7) hx hb dX5_setStructure_15 (by decide) ?_
  refine lv_imul hx hb dX5_setStructure_17 ?_
  refine lv_topi (fun z_1 ez_1 => ?_)
  obtain rfl : z_1 = 0 := ez_1.trans (by decide)
  clear ez_1
  refine lv_iload_n hx hb dX5_setStructure_18 rfl (lv_at hl 2 rfl) ?_
  refine lv_iadd hx hb dX5_setStructure_19 ?_
  refine lv_topi (fun z_2 ez_2 => ?_)
  obtain rfl : z_2 = 5 := ez_2.trans (by decide)
  clear ez_2
  refine lv_iload_n hx hb dX5_setStructure_20 rfl (lv_at hl 3 rfl) ?_
  refine va_iast hx hb hK hP hD hS 1 1 rfl rfl (by unfold vp_in; decide) dX5_setStructure_21 (fun H_4 locs hP2 hD2 hS2 => ?_)
  replace hP : va_P (dC, dI) vwCl [(a0, .inr (5, [.ref cb, .int 81, .int 0, .ref a2, .int 0, .ref a3, .int 0, .ref a1, .int 1, .int 1, .ref a4, .int 0, .int 0, .int 0, .int 0])), (a1, .inl (cy 1, 448, .inl (upd f0 5 0)))] H_4 := hP2
  replace hD : va_D A [(a0, .inr (5, [.ref cb, .int 81, .int 0, .ref a2, .int 0, .ref a3, .int 0, .ref a1, .int 1, .int 1, .ref a4, .int 0, .int 0, .int 0, .int 0])), (a1, .inl (cy 1, 448, .inl (upd f0 5 0)))] := hD2
  replace hS := hS2
  clear hP2 hD2 hS2
  obtain ⟨g_3, eg_3⟩ : ∃ z, upd f0 5 0 = z := ⟨_, rfl⟩
  rw [eg_3] at hP hD
  have kg_3_0 : g_3 0 = 4 := by rw [← eg_3, pk_un (by decide)]; exact f0_0
  have kg_3_1 : g_3 1 = 7 := by rw [← eg_3, pk_un (by decide)]; exact f0_1
  have kg_3_2 : g_3 2 = 0 := by rw [← eg_3, pk_un (by decide)]; exact f0_2
  have kg_3_3 : g_3 3 = 1 := by rw [← eg_3, pk_un (by decide)]; exact f0_3
  have kg_3_4 : g_3 4 = 0 := by rw [← eg_3, pk_un (by decide)]; exact f0_4
  have kg_3_5 : g_3 5 = 0 := by rw [← eg_3, pk_us]
  exact W.vret hx hb hr (fun t ht hW => ⟨⟨(g_3), rfl, ⟨kg_3_0, kg_3_1, kg_3_2, kg_3_3, kg_3_4, kg_3_5⟩, by rw [ht]; exact hP, va_K.moved hW.alike hK, hD⟩, hS.F ht⟩) hS.2.2 dX5_setStructure_22

set_option maxHeartbeats 4000000 in
set_option maxRecDepth 100000 in
theorem cc_27_X6_readByte (l : Launch) (dC : Nat → ClassId) (dI : Nat → Nat → Nat) (cy : Nat → ClassId) (sz : Nat) (cb : Nat) (a0 : Nat) (a1 : Nat) (a2 : Nat) (a3 : Nat) (a4 : Nat) (a5 : Nat) (a6 : Nat)  : Met l yX6_readByte wsX6_readByte ({ frames := 0, cells := 0, slots := 0, locals := 0 }) (va_Pc [.ref a0] (fun U => U.heap.size = sz ∧ va_P (dC, dI) vwCl [(a0, .inr (6, [.int 0, .int 0, .ref a1, .int 9, .int 0, .int 0, .int 0, .int 0, .ref a2])), (a1, .inr (5, [.ref cb, .int 81, .int 0, .ref a3, .int 0, .ref a4, .int 0, .ref a5, .int 1, .int 1, .ref a6, .int 0, .int 0, .int 0, .int 0]))] U.heap ∧ va_K (dC, dI) vwCl (TYS cy) U ∧ va_D (fun _ => True) [(a0, .inr (6, [.int 0, .int 0, .ref a1, .int 9, .int 0, .int 0, .int 0, .int 0, .ref a2])), (a1, .inr (5, [.ref cb, .int 81, .int 0, .ref a3, .int 0, .ref a4, .int 0, .ref a5, .int 1, .int 1, .ref a6, .int 0, .int 0, .int 0, .int 0]))] ∧ NK U ∧ SK cb (va_A [(a0, .inr (6, [.int 0, .int 0, .ref a1, .int 9, .int 0, .int 0, .int 0, .int 0, .ref a2])), (a1, .inr (5, [.ref cb, .int 81, .int 0, .ref a3, .int 0, .ref a4, .int 0, .ref a5, .int 1, .int 1, .ref a6, .int 0, .int 0, .int 0, .int 0]))] sz) U U.heap)) (va_Qi (fun (r : Int32) (u : Unit) => r = 3) (fun u t => va_P (dC, dI) vwCl [(a0, .inr (6, [.int 0, .int 0, .ref a1, .int 10, .int 0, .int 0, .int 0, .int 0, .ref a2])), (a1, .inr (5, [.ref cb, .int 81, .int 0, .ref a3, .int 0, .ref a4, .int 0, .ref a5, .int 1, .int 1, .ref a6, .int 0, .int 0, .int 0, .int 0]))] t.heap ∧ va_K (dC, dI) vwCl (TYS cy) t ∧ va_D (va_A [(a0, .inr (6, [.int 0, .int 0, .ref a1, .int 9, .int 0, .int 0, .int 0, .int 0, .ref a2])), (a1, .inr (5, [.ref cb, .int 81, .int 0, .ref a3, .int 0, .ref a4, .int 0, .ref a5, .int 1, .int 1, .ref a6, .int 0, .int 0, .int 0, .int 0]))] sz) [(a0, .inr (6, [.int 0, .int 0, .ref a1, .int 10, .int 0, .int 0, .int 0, .int 0, .ref a2])), (a1, .inr (5, [.ref cb, .int 81, .int 0, .ref a3, .int 0, .ref a4, .int 0, .ref a5, .int 1, .int 1, .ref a6, .int 0, .int 0, .int 0, .int 0]))]) (va_A [(a0, .inr (6, [.int 0, .int 0, .ref a1, .int 9, .int 0, .int 0, .int 0, .int 0, .ref a2])), (a1, .inr (5, [.ref cb, .int 81, .int 0, .ref a3, .int 0, .ref a4, .int 0, .ref a5, .int 1, .int 1, .ref a6, .int 0, .int 0, .int 0, .int 0]))] sz)) 0 0 (va_A [(a0, .inr (6, [.int 0, .int 0, .ref a1, .int 9, .int 0, .int 0, .int 0, .int 0, .ref a2])), (a1, .inr (5, [.ref cb, .int 81, .int 0, .ref a3, .int 0, .ref a4, .int 0, .ref a5, .int 1, .int 1, .ref a6, .int 0, .int 0, .int 0, .int 0]))] sz) := by
  refine Met.ofW (cc := cX6_readByte) (maxL := 1) (ret := (some .int)) (by decide) rfl ?_
  intro p e s m args below meth c s₁ B hml hv
  obtain ⟨rfl, hsz, hP, hK, hD0, hN, hSK⟩ := hv
  have hx := B.exec
  have hb := B.bytes
  have hr := B.returns
  have hts := atoms_spec (ws := wsX6_readByte) B.pre
  have hown : s.vm.findClass RX6 = some m.cls := findClass_of_methodNamed B.named
  have hlocks := B.notSynchronized
  subst hsz
  have hD := hD0.self (sz := s.heap.size)
  generalize hAe : va_A [(a0, .inr (6, [.int 0, .int 0, .ref a1, .int 9, .int 0, .int 0, .int 0, .int 0, .ref a2])), (a1, .inr (5, [.ref cb, .int 81, .int 0, .ref a3, .int 0, .ref a4, .int 0, .ref a5, .int 1, .int 1, .ref a6, .int 0, .int 0, .int 0, .int 0]))] s.heap.size = A at hD hSK ⊢
  have hA : ∀ q : Nat, s.heap.size ≤ q → A q := fun q h => by rw [← hAe]; exact Or.inr h
  have hS : va_S A s.heap s.heap [] := va_S.rf
  have hP : va_P (dC, dI) vwCl [(a0, .inr (6, [.int 0, .int 0, .ref a1, .int 9, .int 0, .int 0, .int 0, .int 0, .ref a2])), (a1, .inr (5, [.ref cb, .int 81, .int 0, .ref a3, .int 0, .ref a4, .int 0, .ref a5, .int 1, .int 1, .ref a6, .int 0, .int 0, .int 0, .int 0]))] s.heap := hP
  have hl := lv_entry ([.ref a0]) (n := 1) (Nat.le_of_ble_eq_true rfl)
  rw [lg_entry_eq]
  generalize (lg_sl ([.ref a0]) ++ List.replicate (1 - (lg_sl ([.ref a0])).length) Slot.unset).toArray = ls at hl ⊢
  replace hl : lv_has ls 1 [(0, .ref a0)] := hl
  refine lv_aload_n hx hb dX6_readByte_0 rfl (lv_at hl 0 rfl) ?_
  refine va_get (D := (dC, dI)) (ci := 6) (v := .int 0) (C := RX6) (T := TX6) (N := 9) hx hb hts iw_X6_readByte_X6 hown hK hP 0 rfl rfl 1 (by decide) (hts _ m_X6_readByte_1) (fun _ h9 => h9) rfl dX6_readByte_1 ?_
  refine lv_if_eq (tgt := 9) hx hb dX6_readByte_4 (by decide) (fun _ => ?_) (fun h => absurd (by decide) h)
  refine lv_aload_n hx hb dX6_readByte_9 rfl (lv_at hl 0 rfl) ?_
  refine va_get (D := (dC, dI)) (ci := 6) (v := .int 9) (C := RX6) (T := TX6) (N := 9) hx hb hts iw_X6_readByte_X6 hown hK hP 0 rfl rfl 3 (by decide) (hts _ m_X6_readByte_2) (fun _ h9 => h9) rfl dX6_readByte_10 ?_
  refine lv_aload_n hx hb dX6_readByte_13 rfl (lv_at hl 0 rfl) ?_
  refine va_get (D := (dC, dI)) (ci := 6) (v := .ref a1) (C := RX6) (T := TX6) (N := 9) hx hb hts iw_X6_readByte_X6 hown hK hP 0 rfl rfl 2 (by decide) (hts _ m_X6_readByte_3) (fun _ h9 => h9) rfl dX6_readByte_14 ?_
  refine va_get (D := (dC, dI)) (ci := 5) (v := .int 81) (C := RX5) (T := TX5) (N := 15) hx hb hts iw_X6_readByte_X5 hown hK hP 1 rfl rfl 1 (by decide) (hts _ m_X6_readByte_4) (fun _ h9 => h9) rfl dX6_readByte_17 ?_
  refine lv_icmp_lt (tgt := 41) hx hb dX6_readByte_20 (by decide) (fun _ => ?_) (fun h => absurd (by decide) h)
  refine lv_aload_n hx hb dX6_readByte_41 rfl (lv_at hl 0 rfl) ?_
  refine va_get (D := (dC, dI)) (ci := 6) (v := .ref a1) (C := RX6) (T := TX6) (N := 9) hx hb hts iw_X6_readByte_X6 hown hK hP 0 rfl rfl 2 (by decide) (hts _ m_X6_readByte_3) (fun _ h9 => h9) rfl dX6_readByte_42 ?_
  refine va_get (D := (dC, dI)) (ci := 5) (v := .ref cb) (C := RX5) (T := TX5) (N := 15) hx hb hts iw_X6_readByte_X5 hown hK hP 1 rfl rfl 0 (by decide) (hts _ m_X6_readByte_6) (fun _ h9 => h9) rfl dX6_readByte_45 ?_
  refine lv_aload_n hx hb dX6_readByte_48 rfl (lv_at hl 0 rfl) ?_
  refine lv_dup hx hb dX6_readByte_49 rfl ?_
  refine va_get (D := (dC, dI)) (ci := 6) (v := .int 9) (C := RX6) (T := TX6) (N := 9) hx hb hts iw_X6_readByte_X6 hown hK hP 0 rfl rfl 3 (by decide) (hts _ m_X6_readByte_2) (fun _ h9 => h9) rfl dX6_readByte_50 ?_
  refine lv_dup_x1 hx hb dX6_readByte_53 rfl rfl ?_
  refine lv_iconst (v := 1) hx hb dX6_readByte_54 (by decide) ?_
  refine lv_iadd hx hb dX6_readByte_55 ?_
  refine lv_topi (fun z_1 ez_1 => ?_)
  obtain rfl : z_1 = 10 := ez_1.trans (by decide)
  clear ez_1
  refine va_put (D := (dC, dI)) (ci := 6) (v := .int 10) (ty := .int) (C := RX6) (T := TX6) (N := 9) hx hb hts iw_X6_readByte_X6 tyX6 tyX6_ok nmX6 hown hK hP hD hS 0 rfl rfl 3 (by decide) (hts _ m_X6_readByte_2) (fun _ h9 => h9) rfl (by decide +kernel) rfl rfl (Nat.le_of_ble_eq_true rfl) dX6_readByte_56 (fun H_2 locs hP2 hD2 hS2 => ?_)
  replace hP : va_P (dC, dI) vwCl [(a0, .inr (6, [.int 0, .int 0, .ref a1, .int 10, .int 0, .int 0, .int 0, .int 0, .ref a2])), (a1, .inr (5, [.ref cb, .int 81, .int 0, .ref a3, .int 0, .ref a4, .int 0, .ref a5, .int 1, .int 1, .ref a6, .int 0, .int 0, .int 0, .int 0]))] H_2 := hP2
  replace hD : va_D A [(a0, .inr (6, [.int 0, .int 0, .ref a1, .int 10, .int 0, .int 0, .int 0, .int 0, .ref a2])), (a1, .inr (5, [.ref cb, .int 81, .int 0, .ref a3, .int 0, .ref a4, .int 0, .ref a5, .int 1, .int 1, .ref a6, .int 0, .int 0, .int 0, .int 0]))] := hD2
  replace hS := hS2
  clear hP2 hD2 hS2
  refine va_tb (v := .int 3) hx hb hSK.2 hS (by unfold vp_in; decide) rfl dX6_readByte_59 ?_
  refine lv_sipush (v := 255) hx hb dX6_readByte_60 (by decide) ?_
  refine lv_iand hx hb dX6_readByte_63 ?_
  refine lv_topi (fun z_3 ez_3 => ?_)
  obtain rfl : z_3 = 3 := ez_3.trans (by decide)
  clear ez_3
  exact W.iret hx hb hr (fun t ht hW => ⟨⟨3, (), rfl, rfl, by rw [ht]; exact hP, va_K.moved hW.alike hK, hD⟩, hS.F ht⟩) hS.2.2 dX6_readByte_64

set_option maxHeartbeats 4000000 in
set_option maxRecDepth 100000 in
theorem cc_26_X6_readOneType (l : Launch) (dC : Nat → ClassId) (dI : Nat → Nat → Nat) (cy : Nat → ClassId) (sz : Nat) (cb : Nat) (a0 : Nat) (a1 : Nat) (a2 : Nat) (a3 : Nat) (a4 : Nat) (a5 : Nat) (a6 : Nat)  : Met l yX6_readOneType wsX6_readOneType ({ frames := 1, cells := 0, slots := 0, locals := 20 }) (va_Pc [.ref a0, .int 0] (fun U => U.heap.size = sz ∧ va_P (dC, dI) vwCl [(a0, .inr (6, [.int 0, .int 0, .ref a1, .int 9, .int 0, .int 0, .int 0, .int 0, .ref a2])), (a1, .inr (5, [.ref cb, .int 81, .int 0, .ref a3, .int 0, .ref a4, .int 0, .ref a5, .int 1, .int 1, .ref a6, .int 0, .int 0, .int 0, .int 0]))] U.heap ∧ va_K (dC, dI) vwCl (TYS cy) U ∧ va_D (fun _ => True) [(a0, .inr (6, [.int 0, .int 0, .ref a1, .int 9, .int 0, .int 0, .int 0, .int 0, .ref a2])), (a1, .inr (5, [.ref cb, .int 81, .int 0, .ref a3, .int 0, .ref a4, .int 0, .ref a5, .int 1, .int 1, .ref a6, .int 0, .int 0, .int 0, .int 0]))] ∧ NK U ∧ SK cb (va_A [(a0, .inr (6, [.int 0, .int 0, .ref a1, .int 9, .int 0, .int 0, .int 0, .int 0, .ref a2])), (a1, .inr (5, [.ref cb, .int 81, .int 0, .ref a3, .int 0, .ref a4, .int 0, .ref a5, .int 1, .int 1, .ref a6, .int 0, .int 0, .int 0, .int 0]))] sz) U U.heap)) (va_Ql (fun (r : Int64) (u : Unit) => r = 3) (fun u t => va_P (dC, dI) vwCl [(a0, .inr (6, [.int 0, .int 0, .ref a1, .int 10, .int 0, .int 0, .int 0, .int 0, .ref a2])), (a1, .inr (5, [.ref cb, .int 81, .int 0, .ref a3, .int 0, .ref a4, .int 0, .ref a5, .int 1, .int 1, .ref a6, .int 0, .int 0, .int 0, .int 0]))] t.heap ∧ va_K (dC, dI) vwCl (TYS cy) t ∧ va_D (va_A [(a0, .inr (6, [.int 0, .int 0, .ref a1, .int 9, .int 0, .int 0, .int 0, .int 0, .ref a2])), (a1, .inr (5, [.ref cb, .int 81, .int 0, .ref a3, .int 0, .ref a4, .int 0, .ref a5, .int 1, .int 1, .ref a6, .int 0, .int 0, .int 0, .int 0]))] sz) [(a0, .inr (6, [.int 0, .int 0, .ref a1, .int 10, .int 0, .int 0, .int 0, .int 0, .ref a2])), (a1, .inr (5, [.ref cb, .int 81, .int 0, .ref a3, .int 0, .ref a4, .int 0, .ref a5, .int 1, .int 1, .ref a6, .int 0, .int 0, .int 0, .int 0]))]) (va_A [(a0, .inr (6, [.int 0, .int 0, .ref a1, .int 9, .int 0, .int 0, .int 0, .int 0, .ref a2])), (a1, .inr (5, [.ref cb, .int 81, .int 0, .ref a3, .int 0, .ref a4, .int 0, .ref a5, .int 1, .int 1, .ref a6, .int 0, .int 0, .int 0, .int 0]))] sz)) 0 0 (va_A [(a0, .inr (6, [.int 0, .int 0, .ref a1, .int 9, .int 0, .int 0, .int 0, .int 0, .ref a2])), (a1, .inr (5, [.ref cb, .int 81, .int 0, .ref a3, .int 0, .ref a4, .int 0, .ref a5, .int 1, .int 1, .ref a6, .int 0, .int 0, .int 0, .int 0]))] sz) := by
  refine Met.ofW (cc := cX6_readOneType) (maxL := 7) (ret := (some .long)) (by decide) rfl ?_
  intro p e s m args below meth c s₁ B hml hv
  obtain ⟨rfl, hsz, hP, hK, hD0, hN, hSK⟩ := hv
  have hx := B.exec
  have hb := B.bytes
  have hr := B.returns
  have hts := atoms_spec (ws := wsX6_readOneType) B.pre
  have hown : s.vm.findClass RX6 = some m.cls := findClass_of_methodNamed B.named
  have hlocks := B.notSynchronized
  subst hsz
  have hD := hD0.self (sz := s.heap.size)
  generalize hAe : va_A [(a0, .inr (6, [.int 0, .int 0, .ref a1, .int 9, .int 0, .int 0, .int 0, .int 0, .ref a2])), (a1, .inr (5, [.ref cb, .int 81, .int 0, .ref a3, .int 0, .ref a4, .int 0, .ref a5, .int 1, .int 1, .ref a6, .int 0, .int 0, .int 0, .int 0]))] s.heap.size = A at hD hSK ⊢
  have hA : ∀ q : Nat, s.heap.size ≤ q → A q := fun q h => by rw [← hAe]; exact Or.inr h
  have hS : va_S A s.heap s.heap [] := va_S.rf
  have hP : va_P (dC, dI) vwCl [(a0, .inr (6, [.int 0, .int 0, .ref a1, .int 9, .int 0, .int 0, .int 0, .int 0, .ref a2])), (a1, .inr (5, [.ref cb, .int 81, .int 0, .ref a3, .int 0, .ref a4, .int 0, .ref a5, .int 1, .int 1, .ref a6, .int 0, .int 0, .int 0, .int 0]))] s.heap := hP
  have hl := lv_entry ([.ref a0, .int 0]) (n := 7) (Nat.le_of_ble_eq_true rfl)
  rw [lg_entry_eq]
  generalize (lg_sl ([.ref a0, .int 0]) ++ List.replicate (7 - (lg_sl ([.ref a0, .int 0])).length) Slot.unset).toArray = ls at hl ⊢
  replace hl : lv_has ls 7 [(0, .ref a0), (1, .int 0)] := hl
  refine lv_lconst (v := 0) hx hb dX6_readOneType_0 (by decide) ?_
  refine lv_lstore_n (lv' := [(2, .long 0), (0, .ref a0), (1, .int 0)]) hx hb dX6_readOneType_1 rfl hl (by decide) rfl (fun ls hl2 => ?_)
  replace hl := hl2
  clear hl2
  refine lv_aload_n hx hb dX6_readOneType_2 rfl (lv_at hl 1 rfl) ?_
  refine va_get (D := (dC, dI)) (ci := 6) (v := .int 9) (C := RX6) (T := TX6) (N := 9) hx hb hts iw_X6_readOneType_X6 hown hK hP 0 rfl rfl 3 (by decide) (hts _ m_X6_readOneType_1) (fun _ h9 => h9) rfl dX6_readOneType_3 ?_
  refine lv_istore (lv' := [(4, .int 9), (2, .long 0), (0, .ref a0), (1, .int 0)]) hx hb dX6_readOneType_6 hl (by decide) rfl (fun ls hl2 => ?_)
  replace hl := hl2
  clear hl2
  refine lv_aload_n hx hb dX6_readOneType_8 rfl (lv_at hl 2 rfl) ?_
  have hPc := hP.sub (ws' := [(a0, .inr (6, [.int 0, .int 0, .ref a1, .int 9, .int 0, .int 0, .int 0, .int 0, .ref a2])), (a1, .inr (5, [.ref cb, .int 81, .int 0, .ref a3, .int 0, .ref a4, .int 0, .ref a5, .int 1, .int 1, .ref a6, .int 0, .int 0, .int 0, .int 0]))]) [0, 1] rfl
  have hDc := hD.sub (ws' := [(a0, .inr (6, [.int 0, .int 0, .ref a1, .int 9, .int 0, .int 0, .int 0, .int 0, .ref a2])), (a1, .inr (5, [.ref cb, .int 81, .int 0, .ref a3, .int 0, .ref a4, .int 0, .ref a5, .int 1, .int 1, .ref a6, .int 0, .int 0, .int 0, .int 0]))]) [0, 1] (by decide) rfl
  have hFc := va_free (wc := [(a0, .inr (6, [.int 0, .int 0, .ref a1, .int 9, .int 0, .int 0, .int 0, .int 0, .ref a2])), (a1, .inr (5, [.ref cb, .int 81, .int 0, .ref a3, .int 0, .ref a4, .int 0, .ref a5, .int 1, .int 1, .ref a6, .int 0, .int 0, .int 0, .int 0]))]) hD hS hA [0, 1] rfl
  refine va_calli (va_runV (As := []) (rest := []) ⟨hx, hb, hml, hown, hts⟩ (cc_27_X6_readByte l dC dI cy s.heap.size cb a0 a1 a2 a3 a4 a5 a6) (cwV 0 hts gX6_readOneType_X6_readByte rfl rfl rfl (by decide +kernel) ⟨Nat.le_of_ble_eq_true rfl, Nat.le_of_ble_eq_true rfl⟩) ⟨fun a U g mk q => by obtain ⟨q0, q1, qP, qK, qD, qN, qS⟩ := q; exact ⟨q0, q1, qP, va_K.moved (u := U) (U := U.calling g mk a) (Vm.Alike.refl U.vm) qK, qD, qN.same rfl, SK.moved (u := U) (U := U.calling g mk a) (Vm.Alike.refl U.vm) qS⟩, va_recv hK hPc (ci := 6) (q0 := 0) rfl rfl, fun U hU hW => ⟨rfl, by rw [hU], by rw [hU]; exact hPc, va_K.moved hW.alike hK, hDc.weaken (fun _ _ _ _ => trivial), hN.warm hW, by rw [hU]; exact ((hSK.kept hS.2.1).narrow hFc).moved hW.alike⟩⟩ rfl rfl hl.1 rfl (lv_room (Nat.le_of_ble_eq_true rfl)) dX6_readOneType_9 ⟨Nat.le_of_ble_eq_true rfl, Nat.le_of_ble_eq_true rfl⟩) hS (fun q _ h => hFc q h) hFc (fun r_1 u t H_2 locs ht hvm hw hB hz1 hk1 hS2 => ?_)
  obtain ⟨hP1, hK1, hD1⟩ := hB
  rw [ht] at hP1
  obtain rfl := hw
  obtain ⟨hP2, hD2⟩ := va_join (wr := []) (w1 := [(a0, .inr (6, [.int 0, .int 0, .ref a1, .int 10, .int 0, .int 0, .int 0, .int 0, .ref a2])), (a1, .inr (5, [.ref cb, .int 81, .int 0, .ref a3, .int 0, .ref a4, .int 0, .ref a5, .int 1, .int 1, .ref a6, .int 0, .int 0, .int 0, .int 0]))]) hP hD [0, 1] [] rfl rfl (by decide) (by decide) hk1 hFc hP1 hD1
  replace hP : va_P (dC, dI) vwCl [(a0, .inr (6, [.int 0, .int 0, .ref a1, .int 10, .int 0, .int 0, .int 0, .int 0, .ref a2])), (a1, .inr (5, [.ref cb, .int 81, .int 0, .ref a3, .int 0, .ref a4, .int 0, .ref a5, .int 1, .int 1, .ref a6, .int 0, .int 0, .int 0, .int 0]))] H_2 := hP2
  replace hD : va_D A [(a0, .inr (6, [.int 0, .int 0, .ref a1, .int 10, .int 0, .int 0, .int 0, .int 0, .ref a2])), (a1, .inr (5, [.ref cb, .int 81, .int 0, .ref a3, .int 0, .ref a4, .int 0, .ref a5, .int 1, .int 1, .ref a6, .int 0, .int 0, .int 0, .int 0]))] := hD2
  replace hS := hS2
  clear hP2 hD2 hS2
  clear hPc hDc hFc hP1 hD1 hK1 hk1 hz1 hvm ht
  refine W.widen (k := 0) (n := 0) (Nat.le_of_ble_eq_true rfl) (Nat.le_of_ble_eq_true rfl) ?_
  refine lv_istore (lv' := [(5, .int 3), (4, .int 9), (2, .long 0), (0, .ref a0), (1, .int 0)]) hx hb dX6_readOneType_12 hl (by decide) rfl (fun ls hl2 => ?_)
  replace hl := hl2
  clear hl2
  refine lv_iload_n hx hb dX6_readOneType_14 rfl (lv_at hl 4 rfl) ?_
  refine lv_if_eq (tgt := 48) hx hb dX6_readOneType_15 (by decide) (fun _ => ?_) (fun h => absurd (by decide) h)
  refine lv_iconst (v := 0) hx hb dX6_readOneType_48 (by decide) ?_
  refine lv_istore (lv' := [(6, .int 0), (5, .int 3), (4, .int 9), (2, .long 0), (0, .ref a0), (1, .int 0)]) hx hb dX6_readOneType_49 hl (by decide) rfl (fun ls hl2 => ?_)
  replace hl := hl2
  clear hl2
  refine lv_iload hx hb dX6_readOneType_51 (lv_at hl 0 rfl) ?_
  refine lv_iconst (v := 4) hx hb dX6_readOneType_53 (by decide) ?_
  refine lv_icmp_ge (tgt := 91) hx hb dX6_readOneType_54 (by decide) (fun h => absurd h (by decide)) (fun _ => ?_)
  refine lv_iload hx hb dX6_readOneType_57 (lv_at hl 1 rfl) ?_
  refine lv_bipush (v := 7) hx hb dX6_readOneType_59 (by decide) ?_
  refine lv_icmp_ne (tgt := 91) hx hb dX6_readOneType_61 (by decide) (fun _ => ?_) (fun h => absurd h (by decide))
  refine lv_iload hx hb dX6_readOneType_91 (lv_at hl 1 rfl) ?_
  refine lv_iconst (v := 1) hx hb dX6_readOneType_93 (by decide) ?_
  refine lv_icmp_lt (tgt := 104) hx hb dX6_readOneType_94 (by decide) (fun h => absurd h (by decide)) (fun _ => ?_)
  refine lv_iload hx hb dX6_readOneType_97 (lv_at hl 1 rfl) ?_
  refine lv_bipush (v := 6) hx hb dX6_readOneType_99 (by decide) ?_
  refine lv_icmp_le (tgt := 111) hx hb dX6_readOneType_101 (by decide) (fun _ => ?_) (fun h => absurd (by decide) h)
  refine lv_lload_n hx hb dX6_readOneType_111 rfl (lv_at hl 3 rfl) ?_
  refine lv_bipush (v := 8) hx hb dX6_readOneType_112 (by decide) ?_
  refine lv_lshl (v := 0) hx hb dX6_readOneType_114 (by decide) ?_
  refine lv_iload hx hb dX6_readOneType_115 (lv_at hl 1 rfl) ?_
  refine lv_i2l (v := 3) hx hb dX6_readOneType_117 (by decide) ?_
  refine lv_lor hx hb dX6_readOneType_118 ?_
  refine lv_topl (fun z_3 ez_3 => ?_)
  obtain rfl : z_3 = 3 := ez_3.trans (by decide)
  clear ez_3
  refine lv_lstore_n (lv' := [(2, .long 3), (6, .int 0), (5, .int 3), (4, .int 9), (0, .ref a0), (1, .int 0)]) hx hb dX6_readOneType_119 rfl hl (by decide) rfl (fun ls hl2 => ?_)
  replace hl := hl2
  clear hl2
  refine lv_iload hx hb dX6_readOneType_120 (lv_at hl 2 rfl) ?_
  refine lv_bipush (v := 6) hx hb dX6_readOneType_122 (by decide) ?_
  refine lv_icmp_eq (tgt := 129) hx hb dX6_readOneType_124 (by decide) (fun h => absurd h (by decide)) (fun _ => ?_)
  refine lv_lload_n hx hb dX6_readOneType_127 rfl (lv_at hl 0 rfl) ?_
  exact W.lret hx hb hr (fun t ht hW => ⟨⟨3, (), rfl, rfl, by rw [ht]; exact hP, va_K.moved hW.alike hK, hD⟩, hS.F ht⟩) hS.2.2 dX6_readOneType_128

set_option maxHeartbeats 4000000 in
set_option maxRecDepth 100000 in
theorem cc_28_X5_addType (l : Launch) (dC : Nat → ClassId) (dI : Nat → Nat → Nat) (cy : Nat → ClassId) (sz : Nat) (cb : Nat) (a0 : Nat) (a1 : Nat) (a2 : Nat) (a3 : Nat) (a4 : Nat) (f0 : Nat → Int64)  : Met l yX5_addType wsX5_addType ({ frames := 0, cells := 0, slots := 0, locals := 0 }) (va_Pc [.ref a0, .long 3] (fun U => U.heap.size = sz ∧ va_P (dC, dI) vwCl [(a0, .inr (5, [.ref cb, .int 81, .int 0, .ref a1, .int 0, .ref a2, .int 0, .ref a3, .int 1, .int 1, .ref a4, .int 0, .int 0, .int 0, .int 0])), (a1, .inl (cy 2, 2048, .inr (.inl f0)))] U.heap ∧ va_K (dC, dI) vwCl (TYS cy) U ∧ va_D (fun _ => True) [(a0, .inr (5, [.ref cb, .int 81, .int 0, .ref a1, .int 0, .ref a2, .int 0, .ref a3, .int 1, .int 1, .ref a4, .int 0, .int 0, .int 0, .int 0])), (a1, .inl (cy 2, 2048, .inr (.inl f0)))] ∧ NK U ∧ SK cb (va_A [(a0, .inr (5, [.ref cb, .int 81, .int 0, .ref a1, .int 0, .ref a2, .int 0, .ref a3, .int 1, .int 1, .ref a4, .int 0, .int 0, .int 0, .int 0])), (a1, .inl (cy 2, 2048, .inr (.inl f0)))] sz) U U.heap)) (va_Qv (fun u : (Nat → Int64) => match u with | (u0) => u0 0 = 3) (fun u t => match u with | (u0) => va_P (dC, dI) vwCl [(a0, .inr (5, [.ref cb, .int 81, .int 0, .ref a1, .int 1, .ref a2, .int 0, .ref a3, .int 1, .int 1, .ref a4, .int 0, .int 0, .int 0, .int 0])), (a1, .inl (cy 2, 2048, .inr (.inl u0)))] t.heap ∧ va_K (dC, dI) vwCl (TYS cy) t ∧ va_D (va_A [(a0, .inr (5, [.ref cb, .int 81, .int 0, .ref a1, .int 0, .ref a2, .int 0, .ref a3, .int 1, .int 1, .ref a4, .int 0, .int 0, .int 0, .int 0])), (a1, .inl (cy 2, 2048, .inr (.inl f0)))] sz) [(a0, .inr (5, [.ref cb, .int 81, .int 0, .ref a1, .int 1, .ref a2, .int 0, .ref a3, .int 1, .int 1, .ref a4, .int 0, .int 0, .int 0, .int 0])), (a1, .inl (cy 2, 2048, .inr (.inl u0)))]) (va_A [(a0, .inr (5, [.ref cb, .int 81, .int 0, .ref a1, .int 0, .ref a2, .int 0, .ref a3, .int 1, .int 1, .ref a4, .int 0, .int 0, .int 0, .int 0])), (a1, .inl (cy 2, 2048, .inr (.inl f0)))] sz)) 0 0 (va_A [(a0, .inr (5, [.ref cb, .int 81, .int 0, .ref a1, .int 0, .ref a2, .int 0, .ref a3, .int 1, .int 1, .ref a4, .int 0, .int 0, .int 0, .int 0])), (a1, .inl (cy 2, 2048, .inr (.inl f0)))] sz) := by
  refine Met.ofW (cc := cX5_addType) (maxL := 3) (ret := none) (by decide) rfl ?_
  intro p e s m args below meth c s₁ B hml hv
  obtain ⟨rfl, hsz, hP, hK, hD0, hN, hSK⟩ := hv
  have hx := B.exec
  have hb := B.bytes
  have hr := B.returns
  have hts := atoms_spec (ws := wsX5_addType) B.pre
  have hown : s.vm.findClass RX5 = some m.cls := findClass_of_methodNamed B.named
  have hlocks := B.notSynchronized
  subst hsz
  have hD := hD0.self (sz := s.heap.size)
  generalize hAe : va_A [(a0, .inr (5, [.ref cb, .int 81, .int 0, .ref a1, .int 0, .ref a2, .int 0, .ref a3, .int 1, .int 1, .ref a4, .int 0, .int 0, .int 0, .int 0])), (a1, .inl (cy 2, 2048, .inr (.inl f0)))] s.heap.size = A at hD hSK ⊢
  have hA : ∀ q : Nat, s.heap.size ≤ q → A q := fun q h => by rw [← hAe]; exact Or.inr h
  have hS : va_S A s.heap s.heap [] := va_S.rf
  have hP : va_P (dC, dI) vwCl [(a0, .inr (5, [.ref cb, .int 81, .int 0, .ref a1, .int 0, .ref a2, .int 0, .ref a3, .int 1, .int 1, .ref a4, .int 0, .int 0, .int 0, .int 0])), (a1, .inl (cy 2, 2048, .inr (.inl f0)))] s.heap := hP
  have hl := lv_entry ([.ref a0, .long 3]) (n := 3) (Nat.le_of_ble_eq_true rfl)
  rw [lg_entry_eq]
  generalize (lg_sl ([.ref a0, .long 3]) ++ List.replicate (3 - (lg_sl ([.ref a0, .long 3])).length) Slot.unset).toArray = ls at hl ⊢
  replace hl : lv_has ls 3 [(0, .ref a0), (1, .long 3)] := hl
  refine lv_aload_n hx hb dX5_addType_0 rfl (lv_at hl 0 rfl) ?_
  refine va_get (D := (dC, dI)) (ci := 5) (v := .int 0) (C := RX5) (T := TX5) (N := 15) hx hb hts iw_X5_addType_X5 hown hK hP 0 rfl rfl 4 (by decide) (hts _ m_X5_addType_1) (fun _ h9 => h9) rfl dX5_addType_1 ?_
  refine lv_aload_n hx hb dX5_addType_4 rfl (lv_at hl 0 rfl) ?_
  refine va_get (D := (dC, dI)) (ci := 5) (v := .ref a1) (C := RX5) (T := TX5) (N := 15) hx hb hts iw_X5_addType_X5 hown hK hP 0 rfl rfl 3 (by decide) (hts _ m_X5_addType_2) (fun _ h9 => h9) rfl dX5_addType_5 ?_
  refine va_alen (v := 2048) hx hb hK hP 1 2 rfl rfl rfl dX5_addType_8 ?_
  refine lv_icmp_ge (tgt := 29) hx hb dX5_addType_9 (by decide) (fun h => absurd h (by decide)) (fun _ => ?_)
  refine lv_aload_n hx hb dX5_addType_12 rfl (lv_at hl 0 rfl) ?_
  refine va_get (D := (dC, dI)) (ci := 5) (v := .ref a1) (C := RX5) (T := TX5) (N := 15) hx hb hts iw_X5_addType_X5 hown hK hP 0 rfl rfl 3 (by decide) (hts _ m_X5_addType_2) (fun _ h9 => h9) rfl dX5_addType_13 ?_
  refine lv_aload_n hx hb dX5_addType_16 rfl (lv_at hl 0 rfl) ?_
  refine lv_dup hx hb dX5_addType_17 rfl ?_
  refine va_get (D := (dC, dI)) (ci := 5) (v := .int 0) (C := RX5) (T := TX5) (N := 15) hx hb hts iw_X5_addType_X5 hown hK hP 0 rfl rfl 4 (by decide) (hts _ m_X5_addType_1) (fun _ h9 => h9) rfl dX5_addType_18 ?_
  refine lv_dup_x1 hx hb dX5_addType_21 rfl rfl ?_
  refine lv_iconst (v := 1) hx hb dX5_addType_22 (by decide) ?_
  refine lv_iadd hx hb dX5_addType_23 ?_
  refine lv_topi (fun z_1 ez_1 => ?_)
  obtain rfl : z_1 = 1 := ez_1.trans (by decide)
  clear ez_1
  refine va_put (D := (dC, dI)) (ci := 5) (v := .int 1) (ty := .int) (C := RX5) (T := TX5) (N := 15) hx hb hts iw_X5_addType_X5 tyX5 tyX5_ok nmX5 hown hK hP hD hS 0 rfl rfl 4 (by decide) (hts _ m_X5_addType_1) (fun _ h9 => h9) rfl (by decide +kernel) rfl rfl (Nat.le_of_ble_eq_true rfl) dX5_addType_24 (fun H_2 locs hP2 hD2 hS2 => ?_)
  replace hP : va_P (dC, dI) vwCl [(a0, .inr (5, [.ref cb, .int 81, .int 0, .ref a1, .int 1, .ref a2, .int 0, .ref a3, .int 1, .int 1, .ref a4, .int 0, .int 0, .int 0, .int 0])), (a1, .inl (cy 2, 2048, .inr (.inl f0)))] H_2 := hP2
  replace hD : va_D A [(a0, .inr (5, [.ref cb, .int 81, .int 0, .ref a1, .int 1, .ref a2, .int 0, .ref a3, .int 1, .int 1, .ref a4, .int 0, .int 0, .int 0, .int 0])), (a1, .inl (cy 2, 2048, .inr (.inl f0)))] := hD2
  replace hS := hS2
  clear hP2 hD2 hS2
  refine lv_lload_n hx hb dX5_addType_27 rfl (lv_at hl 1 rfl) ?_
  refine va_last hx hb hK hP hD hS 1 2 rfl rfl (by unfold vp_in; decide) dX5_addType_28 (fun H_4 locs hP2 hD2 hS2 => ?_)
  replace hP : va_P (dC, dI) vwCl [(a0, .inr (5, [.ref cb, .int 81, .int 0, .ref a1, .int 1, .ref a2, .int 0, .ref a3, .int 1, .int 1, .ref a4, .int 0, .int 0, .int 0, .int 0])), (a1, .inl (cy 2, 2048, .inr (.inl (vp_updL f0 0 3))))] H_4 := hP2
  replace hD : va_D A [(a0, .inr (5, [.ref cb, .int 81, .int 0, .ref a1, .int 1, .ref a2, .int 0, .ref a3, .int 1, .int 1, .ref a4, .int 0, .int 0, .int 0, .int 0])), (a1, .inl (cy 2, 2048, .inr (.inl (vp_updL f0 0 3))))] := hD2
  replace hS := hS2
  clear hP2 hD2 hS2
  obtain ⟨g_3, eg_3⟩ : ∃ z, vp_updL f0 0 3 = z := ⟨_, rfl⟩
  rw [eg_3] at hP hD
  have kg_3_0 : g_3 0 = 3 := by rw [← eg_3, pk_uLs]
  exact W.vret hx hb hr (fun t ht hW => ⟨⟨(g_3), rfl, kg_3_0, by rw [ht]; exact hP, va_K.moved hW.alike hK, hD⟩, hS.F ht⟩) hS.2.2 dX5_addType_29

set_option maxHeartbeats 4000000 in
set_option maxRecDepth 100000 in
theorem cc_25_X6_readTypes (l : Launch) (dC : Nat → ClassId) (dI : Nat → Nat → Nat) (cy : Nat → ClassId) (sz : Nat) (cb : Nat) (a0 : Nat) (a1 : Nat) (a2 : Nat) (a3 : Nat) (a4 : Nat) (a5 : Nat) (a6 : Nat) (f0 : Nat → Int64)  : Met l yX6_readTypes wsX6_readTypes ({ frames := 2, cells := 0, slots := 0, locals := 46 }) (va_Pc [.ref a0, .int 1, .int 0] (fun U => U.heap.size = sz ∧ va_P (dC, dI) vwCl [(a0, .inr (6, [.int 0, .int 0, .ref a1, .int 9, .int 0, .int 0, .int 0, .int 0, .ref a3])), (a1, .inr (5, [.ref cb, .int 81, .int 0, .ref a2, .int 0, .ref a4, .int 0, .ref a5, .int 1, .int 1, .ref a6, .int 0, .int 0, .int 0, .int 0])), (a2, .inl (cy 2, 2048, .inr (.inl f0)))] U.heap ∧ va_K (dC, dI) vwCl (TYS cy) U ∧ va_D (fun _ => True) [(a0, .inr (6, [.int 0, .int 0, .ref a1, .int 9, .int 0, .int 0, .int 0, .int 0, .ref a3])), (a1, .inr (5, [.ref cb, .int 81, .int 0, .ref a2, .int 0, .ref a4, .int 0, .ref a5, .int 1, .int 1, .ref a6, .int 0, .int 0, .int 0, .int 0])), (a2, .inl (cy 2, 2048, .inr (.inl f0)))] ∧ NK U ∧ SK cb (va_A [(a0, .inr (6, [.int 0, .int 0, .ref a1, .int 9, .int 0, .int 0, .int 0, .int 0, .ref a3])), (a1, .inr (5, [.ref cb, .int 81, .int 0, .ref a2, .int 0, .ref a4, .int 0, .ref a5, .int 1, .int 1, .ref a6, .int 0, .int 0, .int 0, .int 0])), (a2, .inl (cy 2, 2048, .inr (.inl f0)))] sz) U U.heap)) (va_Qv (fun u : (Nat → Int64) => match u with | (u0) => u0 0 = 3) (fun u t => match u with | (u0) => va_P (dC, dI) vwCl [(a0, .inr (6, [.int 0, .int 0, .ref a1, .int 10, .int 0, .int 0, .int 0, .int 0, .ref a3])), (a1, .inr (5, [.ref cb, .int 81, .int 0, .ref a2, .int 1, .ref a4, .int 0, .ref a5, .int 1, .int 1, .ref a6, .int 0, .int 0, .int 0, .int 0])), (a2, .inl (cy 2, 2048, .inr (.inl u0)))] t.heap ∧ va_K (dC, dI) vwCl (TYS cy) t ∧ va_D (va_A [(a0, .inr (6, [.int 0, .int 0, .ref a1, .int 9, .int 0, .int 0, .int 0, .int 0, .ref a3])), (a1, .inr (5, [.ref cb, .int 81, .int 0, .ref a2, .int 0, .ref a4, .int 0, .ref a5, .int 1, .int 1, .ref a6, .int 0, .int 0, .int 0, .int 0])), (a2, .inl (cy 2, 2048, .inr (.inl f0)))] sz) [(a0, .inr (6, [.int 0, .int 0, .ref a1, .int 10, .int 0, .int 0, .int 0, .int 0, .ref a3])), (a1, .inr (5, [.ref cb, .int 81, .int 0, .ref a2, .int 1, .ref a4, .int 0, .ref a5, .int 1, .int 1, .ref a6, .int 0, .int 0, .int 0, .int 0])), (a2, .inl (cy 2, 2048, .inr (.inl u0)))]) (va_A [(a0, .inr (6, [.int 0, .int 0, .ref a1, .int 9, .int 0, .int 0, .int 0, .int 0, .ref a3])), (a1, .inr (5, [.ref cb, .int 81, .int 0, .ref a2, .int 0, .ref a4, .int 0, .ref a5, .int 1, .int 1, .ref a6, .int 0, .int 0, .int 0, .int 0])), (a2, .inl (cy 2, 2048, .inr (.inl f0)))] sz)) 0 0 (va_A [(a0, .inr (6, [.int 0, .int 0, .ref a1, .int 9, .int 0, .int 0, .int 0, .int 0, .ref a3])), (a1, .inr (5, [.ref cb, .int 81, .int 0, .ref a2, .int 0, .ref a4, .int 0, .ref a5, .int 1, .int 1, .ref a6, .int 0, .int 0, .int 0, .int 0])), (a2, .inl (cy 2, 2048, .inr (.inl f0)))] sz) := by
  refine Met.ofW (cc := cX6_readTypes) (maxL := 4) (ret := none) (by decide) rfl ?_
  intro p e s m args below meth c s₁ B hml hv
  obtain ⟨rfl, hsz, hP, hK, hD0, hN, hSK⟩ := hv
  have hx := B.exec
  have hb := B.bytes
  have hr := B.returns
  have hts := atoms_spec (ws := wsX6_readTypes) B.pre
  have hown : s.vm.findClass RX6 = some m.cls := findClass_of_methodNamed B.named
  have hlocks := B.notSynchronized
  subst hsz
  have hD := hD0.self (sz := s.heap.size)
  generalize hAe : va_A [(a0, .inr (6, [.int 0, .int 0, .ref a1, .int 9, .int 0, .int 0, .int 0, .int 0, .ref a3])), (a1, .inr (5, [.ref cb, .int 81, .int 0, .ref a2, .int 0, .ref a4, .int 0, .ref a5, .int 1, .int 1, .ref a6, .int 0, .int 0, .int 0, .int 0])), (a2, .inl (cy 2, 2048, .inr (.inl f0)))] s.heap.size = A at hD hSK ⊢
  have hA : ∀ q : Nat, s.heap.size ≤ q → A q := fun q h => by rw [← hAe]; exact Or.inr h
  have hS : va_S A s.heap s.heap [] := va_S.rf
  have hP : va_P (dC, dI) vwCl [(a0, .inr (6, [.int 0, .int 0, .ref a1, .int 9, .int 0, .int 0, .int 0, .int 0, .ref a3])), (a1, .inr (5, [.ref cb, .int 81, .int 0, .ref a2, .int 0, .ref a4, .int 0, .ref a5, .int 1, .int 1, .ref a6, .int 0, .int 0, .int 0, .int 0])), (a2, .inl (cy 2, 2048, .inr (.inl f0)))] s.heap := hP
  have hl := lv_entry ([.ref a0, .int 1, .int 0]) (n := 4) (Nat.le_of_ble_eq_true rfl)
  rw [lg_entry_eq]
  generalize (lg_sl ([.ref a0, .int 1, .int 0]) ++ List.replicate (4 - (lg_sl ([.ref a0, .int 1, .int 0])).length) Slot.unset).toArray = ls at hl ⊢
  replace hl : lv_has ls 4 [(0, .ref a0), (1, .int 1), (2, .int 0)] := hl
  refine lv_iconst (v := 0) hx hb dX6_readTypes_0 (by decide) ?_
  refine lv_istore_n (lv' := [(3, .int 0), (0, .ref a0), (1, .int 1), (2, .int 0)]) hx hb dX6_readTypes_1 rfl hl (by decide) rfl (fun ls hl2 => ?_)
  replace hl := hl2
  clear hl2
  refine lv_iload_n hx hb dX6_readTypes_2 rfl (lv_at hl 0 rfl) ?_
  refine lv_iload_n hx hb dX6_readTypes_3 rfl (lv_at hl 2 rfl) ?_
  refine lv_icmp_ge (tgt := 32) hx hb dX6_readTypes_4 (by decide) (fun h => absurd h (by decide)) (fun _ => ?_)
  refine lv_aload_n hx hb dX6_readTypes_7 rfl (lv_at hl 1 rfl) ?_
  refine va_get (D := (dC, dI)) (ci := 6) (v := .int 0) (C := RX6) (T := TX6) (N := 9) hx hb hts iw_X6_readTypes_X6 hown hK hP 0 rfl rfl 1 (by decide) (hts _ m_X6_readTypes_1) (fun _ h9 => h9) rfl dX6_readTypes_8 ?_
  refine lv_if_ne (tgt := 32) hx hb dX6_readTypes_11 (by decide) (fun h => absurd (by decide) h) (fun _ => ?_)
  refine lv_aload_n hx hb dX6_readTypes_14 rfl (lv_at hl 1 rfl) ?_
  refine va_get (D := (dC, dI)) (ci := 6) (v := .ref a1) (C := RX6) (T := TX6) (N := 9) hx hb hts iw_X6_readTypes_X6 hown hK hP 0 rfl rfl 2 (by decide) (hts _ m_X6_readTypes_2) (fun _ h9 => h9) rfl dX6_readTypes_15 ?_
  refine lv_aload_n hx hb dX6_readTypes_18 rfl (lv_at hl 1 rfl) ?_
  refine lv_iload_n hx hb dX6_readTypes_19 rfl (lv_at hl 3 rfl) ?_
  have hPc := hP.sub (ws' := [(a0, .inr (6, [.int 0, .int 0, .ref a1, .int 9, .int 0, .int 0, .int 0, .int 0, .ref a3])), (a1, .inr (5, [.ref cb, .int 81, .int 0, .ref a2, .int 0, .ref a4, .int 0, .ref a5, .int 1, .int 1, .ref a6, .int 0, .int 0, .int 0, .int 0]))]) [0, 1] rfl
  have hDc := hD.sub (ws' := [(a0, .inr (6, [.int 0, .int 0, .ref a1, .int 9, .int 0, .int 0, .int 0, .int 0, .ref a3])), (a1, .inr (5, [.ref cb, .int 81, .int 0, .ref a2, .int 0, .ref a4, .int 0, .ref a5, .int 1, .int 1, .ref a6, .int 0, .int 0, .int 0, .int 0]))]) [0, 1] (by decide) rfl
  have hFc := va_free (wc := [(a0, .inr (6, [.int 0, .int 0, .ref a1, .int 9, .int 0, .int 0, .int 0, .int 0, .ref a3])), (a1, .inr (5, [.ref cb, .int 81, .int 0, .ref a2, .int 0, .ref a4, .int 0, .ref a5, .int 1, .int 1, .ref a6, .int 0, .int 0, .int 0, .int 0]))]) hD hS hA [0, 1] rfl
  refine va_calll (va_runV (As := [.int 0]) (rest := [.ref a1]) ⟨hx, hb, hml, hown, hts⟩ (cc_26_X6_readOneType l dC dI cy s.heap.size cb a0 a1 a3 a2 a4 a5 a6) (cwV 1 hts gX6_readTypes_X6_readOneType rfl rfl rfl (by decide +kernel) ⟨Nat.le_of_ble_eq_true rfl, Nat.le_of_ble_eq_true rfl⟩) ⟨fun a U g mk q => by obtain ⟨q0, q1, qP, qK, qD, qN, qS⟩ := q; exact ⟨q0, q1, qP, va_K.moved (u := U) (U := U.calling g mk a) (Vm.Alike.refl U.vm) qK, qD, qN.same rfl, SK.moved (u := U) (U := U.calling g mk a) (Vm.Alike.refl U.vm) qS⟩, va_recv hK hPc (ci := 6) (q0 := 0) rfl rfl, fun U hU hW => ⟨rfl, by rw [hU], by rw [hU]; exact hPc, va_K.moved hW.alike hK, hDc.weaken (fun _ _ _ _ => trivial), hN.warm hW, by rw [hU]; exact ((hSK.kept hS.2.1).narrow hFc).moved hW.alike⟩⟩ rfl rfl hl.1 rfl (lv_room (Nat.le_of_ble_eq_true rfl)) dX6_readTypes_20 ⟨Nat.le_of_ble_eq_true rfl, Nat.le_of_ble_eq_true rfl⟩) hS (fun q _ h => hFc q h) hFc (fun r_1 u t H_2 locs ht hvm hw hB hz1 hk1 hS2 => ?_)
  obtain ⟨hP1, hK1, hD1⟩ := hB
  rw [ht] at hP1
  obtain rfl := hw
  obtain ⟨hP2, hD2⟩ := va_join (wr := [(a2, .inl (cy 2, 2048, .inr (.inl f0)))]) (w1 := [(a0, .inr (6, [.int 0, .int 0, .ref a1, .int 10, .int 0, .int 0, .int 0, .int 0, .ref a3])), (a1, .inr (5, [.ref cb, .int 81, .int 0, .ref a2, .int 0, .ref a4, .int 0, .ref a5, .int 1, .int 1, .ref a6, .int 0, .int 0, .int 0, .int 0]))]) hP hD [0, 1] [2] rfl rfl (by decide) (by decide) hk1 hFc hP1 hD1
  replace hP : va_P (dC, dI) vwCl [(a2, .inl (cy 2, 2048, .inr (.inl f0))), (a0, .inr (6, [.int 0, .int 0, .ref a1, .int 10, .int 0, .int 0, .int 0, .int 0, .ref a3])), (a1, .inr (5, [.ref cb, .int 81, .int 0, .ref a2, .int 0, .ref a4, .int 0, .ref a5, .int 1, .int 1, .ref a6, .int 0, .int 0, .int 0, .int 0]))] H_2 := hP2
  replace hD : va_D A [(a2, .inl (cy 2, 2048, .inr (.inl f0))), (a0, .inr (6, [.int 0, .int 0, .ref a1, .int 10, .int 0, .int 0, .int 0, .int 0, .ref a3])), (a1, .inr (5, [.ref cb, .int 81, .int 0, .ref a2, .int 0, .ref a4, .int 0, .ref a5, .int 1, .int 1, .ref a6, .int 0, .int 0, .int 0, .int 0]))] := hD2
  replace hS := hS2
  clear hP2 hD2 hS2
  clear hPc hDc hFc hP1 hD1 hK1 hk1 hz1 hvm ht
  refine W.widen (k := 0) (n := 0) (Nat.le_of_ble_eq_true rfl) (Nat.le_of_ble_eq_true rfl) ?_
  have hPc := hP.sub (ws' := [(a1, .inr (5, [.ref cb, .int 81, .int 0, .ref a2, .int 0, .ref a4, .int 0, .ref a5, .int 1, .int 1, .ref a6, .int 0, .int 0, .int 0, .int 0])), (a2, .inl (cy 2, 2048, .inr (.inl f0)))]) [2, 0] rfl
  have hDc := hD.sub (ws' := [(a1, .inr (5, [.ref cb, .int 81, .int 0, .ref a2, .int 0, .ref a4, .int 0, .ref a5, .int 1, .int 1, .ref a6, .int 0, .int 0, .int 0, .int 0])), (a2, .inl (cy 2, 2048, .inr (.inl f0)))]) [2, 0] (by decide) rfl
  have hFc := va_free (wc := [(a1, .inr (5, [.ref cb, .int 81, .int 0, .ref a2, .int 0, .ref a4, .int 0, .ref a5, .int 1, .int 1, .ref a6, .int 0, .int 0, .int 0, .int 0])), (a2, .inl (cy 2, 2048, .inr (.inl f0)))]) hD hS hA [2, 0] rfl
  refine va_callv (va_runV (As := [.long 3]) (rest := []) ⟨hx, hb, hml, hown, hts⟩ (cc_28_X5_addType l dC dI cy H_2.size cb a1 a2 a4 a5 a6 f0) (cwV 1 hts gX6_readTypes_X5_addType rfl rfl rfl (by decide +kernel) ⟨Nat.le_of_ble_eq_true rfl, Nat.le_of_ble_eq_true rfl⟩) ⟨fun a U g mk q => by obtain ⟨q0, q1, qP, qK, qD, qN, qS⟩ := q; exact ⟨q0, q1, qP, va_K.moved (u := U) (U := U.calling g mk a) (Vm.Alike.refl U.vm) qK, qD, qN.same rfl, SK.moved (u := U) (U := U.calling g mk a) (Vm.Alike.refl U.vm) qS⟩, va_recv hK hPc (ci := 5) (q0 := 0) rfl rfl, fun U hU hW => ⟨rfl, by rw [hU], by rw [hU]; exact hPc, va_K.moved hW.alike hK, hDc.weaken (fun _ _ _ _ => trivial), hN.warm hW, by rw [hU]; exact ((hSK.kept hS.2.1).narrow hFc).moved hW.alike⟩⟩ rfl rfl hl.1 rfl (lv_room (Nat.le_of_ble_eq_true rfl)) dX6_readTypes_23 ⟨Nat.le_of_ble_eq_true rfl, Nat.le_of_ble_eq_true rfl⟩) hS (fun q _ h => hFc q h) hFc (fun u t H_3 locs ht hvm hw hB hz1 hk1 hS2 => ?_)
  obtain ⟨g_4, rfl⟩ : ∃ z, z = u := ⟨_, rfl⟩
  obtain ⟨hP1, hK1, hD1⟩ := hB
  rw [ht] at hP1
  have kp_5 := hw
  obtain ⟨hP2, hD2⟩ := va_join (wr := [(a0, .inr (6, [.int 0, .int 0, .ref a1, .int 10, .int 0, .int 0, .int 0, .int 0, .ref a3]))]) (w1 := [(a1, .inr (5, [.ref cb, .int 81, .int 0, .ref a2, .int 1, .ref a4, .int 0, .ref a5, .int 1, .int 1, .ref a6, .int 0, .int 0, .int 0, .int 0])), (a2, .inl (cy 2, 2048, .inr (.inl g_4)))]) hP hD [2, 0] [1] rfl rfl (by decide) (by decide) hk1 hFc hP1 hD1
  replace hP : va_P (dC, dI) vwCl [(a0, .inr (6, [.int 0, .int 0, .ref a1, .int 10, .int 0, .int 0, .int 0, .int 0, .ref a3])), (a1, .inr (5, [.ref cb, .int 81, .int 0, .ref a2, .int 1, .ref a4, .int 0, .ref a5, .int 1, .int 1, .ref a6, .int 0, .int 0, .int 0, .int 0])), (a2, .inl (cy 2, 2048, .inr (.inl g_4)))] H_3 := hP2
  replace hD : va_D A [(a0, .inr (6, [.int 0, .int 0, .ref a1, .int 10, .int 0, .int 0, .int 0, .int 0, .ref a3])), (a1, .inr (5, [.ref cb, .int 81, .int 0, .ref a2, .int 1, .ref a4, .int 0, .ref a5, .int 1, .int 1, .ref a6, .int 0, .int 0, .int 0, .int 0])), (a2, .inl (cy 2, 2048, .inr (.inl g_4)))] := hD2
  replace hS := hS2
  clear hP2 hD2 hS2
  clear hPc hDc hFc hP1 hD1 hK1 hk1 hz1 hvm ht
  refine W.widen (k := 0) (n := 0) (Nat.le_of_ble_eq_true rfl) (Nat.le_of_ble_eq_true rfl) ?_
  refine lv_iinc (v := 1) (lv' := [(3, .int 1), (0, .ref a0), (1, .int 1), (2, .int 0)]) hx hb dX6_readTypes_26 hl (k := 0) rfl (by decide) (by decide) rfl (fun ls hl2 => ?_)
  replace hl := hl2
  clear hl2
  refine lv_goto (tgt := 2) hx hb dX6_readTypes_29 (by decide) ?_
  refine lv_iload_n hx hb dX6_readTypes_2 rfl (lv_at hl 0 rfl) ?_
  refine lv_iload_n hx hb dX6_readTypes_3 rfl (lv_at hl 2 rfl) ?_
  refine lv_icmp_ge (tgt := 32) hx hb dX6_readTypes_4 (by decide) (fun _ => ?_) (fun h => absurd (by decide) h)
  exact W.vret hx hb hr (fun t ht hW => ⟨⟨(g_4), rfl, kp_5, by rw [ht]; exact hP, va_K.moved hW.alike hK, hD⟩, hS.F ht⟩) hS.2.2 dX6_readTypes_32

set_option maxHeartbeats 4000000 in
set_option maxRecDepth 100000 in
theorem cc_12_X6_readStructures (l : Launch) (dC : Nat → ClassId) (dI : Nat → Nat → Nat) (cy : Nat → ClassId) (sz : Nat) (cb : Nat) (a0 : Nat) (a1 : Nat) (a2 : Nat) (a3 : Nat) (a4 : Nat) (a5 : Nat) (a6 : Nat) (f0 : Nat → Int64) (f1 : Nat → Int32)  : Met l yX6_readStructures wsX6_readStructures ({ frames := 3, cells := 0, slots := 0, locals := 69 }) (va_Pc [.ref a0] (fun U => U.heap.size = sz ∧ va_P (dC, dI) vwCl [(a0, .inr (6, [.int 0, .int 0, .ref a1, .int 6, .int 0, .int 0, .int 0, .int 0, .ref a4])), (a1, .inr (5, [.ref cb, .int 81, .int 0, .ref a2, .int 0, .ref a5, .int 0, .ref a3, .int 0, .int 0, .ref a6, .int 0, .int 0, .int 0, .int 0])), (a2, .inl (cy 2, 2048, .inr (.inl f0))), (a3, .inl (cy 1, 448, .inl f1))] U.heap ∧ va_K (dC, dI) vwCl (TYS cy) U ∧ va_D (fun _ => True) [(a0, .inr (6, [.int 0, .int 0, .ref a1, .int 6, .int 0, .int 0, .int 0, .int 0, .ref a4])), (a1, .inr (5, [.ref cb, .int 81, .int 0, .ref a2, .int 0, .ref a5, .int 0, .ref a3, .int 0, .int 0, .ref a6, .int 0, .int 0, .int 0, .int 0])), (a2, .inl (cy 2, 2048, .inr (.inl f0))), (a3, .inl (cy 1, 448, .inl f1))] ∧ NK U ∧ SK cb (va_A [(a0, .inr (6, [.int 0, .int 0, .ref a1, .int 6, .int 0, .int 0, .int 0, .int 0, .ref a4])), (a1, .inr (5, [.ref cb, .int 81, .int 0, .ref a2, .int 0, .ref a5, .int 0, .ref a3, .int 0, .int 0, .ref a6, .int 0, .int 0, .int 0, .int 0])), (a2, .inl (cy 2, 2048, .inr (.inl f0))), (a3, .inl (cy 1, 448, .inl f1))] sz) U U.heap)) (va_Qv (fun u : (Nat → Int64) × (Nat → Int32) => match u with | (u0, u1) => u0 0 = 3 ∧ u1 0 = 4 ∧ u1 1 = 7 ∧ u1 2 = 0 ∧ u1 3 = 1 ∧ u1 4 = 0 ∧ u1 5 = 0) (fun u t => match u with | (u0, u1) => va_P (dC, dI) vwCl [(a0, .inr (6, [.int 0, .int 0, .ref a1, .int 10, .int 0, .int 0, .int 0, .int 0, .ref a4])), (a1, .inr (5, [.ref cb, .int 81, .int 0, .ref a2, .int 1, .ref a5, .int 0, .ref a3, .int 1, .int 1, .ref a6, .int 0, .int 0, .int 0, .int 0])), (a2, .inl (cy 2, 2048, .inr (.inl u0))), (a3, .inl (cy 1, 448, .inl u1))] t.heap ∧ va_K (dC, dI) vwCl (TYS cy) t ∧ va_D (va_A [(a0, .inr (6, [.int 0, .int 0, .ref a1, .int 6, .int 0, .int 0, .int 0, .int 0, .ref a4])), (a1, .inr (5, [.ref cb, .int 81, .int 0, .ref a2, .int 0, .ref a5, .int 0, .ref a3, .int 0, .int 0, .ref a6, .int 0, .int 0, .int 0, .int 0])), (a2, .inl (cy 2, 2048, .inr (.inl f0))), (a3, .inl (cy 1, 448, .inl f1))] sz) [(a0, .inr (6, [.int 0, .int 0, .ref a1, .int 10, .int 0, .int 0, .int 0, .int 0, .ref a4])), (a1, .inr (5, [.ref cb, .int 81, .int 0, .ref a2, .int 1, .ref a5, .int 0, .ref a3, .int 1, .int 1, .ref a6, .int 0, .int 0, .int 0, .int 0])), (a2, .inl (cy 2, 2048, .inr (.inl u0))), (a3, .inl (cy 1, 448, .inl u1))]) (va_A [(a0, .inr (6, [.int 0, .int 0, .ref a1, .int 6, .int 0, .int 0, .int 0, .int 0, .ref a4])), (a1, .inr (5, [.ref cb, .int 81, .int 0, .ref a2, .int 0, .ref a5, .int 0, .ref a3, .int 0, .int 0, .ref a6, .int 0, .int 0, .int 0, .int 0])), (a2, .inl (cy 2, 2048, .inr (.inl f0))), (a3, .inl (cy 1, 448, .inl f1))] sz)) 0 0 (va_A [(a0, .inr (6, [.int 0, .int 0, .ref a1, .int 6, .int 0, .int 0, .int 0, .int 0, .ref a4])), (a1, .inr (5, [.ref cb, .int 81, .int 0, .ref a2, .int 0, .ref a5, .int 0, .ref a3, .int 0, .int 0, .ref a6, .int 0, .int 0, .int 0, .int 0])), (a2, .inl (cy 2, 2048, .inr (.inl f0))), (a3, .inl (cy 1, 448, .inl f1))] sz) := by
  refine Met.ofW (cc := cX6_readStructures) (maxL := 3) (ret := none) (by decide) rfl ?_
  intro p e s m args below meth c s₁ B hml hv
  obtain ⟨rfl, hsz, hP, hK, hD0, hN, hSK⟩ := hv
  have hx := B.exec
  have hb := B.bytes
  have hr := B.returns
  have hts := atoms_spec (ws := wsX6_readStructures) B.pre
  have hown : s.vm.findClass RX6 = some m.cls := findClass_of_methodNamed B.named
  have hlocks := B.notSynchronized
  subst hsz
  have hD := hD0.self (sz := s.heap.size)
  generalize hAe : va_A [(a0, .inr (6, [.int 0, .int 0, .ref a1, .int 6, .int 0, .int 0, .int 0, .int 0, .ref a4])), (a1, .inr (5, [.ref cb, .int 81, .int 0, .ref a2, .int 0, .ref a5, .int 0, .ref a3, .int 0, .int 0, .ref a6, .int 0, .int 0, .int 0, .int 0])), (a2, .inl (cy 2, 2048, .inr (.inl f0))), (a3, .inl (cy 1, 448, .inl f1))] s.heap.size = A at hD hSK ⊢
  have hA : ∀ q : Nat, s.heap.size ≤ q → A q := fun q h => by rw [← hAe]; exact Or.inr h
  have hS : va_S A s.heap s.heap [] := va_S.rf
  have hP : va_P (dC, dI) vwCl [(a0, .inr (6, [.int 0, .int 0, .ref a1, .int 6, .int 0, .int 0, .int 0, .int 0, .ref a4])), (a1, .inr (5, [.ref cb, .int 81, .int 0, .ref a2, .int 0, .ref a5, .int 0, .ref a3, .int 0, .int 0, .ref a6, .int 0, .int 0, .int 0, .int 0])), (a2, .inl (cy 2, 2048, .inr (.inl f0))), (a3, .inl (cy 1, 448, .inl f1))] s.heap := hP
  have hl := lv_entry ([.ref a0]) (n := 3) (Nat.le_of_ble_eq_true rfl)
  rw [lg_entry_eq]
  generalize (lg_sl ([.ref a0]) ++ List.replicate (3 - (lg_sl ([.ref a0])).length) Slot.unset).toArray = ls at hl ⊢
  replace hl : lv_has ls 3 [(0, .ref a0)] := hl
  refine lv_aload_n hx hb dX6_readStructures_0 rfl (lv_at hl 0 rfl) ?_
  refine va_get (D := (dC, dI)) (ci := 6) (v := .ref a1) (C := RX6) (T := TX6) (N := 9) hx hb hts iw_X6_readStructures_X6 hown hK hP 0 rfl rfl 2 (by decide) (hts _ m_X6_readStructures_1) (fun _ h9 => h9) rfl dX6_readStructures_1 ?_
  refine lv_aload_n hx hb dX6_readStructures_4 rfl (lv_at hl 0 rfl) ?_
  refine lv_iconst (v := 0) hx hb dX6_readStructures_5 (by decide) ?_
  refine lv_bipush (v := 32) hx hb dX6_readStructures_6 (by decide) ?_
  have hPc := hP.sub (ws' := [(a0, .inr (6, [.int 0, .int 0, .ref a1, .int 6, .int 0, .int 0, .int 0, .int 0, .ref a4])), (a1, .inr (5, [.ref cb, .int 81, .int 0, .ref a2, .int 0, .ref a5, .int 0, .ref a3, .int 0, .int 0, .ref a6, .int 0, .int 0, .int 0, .int 0]))]) [0, 1] rfl
  have hDc := hD.sub (ws' := [(a0, .inr (6, [.int 0, .int 0, .ref a1, .int 6, .int 0, .int 0, .int 0, .int 0, .ref a4])), (a1, .inr (5, [.ref cb, .int 81, .int 0, .ref a2, .int 0, .ref a5, .int 0, .ref a3, .int 0, .int 0, .ref a6, .int 0, .int 0, .int 0, .int 0]))]) [0, 1] (by decide) rfl
  have hFc := va_free (wc := [(a0, .inr (6, [.int 0, .int 0, .ref a1, .int 6, .int 0, .int 0, .int 0, .int 0, .ref a4])), (a1, .inr (5, [.ref cb, .int 81, .int 0, .ref a2, .int 0, .ref a5, .int 0, .ref a3, .int 0, .int 0, .ref a6, .int 0, .int 0, .int 0, .int 0]))]) hD hS hA [0, 1] rfl
  refine va_calli (va_runV (As := [.int 0, .int 32]) (rest := [.ref a1]) ⟨hx, hb, hml, hown, hts⟩ (cc_13_X6_readNumber l dC dI cy s.heap.size cb a0 a1 a4 a2 a5 a3 a6) (cwV 2 hts gX6_readStructures_X6_readNumber rfl rfl rfl (by decide +kernel) ⟨Nat.le_of_ble_eq_true rfl, Nat.le_of_ble_eq_true rfl⟩) ⟨fun a U g mk q => by obtain ⟨q0, q1, qP, qK, qD, qN, qS⟩ := q; exact ⟨q0, q1, qP, va_K.moved (u := U) (U := U.calling g mk a) (Vm.Alike.refl U.vm) qK, qD, qN.same rfl, SK.moved (u := U) (U := U.calling g mk a) (Vm.Alike.refl U.vm) qS⟩, va_recv hK hPc (ci := 6) (q0 := 0) rfl rfl, fun U hU hW => ⟨rfl, by rw [hU], by rw [hU]; exact hPc, va_K.moved hW.alike hK, hDc.weaken (fun _ _ _ _ => trivial), hN.warm hW, by rw [hU]; exact ((hSK.kept hS.2.1).narrow hFc).moved hW.alike⟩⟩ rfl rfl hl.1 rfl (lv_room (Nat.le_of_ble_eq_true rfl)) dX6_readStructures_8 ⟨Nat.le_of_ble_eq_true rfl, Nat.le_of_ble_eq_true rfl⟩) hS (fun q _ h => hFc q h) hFc (fun r_1 u t H_2 locs ht hvm hw hB hz1 hk1 hS2 => ?_)
  obtain ⟨hP1, hK1, hD1⟩ := hB
  rw [ht] at hP1
  obtain rfl := hw
  obtain ⟨hP2, hD2⟩ := va_join (wr := [(a2, .inl (cy 2, 2048, .inr (.inl f0))), (a3, .inl (cy 1, 448, .inl f1))]) (w1 := [(a0, .inr (6, [.int 0, .int 0, .ref a1, .int 7, .int 0, .int 0, .int 0, .int 0, .ref a4])), (a1, .inr (5, [.ref cb, .int 81, .int 0, .ref a2, .int 0, .ref a5, .int 0, .ref a3, .int 0, .int 0, .ref a6, .int 0, .int 0, .int 0, .int 0]))]) hP hD [0, 1] [2, 3] rfl rfl (by decide) (by decide) hk1 hFc hP1 hD1
  replace hP : va_P (dC, dI) vwCl [(a2, .inl (cy 2, 2048, .inr (.inl f0))), (a3, .inl (cy 1, 448, .inl f1)), (a0, .inr (6, [.int 0, .int 0, .ref a1, .int 7, .int 0, .int 0, .int 0, .int 0, .ref a4])), (a1, .inr (5, [.ref cb, .int 81, .int 0, .ref a2, .int 0, .ref a5, .int 0, .ref a3, .int 0, .int 0, .ref a6, .int 0, .int 0, .int 0, .int 0]))] H_2 := hP2
  replace hD : va_D A [(a2, .inl (cy 2, 2048, .inr (.inl f0))), (a3, .inl (cy 1, 448, .inl f1)), (a0, .inr (6, [.int 0, .int 0, .ref a1, .int 7, .int 0, .int 0, .int 0, .int 0, .ref a4])), (a1, .inr (5, [.ref cb, .int 81, .int 0, .ref a2, .int 0, .ref a5, .int 0, .ref a3, .int 0, .int 0, .ref a6, .int 0, .int 0, .int 0, .int 0]))] := hD2
  replace hS := hS2
  clear hP2 hD2 hS2
  clear hPc hDc hFc hP1 hD1 hK1 hk1 hz1 hvm ht
  refine W.widen (k := 0) (n := 0) (Nat.le_of_ble_eq_true rfl) (Nat.le_of_ble_eq_true rfl) ?_
  refine va_put (D := (dC, dI)) (ci := 5) (v := .int 1) (ty := .int) (C := RX5) (T := TX5) (N := 15) hx hb hts iw_X6_readStructures_X5 tyX5 tyX5_ok nmX5 hown hK hP hD hS 3 rfl rfl 8 (by decide) (hts _ m_X6_readStructures_2) (fun _ h9 => h9) rfl (by decide +kernel) rfl rfl (Nat.le_of_ble_eq_true rfl) dX6_readStructures_11 (fun H_3 locs hP2 hD2 hS2 => ?_)
  replace hP : va_P (dC, dI) vwCl [(a2, .inl (cy 2, 2048, .inr (.inl f0))), (a3, .inl (cy 1, 448, .inl f1)), (a0, .inr (6, [.int 0, .int 0, .ref a1, .int 7, .int 0, .int 0, .int 0, .int 0, .ref a4])), (a1, .inr (5, [.ref cb, .int 81, .int 0, .ref a2, .int 0, .ref a5, .int 0, .ref a3, .int 1, .int 0, .ref a6, .int 0, .int 0, .int 0, .int 0]))] H_3 := hP2
  replace hD : va_D A [(a2, .inl (cy 2, 2048, .inr (.inl f0))), (a3, .inl (cy 1, 448, .inl f1)), (a0, .inr (6, [.int 0, .int 0, .ref a1, .int 7, .int 0, .int 0, .int 0, .int 0, .ref a4])), (a1, .inr (5, [.ref cb, .int 81, .int 0, .ref a2, .int 0, .ref a5, .int 0, .ref a3, .int 1, .int 0, .ref a6, .int 0, .int 0, .int 0, .int 0]))] := hD2
  replace hS := hS2
  clear hP2 hD2 hS2
  refine lv_aload_n hx hb dX6_readStructures_14 rfl (lv_at hl 0 rfl) ?_
  refine va_get (D := (dC, dI)) (ci := 6) (v := .int 0) (C := RX6) (T := TX6) (N := 9) hx hb hts iw_X6_readStructures_X6 hown hK hP 2 rfl rfl 4 (by decide) (hts _ m_X6_readStructures_3) (fun _ h9 => h9) rfl dX6_readStructures_15 ?_
  refine lv_if_ne (tgt := 35) hx hb dX6_readStructures_18 (by decide) (fun h => absurd (by decide) h) (fun _ => ?_)
  refine lv_aload_n hx hb dX6_readStructures_21 rfl (lv_at hl 0 rfl) ?_
  refine va_get (D := (dC, dI)) (ci := 6) (v := .ref a1) (C := RX6) (T := TX6) (N := 9) hx hb hts iw_X6_readStructures_X6 hown hK hP 2 rfl rfl 2 (by decide) (hts _ m_X6_readStructures_1) (fun _ h9 => h9) rfl dX6_readStructures_22 ?_
  refine lv_aload_n hx hb dX6_readStructures_25 rfl (lv_at hl 0 rfl) ?_
  refine va_get (D := (dC, dI)) (ci := 6) (v := .ref a1) (C := RX6) (T := TX6) (N := 9) hx hb hts iw_X6_readStructures_X6 hown hK hP 2 rfl rfl 2 (by decide) (hts _ m_X6_readStructures_1) (fun _ h9 => h9) rfl dX6_readStructures_26 ?_
  refine va_get (D := (dC, dI)) (ci := 5) (v := .int 1) (C := RX5) (T := TX5) (N := 15) hx hb hts iw_X6_readStructures_X5 hown hK hP 3 rfl rfl 8 (by decide) (hts _ m_X6_readStructures_2) (fun _ h9 => h9) rfl dX6_readStructures_29 ?_
  refine va_put (D := (dC, dI)) (ci := 5) (v := .int 1) (ty := .int) (C := RX5) (T := TX5) (N := 15) hx hb hts iw_X6_readStructures_X5 tyX5 tyX5_ok nmX5 hown hK hP hD hS 3 rfl rfl 9 (by decide) (hts _ m_X6_readStructures_4) (fun _ h9 => h9) rfl (by decide +kernel) rfl rfl (Nat.le_of_ble_eq_true rfl) dX6_readStructures_32 (fun H_4 locs hP2 hD2 hS2 => ?_)
  replace hP : va_P (dC, dI) vwCl [(a2, .inl (cy 2, 2048, .inr (.inl f0))), (a3, .inl (cy 1, 448, .inl f1)), (a0, .inr (6, [.int 0, .int 0, .ref a1, .int 7, .int 0, .int 0, .int 0, .int 0, .ref a4])), (a1, .inr (5, [.ref cb, .int 81, .int 0, .ref a2, .int 0, .ref a5, .int 0, .ref a3, .int 1, .int 1, .ref a6, .int 0, .int 0, .int 0, .int 0]))] H_4 := hP2
  replace hD : va_D A [(a2, .inl (cy 2, 2048, .inr (.inl f0))), (a3, .inl (cy 1, 448, .inl f1)), (a0, .inr (6, [.int 0, .int 0, .ref a1, .int 7, .int 0, .int 0, .int 0, .int 0, .ref a4])), (a1, .inr (5, [.ref cb, .int 81, .int 0, .ref a2, .int 0, .ref a5, .int 0, .ref a3, .int 1, .int 1, .ref a6, .int 0, .int 0, .int 0, .int 0]))] := hD2
  replace hS := hS2
  clear hP2 hD2 hS2
  refine lv_iconst (v := 0) hx hb dX6_readStructures_35 (by decide) ?_
  refine lv_istore_n (lv' := [(1, .int 0), (0, .ref a0)]) hx hb dX6_readStructures_36 rfl hl (by decide) rfl (fun ls hl2 => ?_)
  replace hl := hl2
  clear hl2
  refine lv_iload_n hx hb dX6_readStructures_37 rfl (lv_at hl 0 rfl) ?_
  refine lv_aload_n hx hb dX6_readStructures_38 rfl (lv_at hl 1 rfl) ?_
  refine va_get (D := (dC, dI)) (ci := 6) (v := .ref a1) (C := RX6) (T := TX6) (N := 9) hx hb hts iw_X6_readStructures_X6 hown hK hP 2 rfl rfl 2 (by decide) (hts _ m_X6_readStructures_1) (fun _ h9 => h9) rfl dX6_readStructures_39 ?_
  refine va_get (D := (dC, dI)) (ci := 5) (v := .int 1) (C := RX5) (T := TX5) (N := 15) hx hb hts iw_X6_readStructures_X5 hown hK hP 3 rfl rfl 8 (by decide) (hts _ m_X6_readStructures_2) (fun _ h9 => h9) rfl dX6_readStructures_42 ?_
  refine lv_icmp_ge (tgt := 156) hx hb dX6_readStructures_45 (by decide) (fun h => absurd h (by decide)) (fun _ => ?_)
  refine lv_aload_n hx hb dX6_readStructures_48 rfl (lv_at hl 1 rfl) ?_
  refine va_get (D := (dC, dI)) (ci := 6) (v := .int 0) (C := RX6) (T := TX6) (N := 9) hx hb hts iw_X6_readStructures_X6 hown hK hP 2 rfl rfl 1 (by decide) (hts _ m_X6_readStructures_5) (fun _ h9 => h9) rfl dX6_readStructures_49 ?_
  refine lv_if_ne (tgt := 156) hx hb dX6_readStructures_52 (by decide) (fun h => absurd (by decide) h) (fun _ => ?_)
  refine lv_aload_n hx hb dX6_readStructures_55 rfl (lv_at hl 1 rfl) ?_
  refine va_get (D := (dC, dI)) (ci := 6) (v := .ref a1) (C := RX6) (T := TX6) (N := 9) hx hb hts iw_X6_readStructures_X6 hown hK hP 2 rfl rfl 2 (by decide) (hts _ m_X6_readStructures_1) (fun _ h9 => h9) rfl dX6_readStructures_56 ?_
  refine lv_iload_n hx hb dX6_readStructures_59 rfl (lv_at hl 0 rfl) ?_
  refine lv_iconst (v := 1) hx hb dX6_readStructures_60 (by decide) ?_
  refine lv_aload_n hx hb dX6_readStructures_61 rfl (lv_at hl 1 rfl) ?_
  refine va_get (D := (dC, dI)) (ci := 6) (v := .int 7) (C := RX6) (T := TX6) (N := 9) hx hb hts iw_X6_readStructures_X6 hown hK hP 2 rfl rfl 3 (by decide) (hts _ m_X6_readStructures_6) (fun _ h9 => h9) rfl dX6_readStructures_62 ?_
  have hPc := hP.sub (ws' := [(a1, .inr (5, [.ref cb, .int 81, .int 0, .ref a2, .int 0, .ref a5, .int 0, .ref a3, .int 1, .int 1, .ref a6, .int 0, .int 0, .int 0, .int 0])), (a3, .inl (cy 1, 448, .inl f1))]) [3, 1] rfl
  have hDc := hD.sub (ws' := [(a1, .inr (5, [.ref cb, .int 81, .int 0, .ref a2, .int 0, .ref a5, .int 0, .ref a3, .int 1, .int 1, .ref a6, .int 0, .int 0, .int 0, .int 0])), (a3, .inl (cy 1, 448, .inl f1))]) [3, 1] (by decide) rfl
  have hFc := va_free (wc := [(a1, .inr (5, [.ref cb, .int 81, .int 0, .ref a2, .int 0, .ref a5, .int 0, .ref a3, .int 1, .int 1, .ref a6, .int 0, .int 0, .int 0, .int 0])), (a3, .inl (cy 1, 448, .inl f1))]) hD hS hA [3, 1] rfl
  refine va_callv (va_runV (As := [.int 0, .int 1, .int 7]) (rest := []) ⟨hx, hb, hml, hown, hts⟩ (cc_15_X5_setStructure l dC dI cy H_4.size cb a1 a3 a2 a5 a6 f1) (cwV 3 hts gX6_readStructures_X5_setStructure rfl rfl rfl (by decide +kernel) ⟨Nat.le_of_ble_eq_true rfl, Nat.le_of_ble_eq_true rfl⟩) ⟨fun a U g mk q => by obtain ⟨q0, q1, qP, qK, qD, qN, qS⟩ := q; exact ⟨q0, q1, qP, va_K.moved (u := U) (U := U.calling g mk a) (Vm.Alike.refl U.vm) qK, qD, qN.same rfl, SK.moved (u := U) (U := U.calling g mk a) (Vm.Alike.refl U.vm) qS⟩, va_recv hK hPc (ci := 5) (q0 := 0) rfl rfl, fun U hU hW => ⟨rfl, by rw [hU], by rw [hU]; exact hPc, va_K.moved hW.alike hK, hDc.weaken (fun _ _ _ _ => trivial), hN.warm hW, by rw [hU]; exact ((hSK.kept hS.2.1).narrow hFc).moved hW.alike⟩⟩ rfl rfl hl.1 rfl (lv_room (Nat.le_of_ble_eq_true rfl)) dX6_readStructures_65 ⟨Nat.le_of_ble_eq_true rfl, Nat.le_of_ble_eq_true rfl⟩) hS (fun q _ h => hFc q h) hFc (fun u t H_5 locs ht hvm hw hB hz1 hk1 hS2 => ?_)
  obtain ⟨g_6, rfl⟩ : ∃ z, z = u := ⟨_, rfl⟩
  obtain ⟨hP1, hK1, hD1⟩ := hB
  rw [ht] at hP1
  have kp_7 := hw
  obtain ⟨hP2, hD2⟩ := va_join (wr := [(a2, .inl (cy 2, 2048, .inr (.inl f0))), (a0, .inr (6, [.int 0, .int 0, .ref a1, .int 7, .int 0, .int 0, .int 0, .int 0, .ref a4]))]) (w1 := [(a1, .inr (5, [.ref cb, .int 81, .int 0, .ref a2, .int 0, .ref a5, .int 0, .ref a3, .int 1, .int 1, .ref a6, .int 0, .int 0, .int 0, .int 0])), (a3, .inl (cy 1, 448, .inl g_6))]) hP hD [3, 1] [0, 2] rfl rfl (by decide) (by decide) hk1 hFc hP1 hD1
  replace hP : va_P (dC, dI) vwCl [(a2, .inl (cy 2, 2048, .inr (.inl f0))), (a0, .inr (6, [.int 0, .int 0, .ref a1, .int 7, .int 0, .int 0, .int 0, .int 0, .ref a4])), (a1, .inr (5, [.ref cb, .int 81, .int 0, .ref a2, .int 0, .ref a5, .int 0, .ref a3, .int 1, .int 1, .ref a6, .int 0, .int 0, .int 0, .int 0])), (a3, .inl (cy 1, 448, .inl g_6))] H_5 := hP2
  replace hD : va_D A [(a2, .inl (cy 2, 2048, .inr (.inl f0))), (a0, .inr (6, [.int 0, .int 0, .ref a1, .int 7, .int 0, .int 0, .int 0, .int 0, .ref a4])), (a1, .inr (5, [.ref cb, .int 81, .int 0, .ref a2, .int 0, .ref a5, .int 0, .ref a3, .int 1, .int 1, .ref a6, .int 0, .int 0, .int 0, .int 0])), (a3, .inl (cy 1, 448, .inl g_6))] := hD2
  replace hS := hS2
  clear hP2 hD2 hS2
  clear hPc hDc hFc hP1 hD1 hK1 hk1 hz1 hvm ht
  refine W.widen (k := 0) (n := 0) (Nat.le_of_ble_eq_true rfl) (Nat.le_of_ble_eq_true rfl) ?_
  refine lv_aload_n hx hb dX6_readStructures_68 rfl (lv_at hl 1 rfl) ?_
  refine va_get (D := (dC, dI)) (ci := 6) (v := .ref a1) (C := RX6) (T := TX6) (N := 9) hx hb hts iw_X6_readStructures_X6 hown hK hP 1 rfl rfl 2 (by decide) (hts _ m_X6_readStructures_1) (fun _ h9 => h9) rfl dX6_readStructures_69 ?_
  refine lv_iload_n hx hb dX6_readStructures_72 rfl (lv_at hl 0 rfl) ?_
  refine lv_iconst (v := 0) hx hb dX6_readStructures_73 (by decide) ?_
  refine lv_aload_n hx hb dX6_readStructures_74 rfl (lv_at hl 1 rfl) ?_
  refine lv_iconst (v := 0) hx hb dX6_readStructures_75 (by decide) ?_
  refine lv_bipush (v := 15) hx hb dX6_readStructures_76 (by decide) ?_
  have hPc := hP.sub (ws' := [(a0, .inr (6, [.int 0, .int 0, .ref a1, .int 7, .int 0, .int 0, .int 0, .int 0, .ref a4])), (a1, .inr (5, [.ref cb, .int 81, .int 0, .ref a2, .int 0, .ref a5, .int 0, .ref a3, .int 1, .int 1, .ref a6, .int 0, .int 0, .int 0, .int 0]))]) [1, 2] rfl
  have hDc := hD.sub (ws' := [(a0, .inr (6, [.int 0, .int 0, .ref a1, .int 7, .int 0, .int 0, .int 0, .int 0, .ref a4])), (a1, .inr (5, [.ref cb, .int 81, .int 0, .ref a2, .int 0, .ref a5, .int 0, .ref a3, .int 1, .int 1, .ref a6, .int 0, .int 0, .int 0, .int 0]))]) [1, 2] (by decide) rfl
  have hFc := va_free (wc := [(a0, .inr (6, [.int 0, .int 0, .ref a1, .int 7, .int 0, .int 0, .int 0, .int 0, .ref a4])), (a1, .inr (5, [.ref cb, .int 81, .int 0, .ref a2, .int 0, .ref a5, .int 0, .ref a3, .int 1, .int 1, .ref a6, .int 0, .int 0, .int 0, .int 0]))]) hD hS hA [1, 2] rfl
  refine va_calli (va_runV (As := [.int 0, .int 15]) (rest := [.int 0, .int 0, .ref a1]) ⟨hx, hb, hml, hown, hts⟩ (cc_16_X6_readNumber l dC dI cy H_5.size cb a0 a1 a4 a2 a5 a3 a6) (cwV 2 hts gX6_readStructures_X6_readNumber rfl rfl rfl (by decide +kernel) ⟨Nat.le_of_ble_eq_true rfl, Nat.le_of_ble_eq_true rfl⟩) ⟨fun a U g mk q => by obtain ⟨q0, q1, qP, qK, qD, qN, qS⟩ := q; exact ⟨q0, q1, qP, va_K.moved (u := U) (U := U.calling g mk a) (Vm.Alike.refl U.vm) qK, qD, qN.same rfl, SK.moved (u := U) (U := U.calling g mk a) (Vm.Alike.refl U.vm) qS⟩, va_recv hK hPc (ci := 6) (q0 := 0) rfl rfl, fun U hU hW => ⟨rfl, by rw [hU], by rw [hU]; exact hPc, va_K.moved hW.alike hK, hDc.weaken (fun _ _ _ _ => trivial), hN.warm hW, by rw [hU]; exact ((hSK.kept hS.2.1).narrow hFc).moved hW.alike⟩⟩ rfl rfl hl.1 rfl (lv_room (Nat.le_of_ble_eq_true rfl)) dX6_readStructures_78 ⟨Nat.le_of_ble_eq_true rfl, Nat.le_of_ble_eq_true rfl⟩) hS (fun q _ h => hFc q h) hFc (fun r_8 u t H_9 locs ht hvm hw hB hz1 hk1 hS2 => ?_)
  obtain ⟨hP1, hK1, hD1⟩ := hB
  rw [ht] at hP1
  obtain rfl := hw
  obtain ⟨hP2, hD2⟩ := va_join (wr := [(a2, .inl (cy 2, 2048, .inr (.inl f0))), (a3, .inl (cy 1, 448, .inl g_6))]) (w1 := [(a0, .inr (6, [.int 0, .int 0, .ref a1, .int 8, .int 0, .int 0, .int 0, .int 0, .ref a4])), (a1, .inr (5, [.ref cb, .int 81, .int 0, .ref a2, .int 0, .ref a5, .int 0, .ref a3, .int 1, .int 1, .ref a6, .int 0, .int 0, .int 0, .int 0]))]) hP hD [1, 2] [0, 3] rfl rfl (by decide) (by decide) hk1 hFc hP1 hD1
  replace hP : va_P (dC, dI) vwCl [(a2, .inl (cy 2, 2048, .inr (.inl f0))), (a3, .inl (cy 1, 448, .inl g_6)), (a0, .inr (6, [.int 0, .int 0, .ref a1, .int 8, .int 0, .int 0, .int 0, .int 0, .ref a4])), (a1, .inr (5, [.ref cb, .int 81, .int 0, .ref a2, .int 0, .ref a5, .int 0, .ref a3, .int 1, .int 1, .ref a6, .int 0, .int 0, .int 0, .int 0]))] H_9 := hP2
  replace hD : va_D A [(a2, .inl (cy 2, 2048, .inr (.inl f0))), (a3, .inl (cy 1, 448, .inl g_6)), (a0, .inr (6, [.int 0, .int 0, .ref a1, .int 8, .int 0, .int 0, .int 0, .int 0, .ref a4])), (a1, .inr (5, [.ref cb, .int 81, .int 0, .ref a2, .int 0, .ref a5, .int 0, .ref a3, .int 1, .int 1, .ref a6, .int 0, .int 0, .int 0, .int 0]))] := hD2
  replace hS := hS2
  clear hP2 hD2 hS2
  clear hPc hDc hFc hP1 hD1 hK1 hk1 hz1 hvm ht
  refine W.widen (k := 0) (n := 0) (Nat.le_of_ble_eq_true rfl) (Nat.le_of_ble_eq_true rfl) ?_
  have hPc := hP.sub (ws' := [(a1, .inr (5, [.ref cb, .int 81, .int 0, .ref a2, .int 0, .ref a5, .int 0, .ref a3, .int 1, .int 1, .ref a6, .int 0, .int 0, .int 0, .int 0])), (a3, .inl (cy 1, 448, .inl g_6))]) [3, 1] rfl
  have hDc := hD.sub (ws' := [(a1, .inr (5, [.ref cb, .int 81, .int 0, .ref a2, .int 0, .ref a5, .int 0, .ref a3, .int 1, .int 1, .ref a6, .int 0, .int 0, .int 0, .int 0])), (a3, .inl (cy 1, 448, .inl g_6))]) [3, 1] (by decide) rfl
  have hFc := va_free (wc := [(a1, .inr (5, [.ref cb, .int 81, .int 0, .ref a2, .int 0, .ref a5, .int 0, .ref a3, .int 1, .int 1, .ref a6, .int 0, .int 0, .int 0, .int 0])), (a3, .inl (cy 1, 448, .inl g_6))]) hD hS hA [3, 1] rfl
  refine va_callv (va_runV (As := [.int 0, .int 0, .int 4]) (rest := []) ⟨hx, hb, hml, hown, hts⟩ (cc_18_X5_setStructure l dC dI cy H_9.size cb a1 a3 a2 a5 a6 g_6 kp_7) (cwV 3 hts gX6_readStructures_X5_setStructure rfl rfl rfl (by decide +kernel) ⟨Nat.le_of_ble_eq_true rfl, Nat.le_of_ble_eq_true rfl⟩) ⟨fun a U g mk q => by obtain ⟨q0, q1, qP, qK, qD, qN, qS⟩ := q; exact ⟨q0, q1, qP, va_K.moved (u := U) (U := U.calling g mk a) (Vm.Alike.refl U.vm) qK, qD, qN.same rfl, SK.moved (u := U) (U := U.calling g mk a) (Vm.Alike.refl U.vm) qS⟩, va_recv hK hPc (ci := 5) (q0 := 0) rfl rfl, fun U hU hW => ⟨rfl, by rw [hU], by rw [hU]; exact hPc, va_K.moved hW.alike hK, hDc.weaken (fun _ _ _ _ => trivial), hN.warm hW, by rw [hU]; exact ((hSK.kept hS.2.1).narrow hFc).moved hW.alike⟩⟩ rfl rfl hl.1 rfl (lv_room (Nat.le_of_ble_eq_true rfl)) dX6_readStructures_81 ⟨Nat.le_of_ble_eq_true rfl, Nat.le_of_ble_eq_true rfl⟩) hS (fun q _ h => hFc q h) hFc (fun u t H_10 locs ht hvm hw hB hz1 hk1 hS2 => ?_)
  obtain ⟨g_11, rfl⟩ : ∃ z, z = u := ⟨_, rfl⟩
  obtain ⟨hP1, hK1, hD1⟩ := hB
  rw [ht] at hP1
  obtain ⟨kp_12, kp_13⟩ := hw
  obtain ⟨hP2, hD2⟩ := va_join (wr := [(a2, .inl (cy 2, 2048, .inr (.inl f0))), (a0, .inr (6, [.int 0, .int 0, .ref a1, .int 8, .int 0, .int 0, .int 0, .int 0, .ref a4]))]) (w1 := [(a1, .inr (5, [.ref cb, .int 81, .int 0, .ref a2, .int 0, .ref a5, .int 0, .ref a3, .int 1, .int 1, .ref a6, .int 0, .int 0, .int 0, .int 0])), (a3, .inl (cy 1, 448, .inl g_11))]) hP hD [3, 1] [0, 2] rfl rfl (by decide) (by decide) hk1 hFc hP1 hD1
  replace hP : va_P (dC, dI) vwCl [(a2, .inl (cy 2, 2048, .inr (.inl f0))), (a0, .inr (6, [.int 0, .int 0, .ref a1, .int 8, .int 0, .int 0, .int 0, .int 0, .ref a4])), (a1, .inr (5, [.ref cb, .int 81, .int 0, .ref a2, .int 0, .ref a5, .int 0, .ref a3, .int 1, .int 1, .ref a6, .int 0, .int 0, .int 0, .int 0])), (a3, .inl (cy 1, 448, .inl g_11))] H_10 := hP2
  replace hD : va_D A [(a2, .inl (cy 2, 2048, .inr (.inl f0))), (a0, .inr (6, [.int 0, .int 0, .ref a1, .int 8, .int 0, .int 0, .int 0, .int 0, .ref a4])), (a1, .inr (5, [.ref cb, .int 81, .int 0, .ref a2, .int 0, .ref a5, .int 0, .ref a3, .int 1, .int 1, .ref a6, .int 0, .int 0, .int 0, .int 0])), (a3, .inl (cy 1, 448, .inl g_11))] := hD2
  replace hS := hS2
  clear hP2 hD2 hS2
  clear hPc hDc hFc hP1 hD1 hK1 hk1 hz1 hvm ht
  refine W.widen (k := 0) (n := 0) (Nat.le_of_ble_eq_true rfl) (Nat.le_of_ble_eq_true rfl) ?_
  refine lv_aload_n hx hb dX6_readStructures_84 rfl (lv_at hl 1 rfl) ?_
  refine lv_iconst (v := 1) hx hb dX6_readStructures_85 (by decide) ?_
  refine lv_bipush (v := 16) hx hb dX6_readStructures_86 (by decide) ?_
  have hPc := hP.sub (ws' := [(a0, .inr (6, [.int 0, .int 0, .ref a1, .int 8, .int 0, .int 0, .int 0, .int 0, .ref a4])), (a1, .inr (5, [.ref cb, .int 81, .int 0, .ref a2, .int 0, .ref a5, .int 0, .ref a3, .int 1, .int 1, .ref a6, .int 0, .int 0, .int 0, .int 0]))]) [1, 2] rfl
  have hDc := hD.sub (ws' := [(a0, .inr (6, [.int 0, .int 0, .ref a1, .int 8, .int 0, .int 0, .int 0, .int 0, .ref a4])), (a1, .inr (5, [.ref cb, .int 81, .int 0, .ref a2, .int 0, .ref a5, .int 0, .ref a3, .int 1, .int 1, .ref a6, .int 0, .int 0, .int 0, .int 0]))]) [1, 2] (by decide) rfl
  have hFc := va_free (wc := [(a0, .inr (6, [.int 0, .int 0, .ref a1, .int 8, .int 0, .int 0, .int 0, .int 0, .ref a4])), (a1, .inr (5, [.ref cb, .int 81, .int 0, .ref a2, .int 0, .ref a5, .int 0, .ref a3, .int 1, .int 1, .ref a6, .int 0, .int 0, .int 0, .int 0]))]) hD hS hA [1, 2] rfl
  refine va_calli (va_runV (As := [.int 1, .int 16]) (rest := []) ⟨hx, hb, hml, hown, hts⟩ (cc_19_X6_readNumber l dC dI cy H_10.size cb a0 a1 a4 a2 a5 a3 a6) (cwV 2 hts gX6_readStructures_X6_readNumber rfl rfl rfl (by decide +kernel) ⟨Nat.le_of_ble_eq_true rfl, Nat.le_of_ble_eq_true rfl⟩) ⟨fun a U g mk q => by obtain ⟨q0, q1, qP, qK, qD, qN, qS⟩ := q; exact ⟨q0, q1, qP, va_K.moved (u := U) (U := U.calling g mk a) (Vm.Alike.refl U.vm) qK, qD, qN.same rfl, SK.moved (u := U) (U := U.calling g mk a) (Vm.Alike.refl U.vm) qS⟩, va_recv hK hPc (ci := 6) (q0 := 0) rfl rfl, fun U hU hW => ⟨rfl, by rw [hU], by rw [hU]; exact hPc, va_K.moved hW.alike hK, hDc.weaken (fun _ _ _ _ => trivial), hN.warm hW, by rw [hU]; exact ((hSK.kept hS.2.1).narrow hFc).moved hW.alike⟩⟩ rfl rfl hl.1 rfl (lv_room (Nat.le_of_ble_eq_true rfl)) dX6_readStructures_88 ⟨Nat.le_of_ble_eq_true rfl, Nat.le_of_ble_eq_true rfl⟩) hS (fun q _ h => hFc q h) hFc (fun r_14 u t H_15 locs ht hvm hw hB hz1 hk1 hS2 => ?_)
  obtain ⟨hP1, hK1, hD1⟩ := hB
  rw [ht] at hP1
  obtain rfl := hw
  obtain ⟨hP2, hD2⟩ := va_join (wr := [(a2, .inl (cy 2, 2048, .inr (.inl f0))), (a3, .inl (cy 1, 448, .inl g_11))]) (w1 := [(a0, .inr (6, [.int 0, .int 0, .ref a1, .int 9, .int 0, .int 0, .int 0, .int 0, .ref a4])), (a1, .inr (5, [.ref cb, .int 81, .int 0, .ref a2, .int 0, .ref a5, .int 0, .ref a3, .int 1, .int 1, .ref a6, .int 0, .int 0, .int 0, .int 0]))]) hP hD [1, 2] [0, 3] rfl rfl (by decide) (by decide) hk1 hFc hP1 hD1
  replace hP : va_P (dC, dI) vwCl [(a2, .inl (cy 2, 2048, .inr (.inl f0))), (a3, .inl (cy 1, 448, .inl g_11)), (a0, .inr (6, [.int 0, .int 0, .ref a1, .int 9, .int 0, .int 0, .int 0, .int 0, .ref a4])), (a1, .inr (5, [.ref cb, .int 81, .int 0, .ref a2, .int 0, .ref a5, .int 0, .ref a3, .int 1, .int 1, .ref a6, .int 0, .int 0, .int 0, .int 0]))] H_15 := hP2
  replace hD : va_D A [(a2, .inl (cy 2, 2048, .inr (.inl f0))), (a3, .inl (cy 1, 448, .inl g_11)), (a0, .inr (6, [.int 0, .int 0, .ref a1, .int 9, .int 0, .int 0, .int 0, .int 0, .ref a4])), (a1, .inr (5, [.ref cb, .int 81, .int 0, .ref a2, .int 0, .ref a5, .int 0, .ref a3, .int 1, .int 1, .ref a6, .int 0, .int 0, .int 0, .int 0]))] := hD2
  replace hS := hS2
  clear hP2 hD2 hS2
  clear hPc hDc hFc hP1 hD1 hK1 hk1 hz1 hvm ht
  refine W.widen (k := 0) (n := 0) (Nat.le_of_ble_eq_true rfl) (Nat.le_of_ble_eq_true rfl) ?_
  refine lv_istore_n (lv' := [(2, .int 1), (1, .int 0), (0, .ref a0)]) hx hb dX6_readStructures_91 rfl hl (by decide) rfl (fun ls hl2 => ?_)
  replace hl := hl2
  clear hl2
  refine lv_aload_n hx hb dX6_readStructures_92 rfl (lv_at hl 2 rfl) ?_
  refine va_get (D := (dC, dI)) (ci := 6) (v := .ref a1) (C := RX6) (T := TX6) (N := 9) hx hb hts iw_X6_readStructures_X6 hown hK hP 2 rfl rfl 2 (by decide) (hts _ m_X6_readStructures_1) (fun _ h9 => h9) rfl dX6_readStructures_93 ?_
  refine lv_iload_n hx hb dX6_readStructures_96 rfl (lv_at hl 1 rfl) ?_
  refine lv_iconst (v := 2) hx hb dX6_readStructures_97 (by decide) ?_
  refine lv_aload_n hx hb dX6_readStructures_98 rfl (lv_at hl 2 rfl) ?_
  refine va_get (D := (dC, dI)) (ci := 6) (v := .ref a1) (C := RX6) (T := TX6) (N := 9) hx hb hts iw_X6_readStructures_X6 hown hK hP 2 rfl rfl 2 (by decide) (hts _ m_X6_readStructures_1) (fun _ h9 => h9) rfl dX6_readStructures_99 ?_
  refine va_get (D := (dC, dI)) (ci := 5) (v := .int 0) (C := RX5) (T := TX5) (N := 15) hx hb hts iw_X6_readStructures_X5 hown hK hP 3 rfl rfl 4 (by decide) (hts _ m_X6_readStructures_7) (fun _ h9 => h9) rfl dX6_readStructures_102 ?_
  have hPc := hP.sub (ws' := [(a1, .inr (5, [.ref cb, .int 81, .int 0, .ref a2, .int 0, .ref a5, .int 0, .ref a3, .int 1, .int 1, .ref a6, .int 0, .int 0, .int 0, .int 0])), (a3, .inl (cy 1, 448, .inl g_11))]) [3, 1] rfl
  have hDc := hD.sub (ws' := [(a1, .inr (5, [.ref cb, .int 81, .int 0, .ref a2, .int 0, .ref a5, .int 0, .ref a3, .int 1, .int 1, .ref a6, .int 0, .int 0, .int 0, .int 0])), (a3, .inl (cy 1, 448, .inl g_11))]) [3, 1] (by decide) rfl
  have hFc := va_free (wc := [(a1, .inr (5, [.ref cb, .int 81, .int 0, .ref a2, .int 0, .ref a5, .int 0, .ref a3, .int 1, .int 1, .ref a6, .int 0, .int 0, .int 0, .int 0])), (a3, .inl (cy 1, 448, .inl g_11))]) hD hS hA [3, 1] rfl
  refine va_callv (va_runV (As := [.int 0, .int 2, .int 0]) (rest := []) ⟨hx, hb, hml, hown, hts⟩ (cc_21_X5_setStructure l dC dI cy H_15.size cb a1 a3 a2 a5 a6 g_11 kp_12 kp_13) (cwV 3 hts gX6_readStructures_X5_setStructure rfl rfl rfl (by decide +kernel) ⟨Nat.le_of_ble_eq_true rfl, Nat.le_of_ble_eq_true rfl⟩) ⟨fun a U g mk q => by obtain ⟨q0, q1, qP, qK, qD, qN, qS⟩ := q; exact ⟨q0, q1, qP, va_K.moved (u := U) (U := U.calling g mk a) (Vm.Alike.refl U.vm) qK, qD, qN.same rfl, SK.moved (u := U) (U := U.calling g mk a) (Vm.Alike.refl U.vm) qS⟩, va_recv hK hPc (ci := 5) (q0 := 0) rfl rfl, fun U hU hW => ⟨rfl, by rw [hU], by rw [hU]; exact hPc, va_K.moved hW.alike hK, hDc.weaken (fun _ _ _ _ => trivial), hN.warm hW, by rw [hU]; exact ((hSK.kept hS.2.1).narrow hFc).moved hW.alike⟩⟩ rfl rfl hl.1 rfl (lv_room (Nat.le_of_ble_eq_true rfl)) dX6_readStructures_105 ⟨Nat.le_of_ble_eq_true rfl, Nat.le_of_ble_eq_true rfl⟩) hS (fun q _ h => hFc q h) hFc (fun u t H_16 locs ht hvm hw hB hz1 hk1 hS2 => ?_)
  obtain ⟨g_17, rfl⟩ : ∃ z, z = u := ⟨_, rfl⟩
  obtain ⟨hP1, hK1, hD1⟩ := hB
  rw [ht] at hP1
  obtain ⟨kp_18, kp_19, kp_20⟩ := hw
  obtain ⟨hP2, hD2⟩ := va_join (wr := [(a2, .inl (cy 2, 2048, .inr (.inl f0))), (a0, .inr (6, [.int 0, .int 0, .ref a1, .int 9, .int 0, .int 0, .int 0, .int 0, .ref a4]))]) (w1 := [(a1, .inr (5, [.ref cb, .int 81, .int 0, .ref a2, .int 0, .ref a5, .int 0, .ref a3, .int 1, .int 1, .ref a6, .int 0, .int 0, .int 0, .int 0])), (a3, .inl (cy 1, 448, .inl g_17))]) hP hD [3, 1] [0, 2] rfl rfl (by decide) (by decide) hk1 hFc hP1 hD1
  replace hP : va_P (dC, dI) vwCl [(a2, .inl (cy 2, 2048, .inr (.inl f0))), (a0, .inr (6, [.int 0, .int 0, .ref a1, .int 9, .int 0, .int 0, .int 0, .int 0, .ref a4])), (a1, .inr (5, [.ref cb, .int 81, .int 0, .ref a2, .int 0, .ref a5, .int 0, .ref a3, .int 1, .int 1, .ref a6, .int 0, .int 0, .int 0, .int 0])), (a3, .inl (cy 1, 448, .inl g_17))] H_16 := hP2
  replace hD : va_D A [(a2, .inl (cy 2, 2048, .inr (.inl f0))), (a0, .inr (6, [.int 0, .int 0, .ref a1, .int 9, .int 0, .int 0, .int 0, .int 0, .ref a4])), (a1, .inr (5, [.ref cb, .int 81, .int 0, .ref a2, .int 0, .ref a5, .int 0, .ref a3, .int 1, .int 1, .ref a6, .int 0, .int 0, .int 0, .int 0])), (a3, .inl (cy 1, 448, .inl g_17))] := hD2
  replace hS := hS2
  clear hP2 hD2 hS2
  clear hPc hDc hFc hP1 hD1 hK1 hk1 hz1 hvm ht
  refine W.widen (k := 0) (n := 0) (Nat.le_of_ble_eq_true rfl) (Nat.le_of_ble_eq_true rfl) ?_
  refine lv_aload_n hx hb dX6_readStructures_108 rfl (lv_at hl 2 rfl) ?_
  refine va_get (D := (dC, dI)) (ci := 6) (v := .ref a1) (C := RX6) (T := TX6) (N := 9) hx hb hts iw_X6_readStructures_X6 hown hK hP 1 rfl rfl 2 (by decide) (hts _ m_X6_readStructures_1) (fun _ h9 => h9) rfl dX6_readStructures_109 ?_
  refine lv_iload_n hx hb dX6_readStructures_112 rfl (lv_at hl 1 rfl) ?_
  refine lv_iconst (v := 3) hx hb dX6_readStructures_113 (by decide) ?_
  refine lv_iload_n hx hb dX6_readStructures_114 rfl (lv_at hl 0 rfl) ?_
  have hPc := hP.sub (ws' := [(a1, .inr (5, [.ref cb, .int 81, .int 0, .ref a2, .int 0, .ref a5, .int 0, .ref a3, .int 1, .int 1, .ref a6, .int 0, .int 0, .int 0, .int 0])), (a3, .inl (cy 1, 448, .inl g_17))]) [2, 3] rfl
  have hDc := hD.sub (ws' := [(a1, .inr (5, [.ref cb, .int 81, .int 0, .ref a2, .int 0, .ref a5, .int 0, .ref a3, .int 1, .int 1, .ref a6, .int 0, .int 0, .int 0, .int 0])), (a3, .inl (cy 1, 448, .inl g_17))]) [2, 3] (by decide) rfl
  have hFc := va_free (wc := [(a1, .inr (5, [.ref cb, .int 81, .int 0, .ref a2, .int 0, .ref a5, .int 0, .ref a3, .int 1, .int 1, .ref a6, .int 0, .int 0, .int 0, .int 0])), (a3, .inl (cy 1, 448, .inl g_17))]) hD hS hA [2, 3] rfl
  refine va_callv (va_runV (As := [.int 0, .int 3, .int 1]) (rest := []) ⟨hx, hb, hml, hown, hts⟩ (cc_22_X5_setStructure l dC dI cy H_16.size cb a1 a3 a2 a5 a6 g_17 kp_18 kp_19 kp_20) (cwV 3 hts gX6_readStructures_X5_setStructure rfl rfl rfl (by decide +kernel) ⟨Nat.le_of_ble_eq_true rfl, Nat.le_of_ble_eq_true rfl⟩) ⟨fun a U g mk q => by obtain ⟨q0, q1, qP, qK, qD, qN, qS⟩ := q; exact ⟨q0, q1, qP, va_K.moved (u := U) (U := U.calling g mk a) (Vm.Alike.refl U.vm) qK, qD, qN.same rfl, SK.moved (u := U) (U := U.calling g mk a) (Vm.Alike.refl U.vm) qS⟩, va_recv hK hPc (ci := 5) (q0 := 0) rfl rfl, fun U hU hW => ⟨rfl, by rw [hU], by rw [hU]; exact hPc, va_K.moved hW.alike hK, hDc.weaken (fun _ _ _ _ => trivial), hN.warm hW, by rw [hU]; exact ((hSK.kept hS.2.1).narrow hFc).moved hW.alike⟩⟩ rfl rfl hl.1 rfl (lv_room (Nat.le_of_ble_eq_true rfl)) dX6_readStructures_115 ⟨Nat.le_of_ble_eq_true rfl, Nat.le_of_ble_eq_true rfl⟩) hS (fun q _ h => hFc q h) hFc (fun u t H_21 locs ht hvm hw hB hz1 hk1 hS2 => ?_)
  obtain ⟨g_22, rfl⟩ : ∃ z, z = u := ⟨_, rfl⟩
  obtain ⟨hP1, hK1, hD1⟩ := hB
  rw [ht] at hP1
  obtain ⟨kp_23, kp_24, kp_25, kp_26⟩ := hw
  obtain ⟨hP2, hD2⟩ := va_join (wr := [(a2, .inl (cy 2, 2048, .inr (.inl f0))), (a0, .inr (6, [.int 0, .int 0, .ref a1, .int 9, .int 0, .int 0, .int 0, .int 0, .ref a4]))]) (w1 := [(a1, .inr (5, [.ref cb, .int 81, .int 0, .ref a2, .int 0, .ref a5, .int 0, .ref a3, .int 1, .int 1, .ref a6, .int 0, .int 0, .int 0, .int 0])), (a3, .inl (cy 1, 448, .inl g_22))]) hP hD [2, 3] [0, 1] rfl rfl (by decide) (by decide) hk1 hFc hP1 hD1
  replace hP : va_P (dC, dI) vwCl [(a2, .inl (cy 2, 2048, .inr (.inl f0))), (a0, .inr (6, [.int 0, .int 0, .ref a1, .int 9, .int 0, .int 0, .int 0, .int 0, .ref a4])), (a1, .inr (5, [.ref cb, .int 81, .int 0, .ref a2, .int 0, .ref a5, .int 0, .ref a3, .int 1, .int 1, .ref a6, .int 0, .int 0, .int 0, .int 0])), (a3, .inl (cy 1, 448, .inl g_22))] H_21 := hP2
  replace hD : va_D A [(a2, .inl (cy 2, 2048, .inr (.inl f0))), (a0, .inr (6, [.int 0, .int 0, .ref a1, .int 9, .int 0, .int 0, .int 0, .int 0, .ref a4])), (a1, .inr (5, [.ref cb, .int 81, .int 0, .ref a2, .int 0, .ref a5, .int 0, .ref a3, .int 1, .int 1, .ref a6, .int 0, .int 0, .int 0, .int 0])), (a3, .inl (cy 1, 448, .inl g_22))] := hD2
  replace hS := hS2
  clear hP2 hD2 hS2
  clear hPc hDc hFc hP1 hD1 hK1 hk1 hz1 hvm ht
  refine W.widen (k := 0) (n := 0) (Nat.le_of_ble_eq_true rfl) (Nat.le_of_ble_eq_true rfl) ?_
  refine lv_aload_n hx hb dX6_readStructures_118 rfl (lv_at hl 2 rfl) ?_
  refine va_get (D := (dC, dI)) (ci := 6) (v := .ref a1) (C := RX6) (T := TX6) (N := 9) hx hb hts iw_X6_readStructures_X6 hown hK hP 1 rfl rfl 2 (by decide) (hts _ m_X6_readStructures_1) (fun _ h9 => h9) rfl dX6_readStructures_119 ?_
  refine lv_iload_n hx hb dX6_readStructures_122 rfl (lv_at hl 1 rfl) ?_
  refine lv_iconst (v := 4) hx hb dX6_readStructures_123 (by decide) ?_
  refine lv_aload_n hx hb dX6_readStructures_124 rfl (lv_at hl 2 rfl) ?_
  refine va_get (D := (dC, dI)) (ci := 6) (v := .ref a1) (C := RX6) (T := TX6) (N := 9) hx hb hts iw_X6_readStructures_X6 hown hK hP 1 rfl rfl 2 (by decide) (hts _ m_X6_readStructures_1) (fun _ h9 => h9) rfl dX6_readStructures_125 ?_
  refine va_get (D := (dC, dI)) (ci := 5) (v := .int 0) (C := RX5) (T := TX5) (N := 15) hx hb hts iw_X6_readStructures_X5 hown hK hP 2 rfl rfl 2 (by decide) (hts _ m_X6_readStructures_8) (fun _ h9 => h9) rfl dX6_readStructures_128 ?_
  have hPc := hP.sub (ws' := [(a1, .inr (5, [.ref cb, .int 81, .int 0, .ref a2, .int 0, .ref a5, .int 0, .ref a3, .int 1, .int 1, .ref a6, .int 0, .int 0, .int 0, .int 0])), (a3, .inl (cy 1, 448, .inl g_22))]) [2, 3] rfl
  have hDc := hD.sub (ws' := [(a1, .inr (5, [.ref cb, .int 81, .int 0, .ref a2, .int 0, .ref a5, .int 0, .ref a3, .int 1, .int 1, .ref a6, .int 0, .int 0, .int 0, .int 0])), (a3, .inl (cy 1, 448, .inl g_22))]) [2, 3] (by decide) rfl
  have hFc := va_free (wc := [(a1, .inr (5, [.ref cb, .int 81, .int 0, .ref a2, .int 0, .ref a5, .int 0, .ref a3, .int 1, .int 1, .ref a6, .int 0, .int 0, .int 0, .int 0])), (a3, .inl (cy 1, 448, .inl g_22))]) hD hS hA [2, 3] rfl
  refine va_callv (va_runV (As := [.int 0, .int 4, .int 0]) (rest := []) ⟨hx, hb, hml, hown, hts⟩ (cc_23_X5_setStructure l dC dI cy H_21.size cb a1 a3 a2 a5 a6 g_22 kp_23 kp_24 kp_25 kp_26) (cwV 3 hts gX6_readStructures_X5_setStructure rfl rfl rfl (by decide +kernel) ⟨Nat.le_of_ble_eq_true rfl, Nat.le_of_ble_eq_true rfl⟩) ⟨fun a U g mk q => by obtain ⟨q0, q1, qP, qK, qD, qN, qS⟩ := q; exact ⟨q0, q1, qP, va_K.moved (u := U) (U := U.calling g mk a) (Vm.Alike.refl U.vm) qK, qD, qN.same rfl, SK.moved (u := U) (U := U.calling g mk a) (Vm.Alike.refl U.vm) qS⟩, va_recv hK hPc (ci := 5) (q0 := 0) rfl rfl, fun U hU hW => ⟨rfl, by rw [hU], by rw [hU]; exact hPc, va_K.moved hW.alike hK, hDc.weaken (fun _ _ _ _ => trivial), hN.warm hW, by rw [hU]; exact ((hSK.kept hS.2.1).narrow hFc).moved hW.alike⟩⟩ rfl rfl hl.1 rfl (lv_room (Nat.le_of_ble_eq_true rfl)) dX6_readStructures_131 ⟨Nat.le_of_ble_eq_true rfl, Nat.le_of_ble_eq_true rfl⟩) hS (fun q _ h => hFc q h) hFc (fun u t H_27 locs ht hvm hw hB hz1 hk1 hS2 => ?_)
  obtain ⟨g_28, rfl⟩ : ∃ z, z = u := ⟨_, rfl⟩
  obtain ⟨hP1, hK1, hD1⟩ := hB
  rw [ht] at hP1
  obtain ⟨kp_29, kp_30, kp_31, kp_32, kp_33⟩ := hw
  obtain ⟨hP2, hD2⟩ := va_join (wr := [(a2, .inl (cy 2, 2048, .inr (.inl f0))), (a0, .inr (6, [.int 0, .int 0, .ref a1, .int 9, .int 0, .int 0, .int 0, .int 0, .ref a4]))]) (w1 := [(a1, .inr (5, [.ref cb, .int 81, .int 0, .ref a2, .int 0, .ref a5, .int 0, .ref a3, .int 1, .int 1, .ref a6, .int 0, .int 0, .int 0, .int 0])), (a3, .inl (cy 1, 448, .inl g_28))]) hP hD [2, 3] [0, 1] rfl rfl (by decide) (by decide) hk1 hFc hP1 hD1
  replace hP : va_P (dC, dI) vwCl [(a2, .inl (cy 2, 2048, .inr (.inl f0))), (a0, .inr (6, [.int 0, .int 0, .ref a1, .int 9, .int 0, .int 0, .int 0, .int 0, .ref a4])), (a1, .inr (5, [.ref cb, .int 81, .int 0, .ref a2, .int 0, .ref a5, .int 0, .ref a3, .int 1, .int 1, .ref a6, .int 0, .int 0, .int 0, .int 0])), (a3, .inl (cy 1, 448, .inl g_28))] H_27 := hP2
  replace hD : va_D A [(a2, .inl (cy 2, 2048, .inr (.inl f0))), (a0, .inr (6, [.int 0, .int 0, .ref a1, .int 9, .int 0, .int 0, .int 0, .int 0, .ref a4])), (a1, .inr (5, [.ref cb, .int 81, .int 0, .ref a2, .int 0, .ref a5, .int 0, .ref a3, .int 1, .int 1, .ref a6, .int 0, .int 0, .int 0, .int 0])), (a3, .inl (cy 1, 448, .inl g_28))] := hD2
  replace hS := hS2
  clear hP2 hD2 hS2
  clear hPc hDc hFc hP1 hD1 hK1 hk1 hz1 hvm ht
  refine W.widen (k := 0) (n := 0) (Nat.le_of_ble_eq_true rfl) (Nat.le_of_ble_eq_true rfl) ?_
  refine lv_aload_n hx hb dX6_readStructures_134 rfl (lv_at hl 2 rfl) ?_
  refine va_get (D := (dC, dI)) (ci := 6) (v := .ref a1) (C := RX6) (T := TX6) (N := 9) hx hb hts iw_X6_readStructures_X6 hown hK hP 1 rfl rfl 2 (by decide) (hts _ m_X6_readStructures_1) (fun _ h9 => h9) rfl dX6_readStructures_135 ?_
  refine lv_iload_n hx hb dX6_readStructures_138 rfl (lv_at hl 1 rfl) ?_
  refine lv_iconst (v := 5) hx hb dX6_readStructures_139 (by decide) ?_
  refine lv_iload_n hx hb dX6_readStructures_140 rfl (lv_at hl 1 rfl) ?_
  have hPc := hP.sub (ws' := [(a1, .inr (5, [.ref cb, .int 81, .int 0, .ref a2, .int 0, .ref a5, .int 0, .ref a3, .int 1, .int 1, .ref a6, .int 0, .int 0, .int 0, .int 0])), (a3, .inl (cy 1, 448, .inl g_28))]) [2, 3] rfl
  have hDc := hD.sub (ws' := [(a1, .inr (5, [.ref cb, .int 81, .int 0, .ref a2, .int 0, .ref a5, .int 0, .ref a3, .int 1, .int 1, .ref a6, .int 0, .int 0, .int 0, .int 0])), (a3, .inl (cy 1, 448, .inl g_28))]) [2, 3] (by decide) rfl
  have hFc := va_free (wc := [(a1, .inr (5, [.ref cb, .int 81, .int 0, .ref a2, .int 0, .ref a5, .int 0, .ref a3, .int 1, .int 1, .ref a6, .int 0, .int 0, .int 0, .int 0])), (a3, .inl (cy 1, 448, .inl g_28))]) hD hS hA [2, 3] rfl
  refine va_callv (va_runV (As := [.int 0, .int 5, .int 0]) (rest := []) ⟨hx, hb, hml, hown, hts⟩ (cc_24_X5_setStructure l dC dI cy H_27.size cb a1 a3 a2 a5 a6 g_28 kp_29 kp_30 kp_31 kp_32 kp_33) (cwV 3 hts gX6_readStructures_X5_setStructure rfl rfl rfl (by decide +kernel) ⟨Nat.le_of_ble_eq_true rfl, Nat.le_of_ble_eq_true rfl⟩) ⟨fun a U g mk q => by obtain ⟨q0, q1, qP, qK, qD, qN, qS⟩ := q; exact ⟨q0, q1, qP, va_K.moved (u := U) (U := U.calling g mk a) (Vm.Alike.refl U.vm) qK, qD, qN.same rfl, SK.moved (u := U) (U := U.calling g mk a) (Vm.Alike.refl U.vm) qS⟩, va_recv hK hPc (ci := 5) (q0 := 0) rfl rfl, fun U hU hW => ⟨rfl, by rw [hU], by rw [hU]; exact hPc, va_K.moved hW.alike hK, hDc.weaken (fun _ _ _ _ => trivial), hN.warm hW, by rw [hU]; exact ((hSK.kept hS.2.1).narrow hFc).moved hW.alike⟩⟩ rfl rfl hl.1 rfl (lv_room (Nat.le_of_ble_eq_true rfl)) dX6_readStructures_141 ⟨Nat.le_of_ble_eq_true rfl, Nat.le_of_ble_eq_true rfl⟩) hS (fun q _ h => hFc q h) hFc (fun u t H_34 locs ht hvm hw hB hz1 hk1 hS2 => ?_)
  obtain ⟨g_35, rfl⟩ : ∃ z, z = u := ⟨_, rfl⟩
  obtain ⟨hP1, hK1, hD1⟩ := hB
  rw [ht] at hP1
  obtain ⟨kp_36, kp_37, kp_38, kp_39, kp_40, kp_41⟩ := hw
  obtain ⟨hP2, hD2⟩ := va_join (wr := [(a2, .inl (cy 2, 2048, .inr (.inl f0))), (a0, .inr (6, [.int 0, .int 0, .ref a1, .int 9, .int 0, .int 0, .int 0, .int 0, .ref a4]))]) (w1 := [(a1, .inr (5, [.ref cb, .int 81, .int 0, .ref a2, .int 0, .ref a5, .int 0, .ref a3, .int 1, .int 1, .ref a6, .int 0, .int 0, .int 0, .int 0])), (a3, .inl (cy 1, 448, .inl g_35))]) hP hD [2, 3] [0, 1] rfl rfl (by decide) (by decide) hk1 hFc hP1 hD1
  replace hP : va_P (dC, dI) vwCl [(a2, .inl (cy 2, 2048, .inr (.inl f0))), (a0, .inr (6, [.int 0, .int 0, .ref a1, .int 9, .int 0, .int 0, .int 0, .int 0, .ref a4])), (a1, .inr (5, [.ref cb, .int 81, .int 0, .ref a2, .int 0, .ref a5, .int 0, .ref a3, .int 1, .int 1, .ref a6, .int 0, .int 0, .int 0, .int 0])), (a3, .inl (cy 1, 448, .inl g_35))] H_34 := hP2
  replace hD : va_D A [(a2, .inl (cy 2, 2048, .inr (.inl f0))), (a0, .inr (6, [.int 0, .int 0, .ref a1, .int 9, .int 0, .int 0, .int 0, .int 0, .ref a4])), (a1, .inr (5, [.ref cb, .int 81, .int 0, .ref a2, .int 0, .ref a5, .int 0, .ref a3, .int 1, .int 1, .ref a6, .int 0, .int 0, .int 0, .int 0])), (a3, .inl (cy 1, 448, .inl g_35))] := hD2
  replace hS := hS2
  clear hP2 hD2 hS2
  clear hPc hDc hFc hP1 hD1 hK1 hk1 hz1 hvm ht
  refine W.widen (k := 0) (n := 0) (Nat.le_of_ble_eq_true rfl) (Nat.le_of_ble_eq_true rfl) ?_
  refine lv_aload_n hx hb dX6_readStructures_144 rfl (lv_at hl 2 rfl) ?_
  refine lv_iload_n hx hb dX6_readStructures_145 rfl (lv_at hl 0 rfl) ?_
  refine lv_iconst (v := 0) hx hb dX6_readStructures_146 (by decide) ?_
  have hPc := hP.sub (ws' := [(a0, .inr (6, [.int 0, .int 0, .ref a1, .int 9, .int 0, .int 0, .int 0, .int 0, .ref a4])), (a1, .inr (5, [.ref cb, .int 81, .int 0, .ref a2, .int 0, .ref a5, .int 0, .ref a3, .int 1, .int 1, .ref a6, .int 0, .int 0, .int 0, .int 0])), (a2, .inl (cy 2, 2048, .inr (.inl f0)))]) [1, 2, 0] rfl
  have hDc := hD.sub (ws' := [(a0, .inr (6, [.int 0, .int 0, .ref a1, .int 9, .int 0, .int 0, .int 0, .int 0, .ref a4])), (a1, .inr (5, [.ref cb, .int 81, .int 0, .ref a2, .int 0, .ref a5, .int 0, .ref a3, .int 1, .int 1, .ref a6, .int 0, .int 0, .int 0, .int 0])), (a2, .inl (cy 2, 2048, .inr (.inl f0)))]) [1, 2, 0] (by decide) rfl
  have hFc := va_free (wc := [(a0, .inr (6, [.int 0, .int 0, .ref a1, .int 9, .int 0, .int 0, .int 0, .int 0, .ref a4])), (a1, .inr (5, [.ref cb, .int 81, .int 0, .ref a2, .int 0, .ref a5, .int 0, .ref a3, .int 1, .int 1, .ref a6, .int 0, .int 0, .int 0, .int 0])), (a2, .inl (cy 2, 2048, .inr (.inl f0)))]) hD hS hA [1, 2, 0] rfl
  refine va_callv (va_runV (As := [.int 1, .int 0]) (rest := []) ⟨hx, hb, hml, hown, hts⟩ (cc_25_X6_readTypes l dC dI cy H_34.size cb a0 a1 a2 a4 a5 a3 a6 f0) (cwV 2 hts gX6_readStructures_X6_readTypes rfl rfl rfl (by decide +kernel) ⟨Nat.le_of_ble_eq_true rfl, Nat.le_of_ble_eq_true rfl⟩) ⟨fun a U g mk q => by obtain ⟨q0, q1, qP, qK, qD, qN, qS⟩ := q; exact ⟨q0, q1, qP, va_K.moved (u := U) (U := U.calling g mk a) (Vm.Alike.refl U.vm) qK, qD, qN.same rfl, SK.moved (u := U) (U := U.calling g mk a) (Vm.Alike.refl U.vm) qS⟩, va_recv hK hPc (ci := 6) (q0 := 0) rfl rfl, fun U hU hW => ⟨rfl, by rw [hU], by rw [hU]; exact hPc, va_K.moved hW.alike hK, hDc.weaken (fun _ _ _ _ => trivial), hN.warm hW, by rw [hU]; exact ((hSK.kept hS.2.1).narrow hFc).moved hW.alike⟩⟩ rfl rfl hl.1 rfl (lv_room (Nat.le_of_ble_eq_true rfl)) dX6_readStructures_147 ⟨Nat.le_of_ble_eq_true rfl, Nat.le_of_ble_eq_true rfl⟩) hS (fun q _ h => hFc q h) hFc (fun u t H_42 locs ht hvm hw hB hz1 hk1 hS2 => ?_)
  obtain ⟨g_43, rfl⟩ : ∃ z, z = u := ⟨_, rfl⟩
  obtain ⟨hP1, hK1, hD1⟩ := hB
  rw [ht] at hP1
  have kp_44 := hw
  obtain ⟨hP2, hD2⟩ := va_join (wr := [(a3, .inl (cy 1, 448, .inl g_35))]) (w1 := [(a0, .inr (6, [.int 0, .int 0, .ref a1, .int 10, .int 0, .int 0, .int 0, .int 0, .ref a4])), (a1, .inr (5, [.ref cb, .int 81, .int 0, .ref a2, .int 1, .ref a5, .int 0, .ref a3, .int 1, .int 1, .ref a6, .int 0, .int 0, .int 0, .int 0])), (a2, .inl (cy 2, 2048, .inr (.inl g_43)))]) hP hD [1, 2, 0] [3] rfl rfl (by decide) (by decide) hk1 hFc hP1 hD1
  replace hP : va_P (dC, dI) vwCl [(a3, .inl (cy 1, 448, .inl g_35)), (a0, .inr (6, [.int 0, .int 0, .ref a1, .int 10, .int 0, .int 0, .int 0, .int 0, .ref a4])), (a1, .inr (5, [.ref cb, .int 81, .int 0, .ref a2, .int 1, .ref a5, .int 0, .ref a3, .int 1, .int 1, .ref a6, .int 0, .int 0, .int 0, .int 0])), (a2, .inl (cy 2, 2048, .inr (.inl g_43)))] H_42 := hP2
  replace hD : va_D A [(a3, .inl (cy 1, 448, .inl g_35)), (a0, .inr (6, [.int 0, .int 0, .ref a1, .int 10, .int 0, .int 0, .int 0, .int 0, .ref a4])), (a1, .inr (5, [.ref cb, .int 81, .int 0, .ref a2, .int 1, .ref a5, .int 0, .ref a3, .int 1, .int 1, .ref a6, .int 0, .int 0, .int 0, .int 0])), (a2, .inl (cy 2, 2048, .inr (.inl g_43)))] := hD2
  replace hS := hS2
  clear hP2 hD2 hS2
  clear hPc hDc hFc hP1 hD1 hK1 hk1 hz1 hvm ht
  refine W.widen (k := 0) (n := 0) (Nat.le_of_ble_eq_true rfl) (Nat.le_of_ble_eq_true rfl) ?_
  refine lv_iinc (v := 1) (lv' := [(1, .int 1), (2, .int 1), (0, .ref a0)]) hx hb dX6_readStructures_150 hl (k := 1) rfl (by decide) (by decide) rfl (fun ls hl2 => ?_)
  replace hl := hl2
  clear hl2
  refine lv_goto (tgt := 37) hx hb dX6_readStructures_153 (by decide) ?_
  refine lv_iload_n hx hb dX6_readStructures_37 rfl (lv_at hl 0 rfl) ?_
  refine lv_aload_n hx hb dX6_readStructures_38 rfl (lv_at hl 2 rfl) ?_
  refine va_get (D := (dC, dI)) (ci := 6) (v := .ref a1) (C := RX6) (T := TX6) (N := 9) hx hb hts iw_X6_readStructures_X6 hown hK hP 1 rfl rfl 2 (by decide) (hts _ m_X6_readStructures_1) (fun _ h9 => h9) rfl dX6_readStructures_39 ?_
  refine va_get (D := (dC, dI)) (ci := 5) (v := .int 1) (C := RX5) (T := TX5) (N := 15) hx hb hts iw_X6_readStructures_X5 hown hK hP 2 rfl rfl 8 (by decide) (hts _ m_X6_readStructures_2) (fun _ h9 => h9) rfl dX6_readStructures_42 ?_
  refine lv_icmp_ge (tgt := 156) hx hb dX6_readStructures_45 (by decide) (fun _ => ?_) (fun h => absurd (by decide) h)
  have hP := hP.sub (ws' := [(a0, .inr (6, [.int 0, .int 0, .ref a1, .int 10, .int 0, .int 0, .int 0, .int 0, .ref a4])), (a1, .inr (5, [.ref cb, .int 81, .int 0, .ref a2, .int 1, .ref a5, .int 0, .ref a3, .int 1, .int 1, .ref a6, .int 0, .int 0, .int 0, .int 0])), (a2, .inl (cy 2, 2048, .inr (.inl g_43))), (a3, .inl (cy 1, 448, .inl g_35))]) [1, 2, 3, 0] rfl
  have hD := hD.sub (ws' := [(a0, .inr (6, [.int 0, .int 0, .ref a1, .int 10, .int 0, .int 0, .int 0, .int 0, .ref a4])), (a1, .inr (5, [.ref cb, .int 81, .int 0, .ref a2, .int 1, .ref a5, .int 0, .ref a3, .int 1, .int 1, .ref a6, .int 0, .int 0, .int 0, .int 0])), (a2, .inl (cy 2, 2048, .inr (.inl g_43))), (a3, .inl (cy 1, 448, .inl g_35))]) [1, 2, 3, 0] (by decide) rfl
  exact W.vret hx hb hr (fun t ht hW => ⟨⟨(g_43, g_35), rfl, ⟨kp_44, kp_36, kp_37, kp_38, kp_39, kp_40, kp_41⟩, by rw [ht]; exact hP, va_K.moved hW.alike hK, hD⟩, hS.F ht⟩) hS.2.2 dX6_readStructures_156

set_option maxHeartbeats 4000000 in
set_option maxRecDepth 100000 in
theorem cc_31_X6_readByte (l : Launch) (dC : Nat → ClassId) (dI : Nat → Nat → Nat) (cy : Nat → ClassId) (sz : Nat) (cb : Nat) (a0 : Nat) (a1 : Nat) (a2 : Nat) (a3 : Nat) (a4 : Nat) (a5 : Nat) (a6 : Nat)  : Met l yX6_readByte wsX6_readByte ({ frames := 0, cells := 0, slots := 0, locals := 0 }) (va_Pc [.ref a0] (fun U => U.heap.size = sz ∧ va_P (dC, dI) vwCl [(a0, .inr (6, [.int 0, .int 0, .ref a1, .int 10, .int 0, .int 0, .int 0, .int 0, .ref a2])), (a1, .inr (5, [.ref cb, .int 81, .int 0, .ref a3, .int 1, .ref a4, .int 0, .ref a5, .int 1, .int 1, .ref a6, .int 0, .int 0, .int 0, .int 0]))] U.heap ∧ va_K (dC, dI) vwCl (TYS cy) U ∧ va_D (fun _ => True) [(a0, .inr (6, [.int 0, .int 0, .ref a1, .int 10, .int 0, .int 0, .int 0, .int 0, .ref a2])), (a1, .inr (5, [.ref cb, .int 81, .int 0, .ref a3, .int 1, .ref a4, .int 0, .ref a5, .int 1, .int 1, .ref a6, .int 0, .int 0, .int 0, .int 0]))] ∧ NK U ∧ SK cb (va_A [(a0, .inr (6, [.int 0, .int 0, .ref a1, .int 10, .int 0, .int 0, .int 0, .int 0, .ref a2])), (a1, .inr (5, [.ref cb, .int 81, .int 0, .ref a3, .int 1, .ref a4, .int 0, .ref a5, .int 1, .int 1, .ref a6, .int 0, .int 0, .int 0, .int 0]))] sz) U U.heap)) (va_Qi (fun (r : Int32) (u : Unit) => r = 0) (fun u t => va_P (dC, dI) vwCl [(a0, .inr (6, [.int 0, .int 0, .ref a1, .int 11, .int 0, .int 0, .int 0, .int 0, .ref a2])), (a1, .inr (5, [.ref cb, .int 81, .int 0, .ref a3, .int 1, .ref a4, .int 0, .ref a5, .int 1, .int 1, .ref a6, .int 0, .int 0, .int 0, .int 0]))] t.heap ∧ va_K (dC, dI) vwCl (TYS cy) t ∧ va_D (va_A [(a0, .inr (6, [.int 0, .int 0, .ref a1, .int 10, .int 0, .int 0, .int 0, .int 0, .ref a2])), (a1, .inr (5, [.ref cb, .int 81, .int 0, .ref a3, .int 1, .ref a4, .int 0, .ref a5, .int 1, .int 1, .ref a6, .int 0, .int 0, .int 0, .int 0]))] sz) [(a0, .inr (6, [.int 0, .int 0, .ref a1, .int 11, .int 0, .int 0, .int 0, .int 0, .ref a2])), (a1, .inr (5, [.ref cb, .int 81, .int 0, .ref a3, .int 1, .ref a4, .int 0, .ref a5, .int 1, .int 1, .ref a6, .int 0, .int 0, .int 0, .int 0]))]) (va_A [(a0, .inr (6, [.int 0, .int 0, .ref a1, .int 10, .int 0, .int 0, .int 0, .int 0, .ref a2])), (a1, .inr (5, [.ref cb, .int 81, .int 0, .ref a3, .int 1, .ref a4, .int 0, .ref a5, .int 1, .int 1, .ref a6, .int 0, .int 0, .int 0, .int 0]))] sz)) 0 0 (va_A [(a0, .inr (6, [.int 0, .int 0, .ref a1, .int 10, .int 0, .int 0, .int 0, .int 0, .ref a2])), (a1, .inr (5, [.ref cb, .int 81, .int 0, .ref a3, .int 1, .ref a4, .int 0, .ref a5, .int 1, .int 1, .ref a6, .int 0, .int 0, .int 0, .int 0]))] sz) := by
  refine Met.ofW (cc := cX6_readByte) (maxL := 1) (ret := (some .int)) (by decide) rfl ?_
  intro p e s m args below meth c s₁ B hml hv
  obtain ⟨rfl, hsz, hP, hK, hD0, hN, hSK⟩ := hv
  have hx := B.exec
  have hb := B.bytes
  have hr := B.returns
  have hts := atoms_spec (ws := wsX6_readByte) B.pre
  have hown : s.vm.findClass RX6 = some m.cls := findClass_of_methodNamed B.named
  have hlocks := B.notSynchronized
  subst hsz
  have hD := hD0.self (sz := s.heap.size)
  generalize hAe : va_A [(a0, .inr (6, [.int 0, .int 0, .ref a1, .int 10, .int 0, .int 0, .int 0, .int 0, .ref a2])), (a1, .inr (5, [.ref cb, .int 81, .int 0, .ref a3, .int 1, .ref a4, .int 0, .ref a5, .int 1, .int 1, .ref a6, .int 0, .int 0, .int 0, .int 0]))] s.heap.size = A at hD hSK ⊢
  have hA : ∀ q : Nat, s.heap.size ≤ q → A q := fun q h => by rw [← hAe]; exact Or.inr h
  have hS : va_S A s.heap s.heap [] := va_S.rf
  have hP : va_P (dC, dI) vwCl [(a0, .inr (6, [.int 0, .int 0, .ref a1, .int 10, .int 0, .int 0, .int 0, .int 0, .ref a2])), (a1, .inr (5, [.ref cb, .int 81, .int 0, .ref a3, .int 1, .ref a4, .int 0, .ref a5, .int 1, .int 1, .ref a6, .int 0, .int 0, .int 0, .int 0]))] s.heap := hP
  have hl := lv_entry ([.ref a0]) (n := 1) (Nat.le_of_ble_eq_true rfl)
  rw [lg_entry_eq]
  generalize (lg_sl ([.ref a0]) ++ List.replicate (1 - (lg_sl ([.ref a0])).length) Slot.unset).toArray = ls at hl ⊢
  replace hl : lv_has ls 1 [(0, .ref a0)] := hl
  refine lv_aload_n hx hb dX6_readByte_0 rfl (lv_at hl 0 rfl) ?_
  refine va_get (D := (dC, dI)) (ci := 6) (v := .int 0) (C := RX6) (T := TX6) (N := 9) hx hb hts iw_X6_readByte_X6 hown hK hP 0 rfl rfl 1 (by decide) (hts _ m_X6_readByte_1) (fun _ h9 => h9) rfl dX6_readByte_1 ?_
  refine lv_if_eq (tgt := 9) hx hb dX6_readByte_4 (by decide) (fun _ => ?_) (fun h => absurd (by decide) h)
  refine lv_aload_n hx hb dX6_readByte_9 rfl (lv_at hl 0 rfl) ?_
  refine va_get (D := (dC, dI)) (ci := 6) (v := .int 10) (C := RX6) (T := TX6) (N := 9) hx hb hts iw_X6_readByte_X6 hown hK hP 0 rfl rfl 3 (by decide) (hts _ m_X6_readByte_2) (fun _ h9 => h9) rfl dX6_readByte_10 ?_
  refine lv_aload_n hx hb dX6_readByte_13 rfl (lv_at hl 0 rfl) ?_
  refine va_get (D := (dC, dI)) (ci := 6) (v := .ref a1) (C := RX6) (T := TX6) (N := 9) hx hb hts iw_X6_readByte_X6 hown hK hP 0 rfl rfl 2 (by decide) (hts _ m_X6_readByte_3) (fun _ h9 => h9) rfl dX6_readByte_14 ?_
  refine va_get (D := (dC, dI)) (ci := 5) (v := .int 81) (C := RX5) (T := TX5) (N := 15) hx hb hts iw_X6_readByte_X5 hown hK hP 1 rfl rfl 1 (by decide) (hts _ m_X6_readByte_4) (fun _ h9 => h9) rfl dX6_readByte_17 ?_
  refine lv_icmp_lt (tgt := 41) hx hb dX6_readByte_20 (by decide) (fun _ => ?_) (fun h => absurd (by decide) h)
  refine lv_aload_n hx hb dX6_readByte_41 rfl (lv_at hl 0 rfl) ?_
  refine va_get (D := (dC, dI)) (ci := 6) (v := .ref a1) (C := RX6) (T := TX6) (N := 9) hx hb hts iw_X6_readByte_X6 hown hK hP 0 rfl rfl 2 (by decide) (hts _ m_X6_readByte_3) (fun _ h9 => h9) rfl dX6_readByte_42 ?_
  refine va_get (D := (dC, dI)) (ci := 5) (v := .ref cb) (C := RX5) (T := TX5) (N := 15) hx hb hts iw_X6_readByte_X5 hown hK hP 1 rfl rfl 0 (by decide) (hts _ m_X6_readByte_6) (fun _ h9 => h9) rfl dX6_readByte_45 ?_
  refine lv_aload_n hx hb dX6_readByte_48 rfl (lv_at hl 0 rfl) ?_
  refine lv_dup hx hb dX6_readByte_49 rfl ?_
  refine va_get (D := (dC, dI)) (ci := 6) (v := .int 10) (C := RX6) (T := TX6) (N := 9) hx hb hts iw_X6_readByte_X6 hown hK hP 0 rfl rfl 3 (by decide) (hts _ m_X6_readByte_2) (fun _ h9 => h9) rfl dX6_readByte_50 ?_
  refine lv_dup_x1 hx hb dX6_readByte_53 rfl rfl ?_
  refine lv_iconst (v := 1) hx hb dX6_readByte_54 (by decide) ?_
  refine lv_iadd hx hb dX6_readByte_55 ?_
  refine lv_topi (fun z_1 ez_1 => ?_)
  obtain rfl : z_1 = 11 := ez_1.trans (by decide)
  clear ez_1
  refine va_put (D := (dC, dI)) (ci := 6) (v := .int 11) (ty := .int) (C := RX6) (T := TX6) (N := 9) hx hb hts iw_X6_readByte_X6 tyX6 tyX6_ok nmX6 hown hK hP hD hS 0 rfl rfl 3 (by decide) (hts _ m_X6_readByte_2) (fun _ h9 => h9) rfl (by decide +kernel) rfl rfl (Nat.le_of_ble_eq_true rfl) dX6_readByte_56 (fun H_2 locs hP2 hD2 hS2 => ?_)
  replace hP : va_P (dC, dI) vwCl [(a0, .inr (6, [.int 0, .int 0, .ref a1, .int 11, .int 0, .int 0, .int 0, .int 0, .ref a2])), (a1, .inr (5, [.ref cb, .int 81, .int 0, .ref a3, .int 1, .ref a4, .int 0, .ref a5, .int 1, .int 1, .ref a6, .int 0, .int 0, .int 0, .int 0]))] H_2 := hP2
  replace hD : va_D A [(a0, .inr (6, [.int 0, .int 0, .ref a1, .int 11, .int 0, .int 0, .int 0, .int 0, .ref a2])), (a1, .inr (5, [.ref cb, .int 81, .int 0, .ref a3, .int 1, .ref a4, .int 0, .ref a5, .int 1, .int 1, .ref a6, .int 0, .int 0, .int 0, .int 0]))] := hD2
  replace hS := hS2
  clear hP2 hD2 hS2
  refine va_tb (v := .int 0) hx hb hSK.2 hS (by unfold vp_in; decide) rfl dX6_readByte_59 ?_
  refine lv_sipush (v := 255) hx hb dX6_readByte_60 (by decide) ?_
  refine lv_iand hx hb dX6_readByte_63 ?_
  refine lv_topi (fun z_3 ez_3 => ?_)
  obtain rfl : z_3 = 0 := ez_3.trans (by decide)
  clear ez_3
  exact W.iret hx hb hr (fun t ht hW => ⟨⟨0, (), rfl, rfl, by rw [ht]; exact hP, va_K.moved hW.alike hK, hD⟩, hS.F ht⟩) hS.2.2 dX6_readByte_64

set_option maxHeartbeats 4000000 in
set_option maxRecDepth 100000 in
theorem cc_30_X6_readNumber (l : Launch) (dC : Nat → ClassId) (dI : Nat → Nat → Nat) (cy : Nat → ClassId) (sz : Nat) (cb : Nat) (a0 : Nat) (a1 : Nat) (a2 : Nat) (a3 : Nat) (a4 : Nat) (a5 : Nat) (a6 : Nat)  : Met l yX6_readNumber wsX6_readNumber ({ frames := 1, cells := 0, slots := 0, locals := 20 }) (va_Pc [.ref a0, .int 0, .int 32] (fun U => U.heap.size = sz ∧ va_P (dC, dI) vwCl [(a0, .inr (6, [.int 0, .int 0, .ref a1, .int 10, .int 0, .int 0, .int 0, .int 0, .ref a2])), (a1, .inr (5, [.ref cb, .int 81, .int 0, .ref a3, .int 1, .ref a4, .int 0, .ref a5, .int 1, .int 1, .ref a6, .int 0, .int 0, .int 0, .int 0]))] U.heap ∧ va_K (dC, dI) vwCl (TYS cy) U ∧ va_D (fun _ => True) [(a0, .inr (6, [.int 0, .int 0, .ref a1, .int 10, .int 0, .int 0, .int 0, .int 0, .ref a2])), (a1, .inr (5, [.ref cb, .int 81, .int 0, .ref a3, .int 1, .ref a4, .int 0, .ref a5, .int 1, .int 1, .ref a6, .int 0, .int 0, .int 0, .int 0]))] ∧ NK U ∧ SK cb (va_A [(a0, .inr (6, [.int 0, .int 0, .ref a1, .int 10, .int 0, .int 0, .int 0, .int 0, .ref a2])), (a1, .inr (5, [.ref cb, .int 81, .int 0, .ref a3, .int 1, .ref a4, .int 0, .ref a5, .int 1, .int 1, .ref a6, .int 0, .int 0, .int 0, .int 0]))] sz) U U.heap)) (va_Qi (fun (r : Int32) (u : Unit) => r = 0) (fun u t => va_P (dC, dI) vwCl [(a0, .inr (6, [.int 0, .int 0, .ref a1, .int 11, .int 0, .int 0, .int 0, .int 0, .ref a2])), (a1, .inr (5, [.ref cb, .int 81, .int 0, .ref a3, .int 1, .ref a4, .int 0, .ref a5, .int 1, .int 1, .ref a6, .int 0, .int 0, .int 0, .int 0]))] t.heap ∧ va_K (dC, dI) vwCl (TYS cy) t ∧ va_D (va_A [(a0, .inr (6, [.int 0, .int 0, .ref a1, .int 10, .int 0, .int 0, .int 0, .int 0, .ref a2])), (a1, .inr (5, [.ref cb, .int 81, .int 0, .ref a3, .int 1, .ref a4, .int 0, .ref a5, .int 1, .int 1, .ref a6, .int 0, .int 0, .int 0, .int 0]))] sz) [(a0, .inr (6, [.int 0, .int 0, .ref a1, .int 11, .int 0, .int 0, .int 0, .int 0, .ref a2])), (a1, .inr (5, [.ref cb, .int 81, .int 0, .ref a3, .int 1, .ref a4, .int 0, .ref a5, .int 1, .int 1, .ref a6, .int 0, .int 0, .int 0, .int 0]))]) (va_A [(a0, .inr (6, [.int 0, .int 0, .ref a1, .int 10, .int 0, .int 0, .int 0, .int 0, .ref a2])), (a1, .inr (5, [.ref cb, .int 81, .int 0, .ref a3, .int 1, .ref a4, .int 0, .ref a5, .int 1, .int 1, .ref a6, .int 0, .int 0, .int 0, .int 0]))] sz)) 0 0 (va_A [(a0, .inr (6, [.int 0, .int 0, .ref a1, .int 10, .int 0, .int 0, .int 0, .int 0, .ref a2])), (a1, .inr (5, [.ref cb, .int 81, .int 0, .ref a3, .int 1, .ref a4, .int 0, .ref a5, .int 1, .int 1, .ref a6, .int 0, .int 0, .int 0, .int 0]))] sz) := by
  refine Met.ofW (cc := cX6_readNumber) (maxL := 5) (ret := (some .int)) (by decide) rfl ?_
  intro p e s m args below meth c s₁ B hml hv
  obtain ⟨rfl, hsz, hP, hK, hD0, hN, hSK⟩ := hv
  have hx := B.exec
  have hb := B.bytes
  have hr := B.returns
  have hts := atoms_spec (ws := wsX6_readNumber) B.pre
  have hown : s.vm.findClass RX6 = some m.cls := findClass_of_methodNamed B.named
  have hlocks := B.notSynchronized
  subst hsz
  have hD := hD0.self (sz := s.heap.size)
  generalize hAe : va_A [(a0, .inr (6, [.int 0, .int 0, .ref a1, .int 10, .int 0, .int 0, .int 0, .int 0, .ref a2])), (a1, .inr (5, [.ref cb, .int 81, .int 0, .ref a3, .int 1, .ref a4, .int 0, .ref a5, .int 1, .int 1, .ref a6, .int 0, .int 0, .int 0, .int 0]))] s.heap.size = A at hD hSK ⊢
  have hA : ∀ q : Nat, s.heap.size ≤ q → A q := fun q h => by rw [← hAe]; exact Or.inr h
  have hS : va_S A s.heap s.heap [] := va_S.rf
  have hP : va_P (dC, dI) vwCl [(a0, .inr (6, [.int 0, .int 0, .ref a1, .int 10, .int 0, .int 0, .int 0, .int 0, .ref a2])), (a1, .inr (5, [.ref cb, .int 81, .int 0, .ref a3, .int 1, .ref a4, .int 0, .ref a5, .int 1, .int 1, .ref a6, .int 0, .int 0, .int 0, .int 0]))] s.heap := hP
  have hl := lv_entry ([.ref a0, .int 0, .int 32]) (n := 5) (Nat.le_of_ble_eq_true rfl)
  rw [lg_entry_eq]
  generalize (lg_sl ([.ref a0, .int 0, .int 32]) ++ List.replicate (5 - (lg_sl ([.ref a0, .int 0, .int 32])).length) Slot.unset).toArray = ls at hl ⊢
  replace hl : lv_has ls 5 [(0, .ref a0), (1, .int 0), (2, .int 32)] := hl
  refine lv_aload_n hx hb dX6_readNumber_0 rfl (lv_at hl 0 rfl) ?_
  refine va_get (D := (dC, dI)) (ci := 6) (v := .int 10) (C := RX6) (T := TX6) (N := 9) hx hb hts iw_X6_readNumber_X6 hown hK hP 0 rfl rfl 3 (by decide) (hts _ m_X6_readNumber_1) (fun _ h9 => h9) rfl dX6_readNumber_1 ?_
  refine lv_istore_n (lv' := [(3, .int 10), (0, .ref a0), (1, .int 0), (2, .int 32)]) hx hb dX6_readNumber_4 rfl hl (by decide) rfl (fun ls hl2 => ?_)
  replace hl := hl2
  clear hl2
  refine lv_aload_n hx hb dX6_readNumber_5 rfl (lv_at hl 1 rfl) ?_
  have hPc := hP.sub (ws' := [(a0, .inr (6, [.int 0, .int 0, .ref a1, .int 10, .int 0, .int 0, .int 0, .int 0, .ref a2])), (a1, .inr (5, [.ref cb, .int 81, .int 0, .ref a3, .int 1, .ref a4, .int 0, .ref a5, .int 1, .int 1, .ref a6, .int 0, .int 0, .int 0, .int 0]))]) [0, 1] rfl
  have hDc := hD.sub (ws' := [(a0, .inr (6, [.int 0, .int 0, .ref a1, .int 10, .int 0, .int 0, .int 0, .int 0, .ref a2])), (a1, .inr (5, [.ref cb, .int 81, .int 0, .ref a3, .int 1, .ref a4, .int 0, .ref a5, .int 1, .int 1, .ref a6, .int 0, .int 0, .int 0, .int 0]))]) [0, 1] (by decide) rfl
  have hFc := va_free (wc := [(a0, .inr (6, [.int 0, .int 0, .ref a1, .int 10, .int 0, .int 0, .int 0, .int 0, .ref a2])), (a1, .inr (5, [.ref cb, .int 81, .int 0, .ref a3, .int 1, .ref a4, .int 0, .ref a5, .int 1, .int 1, .ref a6, .int 0, .int 0, .int 0, .int 0]))]) hD hS hA [0, 1] rfl
  refine va_calli (va_runV (As := []) (rest := []) ⟨hx, hb, hml, hown, hts⟩ (cc_31_X6_readByte l dC dI cy s.heap.size cb a0 a1 a2 a3 a4 a5 a6) (cwV 0 hts gX6_readNumber_X6_readByte rfl rfl rfl (by decide +kernel) ⟨Nat.le_of_ble_eq_true rfl, Nat.le_of_ble_eq_true rfl⟩) ⟨fun a U g mk q => by obtain ⟨q0, q1, qP, qK, qD, qN, qS⟩ := q; exact ⟨q0, q1, qP, va_K.moved (u := U) (U := U.calling g mk a) (Vm.Alike.refl U.vm) qK, qD, qN.same rfl, SK.moved (u := U) (U := U.calling g mk a) (Vm.Alike.refl U.vm) qS⟩, va_recv hK hPc (ci := 6) (q0 := 0) rfl rfl, fun U hU hW => ⟨rfl, by rw [hU], by rw [hU]; exact hPc, va_K.moved hW.alike hK, hDc.weaken (fun _ _ _ _ => trivial), hN.warm hW, by rw [hU]; exact ((hSK.kept hS.2.1).narrow hFc).moved hW.alike⟩⟩ rfl rfl hl.1 rfl (lv_room (Nat.le_of_ble_eq_true rfl)) dX6_readNumber_6 ⟨Nat.le_of_ble_eq_true rfl, Nat.le_of_ble_eq_true rfl⟩) hS (fun q _ h => hFc q h) hFc (fun r_1 u t H_2 locs ht hvm hw hB hz1 hk1 hS2 => ?_)
  obtain ⟨hP1, hK1, hD1⟩ := hB
  rw [ht] at hP1
  obtain rfl := hw
  obtain ⟨hP2, hD2⟩ := va_join (wr := []) (w1 := [(a0, .inr (6, [.int 0, .int 0, .ref a1, .int 11, .int 0, .int 0, .int 0, .int 0, .ref a2])), (a1, .inr (5, [.ref cb, .int 81, .int 0, .ref a3, .int 1, .ref a4, .int 0, .ref a5, .int 1, .int 1, .ref a6, .int 0, .int 0, .int 0, .int 0]))]) hP hD [0, 1] [] rfl rfl (by decide) (by decide) hk1 hFc hP1 hD1
  replace hP : va_P (dC, dI) vwCl [(a0, .inr (6, [.int 0, .int 0, .ref a1, .int 11, .int 0, .int 0, .int 0, .int 0, .ref a2])), (a1, .inr (5, [.ref cb, .int 81, .int 0, .ref a3, .int 1, .ref a4, .int 0, .ref a5, .int 1, .int 1, .ref a6, .int 0, .int 0, .int 0, .int 0]))] H_2 := hP2
  replace hD : va_D A [(a0, .inr (6, [.int 0, .int 0, .ref a1, .int 11, .int 0, .int 0, .int 0, .int 0, .ref a2])), (a1, .inr (5, [.ref cb, .int 81, .int 0, .ref a3, .int 1, .ref a4, .int 0, .ref a5, .int 1, .int 1, .ref a6, .int 0, .int 0, .int 0, .int 0]))] := hD2
  replace hS := hS2
  clear hP2 hD2 hS2
  clear hPc hDc hFc hP1 hD1 hK1 hk1 hz1 hvm ht
  refine W.widen (k := 0) (n := 0) (Nat.le_of_ble_eq_true rfl) (Nat.le_of_ble_eq_true rfl) ?_
  refine lv_istore (lv' := [(4, .int 0), (3, .int 10), (0, .ref a0), (1, .int 0), (2, .int 32)]) hx hb dX6_readNumber_9 hl (by decide) rfl (fun ls hl2 => ?_)
  replace hl := hl2
  clear hl2
  refine lv_iload hx hb dX6_readNumber_11 (lv_at hl 0 rfl) ?_
  refine lv_iload_n hx hb dX6_readNumber_13 rfl (lv_at hl 3 rfl) ?_
  refine lv_icmp_lt (tgt := 23) hx hb dX6_readNumber_14 (by decide) (fun h => absurd h (by decide)) (fun _ => ?_)
  refine lv_iload hx hb dX6_readNumber_17 (lv_at hl 0 rfl) ?_
  refine lv_iload_n hx hb dX6_readNumber_19 rfl (lv_at hl 4 rfl) ?_
  refine lv_icmp_le (tgt := 29) hx hb dX6_readNumber_20 (by decide) (fun _ => ?_) (fun h => absurd (by decide) h)
  refine lv_aload_n hx hb dX6_readNumber_29 rfl (lv_at hl 2 rfl) ?_
  refine va_get (D := (dC, dI)) (ci := 6) (v := .int 0) (C := RX6) (T := TX6) (N := 9) hx hb hts iw_X6_readNumber_X6 hown hK hP 0 rfl rfl 1 (by decide) (hts _ m_X6_readNumber_2) (fun _ h9 => h9) rfl dX6_readNumber_30 ?_
  refine lv_if_ne (tgt := 41) hx hb dX6_readNumber_33 (by decide) (fun h => absurd (by decide) h) (fun _ => ?_)
  refine lv_iload hx hb dX6_readNumber_36 (lv_at hl 0 rfl) ?_
  refine lv_goto (tgt := 42) hx hb dX6_readNumber_38 (by decide) ?_
  exact W.iret hx hb hr (fun t ht hW => ⟨⟨0, (), rfl, rfl, by rw [ht]; exact hP, va_K.moved hW.alike hK, hD⟩, hS.F ht⟩) hS.2.2 dX6_readNumber_42

set_option maxHeartbeats 4000000 in
set_option maxRecDepth 100000 in
theorem cc_29_X6_readForeignStructures (l : Launch) (dC : Nat → ClassId) (dI : Nat → Nat → Nat) (cy : Nat → ClassId) (sz : Nat) (cb : Nat) (a0 : Nat) (a1 : Nat) (a2 : Nat) (a3 : Nat) (a4 : Nat) (a5 : Nat) (a6 : Nat)  : Met l yX6_readForeignStructures wsX6_readForeignStructures ({ frames := 2, cells := 0, slots := 0, locals := 44 }) (va_Pc [.ref a0] (fun U => U.heap.size = sz ∧ va_P (dC, dI) vwCl [(a0, .inr (6, [.int 0, .int 0, .ref a1, .int 10, .int 0, .int 0, .int 0, .int 0, .ref a2])), (a1, .inr (5, [.ref cb, .int 81, .int 0, .ref a3, .int 1, .ref a4, .int 0, .ref a5, .int 1, .int 1, .ref a6, .int 0, .int 0, .int 0, .int 0]))] U.heap ∧ va_K (dC, dI) vwCl (TYS cy) U ∧ va_D (fun _ => True) [(a0, .inr (6, [.int 0, .int 0, .ref a1, .int 10, .int 0, .int 0, .int 0, .int 0, .ref a2])), (a1, .inr (5, [.ref cb, .int 81, .int 0, .ref a3, .int 1, .ref a4, .int 0, .ref a5, .int 1, .int 1, .ref a6, .int 0, .int 0, .int 0, .int 0]))] ∧ NK U ∧ SK cb (va_A [(a0, .inr (6, [.int 0, .int 0, .ref a1, .int 10, .int 0, .int 0, .int 0, .int 0, .ref a2])), (a1, .inr (5, [.ref cb, .int 81, .int 0, .ref a3, .int 1, .ref a4, .int 0, .ref a5, .int 1, .int 1, .ref a6, .int 0, .int 0, .int 0, .int 0]))] sz) U U.heap)) (va_Qv (fun u : Unit => True) (fun u t => va_P (dC, dI) vwCl [(a0, .inr (6, [.int 0, .int 0, .ref a1, .int 11, .int 0, .int 0, .int 0, .int 0, .ref a2])), (a1, .inr (5, [.ref cb, .int 81, .int 0, .ref a3, .int 1, .ref a4, .int 0, .ref a5, .int 1, .int 1, .ref a6, .int 0, .int 0, .int 0, .int 0]))] t.heap ∧ va_K (dC, dI) vwCl (TYS cy) t ∧ va_D (va_A [(a0, .inr (6, [.int 0, .int 0, .ref a1, .int 10, .int 0, .int 0, .int 0, .int 0, .ref a2])), (a1, .inr (5, [.ref cb, .int 81, .int 0, .ref a3, .int 1, .ref a4, .int 0, .ref a5, .int 1, .int 1, .ref a6, .int 0, .int 0, .int 0, .int 0]))] sz) [(a0, .inr (6, [.int 0, .int 0, .ref a1, .int 11, .int 0, .int 0, .int 0, .int 0, .ref a2])), (a1, .inr (5, [.ref cb, .int 81, .int 0, .ref a3, .int 1, .ref a4, .int 0, .ref a5, .int 1, .int 1, .ref a6, .int 0, .int 0, .int 0, .int 0]))]) (va_A [(a0, .inr (6, [.int 0, .int 0, .ref a1, .int 10, .int 0, .int 0, .int 0, .int 0, .ref a2])), (a1, .inr (5, [.ref cb, .int 81, .int 0, .ref a3, .int 1, .ref a4, .int 0, .ref a5, .int 1, .int 1, .ref a6, .int 0, .int 0, .int 0, .int 0]))] sz)) 0 0 (va_A [(a0, .inr (6, [.int 0, .int 0, .ref a1, .int 10, .int 0, .int 0, .int 0, .int 0, .ref a2])), (a1, .inr (5, [.ref cb, .int 81, .int 0, .ref a3, .int 1, .ref a4, .int 0, .ref a5, .int 1, .int 1, .ref a6, .int 0, .int 0, .int 0, .int 0]))] sz) := by
  refine Met.ofW (cc := cX6_readForeignStructures) (maxL := 3) (ret := none) (by decide) rfl ?_
  intro p e s m args below meth c s₁ B hml hv
  obtain ⟨rfl, hsz, hP, hK, hD0, hN, hSK⟩ := hv
  have hx := B.exec
  have hb := B.bytes
  have hr := B.returns
  have hts := atoms_spec (ws := wsX6_readForeignStructures) B.pre
  have hown : s.vm.findClass RX6 = some m.cls := findClass_of_methodNamed B.named
  have hlocks := B.notSynchronized
  subst hsz
  have hD := hD0.self (sz := s.heap.size)
  generalize hAe : va_A [(a0, .inr (6, [.int 0, .int 0, .ref a1, .int 10, .int 0, .int 0, .int 0, .int 0, .ref a2])), (a1, .inr (5, [.ref cb, .int 81, .int 0, .ref a3, .int 1, .ref a4, .int 0, .ref a5, .int 1, .int 1, .ref a6, .int 0, .int 0, .int 0, .int 0]))] s.heap.size = A at hD hSK ⊢
  have hA : ∀ q : Nat, s.heap.size ≤ q → A q := fun q h => by rw [← hAe]; exact Or.inr h
  have hS : va_S A s.heap s.heap [] := va_S.rf
  have hP : va_P (dC, dI) vwCl [(a0, .inr (6, [.int 0, .int 0, .ref a1, .int 10, .int 0, .int 0, .int 0, .int 0, .ref a2])), (a1, .inr (5, [.ref cb, .int 81, .int 0, .ref a3, .int 1, .ref a4, .int 0, .ref a5, .int 1, .int 1, .ref a6, .int 0, .int 0, .int 0, .int 0]))] s.heap := hP
  have hl := lv_entry ([.ref a0]) (n := 3) (Nat.le_of_ble_eq_true rfl)
  rw [lg_entry_eq]
  generalize (lg_sl ([.ref a0]) ++ List.replicate (3 - (lg_sl ([.ref a0])).length) Slot.unset).toArray = ls at hl ⊢
  replace hl : lv_has ls 3 [(0, .ref a0)] := hl
  refine lv_aload_n hx hb dX6_readForeignStructures_0 rfl (lv_at hl 0 rfl) ?_
  refine lv_iconst (v := 0) hx hb dX6_readForeignStructures_1 (by decide) ?_
  refine lv_bipush (v := 32) hx hb dX6_readForeignStructures_2 (by decide) ?_
  have hPc := hP.sub (ws' := [(a0, .inr (6, [.int 0, .int 0, .ref a1, .int 10, .int 0, .int 0, .int 0, .int 0, .ref a2])), (a1, .inr (5, [.ref cb, .int 81, .int 0, .ref a3, .int 1, .ref a4, .int 0, .ref a5, .int 1, .int 1, .ref a6, .int 0, .int 0, .int 0, .int 0]))]) [0, 1] rfl
  have hDc := hD.sub (ws' := [(a0, .inr (6, [.int 0, .int 0, .ref a1, .int 10, .int 0, .int 0, .int 0, .int 0, .ref a2])), (a1, .inr (5, [.ref cb, .int 81, .int 0, .ref a3, .int 1, .ref a4, .int 0, .ref a5, .int 1, .int 1, .ref a6, .int 0, .int 0, .int 0, .int 0]))]) [0, 1] (by decide) rfl
  have hFc := va_free (wc := [(a0, .inr (6, [.int 0, .int 0, .ref a1, .int 10, .int 0, .int 0, .int 0, .int 0, .ref a2])), (a1, .inr (5, [.ref cb, .int 81, .int 0, .ref a3, .int 1, .ref a4, .int 0, .ref a5, .int 1, .int 1, .ref a6, .int 0, .int 0, .int 0, .int 0]))]) hD hS hA [0, 1] rfl
  refine va_calli (va_runV (As := [.int 0, .int 32]) (rest := []) ⟨hx, hb, hml, hown, hts⟩ (cc_30_X6_readNumber l dC dI cy s.heap.size cb a0 a1 a2 a3 a4 a5 a6) (cwV 2 hts gX6_readForeignStructures_X6_readNumber rfl rfl rfl (by decide +kernel) ⟨Nat.le_of_ble_eq_true rfl, Nat.le_of_ble_eq_true rfl⟩) ⟨fun a U g mk q => by obtain ⟨q0, q1, qP, qK, qD, qN, qS⟩ := q; exact ⟨q0, q1, qP, va_K.moved (u := U) (U := U.calling g mk a) (Vm.Alike.refl U.vm) qK, qD, qN.same rfl, SK.moved (u := U) (U := U.calling g mk a) (Vm.Alike.refl U.vm) qS⟩, va_recv hK hPc (ci := 6) (q0 := 0) rfl rfl, fun U hU hW => ⟨rfl, by rw [hU], by rw [hU]; exact hPc, va_K.moved hW.alike hK, hDc.weaken (fun _ _ _ _ => trivial), hN.warm hW, by rw [hU]; exact ((hSK.kept hS.2.1).narrow hFc).moved hW.alike⟩⟩ rfl rfl hl.1 rfl (lv_room (Nat.le_of_ble_eq_true rfl)) dX6_readForeignStructures_4 ⟨Nat.le_of_ble_eq_true rfl, Nat.le_of_ble_eq_true rfl⟩) hS (fun q _ h => hFc q h) hFc (fun r_1 u t H_2 locs ht hvm hw hB hz1 hk1 hS2 => ?_)
  obtain ⟨hP1, hK1, hD1⟩ := hB
  rw [ht] at hP1
  obtain rfl := hw
  obtain ⟨hP2, hD2⟩ := va_join (wr := []) (w1 := [(a0, .inr (6, [.int 0, .int 0, .ref a1, .int 11, .int 0, .int 0, .int 0, .int 0, .ref a2])), (a1, .inr (5, [.ref cb, .int 81, .int 0, .ref a3, .int 1, .ref a4, .int 0, .ref a5, .int 1, .int 1, .ref a6, .int 0, .int 0, .int 0, .int 0]))]) hP hD [0, 1] [] rfl rfl (by decide) (by decide) hk1 hFc hP1 hD1
  replace hP : va_P (dC, dI) vwCl [(a0, .inr (6, [.int 0, .int 0, .ref a1, .int 11, .int 0, .int 0, .int 0, .int 0, .ref a2])), (a1, .inr (5, [.ref cb, .int 81, .int 0, .ref a3, .int 1, .ref a4, .int 0, .ref a5, .int 1, .int 1, .ref a6, .int 0, .int 0, .int 0, .int 0]))] H_2 := hP2
  replace hD : va_D A [(a0, .inr (6, [.int 0, .int 0, .ref a1, .int 11, .int 0, .int 0, .int 0, .int 0, .ref a2])), (a1, .inr (5, [.ref cb, .int 81, .int 0, .ref a3, .int 1, .ref a4, .int 0, .ref a5, .int 1, .int 1, .ref a6, .int 0, .int 0, .int 0, .int 0]))] := hD2
  replace hS := hS2
  clear hP2 hD2 hS2
  clear hPc hDc hFc hP1 hD1 hK1 hk1 hz1 hvm ht
  refine W.widen (k := 0) (n := 0) (Nat.le_of_ble_eq_true rfl) (Nat.le_of_ble_eq_true rfl) ?_
  refine lv_istore_n (lv' := [(1, .int 0), (0, .ref a0)]) hx hb dX6_readForeignStructures_7 rfl hl (by decide) rfl (fun ls hl2 => ?_)
  replace hl := hl2
  clear hl2
  refine lv_aload_n hx hb dX6_readForeignStructures_8 rfl (lv_at hl 1 rfl) ?_
  refine va_get (D := (dC, dI)) (ci := 6) (v := .ref a1) (C := RX6) (T := TX6) (N := 9) hx hb hts iw_X6_readForeignStructures_X6 hown hK hP 0 rfl rfl 2 (by decide) (hts _ m_X6_readForeignStructures_1) (fun _ h9 => h9) rfl dX6_readForeignStructures_9 ?_
  refine lv_aload_n hx hb dX6_readForeignStructures_12 rfl (lv_at hl 1 rfl) ?_
  refine va_get (D := (dC, dI)) (ci := 6) (v := .ref a1) (C := RX6) (T := TX6) (N := 9) hx hb hts iw_X6_readForeignStructures_X6 hown hK hP 0 rfl rfl 2 (by decide) (hts _ m_X6_readForeignStructures_1) (fun _ h9 => h9) rfl dX6_readForeignStructures_13 ?_
  refine va_get (D := (dC, dI)) (ci := 5) (v := .int 1) (C := RX5) (T := TX5) (N := 15) hx hb hts iw_X6_readForeignStructures_X5 hown hK hP 1 rfl rfl 8 (by decide) (hts _ m_X6_readForeignStructures_2) (fun _ h9 => h9) rfl dX6_readForeignStructures_16 ?_
  refine lv_iload_n hx hb dX6_readForeignStructures_19 rfl (lv_at hl 0 rfl) ?_
  refine lv_iadd hx hb dX6_readForeignStructures_20 ?_
  refine lv_topi (fun z_3 ez_3 => ?_)
  obtain rfl : z_3 = 1 := ez_3.trans (by decide)
  clear ez_3
  refine va_put (D := (dC, dI)) (ci := 5) (v := .int 1) (ty := .int) (C := RX5) (T := TX5) (N := 15) hx hb hts iw_X6_readForeignStructures_X5 tyX5 tyX5_ok nmX5 hown hK hP hD hS 1 rfl rfl 9 (by decide) (hts _ m_X6_readForeignStructures_3) (fun _ h9 => h9) rfl (by decide +kernel) rfl rfl (Nat.le_of_ble_eq_true rfl) dX6_readForeignStructures_21 (fun H_4 locs hP2 hD2 hS2 => ?_)
  replace hP : va_P (dC, dI) vwCl [(a0, .inr (6, [.int 0, .int 0, .ref a1, .int 11, .int 0, .int 0, .int 0, .int 0, .ref a2])), (a1, .inr (5, [.ref cb, .int 81, .int 0, .ref a3, .int 1, .ref a4, .int 0, .ref a5, .int 1, .int 1, .ref a6, .int 0, .int 0, .int 0, .int 0]))] H_4 := hP2
  replace hD : va_D A [(a0, .inr (6, [.int 0, .int 0, .ref a1, .int 11, .int 0, .int 0, .int 0, .int 0, .ref a2])), (a1, .inr (5, [.ref cb, .int 81, .int 0, .ref a3, .int 1, .ref a4, .int 0, .ref a5, .int 1, .int 1, .ref a6, .int 0, .int 0, .int 0, .int 0]))] := hD2
  replace hS := hS2
  clear hP2 hD2 hS2
  refine lv_aload_n hx hb dX6_readForeignStructures_24 rfl (lv_at hl 1 rfl) ?_
  refine va_get (D := (dC, dI)) (ci := 6) (v := .ref a1) (C := RX6) (T := TX6) (N := 9) hx hb hts iw_X6_readForeignStructures_X6 hown hK hP 0 rfl rfl 2 (by decide) (hts _ m_X6_readForeignStructures_1) (fun _ h9 => h9) rfl dX6_readForeignStructures_25 ?_
  refine va_get (D := (dC, dI)) (ci := 5) (v := .int 1) (C := RX5) (T := TX5) (N := 15) hx hb hts iw_X6_readForeignStructures_X5 hown hK hP 1 rfl rfl 8 (by decide) (hts _ m_X6_readForeignStructures_2) (fun _ h9 => h9) rfl dX6_readForeignStructures_28 ?_
  refine lv_istore_n (lv' := [(2, .int 1), (1, .int 0), (0, .ref a0)]) hx hb dX6_readForeignStructures_31 rfl hl (by decide) rfl (fun ls hl2 => ?_)
  replace hl := hl2
  clear hl2
  refine lv_iload_n hx hb dX6_readForeignStructures_32 rfl (lv_at hl 0 rfl) ?_
  refine lv_aload_n hx hb dX6_readForeignStructures_33 rfl (lv_at hl 2 rfl) ?_
  refine va_get (D := (dC, dI)) (ci := 6) (v := .ref a1) (C := RX6) (T := TX6) (N := 9) hx hb hts iw_X6_readForeignStructures_X6 hown hK hP 0 rfl rfl 2 (by decide) (hts _ m_X6_readForeignStructures_1) (fun _ h9 => h9) rfl dX6_readForeignStructures_34 ?_
  refine va_get (D := (dC, dI)) (ci := 5) (v := .int 1) (C := RX5) (T := TX5) (N := 15) hx hb hts iw_X6_readForeignStructures_X5 hown hK hP 1 rfl rfl 9 (by decide) (hts _ m_X6_readForeignStructures_3) (fun _ h9 => h9) rfl dX6_readForeignStructures_37 ?_
  refine lv_icmp_ge (tgt := 108) hx hb dX6_readForeignStructures_40 (by decide) (fun _ => ?_) (fun h => absurd (by decide) h)
  exact W.vret hx hb hr (fun t ht hW => ⟨⟨(), rfl, trivial, by rw [ht]; exact hP, va_K.moved hW.alike hK, hD⟩, hS.F ht⟩) hS.2.2 dX6_readForeignStructures_108

set_option maxHeartbeats 4000000 in
set_option maxRecDepth 100000 in
theorem cc_34_X6_readByte (l : Launch) (dC : Nat → ClassId) (dI : Nat → Nat → Nat) (cy : Nat → ClassId) (sz : Nat) (cb : Nat) (a0 : Nat) (a1 : Nat) (a2 : Nat) (a3 : Nat) (a4 : Nat) (a5 : Nat) (a6 : Nat)  : Met l yX6_readByte wsX6_readByte ({ frames := 0, cells := 0, slots := 0, locals := 0 }) (va_Pc [.ref a0] (fun U => U.heap.size = sz ∧ va_P (dC, dI) vwCl [(a0, .inr (6, [.int 0, .int 0, .ref a1, .int 11, .int 0, .int 0, .int 0, .int 0, .ref a2])), (a1, .inr (5, [.ref cb, .int 81, .int 0, .ref a3, .int 1, .ref a4, .int 0, .ref a5, .int 1, .int 1, .ref a6, .int 0, .int 0, .int 0, .int 0]))] U.heap ∧ va_K (dC, dI) vwCl (TYS cy) U ∧ va_D (fun _ => True) [(a0, .inr (6, [.int 0, .int 0, .ref a1, .int 11, .int 0, .int 0, .int 0, .int 0, .ref a2])), (a1, .inr (5, [.ref cb, .int 81, .int 0, .ref a3, .int 1, .ref a4, .int 0, .ref a5, .int 1, .int 1, .ref a6, .int 0, .int 0, .int 0, .int 0]))] ∧ NK U ∧ SK cb (va_A [(a0, .inr (6, [.int 0, .int 0, .ref a1, .int 11, .int 0, .int 0, .int 0, .int 0, .ref a2])), (a1, .inr (5, [.ref cb, .int 81, .int 0, .ref a3, .int 1, .ref a4, .int 0, .ref a5, .int 1, .int 1, .ref a6, .int 0, .int 0, .int 0, .int 0]))] sz) U U.heap)) (va_Qi (fun (r : Int32) (u : Unit) => r = 0) (fun u t => va_P (dC, dI) vwCl [(a0, .inr (6, [.int 0, .int 0, .ref a1, .int 12, .int 0, .int 0, .int 0, .int 0, .ref a2])), (a1, .inr (5, [.ref cb, .int 81, .int 0, .ref a3, .int 1, .ref a4, .int 0, .ref a5, .int 1, .int 1, .ref a6, .int 0, .int 0, .int 0, .int 0]))] t.heap ∧ va_K (dC, dI) vwCl (TYS cy) t ∧ va_D (va_A [(a0, .inr (6, [.int 0, .int 0, .ref a1, .int 11, .int 0, .int 0, .int 0, .int 0, .ref a2])), (a1, .inr (5, [.ref cb, .int 81, .int 0, .ref a3, .int 1, .ref a4, .int 0, .ref a5, .int 1, .int 1, .ref a6, .int 0, .int 0, .int 0, .int 0]))] sz) [(a0, .inr (6, [.int 0, .int 0, .ref a1, .int 12, .int 0, .int 0, .int 0, .int 0, .ref a2])), (a1, .inr (5, [.ref cb, .int 81, .int 0, .ref a3, .int 1, .ref a4, .int 0, .ref a5, .int 1, .int 1, .ref a6, .int 0, .int 0, .int 0, .int 0]))]) (va_A [(a0, .inr (6, [.int 0, .int 0, .ref a1, .int 11, .int 0, .int 0, .int 0, .int 0, .ref a2])), (a1, .inr (5, [.ref cb, .int 81, .int 0, .ref a3, .int 1, .ref a4, .int 0, .ref a5, .int 1, .int 1, .ref a6, .int 0, .int 0, .int 0, .int 0]))] sz)) 0 0 (va_A [(a0, .inr (6, [.int 0, .int 0, .ref a1, .int 11, .int 0, .int 0, .int 0, .int 0, .ref a2])), (a1, .inr (5, [.ref cb, .int 81, .int 0, .ref a3, .int 1, .ref a4, .int 0, .ref a5, .int 1, .int 1, .ref a6, .int 0, .int 0, .int 0, .int 0]))] sz) := by
  refine Met.ofW (cc := cX6_readByte) (maxL := 1) (ret := (some .int)) (by decide) rfl ?_
  intro p e s m args below meth c s₁ B hml hv
  obtain ⟨rfl, hsz, hP, hK, hD0, hN, hSK⟩ := hv
  have hx := B.exec
  have hb := B.bytes
  have hr := B.returns
  have hts := atoms_spec (ws := wsX6_readByte) B.pre
  have hown : s.vm.findClass RX6 = some m.cls := findClass_of_methodNamed B.named
  have hlocks := B.notSynchronized
  subst hsz
  have hD := hD0.self (sz := s.heap.size)
  generalize hAe : va_A [(a0, .inr (6, [.int 0, .int 0, .ref a1, .int 11, .int 0, .int 0, .int 0, .int 0, .ref a2])), (a1, .inr (5, [.ref cb, .int 81, .int 0, .ref a3, .int 1, .ref a4, .int 0, .ref a5, .int 1, .int 1, .ref a6, .int 0, .int 0, .int 0, .int 0]))] s.heap.size = A at hD hSK ⊢
  have hA : ∀ q : Nat, s.heap.size ≤ q → A q := fun q h => by rw [← hAe]; exact Or.inr h
  have hS : va_S A s.heap s.heap [] := va_S.rf
  have hP : va_P (dC, dI) vwCl [(a0, .inr (6, [.int 0, .int 0, .ref a1, .int 11, .int 0, .int 0, .int 0, .int 0, .ref a2])), (a1, .inr (5, [.ref cb, .int 81, .int 0, .ref a3, .int 1, .ref a4, .int 0, .ref a5, .int 1, .int 1, .ref a6, .int 0, .int 0, .int 0, .int 0]))] s.heap := hP
  have hl := lv_entry ([.ref a0]) (n := 1) (Nat.le_of_ble_eq_true rfl)
  rw [lg_entry_eq]
  generalize (lg_sl ([.ref a0]) ++ List.replicate (1 - (lg_sl ([.ref a0])).length) Slot.unset).toArray = ls at hl ⊢
  replace hl : lv_has ls 1 [(0, .ref a0)] := hl
  refine lv_aload_n hx hb dX6_readByte_0 rfl (lv_at hl 0 rfl) ?_
  refine va_get (D := (dC, dI)) (ci := 6) (v := .int 0) (C := RX6) (T := TX6) (N := 9) hx hb hts iw_X6_readByte_X6 hown hK hP 0 rfl rfl 1 (by decide) (hts _ m_X6_readByte_1) (fun _ h9 => h9) rfl dX6_readByte_1 ?_
  refine lv_if_eq (tgt := 9) hx hb dX6_readByte_4 (by decide) (fun _ => ?_) (fun h => absurd (by decide) h)
  refine lv_aload_n hx hb dX6_readByte_9 rfl (lv_at hl 0 rfl) ?_
  refine va_get (D := (dC, dI)) (ci := 6) (v := .int 11) (C := RX6) (T := TX6) (N := 9) hx hb hts iw_X6_readByte_X6 hown hK hP 0 rfl rfl 3 (by decide) (hts _ m_X6_readByte_2) (fun _ h9 => h9) rfl dX6_readByte_10 ?_
  refine lv_aload_n hx hb dX6_readByte_13 rfl (lv_at hl 0 rfl) ?_
  refine va_get (D := (dC, dI)) (ci := 6) (v := .ref a1) (C := RX6) (T := TX6) (N := 9) hx hb hts iw_X6_readByte_X6 hown hK hP 0 rfl rfl 2 (by decide) (hts _ m_X6_readByte_3) (fun _ h9 => h9) rfl dX6_readByte_14 ?_
  refine va_get (D := (dC, dI)) (ci := 5) (v := .int 81) (C := RX5) (T := TX5) (N := 15) hx hb hts iw_X6_readByte_X5 hown hK hP 1 rfl rfl 1 (by decide) (hts _ m_X6_readByte_4) (fun _ h9 => h9) rfl dX6_readByte_17 ?_
  refine lv_icmp_lt (tgt := 41) hx hb dX6_readByte_20 (by decide) (fun _ => ?_) (fun h => absurd (by decide) h)
  refine lv_aload_n hx hb dX6_readByte_41 rfl (lv_at hl 0 rfl) ?_
  refine va_get (D := (dC, dI)) (ci := 6) (v := .ref a1) (C := RX6) (T := TX6) (N := 9) hx hb hts iw_X6_readByte_X6 hown hK hP 0 rfl rfl 2 (by decide) (hts _ m_X6_readByte_3) (fun _ h9 => h9) rfl dX6_readByte_42 ?_
  refine va_get (D := (dC, dI)) (ci := 5) (v := .ref cb) (C := RX5) (T := TX5) (N := 15) hx hb hts iw_X6_readByte_X5 hown hK hP 1 rfl rfl 0 (by decide) (hts _ m_X6_readByte_6) (fun _ h9 => h9) rfl dX6_readByte_45 ?_
  refine lv_aload_n hx hb dX6_readByte_48 rfl (lv_at hl 0 rfl) ?_
  refine lv_dup hx hb dX6_readByte_49 rfl ?_
  refine va_get (D := (dC, dI)) (ci := 6) (v := .int 11) (C := RX6) (T := TX6) (N := 9) hx hb hts iw_X6_readByte_X6 hown hK hP 0 rfl rfl 3 (by decide) (hts _ m_X6_readByte_2) (fun _ h9 => h9) rfl dX6_readByte_50 ?_
  refine lv_dup_x1 hx hb dX6_readByte_53 rfl rfl ?_
  refine lv_iconst (v := 1) hx hb dX6_readByte_54 (by decide) ?_
  refine lv_iadd hx hb dX6_readByte_55 ?_
  refine lv_topi (fun z_1 ez_1 => ?_)
  obtain rfl : z_1 = 12 := ez_1.trans (by decide)
  clear ez_1
  refine va_put (D := (dC, dI)) (ci := 6) (v := .int 12) (ty := .int) (C := RX6) (T := TX6) (N := 9) hx hb hts iw_X6_readByte_X6 tyX6 tyX6_ok nmX6 hown hK hP hD hS 0 rfl rfl 3 (by decide) (hts _ m_X6_readByte_2) (fun _ h9 => h9) rfl (by decide +kernel) rfl rfl (Nat.le_of_ble_eq_true rfl) dX6_readByte_56 (fun H_2 locs hP2 hD2 hS2 => ?_)
  replace hP : va_P (dC, dI) vwCl [(a0, .inr (6, [.int 0, .int 0, .ref a1, .int 12, .int 0, .int 0, .int 0, .int 0, .ref a2])), (a1, .inr (5, [.ref cb, .int 81, .int 0, .ref a3, .int 1, .ref a4, .int 0, .ref a5, .int 1, .int 1, .ref a6, .int 0, .int 0, .int 0, .int 0]))] H_2 := hP2
  replace hD : va_D A [(a0, .inr (6, [.int 0, .int 0, .ref a1, .int 12, .int 0, .int 0, .int 0, .int 0, .ref a2])), (a1, .inr (5, [.ref cb, .int 81, .int 0, .ref a3, .int 1, .ref a4, .int 0, .ref a5, .int 1, .int 1, .ref a6, .int 0, .int 0, .int 0, .int 0]))] := hD2
  replace hS := hS2
  clear hP2 hD2 hS2
  refine va_tb (v := .int 0) hx hb hSK.2 hS (by unfold vp_in; decide) rfl dX6_readByte_59 ?_
  refine lv_sipush (v := 255) hx hb dX6_readByte_60 (by decide) ?_
  refine lv_iand hx hb dX6_readByte_63 ?_
  refine lv_topi (fun z_3 ez_3 => ?_)
  obtain rfl : z_3 = 0 := ez_3.trans (by decide)
  clear ez_3
  exact W.iret hx hb hr (fun t ht hW => ⟨⟨0, (), rfl, rfl, by rw [ht]; exact hP, va_K.moved hW.alike hK, hD⟩, hS.F ht⟩) hS.2.2 dX6_readByte_64

set_option maxHeartbeats 4000000 in
set_option maxRecDepth 100000 in
theorem cc_33_X6_readNumber (l : Launch) (dC : Nat → ClassId) (dI : Nat → Nat → Nat) (cy : Nat → ClassId) (sz : Nat) (cb : Nat) (a0 : Nat) (a1 : Nat) (a2 : Nat) (a3 : Nat) (a4 : Nat) (a5 : Nat) (a6 : Nat)  : Met l yX6_readNumber wsX6_readNumber ({ frames := 1, cells := 0, slots := 0, locals := 20 }) (va_Pc [.ref a0, .int 0, .int 32] (fun U => U.heap.size = sz ∧ va_P (dC, dI) vwCl [(a0, .inr (6, [.int 0, .int 0, .ref a1, .int 11, .int 0, .int 0, .int 0, .int 0, .ref a2])), (a1, .inr (5, [.ref cb, .int 81, .int 0, .ref a3, .int 1, .ref a4, .int 0, .ref a5, .int 1, .int 1, .ref a6, .int 0, .int 0, .int 0, .int 0]))] U.heap ∧ va_K (dC, dI) vwCl (TYS cy) U ∧ va_D (fun _ => True) [(a0, .inr (6, [.int 0, .int 0, .ref a1, .int 11, .int 0, .int 0, .int 0, .int 0, .ref a2])), (a1, .inr (5, [.ref cb, .int 81, .int 0, .ref a3, .int 1, .ref a4, .int 0, .ref a5, .int 1, .int 1, .ref a6, .int 0, .int 0, .int 0, .int 0]))] ∧ NK U ∧ SK cb (va_A [(a0, .inr (6, [.int 0, .int 0, .ref a1, .int 11, .int 0, .int 0, .int 0, .int 0, .ref a2])), (a1, .inr (5, [.ref cb, .int 81, .int 0, .ref a3, .int 1, .ref a4, .int 0, .ref a5, .int 1, .int 1, .ref a6, .int 0, .int 0, .int 0, .int 0]))] sz) U U.heap)) (va_Qi (fun (r : Int32) (u : Unit) => r = 0) (fun u t => va_P (dC, dI) vwCl [(a0, .inr (6, [.int 0, .int 0, .ref a1, .int 12, .int 0, .int 0, .int 0, .int 0, .ref a2])), (a1, .inr (5, [.ref cb, .int 81, .int 0, .ref a3, .int 1, .ref a4, .int 0, .ref a5, .int 1, .int 1, .ref a6, .int 0, .int 0, .int 0, .int 0]))] t.heap ∧ va_K (dC, dI) vwCl (TYS cy) t ∧ va_D (va_A [(a0, .inr (6, [.int 0, .int 0, .ref a1, .int 11, .int 0, .int 0, .int 0, .int 0, .ref a2])), (a1, .inr (5, [.ref cb, .int 81, .int 0, .ref a3, .int 1, .ref a4, .int 0, .ref a5, .int 1, .int 1, .ref a6, .int 0, .int 0, .int 0, .int 0]))] sz) [(a0, .inr (6, [.int 0, .int 0, .ref a1, .int 12, .int 0, .int 0, .int 0, .int 0, .ref a2])), (a1, .inr (5, [.ref cb, .int 81, .int 0, .ref a3, .int 1, .ref a4, .int 0, .ref a5, .int 1, .int 1, .ref a6, .int 0, .int 0, .int 0, .int 0]))]) (va_A [(a0, .inr (6, [.int 0, .int 0, .ref a1, .int 11, .int 0, .int 0, .int 0, .int 0, .ref a2])), (a1, .inr (5, [.ref cb, .int 81, .int 0, .ref a3, .int 1, .ref a4, .int 0, .ref a5, .int 1, .int 1, .ref a6, .int 0, .int 0, .int 0, .int 0]))] sz)) 0 0 (va_A [(a0, .inr (6, [.int 0, .int 0, .ref a1, .int 11, .int 0, .int 0, .int 0, .int 0, .ref a2])), (a1, .inr (5, [.ref cb, .int 81, .int 0, .ref a3, .int 1, .ref a4, .int 0, .ref a5, .int 1, .int 1, .ref a6, .int 0, .int 0, .int 0, .int 0]))] sz) := by
  refine Met.ofW (cc := cX6_readNumber) (maxL := 5) (ret := (some .int)) (by decide) rfl ?_
  intro p e s m args below meth c s₁ B hml hv
  obtain ⟨rfl, hsz, hP, hK, hD0, hN, hSK⟩ := hv
  have hx := B.exec
  have hb := B.bytes
  have hr := B.returns
  have hts := atoms_spec (ws := wsX6_readNumber) B.pre
  have hown : s.vm.findClass RX6 = some m.cls := findClass_of_methodNamed B.named
  have hlocks := B.notSynchronized
  subst hsz
  have hD := hD0.self (sz := s.heap.size)
  generalize hAe : va_A [(a0, .inr (6, [.int 0, .int 0, .ref a1, .int 11, .int 0, .int 0, .int 0, .int 0, .ref a2])), (a1, .inr (5, [.ref cb, .int 81, .int 0, .ref a3, .int 1, .ref a4, .int 0, .ref a5, .int 1, .int 1, .ref a6, .int 0, .int 0, .int 0, .int 0]))] s.heap.size = A at hD hSK ⊢
  have hA : ∀ q : Nat, s.heap.size ≤ q → A q := fun q h => by rw [← hAe]; exact Or.inr h
  have hS : va_S A s.heap s.heap [] := va_S.rf
  have hP : va_P (dC, dI) vwCl [(a0, .inr (6, [.int 0, .int 0, .ref a1, .int 11, .int 0, .int 0, .int 0, .int 0, .ref a2])), (a1, .inr (5, [.ref cb, .int 81, .int 0, .ref a3, .int 1, .ref a4, .int 0, .ref a5, .int 1, .int 1, .ref a6, .int 0, .int 0, .int 0, .int 0]))] s.heap := hP
  have hl := lv_entry ([.ref a0, .int 0, .int 32]) (n := 5) (Nat.le_of_ble_eq_true rfl)
  rw [lg_entry_eq]
  generalize (lg_sl ([.ref a0, .int 0, .int 32]) ++ List.replicate (5 - (lg_sl ([.ref a0, .int 0, .int 32])).length) Slot.unset).toArray = ls at hl ⊢
  replace hl : lv_has ls 5 [(0, .ref a0), (1, .int 0), (2, .int 32)] := hl
  refine lv_aload_n hx hb dX6_readNumber_0 rfl (lv_at hl 0 rfl) ?_
  refine va_get (D := (dC, dI)) (ci := 6) (v := .int 11) (C := RX6) (T := TX6) (N := 9) hx hb hts iw_X6_readNumber_X6 hown hK hP 0 rfl rfl 3 (by decide) (hts _ m_X6_readNumber_1) (fun _ h9 => h9) rfl dX6_readNumber_1 ?_
  refine lv_istore_n (lv' := [(3, .int 11), (0, .ref a0), (1, .int 0), (2, .int 32)]) hx hb dX6_readNumber_4 rfl hl (by decide) rfl (fun ls hl2 => ?_)
  replace hl := hl2
  clear hl2
  refine lv_aload_n hx hb dX6_readNumber_5 rfl (lv_at hl 1 rfl) ?_
  have hPc := hP.sub (ws' := [(a0, .inr (6, [.int 0, .int 0, .ref a1, .int 11, .int 0, .int 0, .int 0, .int 0, .ref a2])), (a1, .inr (5, [.ref cb, .int 81, .int 0, .ref a3, .int 1, .ref a4, .int 0, .ref a5, .int 1, .int 1, .ref a6, .int 0, .int 0, .int 0, .int 0]))]) [0, 1] rfl
  have hDc := hD.sub (ws' := [(a0, .inr (6, [.int 0, .int 0, .ref a1, .int 11, .int 0, .int 0, .int 0, .int 0, .ref a2])), (a1, .inr (5, [.ref cb, .int 81, .int 0, .ref a3, .int 1, .ref a4, .int 0, .ref a5, .int 1, .int 1, .ref a6, .int 0, .int 0, .int 0, .int 0]))]) [0, 1] (by decide) rfl
  have hFc := va_free (wc := [(a0, .inr (6, [.int 0, .int 0, .ref a1, .int 11, .int 0, .int 0, .int 0, .int 0, .ref a2])), (a1, .inr (5, [.ref cb, .int 81, .int 0, .ref a3, .int 1, .ref a4, .int 0, .ref a5, .int 1, .int 1, .ref a6, .int 0, .int 0, .int 0, .int 0]))]) hD hS hA [0, 1] rfl
  refine va_calli (va_runV (As := []) (rest := []) ⟨hx, hb, hml, hown, hts⟩ (cc_34_X6_readByte l dC dI cy s.heap.size cb a0 a1 a2 a3 a4 a5 a6) (cwV 0 hts gX6_readNumber_X6_readByte rfl rfl rfl (by decide +kernel) ⟨Nat.le_of_ble_eq_true rfl, Nat.le_of_ble_eq_true rfl⟩) ⟨fun a U g mk q => by obtain ⟨q0, q1, qP, qK, qD, qN, qS⟩ := q; exact ⟨q0, q1, qP, va_K.moved (u := U) (U := U.calling g mk a) (Vm.Alike.refl U.vm) qK, qD, qN.same rfl, SK.moved (u := U) (U := U.calling g mk a) (Vm.Alike.refl U.vm) qS⟩, va_recv hK hPc (ci := 6) (q0 := 0) rfl rfl, fun U hU hW => ⟨rfl, by rw [hU], by rw [hU]; exact hPc, va_K.moved hW.alike hK, hDc.weaken (fun _ _ _ _ => trivial), hN.warm hW, by rw [hU]; exact ((hSK.kept hS.2.1).narrow hFc).moved hW.alike⟩⟩ rfl rfl hl.1 rfl (lv_room (Nat.le_of_ble_eq_true rfl)) dX6_readNumber_6 ⟨Nat.le_of_ble_eq_true rfl, Nat.le_of_ble_eq_true rfl⟩) hS (fun q _ h => hFc q h) hFc (fun r_1 u t H_2 locs ht hvm hw hB hz1 hk1 hS2 => ?_)
  obtain ⟨hP1, hK1, hD1⟩ := hB
  rw [ht] at hP1
  obtain rfl := hw
  obtain ⟨hP2, hD2⟩ := va_join (wr := []) (w1 := [(a0, .inr (6, [.int 0, .int 0, .ref a1, .int 12, .int 0, .int 0, .int 0, .int 0, .ref a2])), (a1, .inr (5, [.ref cb, .int 81, .int 0, .ref a3, .int 1, .ref a4, .int 0, .ref a5, .int 1, .int 1, .ref a6, .int 0, .int 0, .int 0, .int 0]))]) hP hD [0, 1] [] rfl rfl (by decide) (by decide) hk1 hFc hP1 hD1
  replace hP : va_P (dC, dI) vwCl [(a0, .inr (6, [.int 0, .int 0, .ref a1, .int 12, .int 0, .int 0, .int 0, .int 0, .ref a2])), (a1, .inr (5, [.ref cb, .int 81, .int 0, .ref a3, .int 1, .ref a4, .int 0, .ref a5, .int 1, .int 1, .ref a6, .int 0, .int 0, .int 0, .int 0]))] H_2 := hP2
  replace hD : va_D A [(a0, .inr (6, [.int 0, .int 0, .ref a1, .int 12, .int 0, .int 0, .int 0, .int 0, .ref a2])), (a1, .inr (5, [.ref cb, .int 81, .int 0, .ref a3, .int 1, .ref a4, .int 0, .ref a5, .int 1, .int 1, .ref a6, .int 0, .int 0, .int 0, .int 0]))] := hD2
  replace hS := hS2
  clear hP2 hD2 hS2
  clear hPc hDc hFc hP1 hD1 hK1 hk1 hz1 hvm ht
  refine W.widen (k := 0) (n := 0) (Nat.le_of_ble_eq_true rfl) (Nat.le_of_ble_eq_true rfl) ?_
  refine lv_istore (lv' := [(4, .int 0), (3, .int 11), (0, .ref a0), (1, .int 0), (2, .int 32)]) hx hb dX6_readNumber_9 hl (by decide) rfl (fun ls hl2 => ?_)
  replace hl := hl2
  clear hl2
  refine lv_iload hx hb dX6_readNumber_11 (lv_at hl 0 rfl) ?_
  refine lv_iload_n hx hb dX6_readNumber_13 rfl (lv_at hl 3 rfl) ?_
  refine lv_icmp_lt (tgt := 23) hx hb dX6_readNumber_14 (by decide) (fun h => absurd h (by decide)) (fun _ => ?_)
  refine lv_iload hx hb dX6_readNumber_17 (lv_at hl 0 rfl) ?_
  refine lv_iload_n hx hb dX6_readNumber_19 rfl (lv_at hl 4 rfl) ?_
  refine lv_icmp_le (tgt := 29) hx hb dX6_readNumber_20 (by decide) (fun _ => ?_) (fun h => absurd (by decide) h)
  refine lv_aload_n hx hb dX6_readNumber_29 rfl (lv_at hl 2 rfl) ?_
  refine va_get (D := (dC, dI)) (ci := 6) (v := .int 0) (C := RX6) (T := TX6) (N := 9) hx hb hts iw_X6_readNumber_X6 hown hK hP 0 rfl rfl 1 (by decide) (hts _ m_X6_readNumber_2) (fun _ h9 => h9) rfl dX6_readNumber_30 ?_
  refine lv_if_ne (tgt := 41) hx hb dX6_readNumber_33 (by decide) (fun h => absurd (by decide) h) (fun _ => ?_)
  refine lv_iload hx hb dX6_readNumber_36 (lv_at hl 0 rfl) ?_
  refine lv_goto (tgt := 42) hx hb dX6_readNumber_38 (by decide) ?_
  exact W.iret hx hb hr (fun t ht hW => ⟨⟨0, (), rfl, rfl, by rw [ht]; exact hP, va_K.moved hW.alike hK, hD⟩, hS.F ht⟩) hS.2.2 dX6_readNumber_42

set_option maxHeartbeats 4000000 in
set_option maxRecDepth 100000 in
theorem cc_32_X6_readForeignFunctions (l : Launch) (dC : Nat → ClassId) (dI : Nat → Nat → Nat) (cy : Nat → ClassId) (sz : Nat) (cb : Nat) (a0 : Nat) (a1 : Nat) (a2 : Nat) (a3 : Nat) (a4 : Nat) (a5 : Nat) (a6 : Nat)  : Met l yX6_readForeignFunctions wsX6_readForeignFunctions ({ frames := 2, cells := 0, slots := 0, locals := 44 }) (va_Pc [.ref a0] (fun U => U.heap.size = sz ∧ va_P (dC, dI) vwCl [(a0, .inr (6, [.int 0, .int 0, .ref a1, .int 11, .int 0, .int 0, .int 0, .int 0, .ref a2])), (a1, .inr (5, [.ref cb, .int 81, .int 0, .ref a3, .int 1, .ref a4, .int 0, .ref a5, .int 1, .int 1, .ref a6, .int 0, .int 0, .int 0, .int 0]))] U.heap ∧ va_K (dC, dI) vwCl (TYS cy) U ∧ va_D (fun _ => True) [(a0, .inr (6, [.int 0, .int 0, .ref a1, .int 11, .int 0, .int 0, .int 0, .int 0, .ref a2])), (a1, .inr (5, [.ref cb, .int 81, .int 0, .ref a3, .int 1, .ref a4, .int 0, .ref a5, .int 1, .int 1, .ref a6, .int 0, .int 0, .int 0, .int 0]))] ∧ NK U ∧ SK cb (va_A [(a0, .inr (6, [.int 0, .int 0, .ref a1, .int 11, .int 0, .int 0, .int 0, .int 0, .ref a2])), (a1, .inr (5, [.ref cb, .int 81, .int 0, .ref a3, .int 1, .ref a4, .int 0, .ref a5, .int 1, .int 1, .ref a6, .int 0, .int 0, .int 0, .int 0]))] sz) U U.heap)) (va_Qv (fun u : Unit => True) (fun u t => va_P (dC, dI) vwCl [(a0, .inr (6, [.int 0, .int 0, .ref a1, .int 12, .int 0, .int 0, .int 0, .int 0, .ref a2])), (a1, .inr (5, [.ref cb, .int 81, .int 0, .ref a3, .int 1, .ref a4, .int 0, .ref a5, .int 1, .int 1, .ref a6, .int 0, .int 0, .int 0, .int 0]))] t.heap ∧ va_K (dC, dI) vwCl (TYS cy) t ∧ va_D (va_A [(a0, .inr (6, [.int 0, .int 0, .ref a1, .int 11, .int 0, .int 0, .int 0, .int 0, .ref a2])), (a1, .inr (5, [.ref cb, .int 81, .int 0, .ref a3, .int 1, .ref a4, .int 0, .ref a5, .int 1, .int 1, .ref a6, .int 0, .int 0, .int 0, .int 0]))] sz) [(a0, .inr (6, [.int 0, .int 0, .ref a1, .int 12, .int 0, .int 0, .int 0, .int 0, .ref a2])), (a1, .inr (5, [.ref cb, .int 81, .int 0, .ref a3, .int 1, .ref a4, .int 0, .ref a5, .int 1, .int 1, .ref a6, .int 0, .int 0, .int 0, .int 0]))]) (va_A [(a0, .inr (6, [.int 0, .int 0, .ref a1, .int 11, .int 0, .int 0, .int 0, .int 0, .ref a2])), (a1, .inr (5, [.ref cb, .int 81, .int 0, .ref a3, .int 1, .ref a4, .int 0, .ref a5, .int 1, .int 1, .ref a6, .int 0, .int 0, .int 0, .int 0]))] sz)) 0 0 (va_A [(a0, .inr (6, [.int 0, .int 0, .ref a1, .int 11, .int 0, .int 0, .int 0, .int 0, .ref a2])), (a1, .inr (5, [.ref cb, .int 81, .int 0, .ref a3, .int 1, .ref a4, .int 0, .ref a5, .int 1, .int 1, .ref a6, .int 0, .int 0, .int 0, .int 0]))] sz) := by
  refine Met.ofW (cc := cX6_readForeignFunctions) (maxL := 3) (ret := none) (by decide) rfl ?_
  intro p e s m args below meth c s₁ B hml hv
  obtain ⟨rfl, hsz, hP, hK, hD0, hN, hSK⟩ := hv
  have hx := B.exec
  have hb := B.bytes
  have hr := B.returns
  have hts := atoms_spec (ws := wsX6_readForeignFunctions) B.pre
  have hown : s.vm.findClass RX6 = some m.cls := findClass_of_methodNamed B.named
  have hlocks := B.notSynchronized
  subst hsz
  have hD := hD0.self (sz := s.heap.size)
  generalize hAe : va_A [(a0, .inr (6, [.int 0, .int 0, .ref a1, .int 11, .int 0, .int 0, .int 0, .int 0, .ref a2])), (a1, .inr (5, [.ref cb, .int 81, .int 0, .ref a3, .int 1, .ref a4, .int 0, .ref a5, .int 1, .int 1, .ref a6, .int 0, .int 0, .int 0, .int 0]))] s.heap.size = A at hD hSK ⊢
  have hA : ∀ q : Nat, s.heap.size ≤ q → A q := fun q h => by rw [← hAe]; exact Or.inr h
  have hS : va_S A s.heap s.heap [] := va_S.rf
  have hP : va_P (dC, dI) vwCl [(a0, .inr (6, [.int 0, .int 0, .ref a1, .int 11, .int 0, .int 0, .int 0, .int 0, .ref a2])), (a1, .inr (5, [.ref cb, .int 81, .int 0, .ref a3, .int 1, .ref a4, .int 0, .ref a5, .int 1, .int 1, .ref a6, .int 0, .int 0, .int 0, .int 0]))] s.heap := hP
  have hl := lv_entry ([.ref a0]) (n := 3) (Nat.le_of_ble_eq_true rfl)
  rw [lg_entry_eq]
  generalize (lg_sl ([.ref a0]) ++ List.replicate (3 - (lg_sl ([.ref a0])).length) Slot.unset).toArray = ls at hl ⊢
  replace hl : lv_has ls 3 [(0, .ref a0)] := hl
  refine lv_aload_n hx hb dX6_readForeignFunctions_0 rfl (lv_at hl 0 rfl) ?_
  refine va_get (D := (dC, dI)) (ci := 6) (v := .ref a1) (C := RX6) (T := TX6) (N := 9) hx hb hts iw_X6_readForeignFunctions_X6 hown hK hP 0 rfl rfl 2 (by decide) (hts _ m_X6_readForeignFunctions_1) (fun _ h9 => h9) rfl dX6_readForeignFunctions_1 ?_
  refine lv_aload_n hx hb dX6_readForeignFunctions_4 rfl (lv_at hl 0 rfl) ?_
  refine lv_iconst (v := 0) hx hb dX6_readForeignFunctions_5 (by decide) ?_
  refine lv_bipush (v := 32) hx hb dX6_readForeignFunctions_6 (by decide) ?_
  have hPc := hP.sub (ws' := [(a0, .inr (6, [.int 0, .int 0, .ref a1, .int 11, .int 0, .int 0, .int 0, .int 0, .ref a2])), (a1, .inr (5, [.ref cb, .int 81, .int 0, .ref a3, .int 1, .ref a4, .int 0, .ref a5, .int 1, .int 1, .ref a6, .int 0, .int 0, .int 0, .int 0]))]) [0, 1] rfl
  have hDc := hD.sub (ws' := [(a0, .inr (6, [.int 0, .int 0, .ref a1, .int 11, .int 0, .int 0, .int 0, .int 0, .ref a2])), (a1, .inr (5, [.ref cb, .int 81, .int 0, .ref a3, .int 1, .ref a4, .int 0, .ref a5, .int 1, .int 1, .ref a6, .int 0, .int 0, .int 0, .int 0]))]) [0, 1] (by decide) rfl
  have hFc := va_free (wc := [(a0, .inr (6, [.int 0, .int 0, .ref a1, .int 11, .int 0, .int 0, .int 0, .int 0, .ref a2])), (a1, .inr (5, [.ref cb, .int 81, .int 0, .ref a3, .int 1, .ref a4, .int 0, .ref a5, .int 1, .int 1, .ref a6, .int 0, .int 0, .int 0, .int 0]))]) hD hS hA [0, 1] rfl
  refine va_calli (va_runV (As := [.int 0, .int 32]) (rest := [.ref a1]) ⟨hx, hb, hml, hown, hts⟩ (cc_33_X6_readNumber l dC dI cy s.heap.size cb a0 a1 a2 a3 a4 a5 a6) (cwV 2 hts gX6_readForeignFunctions_X6_readNumber rfl rfl rfl (by decide +kernel) ⟨Nat.le_of_ble_eq_true rfl, Nat.le_of_ble_eq_true rfl⟩) ⟨fun a U g mk q => by obtain ⟨q0, q1, qP, qK, qD, qN, qS⟩ := q; exact ⟨q0, q1, qP, va_K.moved (u := U) (U := U.calling g mk a) (Vm.Alike.refl U.vm) qK, qD, qN.same rfl, SK.moved (u := U) (U := U.calling g mk a) (Vm.Alike.refl U.vm) qS⟩, va_recv hK hPc (ci := 6) (q0 := 0) rfl rfl, fun U hU hW => ⟨rfl, by rw [hU], by rw [hU]; exact hPc, va_K.moved hW.alike hK, hDc.weaken (fun _ _ _ _ => trivial), hN.warm hW, by rw [hU]; exact ((hSK.kept hS.2.1).narrow hFc).moved hW.alike⟩⟩ rfl rfl hl.1 rfl (lv_room (Nat.le_of_ble_eq_true rfl)) dX6_readForeignFunctions_8 ⟨Nat.le_of_ble_eq_true rfl, Nat.le_of_ble_eq_true rfl⟩) hS (fun q _ h => hFc q h) hFc (fun r_1 u t H_2 locs ht hvm hw hB hz1 hk1 hS2 => ?_)
  obtain ⟨hP1, hK1, hD1⟩ := hB
  rw [ht] at hP1
  obtain rfl := hw
  obtain ⟨hP2, hD2⟩ := va_join (wr := []) (w1 := [(a0, .inr (6, [.int 0, .int 0, .ref a1, .int 12, .int 0, .int 0, .int 0, .int 0, .ref a2])), (a1, .inr (5, [.ref cb, .int 81, .int 0, .ref a3, .int 1, .ref a4, .int 0, .ref a5, .int 1, .int 1, .ref a6, .int 0, .int 0, .int 0, .int 0]))]) hP hD [0, 1] [] rfl rfl (by decide) (by decide) hk1 hFc hP1 hD1
  replace hP : va_P (dC, dI) vwCl [(a0, .inr (6, [.int 0, .int 0, .ref a1, .int 12, .int 0, .int 0, .int 0, .int 0, .ref a2])), (a1, .inr (5, [.ref cb, .int 81, .int 0, .ref a3, .int 1, .ref a4, .int 0, .ref a5, .int 1, .int 1, .ref a6, .int 0, .int 0, .int 0, .int 0]))] H_2 := hP2
  replace hD : va_D A [(a0, .inr (6, [.int 0, .int 0, .ref a1, .int 12, .int 0, .int 0, .int 0, .int 0, .ref a2])), (a1, .inr (5, [.ref cb, .int 81, .int 0, .ref a3, .int 1, .ref a4, .int 0, .ref a5, .int 1, .int 1, .ref a6, .int 0, .int 0, .int 0, .int 0]))] := hD2
  replace hS := hS2
  clear hP2 hD2 hS2
  clear hPc hDc hFc hP1 hD1 hK1 hk1 hz1 hvm ht
  refine W.widen (k := 0) (n := 0) (Nat.le_of_ble_eq_true rfl) (Nat.le_of_ble_eq_true rfl) ?_
  refine va_put (D := (dC, dI)) (ci := 5) (v := .int 0) (ty := .int) (C := RX5) (T := TX5) (N := 15) hx hb hts iw_X6_readForeignFunctions_X5 tyX5 tyX5_ok nmX5 hown hK hP hD hS 1 rfl rfl 12 (by decide) (hts _ m_X6_readForeignFunctions_2) (fun _ h9 => h9) rfl (by decide +kernel) rfl rfl (Nat.le_of_ble_eq_true rfl) dX6_readForeignFunctions_11 (fun H_3 locs hP2 hD2 hS2 => ?_)
  replace hP : va_P (dC, dI) vwCl [(a0, .inr (6, [.int 0, .int 0, .ref a1, .int 12, .int 0, .int 0, .int 0, .int 0, .ref a2])), (a1, .inr (5, [.ref cb, .int 81, .int 0, .ref a3, .int 1, .ref a4, .int 0, .ref a5, .int 1, .int 1, .ref a6, .int 0, .int 0, .int 0, .int 0]))] H_3 := hP2
  replace hD : va_D A [(a0, .inr (6, [.int 0, .int 0, .ref a1, .int 12, .int 0, .int 0, .int 0, .int 0, .ref a2])), (a1, .inr (5, [.ref cb, .int 81, .int 0, .ref a3, .int 1, .ref a4, .int 0, .ref a5, .int 1, .int 1, .ref a6, .int 0, .int 0, .int 0, .int 0]))] := hD2
  replace hS := hS2
  clear hP2 hD2 hS2
  refine lv_iconst (v := 0) hx hb dX6_readForeignFunctions_14 (by decide) ?_
  refine lv_istore_n (lv' := [(1, .int 0), (0, .ref a0)]) hx hb dX6_readForeignFunctions_15 rfl hl (by decide) rfl (fun ls hl2 => ?_)
  replace hl := hl2
  clear hl2
  refine lv_iload_n hx hb dX6_readForeignFunctions_16 rfl (lv_at hl 0 rfl) ?_
  refine lv_aload_n hx hb dX6_readForeignFunctions_17 rfl (lv_at hl 1 rfl) ?_
  refine va_get (D := (dC, dI)) (ci := 6) (v := .ref a1) (C := RX6) (T := TX6) (N := 9) hx hb hts iw_X6_readForeignFunctions_X6 hown hK hP 0 rfl rfl 2 (by decide) (hts _ m_X6_readForeignFunctions_1) (fun _ h9 => h9) rfl dX6_readForeignFunctions_18 ?_
  refine va_get (D := (dC, dI)) (ci := 5) (v := .int 0) (C := RX5) (T := TX5) (N := 15) hx hb hts iw_X6_readForeignFunctions_X5 hown hK hP 1 rfl rfl 12 (by decide) (hts _ m_X6_readForeignFunctions_2) (fun _ h9 => h9) rfl dX6_readForeignFunctions_21 ?_
  refine lv_icmp_ge (tgt := 156) hx hb dX6_readForeignFunctions_24 (by decide) (fun _ => ?_) (fun h => absurd (by decide) h)
  exact W.vret hx hb hr (fun t ht hW => ⟨⟨(), rfl, trivial, by rw [ht]; exact hP, va_K.moved hW.alike hK, hD⟩, hS.F ht⟩) hS.2.2 dX6_readForeignFunctions_156

set_option maxHeartbeats 4000000 in
set_option maxRecDepth 100000 in
theorem cc_36_X6_readByte (l : Launch) (dC : Nat → ClassId) (dI : Nat → Nat → Nat) (cy : Nat → ClassId) (sz : Nat) (cb : Nat) (a0 : Nat) (a1 : Nat) (a2 : Nat) (a3 : Nat) (a4 : Nat) (a5 : Nat) (a6 : Nat)  : Met l yX6_readByte wsX6_readByte ({ frames := 0, cells := 0, slots := 0, locals := 0 }) (va_Pc [.ref a0] (fun U => U.heap.size = sz ∧ va_P (dC, dI) vwCl [(a0, .inr (6, [.int 0, .int 0, .ref a1, .int 12, .int 0, .int 0, .int 0, .int 0, .ref a2])), (a1, .inr (5, [.ref cb, .int 81, .int 0, .ref a3, .int 1, .ref a4, .int 0, .ref a5, .int 1, .int 1, .ref a6, .int 0, .int 0, .int 1, .int 0]))] U.heap ∧ va_K (dC, dI) vwCl (TYS cy) U ∧ va_D (fun _ => True) [(a0, .inr (6, [.int 0, .int 0, .ref a1, .int 12, .int 0, .int 0, .int 0, .int 0, .ref a2])), (a1, .inr (5, [.ref cb, .int 81, .int 0, .ref a3, .int 1, .ref a4, .int 0, .ref a5, .int 1, .int 1, .ref a6, .int 0, .int 0, .int 1, .int 0]))] ∧ NK U ∧ SK cb (va_A [(a0, .inr (6, [.int 0, .int 0, .ref a1, .int 12, .int 0, .int 0, .int 0, .int 0, .ref a2])), (a1, .inr (5, [.ref cb, .int 81, .int 0, .ref a3, .int 1, .ref a4, .int 0, .ref a5, .int 1, .int 1, .ref a6, .int 0, .int 0, .int 1, .int 0]))] sz) U U.heap)) (va_Qi (fun (r : Int32) (u : Unit) => r = 0) (fun u t => va_P (dC, dI) vwCl [(a0, .inr (6, [.int 0, .int 0, .ref a1, .int 13, .int 0, .int 0, .int 0, .int 0, .ref a2])), (a1, .inr (5, [.ref cb, .int 81, .int 0, .ref a3, .int 1, .ref a4, .int 0, .ref a5, .int 1, .int 1, .ref a6, .int 0, .int 0, .int 1, .int 0]))] t.heap ∧ va_K (dC, dI) vwCl (TYS cy) t ∧ va_D (va_A [(a0, .inr (6, [.int 0, .int 0, .ref a1, .int 12, .int 0, .int 0, .int 0, .int 0, .ref a2])), (a1, .inr (5, [.ref cb, .int 81, .int 0, .ref a3, .int 1, .ref a4, .int 0, .ref a5, .int 1, .int 1, .ref a6, .int 0, .int 0, .int 1, .int 0]))] sz) [(a0, .inr (6, [.int 0, .int 0, .ref a1, .int 13, .int 0, .int 0, .int 0, .int 0, .ref a2])), (a1, .inr (5, [.ref cb, .int 81, .int 0, .ref a3, .int 1, .ref a4, .int 0, .ref a5, .int 1, .int 1, .ref a6, .int 0, .int 0, .int 1, .int 0]))]) (va_A [(a0, .inr (6, [.int 0, .int 0, .ref a1, .int 12, .int 0, .int 0, .int 0, .int 0, .ref a2])), (a1, .inr (5, [.ref cb, .int 81, .int 0, .ref a3, .int 1, .ref a4, .int 0, .ref a5, .int 1, .int 1, .ref a6, .int 0, .int 0, .int 1, .int 0]))] sz)) 0 0 (va_A [(a0, .inr (6, [.int 0, .int 0, .ref a1, .int 12, .int 0, .int 0, .int 0, .int 0, .ref a2])), (a1, .inr (5, [.ref cb, .int 81, .int 0, .ref a3, .int 1, .ref a4, .int 0, .ref a5, .int 1, .int 1, .ref a6, .int 0, .int 0, .int 1, .int 0]))] sz) := by
  refine Met.ofW (cc := cX6_readByte) (maxL := 1) (ret := (some .int)) (by decide) rfl ?_
  intro p e s m args below meth c s₁ B hml hv
  obtain ⟨rfl, hsz, hP, hK, hD0, hN, hSK⟩ := hv
  have hx := B.exec
  have hb := B.bytes
  have hr := B.returns
  have hts := atoms_spec (ws := wsX6_readByte) B.pre
  have hown : s.vm.findClass RX6 = some m.cls := findClass_of_methodNamed B.named
  have hlocks := B.notSynchronized
  subst hsz
  have hD := hD0.self (sz := s.heap.size)
  generalize hAe : va_A [(a0, .inr (6, [.int 0, .int 0, .ref a1, .int 12, .int 0, .int 0, .int 0, .int 0, .ref a2])), (a1, .inr (5, [.ref cb, .int 81, .int 0, .ref a3, .int 1, .ref a4, .int 0, .ref a5, .int 1, .int 1, .ref a6, .int 0, .int 0, .int 1, .int 0]))] s.heap.size = A at hD hSK ⊢
  have hA : ∀ q : Nat, s.heap.size ≤ q → A q := fun q h => by rw [← hAe]; exact Or.inr h
  have hS : va_S A s.heap s.heap [] := va_S.rf
  have hP : va_P (dC, dI) vwCl [(a0, .inr (6, [.int 0, .int 0, .ref a1, .int 12, .int 0, .int 0, .int 0, .int 0, .ref a2])), (a1, .inr (5, [.ref cb, .int 81, .int 0, .ref a3, .int 1, .ref a4, .int 0, .ref a5, .int 1, .int 1, .ref a6, .int 0, .int 0, .int 1, .int 0]))] s.heap := hP
  have hl := lv_entry ([.ref a0]) (n := 1) (Nat.le_of_ble_eq_true rfl)
  rw [lg_entry_eq]
  generalize (lg_sl ([.ref a0]) ++ List.replicate (1 - (lg_sl ([.ref a0])).length) Slot.unset).toArray = ls at hl ⊢
  replace hl : lv_has ls 1 [(0, .ref a0)] := hl
  refine lv_aload_n hx hb dX6_readByte_0 rfl (lv_at hl 0 rfl) ?_
  refine va_get (D := (dC, dI)) (ci := 6) (v := .int 0) (C := RX6) (T := TX6) (N := 9) hx hb hts iw_X6_readByte_X6 hown hK hP 0 rfl rfl 1 (by decide) (hts _ m_X6_readByte_1) (fun _ h9 => h9) rfl dX6_readByte_1 ?_
  refine lv_if_eq (tgt := 9) hx hb dX6_readByte_4 (by decide) (fun _ => ?_) (fun h => absurd (by decide) h)
  refine lv_aload_n hx hb dX6_readByte_9 rfl (lv_at hl 0 rfl) ?_
  refine va_get (D := (dC, dI)) (ci := 6) (v := .int 12) (C := RX6) (T := TX6) (N := 9) hx hb hts iw_X6_readByte_X6 hown hK hP 0 rfl rfl 3 (by decide) (hts _ m_X6_readByte_2) (fun _ h9 => h9) rfl dX6_readByte_10 ?_
  refine lv_aload_n hx hb dX6_readByte_13 rfl (lv_at hl 0 rfl) ?_
  refine va_get (D := (dC, dI)) (ci := 6) (v := .ref a1) (C := RX6) (T := TX6) (N := 9) hx hb hts iw_X6_readByte_X6 hown hK hP 0 rfl rfl 2 (by decide) (hts _ m_X6_readByte_3) (fun _ h9 => h9) rfl dX6_readByte_14 ?_
  refine va_get (D := (dC, dI)) (ci := 5) (v := .int 81) (C := RX5) (T := TX5) (N := 15) hx hb hts iw_X6_readByte_X5 hown hK hP 1 rfl rfl 1 (by decide) (hts _ m_X6_readByte_4) (fun _ h9 => h9) rfl dX6_readByte_17 ?_
  refine lv_icmp_lt (tgt := 41) hx hb dX6_readByte_20 (by decide) (fun _ => ?_) (fun h => absurd (by decide) h)
  refine lv_aload_n hx hb dX6_readByte_41 rfl (lv_at hl 0 rfl) ?_
  refine va_get (D := (dC, dI)) (ci := 6) (v := .ref a1) (C := RX6) (T := TX6) (N := 9) hx hb hts iw_X6_readByte_X6 hown hK hP 0 rfl rfl 2 (by decide) (hts _ m_X6_readByte_3) (fun _ h9 => h9) rfl dX6_readByte_42 ?_
  refine va_get (D := (dC, dI)) (ci := 5) (v := .ref cb) (C := RX5) (T := TX5) (N := 15) hx hb hts iw_X6_readByte_X5 hown hK hP 1 rfl rfl 0 (by decide) (hts _ m_X6_readByte_6) (fun _ h9 => h9) rfl dX6_readByte_45 ?_
  refine lv_aload_n hx hb dX6_readByte_48 rfl (lv_at hl 0 rfl) ?_
  refine lv_dup hx hb dX6_readByte_49 rfl ?_
  refine va_get (D := (dC, dI)) (ci := 6) (v := .int 12) (C := RX6) (T := TX6) (N := 9) hx hb hts iw_X6_readByte_X6 hown hK hP 0 rfl rfl 3 (by decide) (hts _ m_X6_readByte_2) (fun _ h9 => h9) rfl dX6_readByte_50 ?_
  refine lv_dup_x1 hx hb dX6_readByte_53 rfl rfl ?_
  refine lv_iconst (v := 1) hx hb dX6_readByte_54 (by decide) ?_
  refine lv_iadd hx hb dX6_readByte_55 ?_
  refine lv_topi (fun z_1 ez_1 => ?_)
  obtain rfl : z_1 = 13 := ez_1.trans (by decide)
  clear ez_1
  refine va_put (D := (dC, dI)) (ci := 6) (v := .int 13) (ty := .int) (C := RX6) (T := TX6) (N := 9) hx hb hts iw_X6_readByte_X6 tyX6 tyX6_ok nmX6 hown hK hP hD hS 0 rfl rfl 3 (by decide) (hts _ m_X6_readByte_2) (fun _ h9 => h9) rfl (by decide +kernel) rfl rfl (Nat.le_of_ble_eq_true rfl) dX6_readByte_56 (fun H_2 locs hP2 hD2 hS2 => ?_)
  replace hP : va_P (dC, dI) vwCl [(a0, .inr (6, [.int 0, .int 0, .ref a1, .int 13, .int 0, .int 0, .int 0, .int 0, .ref a2])), (a1, .inr (5, [.ref cb, .int 81, .int 0, .ref a3, .int 1, .ref a4, .int 0, .ref a5, .int 1, .int 1, .ref a6, .int 0, .int 0, .int 1, .int 0]))] H_2 := hP2
  replace hD : va_D A [(a0, .inr (6, [.int 0, .int 0, .ref a1, .int 13, .int 0, .int 0, .int 0, .int 0, .ref a2])), (a1, .inr (5, [.ref cb, .int 81, .int 0, .ref a3, .int 1, .ref a4, .int 0, .ref a5, .int 1, .int 1, .ref a6, .int 0, .int 0, .int 1, .int 0]))] := hD2
  replace hS := hS2
  clear hP2 hD2 hS2
  refine va_tb (v := .int 0) hx hb hSK.2 hS (by unfold vp_in; decide) rfl dX6_readByte_59 ?_
  refine lv_sipush (v := 255) hx hb dX6_readByte_60 (by decide) ?_
  refine lv_iand hx hb dX6_readByte_63 ?_
  refine lv_topi (fun z_3 ez_3 => ?_)
  obtain rfl : z_3 = 0 := ez_3.trans (by decide)
  clear ez_3
  exact W.iret hx hb hr (fun t ht hW => ⟨⟨0, (), rfl, rfl, by rw [ht]; exact hP, va_K.moved hW.alike hK, hD⟩, hS.F ht⟩) hS.2.2 dX6_readByte_64

set_option maxHeartbeats 4000000 in
set_option maxRecDepth 100000 in
theorem cc_35_X6_readNumber (l : Launch) (dC : Nat → ClassId) (dI : Nat → Nat → Nat) (cy : Nat → ClassId) (sz : Nat) (cb : Nat) (a0 : Nat) (a1 : Nat) (a2 : Nat) (a3 : Nat) (a4 : Nat) (a5 : Nat) (a6 : Nat)  : Met l yX6_readNumber wsX6_readNumber ({ frames := 1, cells := 0, slots := 0, locals := 20 }) (va_Pc [.ref a0, .int 0, .int 32] (fun U => U.heap.size = sz ∧ va_P (dC, dI) vwCl [(a0, .inr (6, [.int 0, .int 0, .ref a1, .int 12, .int 0, .int 0, .int 0, .int 0, .ref a2])), (a1, .inr (5, [.ref cb, .int 81, .int 0, .ref a3, .int 1, .ref a4, .int 0, .ref a5, .int 1, .int 1, .ref a6, .int 0, .int 0, .int 1, .int 0]))] U.heap ∧ va_K (dC, dI) vwCl (TYS cy) U ∧ va_D (fun _ => True) [(a0, .inr (6, [.int 0, .int 0, .ref a1, .int 12, .int 0, .int 0, .int 0, .int 0, .ref a2])), (a1, .inr (5, [.ref cb, .int 81, .int 0, .ref a3, .int 1, .ref a4, .int 0, .ref a5, .int 1, .int 1, .ref a6, .int 0, .int 0, .int 1, .int 0]))] ∧ NK U ∧ SK cb (va_A [(a0, .inr (6, [.int 0, .int 0, .ref a1, .int 12, .int 0, .int 0, .int 0, .int 0, .ref a2])), (a1, .inr (5, [.ref cb, .int 81, .int 0, .ref a3, .int 1, .ref a4, .int 0, .ref a5, .int 1, .int 1, .ref a6, .int 0, .int 0, .int 1, .int 0]))] sz) U U.heap)) (va_Qi (fun (r : Int32) (u : Unit) => r = 0) (fun u t => va_P (dC, dI) vwCl [(a0, .inr (6, [.int 0, .int 0, .ref a1, .int 13, .int 0, .int 0, .int 0, .int 0, .ref a2])), (a1, .inr (5, [.ref cb, .int 81, .int 0, .ref a3, .int 1, .ref a4, .int 0, .ref a5, .int 1, .int 1, .ref a6, .int 0, .int 0, .int 1, .int 0]))] t.heap ∧ va_K (dC, dI) vwCl (TYS cy) t ∧ va_D (va_A [(a0, .inr (6, [.int 0, .int 0, .ref a1, .int 12, .int 0, .int 0, .int 0, .int 0, .ref a2])), (a1, .inr (5, [.ref cb, .int 81, .int 0, .ref a3, .int 1, .ref a4, .int 0, .ref a5, .int 1, .int 1, .ref a6, .int 0, .int 0, .int 1, .int 0]))] sz) [(a0, .inr (6, [.int 0, .int 0, .ref a1, .int 13, .int 0, .int 0, .int 0, .int 0, .ref a2])), (a1, .inr (5, [.ref cb, .int 81, .int 0, .ref a3, .int 1, .ref a4, .int 0, .ref a5, .int 1, .int 1, .ref a6, .int 0, .int 0, .int 1, .int 0]))]) (va_A [(a0, .inr (6, [.int 0, .int 0, .ref a1, .int 12, .int 0, .int 0, .int 0, .int 0, .ref a2])), (a1, .inr (5, [.ref cb, .int 81, .int 0, .ref a3, .int 1, .ref a4, .int 0, .ref a5, .int 1, .int 1, .ref a6, .int 0, .int 0, .int 1, .int 0]))] sz)) 0 0 (va_A [(a0, .inr (6, [.int 0, .int 0, .ref a1, .int 12, .int 0, .int 0, .int 0, .int 0, .ref a2])), (a1, .inr (5, [.ref cb, .int 81, .int 0, .ref a3, .int 1, .ref a4, .int 0, .ref a5, .int 1, .int 1, .ref a6, .int 0, .int 0, .int 1, .int 0]))] sz) := by
  refine Met.ofW (cc := cX6_readNumber) (maxL := 5) (ret := (some .int)) (by decide) rfl ?_
  intro p e s m args below meth c s₁ B hml hv
  obtain ⟨rfl, hsz, hP, hK, hD0, hN, hSK⟩ := hv
  have hx := B.exec
  have hb := B.bytes
  have hr := B.returns
  have hts := atoms_spec (ws := wsX6_readNumber) B.pre
  have hown : s.vm.findClass RX6 = some m.cls := findClass_of_methodNamed B.named
  have hlocks := B.notSynchronized
  subst hsz
  have hD := hD0.self (sz := s.heap.size)
  generalize hAe : va_A [(a0, .inr (6, [.int 0, .int 0, .ref a1, .int 12, .int 0, .int 0, .int 0, .int 0, .ref a2])), (a1, .inr (5, [.ref cb, .int 81, .int 0, .ref a3, .int 1, .ref a4, .int 0, .ref a5, .int 1, .int 1, .ref a6, .int 0, .int 0, .int 1, .int 0]))] s.heap.size = A at hD hSK ⊢
  have hA : ∀ q : Nat, s.heap.size ≤ q → A q := fun q h => by rw [← hAe]; exact Or.inr h
  have hS : va_S A s.heap s.heap [] := va_S.rf
  have hP : va_P (dC, dI) vwCl [(a0, .inr (6, [.int 0, .int 0, .ref a1, .int 12, .int 0, .int 0, .int 0, .int 0, .ref a2])), (a1, .inr (5, [.ref cb, .int 81, .int 0, .ref a3, .int 1, .ref a4, .int 0, .ref a5, .int 1, .int 1, .ref a6, .int 0, .int 0, .int 1, .int 0]))] s.heap := hP
  have hl := lv_entry ([.ref a0, .int 0, .int 32]) (n := 5) (Nat.le_of_ble_eq_true rfl)
  rw [lg_entry_eq]
  generalize (lg_sl ([.ref a0, .int 0, .int 32]) ++ List.replicate (5 - (lg_sl ([.ref a0, .int 0, .int 32])).length) Slot.unset).toArray = ls at hl ⊢
  replace hl : lv_has ls 5 [(0, .ref a0), (1, .int 0), (2, .int 32)] := hl
  refine lv_aload_n hx hb dX6_readNumber_0 rfl (lv_at hl 0 rfl) ?_
  refine va_get (D := (dC, dI)) (ci := 6) (v := .int 12) (C := RX6) (T := TX6) (N := 9) hx hb hts iw_X6_readNumber_X6 hown hK hP 0 rfl rfl 3 (by decide) (hts _ m_X6_readNumber_1) (fun _ h9 => h9) rfl dX6_readNumber_1 ?_
  refine lv_istore_n (lv' := [(3, .int 12), (0, .ref a0), (1, .int 0), (2, .int 32)]) hx hb dX6_readNumber_4 rfl hl (by decide) rfl (fun ls hl2 => ?_)
  replace hl := hl2
  clear hl2
  refine lv_aload_n hx hb dX6_readNumber_5 rfl (lv_at hl 1 rfl) ?_
  have hPc := hP.sub (ws' := [(a0, .inr (6, [.int 0, .int 0, .ref a1, .int 12, .int 0, .int 0, .int 0, .int 0, .ref a2])), (a1, .inr (5, [.ref cb, .int 81, .int 0, .ref a3, .int 1, .ref a4, .int 0, .ref a5, .int 1, .int 1, .ref a6, .int 0, .int 0, .int 1, .int 0]))]) [0, 1] rfl
  have hDc := hD.sub (ws' := [(a0, .inr (6, [.int 0, .int 0, .ref a1, .int 12, .int 0, .int 0, .int 0, .int 0, .ref a2])), (a1, .inr (5, [.ref cb, .int 81, .int 0, .ref a3, .int 1, .ref a4, .int 0, .ref a5, .int 1, .int 1, .ref a6, .int 0, .int 0, .int 1, .int 0]))]) [0, 1] (by decide) rfl
  have hFc := va_free (wc := [(a0, .inr (6, [.int 0, .int 0, .ref a1, .int 12, .int 0, .int 0, .int 0, .int 0, .ref a2])), (a1, .inr (5, [.ref cb, .int 81, .int 0, .ref a3, .int 1, .ref a4, .int 0, .ref a5, .int 1, .int 1, .ref a6, .int 0, .int 0, .int 1, .int 0]))]) hD hS hA [0, 1] rfl
  refine va_calli (va_runV (As := []) (rest := []) ⟨hx, hb, hml, hown, hts⟩ (cc_36_X6_readByte l dC dI cy s.heap.size cb a0 a1 a2 a3 a4 a5 a6) (cwV 0 hts gX6_readNumber_X6_readByte rfl rfl rfl (by decide +kernel) ⟨Nat.le_of_ble_eq_true rfl, Nat.le_of_ble_eq_true rfl⟩) ⟨fun a U g mk q => by obtain ⟨q0, q1, qP, qK, qD, qN, qS⟩ := q; exact ⟨q0, q1, qP, va_K.moved (u := U) (U := U.calling g mk a) (Vm.Alike.refl U.vm) qK, qD, qN.same rfl, SK.moved (u := U) (U := U.calling g mk a) (Vm.Alike.refl U.vm) qS⟩, va_recv hK hPc (ci := 6) (q0 := 0) rfl rfl, fun U hU hW => ⟨rfl, by rw [hU], by rw [hU]; exact hPc, va_K.moved hW.alike hK, hDc.weaken (fun _ _ _ _ => trivial), hN.warm hW, by rw [hU]; exact ((hSK.kept hS.2.1).narrow hFc).moved hW.alike⟩⟩ rfl rfl hl.1 rfl (lv_room (Nat.le_of_ble_eq_true rfl)) dX6_readNumber_6 ⟨Nat.le_of_ble_eq_true rfl, Nat.le_of_ble_eq_true rfl⟩) hS (fun q _ h => hFc q h) hFc (fun r_1 u t H_2 locs ht hvm hw hB hz1 hk1 hS2 => ?_)
  obtain ⟨hP1, hK1, hD1⟩ := hB
  rw [ht] at hP1
  obtain rfl := hw
  obtain ⟨hP2, hD2⟩ := va_join (wr := []) (w1 := [(a0, .inr (6, [.int 0, .int 0, .ref a1, .int 13, .int 0, .int 0, .int 0, .int 0, .ref a2])), (a1, .inr (5, [.ref cb, .int 81, .int 0, .ref a3, .int 1, .ref a4, .int 0, .ref a5, .int 1, .int 1, .ref a6, .int 0, .int 0, .int 1, .int 0]))]) hP hD [0, 1] [] rfl rfl (by decide) (by decide) hk1 hFc hP1 hD1
  replace hP : va_P (dC, dI) vwCl [(a0, .inr (6, [.int 0, .int 0, .ref a1, .int 13, .int 0, .int 0, .int 0, .int 0, .ref a2])), (a1, .inr (5, [.ref cb, .int 81, .int 0, .ref a3, .int 1, .ref a4, .int 0, .ref a5, .int 1, .int 1, .ref a6, .int 0, .int 0, .int 1, .int 0]))] H_2 := hP2
  replace hD : va_D A [(a0, .inr (6, [.int 0, .int 0, .ref a1, .int 13, .int 0, .int 0, .int 0, .int 0, .ref a2])), (a1, .inr (5, [.ref cb, .int 81, .int 0, .ref a3, .int 1, .ref a4, .int 0, .ref a5, .int 1, .int 1, .ref a6, .int 0, .int 0, .int 1, .int 0]))] := hD2
  replace hS := hS2
  clear hP2 hD2 hS2
  clear hPc hDc hFc hP1 hD1 hK1 hk1 hz1 hvm ht
  refine W.widen (k := 0) (n := 0) (Nat.le_of_ble_eq_true rfl) (Nat.le_of_ble_eq_true rfl) ?_
  refine lv_istore (lv' := [(4, .int 0), (3, .int 12), (0, .ref a0), (1, .int 0), (2, .int 32)]) hx hb dX6_readNumber_9 hl (by decide) rfl (fun ls hl2 => ?_)
  replace hl := hl2
  clear hl2
  refine lv_iload hx hb dX6_readNumber_11 (lv_at hl 0 rfl) ?_
  refine lv_iload_n hx hb dX6_readNumber_13 rfl (lv_at hl 3 rfl) ?_
  refine lv_icmp_lt (tgt := 23) hx hb dX6_readNumber_14 (by decide) (fun h => absurd h (by decide)) (fun _ => ?_)
  refine lv_iload hx hb dX6_readNumber_17 (lv_at hl 0 rfl) ?_
  refine lv_iload_n hx hb dX6_readNumber_19 rfl (lv_at hl 4 rfl) ?_
  refine lv_icmp_le (tgt := 29) hx hb dX6_readNumber_20 (by decide) (fun _ => ?_) (fun h => absurd (by decide) h)
  refine lv_aload_n hx hb dX6_readNumber_29 rfl (lv_at hl 2 rfl) ?_
  refine va_get (D := (dC, dI)) (ci := 6) (v := .int 0) (C := RX6) (T := TX6) (N := 9) hx hb hts iw_X6_readNumber_X6 hown hK hP 0 rfl rfl 1 (by decide) (hts _ m_X6_readNumber_2) (fun _ h9 => h9) rfl dX6_readNumber_30 ?_
  refine lv_if_ne (tgt := 41) hx hb dX6_readNumber_33 (by decide) (fun h => absurd (by decide) h) (fun _ => ?_)
  refine lv_iload hx hb dX6_readNumber_36 (lv_at hl 0 rfl) ?_
  refine lv_goto (tgt := 42) hx hb dX6_readNumber_38 (by decide) ?_
  exact W.iret hx hb hr (fun t ht hW => ⟨⟨0, (), rfl, rfl, by rw [ht]; exact hP, va_K.moved hW.alike hK, hD⟩, hS.F ht⟩) hS.2.2 dX6_readNumber_42

set_option maxHeartbeats 4000000 in
set_option maxRecDepth 100000 in
theorem cc_37_X6_readTypes (l : Launch) (dC : Nat → ClassId) (dI : Nat → Nat → Nat) (cy : Nat → ClassId) (sz : Nat) (cb : Nat) (a0 : Nat) (a1 : Nat) (a2 : Nat)  : Met l yX6_readTypes wsX6_readTypes ({ frames := 0, cells := 0, slots := 0, locals := 0 }) (va_Pc [.ref a0, .int 0, .int 0] (fun U => U.heap.size = sz ∧ va_P (dC, dI) vwCl [(a0, .inr (6, [.int 0, .int 0, .ref a1, .int 13, .int 0, .int 0, .int 0, .int 0, .ref a2]))] U.heap ∧ va_K (dC, dI) vwCl (TYS cy) U ∧ va_D (fun _ => True) [(a0, .inr (6, [.int 0, .int 0, .ref a1, .int 13, .int 0, .int 0, .int 0, .int 0, .ref a2]))] ∧ NK U ∧ SK cb (va_A [(a0, .inr (6, [.int 0, .int 0, .ref a1, .int 13, .int 0, .int 0, .int 0, .int 0, .ref a2]))] sz) U U.heap)) (va_Qv (fun u : Unit => True) (fun u t => va_P (dC, dI) vwCl [(a0, .inr (6, [.int 0, .int 0, .ref a1, .int 13, .int 0, .int 0, .int 0, .int 0, .ref a2]))] t.heap ∧ va_K (dC, dI) vwCl (TYS cy) t ∧ va_D (va_A [(a0, .inr (6, [.int 0, .int 0, .ref a1, .int 13, .int 0, .int 0, .int 0, .int 0, .ref a2]))] sz) [(a0, .inr (6, [.int 0, .int 0, .ref a1, .int 13, .int 0, .int 0, .int 0, .int 0, .ref a2]))]) (va_A [(a0, .inr (6, [.int 0, .int 0, .ref a1, .int 13, .int 0, .int 0, .int 0, .int 0, .ref a2]))] sz)) 0 0 (va_A [(a0, .inr (6, [.int 0, .int 0, .ref a1, .int 13, .int 0, .int 0, .int 0, .int 0, .ref a2]))] sz) := by
  refine Met.ofW (cc := cX6_readTypes) (maxL := 4) (ret := none) (by decide) rfl ?_
  intro p e s m args below meth c s₁ B hml hv
  obtain ⟨rfl, hsz, hP, hK, hD0, hN, hSK⟩ := hv
  have hx := B.exec
  have hb := B.bytes
  have hr := B.returns
  have hts := atoms_spec (ws := wsX6_readTypes) B.pre
  have hown : s.vm.findClass RX6 = some m.cls := findClass_of_methodNamed B.named
  have hlocks := B.notSynchronized
  subst hsz
  have hD := hD0.self (sz := s.heap.size)
  generalize hAe : va_A [(a0, .inr (6, [.int 0, .int 0, .ref a1, .int 13, .int 0, .int 0, .int 0, .int 0, .ref a2]))] s.heap.size = A at hD hSK ⊢
  have hA : ∀ q : Nat, s.heap.size ≤ q → A q := fun q h => by rw [← hAe]; exact Or.inr h
  have hS : va_S A s.heap s.heap [] := va_S.rf
  have hP : va_P (dC, dI) vwCl [(a0, .inr (6, [.int 0, .int 0, .ref a1, .int 13, .int 0, .int 0, .int 0, .int 0, .ref a2]))] s.heap := hP
  have hl := lv_entry ([.ref a0, .int 0, .int 0]) (n := 4) (Nat.le_of_ble_eq_true rfl)
  rw [lg_entry_eq]
  generalize (lg_sl ([.ref a0, .int 0, .int 0]) ++ List.replicate (4 - (lg_sl ([.ref a0, .int 0, .int 0])).length) Slot.unset).toArray = ls at hl ⊢
  replace hl : lv_has ls 4 [(0, .ref a0), (1, .int 0), (2, .int 0)] := hl
  refine lv_iconst (v := 0) hx hb dX6_readTypes_0 (by decide) ?_
  refine lv_istore_n (lv' := [(3, .int 0), (0, .ref a0), (1, .int 0), (2, .int 0)]) hx hb dX6_readTypes_1 rfl hl (by decide) rfl (fun ls hl2 => ?_)
  replace hl := hl2
  clear hl2
  refine lv_iload_n hx hb dX6_readTypes_2 rfl (lv_at hl 0 rfl) ?_
  refine lv_iload_n hx hb dX6_readTypes_3 rfl (lv_at hl 2 rfl) ?_
  refine lv_icmp_ge (tgt := 32) hx hb dX6_readTypes_4 (by decide) (fun _ => ?_) (fun h => absurd (by decide) h)
  exact W.vret hx hb hr (fun t ht hW => ⟨⟨(), rfl, trivial, by rw [ht]; exact hP, va_K.moved hW.alike hK, hD⟩, hS.F ht⟩) hS.2.2 dX6_readTypes_32

set_option maxHeartbeats 4000000 in
set_option maxRecDepth 100000 in
theorem cc_40_X6_readByte (l : Launch) (dC : Nat → ClassId) (dI : Nat → Nat → Nat) (cy : Nat → ClassId) (sz : Nat) (cb : Nat) (a0 : Nat) (a1 : Nat) (a2 : Nat) (a3 : Nat) (a4 : Nat) (a5 : Nat) (a6 : Nat)  : Met l yX6_readByte wsX6_readByte ({ frames := 0, cells := 0, slots := 0, locals := 0 }) (va_Pc [.ref a0] (fun U => U.heap.size = sz ∧ va_P (dC, dI) vwCl [(a0, .inr (6, [.int 0, .int 0, .ref a1, .int 13, .int 0, .int 0, .int 0, .int 0, .ref a2])), (a1, .inr (5, [.ref cb, .int 81, .int 0, .ref a3, .int 1, .ref a4, .int 0, .ref a5, .int 1, .int 1, .ref a6, .int 0, .int 0, .int 1, .int 0]))] U.heap ∧ va_K (dC, dI) vwCl (TYS cy) U ∧ va_D (fun _ => True) [(a0, .inr (6, [.int 0, .int 0, .ref a1, .int 13, .int 0, .int 0, .int 0, .int 0, .ref a2])), (a1, .inr (5, [.ref cb, .int 81, .int 0, .ref a3, .int 1, .ref a4, .int 0, .ref a5, .int 1, .int 1, .ref a6, .int 0, .int 0, .int 1, .int 0]))] ∧ NK U ∧ SK cb (va_A [(a0, .inr (6, [.int 0, .int 0, .ref a1, .int 13, .int 0, .int 0, .int 0, .int 0, .ref a2])), (a1, .inr (5, [.ref cb, .int 81, .int 0, .ref a3, .int 1, .ref a4, .int 0, .ref a5, .int 1, .int 1, .ref a6, .int 0, .int 0, .int 1, .int 0]))] sz) U U.heap)) (va_Qi (fun (r : Int32) (u : Unit) => r = 6) (fun u t => va_P (dC, dI) vwCl [(a0, .inr (6, [.int 0, .int 0, .ref a1, .int 14, .int 0, .int 0, .int 0, .int 0, .ref a2])), (a1, .inr (5, [.ref cb, .int 81, .int 0, .ref a3, .int 1, .ref a4, .int 0, .ref a5, .int 1, .int 1, .ref a6, .int 0, .int 0, .int 1, .int 0]))] t.heap ∧ va_K (dC, dI) vwCl (TYS cy) t ∧ va_D (va_A [(a0, .inr (6, [.int 0, .int 0, .ref a1, .int 13, .int 0, .int 0, .int 0, .int 0, .ref a2])), (a1, .inr (5, [.ref cb, .int 81, .int 0, .ref a3, .int 1, .ref a4, .int 0, .ref a5, .int 1, .int 1, .ref a6, .int 0, .int 0, .int 1, .int 0]))] sz) [(a0, .inr (6, [.int 0, .int 0, .ref a1, .int 14, .int 0, .int 0, .int 0, .int 0, .ref a2])), (a1, .inr (5, [.ref cb, .int 81, .int 0, .ref a3, .int 1, .ref a4, .int 0, .ref a5, .int 1, .int 1, .ref a6, .int 0, .int 0, .int 1, .int 0]))]) (va_A [(a0, .inr (6, [.int 0, .int 0, .ref a1, .int 13, .int 0, .int 0, .int 0, .int 0, .ref a2])), (a1, .inr (5, [.ref cb, .int 81, .int 0, .ref a3, .int 1, .ref a4, .int 0, .ref a5, .int 1, .int 1, .ref a6, .int 0, .int 0, .int 1, .int 0]))] sz)) 0 0 (va_A [(a0, .inr (6, [.int 0, .int 0, .ref a1, .int 13, .int 0, .int 0, .int 0, .int 0, .ref a2])), (a1, .inr (5, [.ref cb, .int 81, .int 0, .ref a3, .int 1, .ref a4, .int 0, .ref a5, .int 1, .int 1, .ref a6, .int 0, .int 0, .int 1, .int 0]))] sz) := by
  refine Met.ofW (cc := cX6_readByte) (maxL := 1) (ret := (some .int)) (by decide) rfl ?_
  intro p e s m args below meth c s₁ B hml hv
  obtain ⟨rfl, hsz, hP, hK, hD0, hN, hSK⟩ := hv
  have hx := B.exec
  have hb := B.bytes
  have hr := B.returns
  have hts := atoms_spec (ws := wsX6_readByte) B.pre
  have hown : s.vm.findClass RX6 = some m.cls := findClass_of_methodNamed B.named
  have hlocks := B.notSynchronized
  subst hsz
  have hD := hD0.self (sz := s.heap.size)
  generalize hAe : va_A [(a0, .inr (6, [.int 0, .int 0, .ref a1, .int 13, .int 0, .int 0, .int 0, .int 0, .ref a2])), (a1, .inr (5, [.ref cb, .int 81, .int 0, .ref a3, .int 1, .ref a4, .int 0, .ref a5, .int 1, .int 1, .ref a6, .int 0, .int 0, .int 1, .int 0]))] s.heap.size = A at hD hSK ⊢
  have hA : ∀ q : Nat, s.heap.size ≤ q → A q := fun q h => by rw [← hAe]; exact Or.inr h
  have hS : va_S A s.heap s.heap [] := va_S.rf
  have hP : va_P (dC, dI) vwCl [(a0, .inr (6, [.int 0, .int 0, .ref a1, .int 13, .int 0, .int 0, .int 0, .int 0, .ref a2])), (a1, .inr (5, [.ref cb, .int 81, .int 0, .ref a3, .int 1, .ref a4, .int 0, .ref a5, .int 1, .int 1, .ref a6, .int 0, .int 0, .int 1, .int 0]))] s.heap := hP
  have hl := lv_entry ([.ref a0]) (n := 1) (Nat.le_of_ble_eq_true rfl)
  rw [lg_entry_eq]
  generalize (lg_sl ([.ref a0]) ++ List.replicate (1 - (lg_sl ([.ref a0])).length) Slot.unset).toArray = ls at hl ⊢
  replace hl : lv_has ls 1 [(0, .ref a0)] := hl
  refine lv_aload_n hx hb dX6_readByte_0 rfl (lv_at hl 0 rfl) ?_
  refine va_get (D := (dC, dI)) (ci := 6) (v := .int 0) (C := RX6) (T := TX6) (N := 9) hx hb hts iw_X6_readByte_X6 hown hK hP 0 rfl rfl 1 (by decide) (hts _ m_X6_readByte_1) (fun _ h9 => h9) rfl dX6_readByte_1 ?_
  refine lv_if_eq (tgt := 9) hx hb dX6_readByte_4 (by decide) (fun _ => ?_) (fun h => absurd (by decide) h)
  refine lv_aload_n hx hb dX6_readByte_9 rfl (lv_at hl 0 rfl) ?_
  refine va_get (D := (dC, dI)) (ci := 6) (v := .int 13) (C := RX6) (T := TX6) (N := 9) hx hb hts iw_X6_readByte_X6 hown hK hP 0 rfl rfl 3 (by decide) (hts _ m_X6_readByte_2) (fun _ h9 => h9) rfl dX6_readByte_10 ?_
  refine lv_aload_n hx hb dX6_readByte_13 rfl (lv_at hl 0 rfl) ?_
  refine va_get (D := (dC, dI)) (ci := 6) (v := .ref a1) (C := RX6) (T := TX6) (N := 9) hx hb hts iw_X6_readByte_X6 hown hK hP 0 rfl rfl 2 (by decide) (hts _ m_X6_readByte_3) (fun _ h9 => h9) rfl dX6_readByte_14 ?_
  refine va_get (D := (dC, dI)) (ci := 5) (v := .int 81) (C := RX5) (T := TX5) (N := 15) hx hb hts iw_X6_readByte_X5 hown hK hP 1 rfl rfl 1 (by decide) (hts _ m_X6_readByte_4) (fun _ h9 => h9) rfl dX6_readByte_17 ?_
  refine lv_icmp_lt (tgt := 41) hx hb dX6_readByte_20 (by decide) (fun _ => ?_) (fun h => absurd (by decide) h)
  refine lv_aload_n hx hb dX6_readByte_41 rfl (lv_at hl 0 rfl) ?_
  refine va_get (D := (dC, dI)) (ci := 6) (v := .ref a1) (C := RX6) (T := TX6) (N := 9) hx hb hts iw_X6_readByte_X6 hown hK hP 0 rfl rfl 2 (by decide) (hts _ m_X6_readByte_3) (fun _ h9 => h9) rfl dX6_readByte_42 ?_
  refine va_get (D := (dC, dI)) (ci := 5) (v := .ref cb) (C := RX5) (T := TX5) (N := 15) hx hb hts iw_X6_readByte_X5 hown hK hP 1 rfl rfl 0 (by decide) (hts _ m_X6_readByte_6) (fun _ h9 => h9) rfl dX6_readByte_45 ?_
  refine lv_aload_n hx hb dX6_readByte_48 rfl (lv_at hl 0 rfl) ?_
  refine lv_dup hx hb dX6_readByte_49 rfl ?_
  refine va_get (D := (dC, dI)) (ci := 6) (v := .int 13) (C := RX6) (T := TX6) (N := 9) hx hb hts iw_X6_readByte_X6 hown hK hP 0 rfl rfl 3 (by decide) (hts _ m_X6_readByte_2) (fun _ h9 => h9) rfl dX6_readByte_50 ?_
  refine lv_dup_x1 hx hb dX6_readByte_53 rfl rfl ?_
  refine lv_iconst (v := 1) hx hb dX6_readByte_54 (by decide) ?_
  refine lv_iadd hx hb dX6_readByte_55 ?_
  refine lv_topi (fun z_1 ez_1 => ?_)
  obtain rfl : z_1 = 14 := ez_1.trans (by decide)
  clear ez_1
  refine va_put (D := (dC, dI)) (ci := 6) (v := .int 14) (ty := .int) (C := RX6) (T := TX6) (N := 9) hx hb hts iw_X6_readByte_X6 tyX6 tyX6_ok nmX6 hown hK hP hD hS 0 rfl rfl 3 (by decide) (hts _ m_X6_readByte_2) (fun _ h9 => h9) rfl (by decide +kernel) rfl rfl (Nat.le_of_ble_eq_true rfl) dX6_readByte_56 (fun H_2 locs hP2 hD2 hS2 => ?_)
  replace hP : va_P (dC, dI) vwCl [(a0, .inr (6, [.int 0, .int 0, .ref a1, .int 14, .int 0, .int 0, .int 0, .int 0, .ref a2])), (a1, .inr (5, [.ref cb, .int 81, .int 0, .ref a3, .int 1, .ref a4, .int 0, .ref a5, .int 1, .int 1, .ref a6, .int 0, .int 0, .int 1, .int 0]))] H_2 := hP2
  replace hD : va_D A [(a0, .inr (6, [.int 0, .int 0, .ref a1, .int 14, .int 0, .int 0, .int 0, .int 0, .ref a2])), (a1, .inr (5, [.ref cb, .int 81, .int 0, .ref a3, .int 1, .ref a4, .int 0, .ref a5, .int 1, .int 1, .ref a6, .int 0, .int 0, .int 1, .int 0]))] := hD2
  replace hS := hS2
  clear hP2 hD2 hS2
  refine va_tb (v := .int 6) hx hb hSK.2 hS (by unfold vp_in; decide) rfl dX6_readByte_59 ?_
  refine lv_sipush (v := 255) hx hb dX6_readByte_60 (by decide) ?_
  refine lv_iand hx hb dX6_readByte_63 ?_
  refine lv_topi (fun z_3 ez_3 => ?_)
  obtain rfl : z_3 = 6 := ez_3.trans (by decide)
  clear ez_3
  exact W.iret hx hb hr (fun t ht hW => ⟨⟨6, (), rfl, rfl, by rw [ht]; exact hP, va_K.moved hW.alike hK, hD⟩, hS.F ht⟩) hS.2.2 dX6_readByte_64

set_option maxHeartbeats 4000000 in
set_option maxRecDepth 100000 in
theorem cc_39_X6_readNumber (l : Launch) (dC : Nat → ClassId) (dI : Nat → Nat → Nat) (cy : Nat → ClassId) (sz : Nat) (cb : Nat) (a0 : Nat) (a1 : Nat) (a2 : Nat) (a3 : Nat) (a4 : Nat) (a5 : Nat) (a6 : Nat)  : Met l yX6_readNumber wsX6_readNumber ({ frames := 1, cells := 0, slots := 0, locals := 20 }) (va_Pc [.ref a0, .int 0, .int 64] (fun U => U.heap.size = sz ∧ va_P (dC, dI) vwCl [(a0, .inr (6, [.int 0, .int 0, .ref a1, .int 13, .int 0, .int 0, .int 0, .int 0, .ref a2])), (a1, .inr (5, [.ref cb, .int 81, .int 0, .ref a3, .int 1, .ref a4, .int 0, .ref a5, .int 1, .int 1, .ref a6, .int 0, .int 0, .int 1, .int 0]))] U.heap ∧ va_K (dC, dI) vwCl (TYS cy) U ∧ va_D (fun _ => True) [(a0, .inr (6, [.int 0, .int 0, .ref a1, .int 13, .int 0, .int 0, .int 0, .int 0, .ref a2])), (a1, .inr (5, [.ref cb, .int 81, .int 0, .ref a3, .int 1, .ref a4, .int 0, .ref a5, .int 1, .int 1, .ref a6, .int 0, .int 0, .int 1, .int 0]))] ∧ NK U ∧ SK cb (va_A [(a0, .inr (6, [.int 0, .int 0, .ref a1, .int 13, .int 0, .int 0, .int 0, .int 0, .ref a2])), (a1, .inr (5, [.ref cb, .int 81, .int 0, .ref a3, .int 1, .ref a4, .int 0, .ref a5, .int 1, .int 1, .ref a6, .int 0, .int 0, .int 1, .int 0]))] sz) U U.heap)) (va_Qi (fun (r : Int32) (u : Unit) => r = 6) (fun u t => va_P (dC, dI) vwCl [(a0, .inr (6, [.int 0, .int 0, .ref a1, .int 14, .int 0, .int 0, .int 0, .int 0, .ref a2])), (a1, .inr (5, [.ref cb, .int 81, .int 0, .ref a3, .int 1, .ref a4, .int 0, .ref a5, .int 1, .int 1, .ref a6, .int 0, .int 0, .int 1, .int 0]))] t.heap ∧ va_K (dC, dI) vwCl (TYS cy) t ∧ va_D (va_A [(a0, .inr (6, [.int 0, .int 0, .ref a1, .int 13, .int 0, .int 0, .int 0, .int 0, .ref a2])), (a1, .inr (5, [.ref cb, .int 81, .int 0, .ref a3, .int 1, .ref a4, .int 0, .ref a5, .int 1, .int 1, .ref a6, .int 0, .int 0, .int 1, .int 0]))] sz) [(a0, .inr (6, [.int 0, .int 0, .ref a1, .int 14, .int 0, .int 0, .int 0, .int 0, .ref a2])), (a1, .inr (5, [.ref cb, .int 81, .int 0, .ref a3, .int 1, .ref a4, .int 0, .ref a5, .int 1, .int 1, .ref a6, .int 0, .int 0, .int 1, .int 0]))]) (va_A [(a0, .inr (6, [.int 0, .int 0, .ref a1, .int 13, .int 0, .int 0, .int 0, .int 0, .ref a2])), (a1, .inr (5, [.ref cb, .int 81, .int 0, .ref a3, .int 1, .ref a4, .int 0, .ref a5, .int 1, .int 1, .ref a6, .int 0, .int 0, .int 1, .int 0]))] sz)) 0 0 (va_A [(a0, .inr (6, [.int 0, .int 0, .ref a1, .int 13, .int 0, .int 0, .int 0, .int 0, .ref a2])), (a1, .inr (5, [.ref cb, .int 81, .int 0, .ref a3, .int 1, .ref a4, .int 0, .ref a5, .int 1, .int 1, .ref a6, .int 0, .int 0, .int 1, .int 0]))] sz) := by
  refine Met.ofW (cc := cX6_readNumber) (maxL := 5) (ret := (some .int)) (by decide) rfl ?_
  intro p e s m args below meth c s₁ B hml hv
  obtain ⟨rfl, hsz, hP, hK, hD0, hN, hSK⟩ := hv
  have hx := B.exec
  have hb := B.bytes
  have hr := B.returns
  have hts := atoms_spec (ws := wsX6_readNumber) B.pre
  have hown : s.vm.findClass RX6 = some m.cls := findClass_of_methodNamed B.named
  have hlocks := B.notSynchronized
  subst hsz
  have hD := hD0.self (sz := s.heap.size)
  generalize hAe : va_A [(a0, .inr (6, [.int 0, .int 0, .ref a1, .int 13, .int 0, .int 0, .int 0, .int 0, .ref a2])), (a1, .inr (5, [.ref cb, .int 81, .int 0, .ref a3, .int 1, .ref a4, .int 0, .ref a5, .int 1, .int 1, .ref a6, .int 0, .int 0, .int 1, .int 0]))] s.heap.size = A at hD hSK ⊢
  have hA : ∀ q : Nat, s.heap.size ≤ q → A q := fun q h => by rw [← hAe]; exact Or.inr h
  have hS : va_S A s.heap s.heap [] := va_S.rf
  have hP : va_P (dC, dI) vwCl [(a0, .inr (6, [.int 0, .int 0, .ref a1, .int 13, .int 0, .int 0, .int 0, .int 0, .ref a2])), (a1, .inr (5, [.ref cb, .int 81, .int 0, .ref a3, .int 1, .ref a4, .int 0, .ref a5, .int 1, .int 1, .ref a6, .int 0, .int 0, .int 1, .int 0]))] s.heap := hP
  have hl := lv_entry ([.ref a0, .int 0, .int 64]) (n := 5) (Nat.le_of_ble_eq_true rfl)
  rw [lg_entry_eq]
  generalize (lg_sl ([.ref a0, .int 0, .int 64]) ++ List.replicate (5 - (lg_sl ([.ref a0, .int 0, .int 64])).length) Slot.unset).toArray = ls at hl ⊢
  replace hl : lv_has ls 5 [(0, .ref a0), (1, .int 0), (2, .int 64)] := hl
  refine lv_aload_n hx hb dX6_readNumber_0 rfl (lv_at hl 0 rfl) ?_
  refine va_get (D := (dC, dI)) (ci := 6) (v := .int 13) (C := RX6) (T := TX6) (N := 9) hx hb hts iw_X6_readNumber_X6 hown hK hP 0 rfl rfl 3 (by decide) (hts _ m_X6_readNumber_1) (fun _ h9 => h9) rfl dX6_readNumber_1 ?_
  refine lv_istore_n (lv' := [(3, .int 13), (0, .ref a0), (1, .int 0), (2, .int 64)]) hx hb dX6_readNumber_4 rfl hl (by decide) rfl (fun ls hl2 => ?_)
  replace hl := hl2
  clear hl2
  refine lv_aload_n hx hb dX6_readNumber_5 rfl (lv_at hl 1 rfl) ?_
  have hPc := hP.sub (ws' := [(a0, .inr (6, [.int 0, .int 0, .ref a1, .int 13, .int 0, .int 0, .int 0, .int 0, .ref a2])), (a1, .inr (5, [.ref cb, .int 81, .int 0, .ref a3, .int 1, .ref a4, .int 0, .ref a5, .int 1, .int 1, .ref a6, .int 0, .int 0, .int 1, .int 0]))]) [0, 1] rfl
  have hDc := hD.sub (ws' := [(a0, .inr (6, [.int 0, .int 0, .ref a1, .int 13, .int 0, .int 0, .int 0, .int 0, .ref a2])), (a1, .inr (5, [.ref cb, .int 81, .int 0, .ref a3, .int 1, .ref a4, .int 0, .ref a5, .int 1, .int 1, .ref a6, .int 0, .int 0, .int 1, .int 0]))]) [0, 1] (by decide) rfl
  have hFc := va_free (wc := [(a0, .inr (6, [.int 0, .int 0, .ref a1, .int 13, .int 0, .int 0, .int 0, .int 0, .ref a2])), (a1, .inr (5, [.ref cb, .int 81, .int 0, .ref a3, .int 1, .ref a4, .int 0, .ref a5, .int 1, .int 1, .ref a6, .int 0, .int 0, .int 1, .int 0]))]) hD hS hA [0, 1] rfl
  refine va_calli (va_runV (As := []) (rest := []) ⟨hx, hb, hml, hown, hts⟩ (cc_40_X6_readByte l dC dI cy s.heap.size cb a0 a1 a2 a3 a4 a5 a6) (cwV 0 hts gX6_readNumber_X6_readByte rfl rfl rfl (by decide +kernel) ⟨Nat.le_of_ble_eq_true rfl, Nat.le_of_ble_eq_true rfl⟩) ⟨fun a U g mk q => by obtain ⟨q0, q1, qP, qK, qD, qN, qS⟩ := q; exact ⟨q0, q1, qP, va_K.moved (u := U) (U := U.calling g mk a) (Vm.Alike.refl U.vm) qK, qD, qN.same rfl, SK.moved (u := U) (U := U.calling g mk a) (Vm.Alike.refl U.vm) qS⟩, va_recv hK hPc (ci := 6) (q0 := 0) rfl rfl, fun U hU hW => ⟨rfl, by rw [hU], by rw [hU]; exact hPc, va_K.moved hW.alike hK, hDc.weaken (fun _ _ _ _ => trivial), hN.warm hW, by rw [hU]; exact ((hSK.kept hS.2.1).narrow hFc).moved hW.alike⟩⟩ rfl rfl hl.1 rfl (lv_room (Nat.le_of_ble_eq_true rfl)) dX6_readNumber_6 ⟨Nat.le_of_ble_eq_true rfl, Nat.le_of_ble_eq_true rfl⟩) hS (fun q _ h => hFc q h) hFc (fun r_1 u t H_2 locs ht hvm hw hB hz1 hk1 hS2 => ?_)
  obtain ⟨hP1, hK1, hD1⟩ := hB
  rw [ht] at hP1
  obtain rfl := hw
  obtain ⟨hP2, hD2⟩ := va_join (wr := []) (w1 := [(a0, .inr (6, [.int 0, .int 0, .ref a1, .int 14, .int 0, .int 0, .int 0, .int 0, .ref a2])), (a1, .inr (5, [.ref cb, .int 81, .int 0, .ref a3, .int 1, .ref a4, .int 0, .ref a5, .int 1, .int 1, .ref a6, .int 0, .int 0, .int 1, .int 0]))]) hP hD [0, 1] [] rfl rfl (by decide) (by decide) hk1 hFc hP1 hD1
  replace hP : va_P (dC, dI) vwCl [(a0, .inr (6, [.int 0, .int 0, .ref a1, .int 14, .int 0, .int 0, .int 0, .int 0, .ref a2])), (a1, .inr (5, [.ref cb, .int 81, .int 0, .ref a3, .int 1, .ref a4, .int 0, .ref a5, .int 1, .int 1, .ref a6, .int 0, .int 0, .int 1, .int 0]))] H_2 := hP2
  replace hD : va_D A [(a0, .inr (6, [.int 0, .int 0, .ref a1, .int 14, .int 0, .int 0, .int 0, .int 0, .ref a2])), (a1, .inr (5, [.ref cb, .int 81, .int 0, .ref a3, .int 1, .ref a4, .int 0, .ref a5, .int 1, .int 1, .ref a6, .int 0, .int 0, .int 1, .int 0]))] := hD2
  replace hS := hS2
  clear hP2 hD2 hS2
  clear hPc hDc hFc hP1 hD1 hK1 hk1 hz1 hvm ht
  refine W.widen (k := 0) (n := 0) (Nat.le_of_ble_eq_true rfl) (Nat.le_of_ble_eq_true rfl) ?_
  refine lv_istore (lv' := [(4, .int 6), (3, .int 13), (0, .ref a0), (1, .int 0), (2, .int 64)]) hx hb dX6_readNumber_9 hl (by decide) rfl (fun ls hl2 => ?_)
  replace hl := hl2
  clear hl2
  refine lv_iload hx hb dX6_readNumber_11 (lv_at hl 0 rfl) ?_
  refine lv_iload_n hx hb dX6_readNumber_13 rfl (lv_at hl 3 rfl) ?_
  refine lv_icmp_lt (tgt := 23) hx hb dX6_readNumber_14 (by decide) (fun h => absurd h (by decide)) (fun _ => ?_)
  refine lv_iload hx hb dX6_readNumber_17 (lv_at hl 0 rfl) ?_
  refine lv_iload_n hx hb dX6_readNumber_19 rfl (lv_at hl 4 rfl) ?_
  refine lv_icmp_le (tgt := 29) hx hb dX6_readNumber_20 (by decide) (fun _ => ?_) (fun h => absurd (by decide) h)
  refine lv_aload_n hx hb dX6_readNumber_29 rfl (lv_at hl 2 rfl) ?_
  refine va_get (D := (dC, dI)) (ci := 6) (v := .int 0) (C := RX6) (T := TX6) (N := 9) hx hb hts iw_X6_readNumber_X6 hown hK hP 0 rfl rfl 1 (by decide) (hts _ m_X6_readNumber_2) (fun _ h9 => h9) rfl dX6_readNumber_30 ?_
  refine lv_if_ne (tgt := 41) hx hb dX6_readNumber_33 (by decide) (fun h => absurd (by decide) h) (fun _ => ?_)
  refine lv_iload hx hb dX6_readNumber_36 (lv_at hl 0 rfl) ?_
  refine lv_goto (tgt := 42) hx hb dX6_readNumber_38 (by decide) ?_
  exact W.iret hx hb hr (fun t ht hW => ⟨⟨6, (), rfl, rfl, by rw [ht]; exact hP, va_K.moved hW.alike hK, hD⟩, hS.F ht⟩) hS.2.2 dX6_readNumber_42

set_option maxHeartbeats 4000000 in
set_option maxRecDepth 100000 in
theorem cc_41_X5_setFunction (l : Launch) (dC : Nat → ClassId) (dI : Nat → Nat → Nat) (cy : Nat → ClassId) (sz : Nat) (cb : Nat) (a0 : Nat) (a1 : Nat) (a2 : Nat) (a3 : Nat) (a4 : Nat) (f0 : Nat → Int32)  : Met l yX5_setFunction wsX5_setFunction ({ frames := 0, cells := 0, slots := 0, locals := 0 }) (va_Pc [.ref a0, .int 0, .int 7, .int 0] (fun U => U.heap.size = sz ∧ va_P (dC, dI) vwCl [(a0, .inr (5, [.ref cb, .int 81, .int 0, .ref a2, .int 1, .ref a3, .int 0, .ref a4, .int 1, .int 1, .ref a1, .int 6, .int 0, .int 1, .int 0])), (a1, .inl (cy 1, 864, .inl f0))] U.heap ∧ va_K (dC, dI) vwCl (TYS cy) U ∧ va_D (fun _ => True) [(a0, .inr (5, [.ref cb, .int 81, .int 0, .ref a2, .int 1, .ref a3, .int 0, .ref a4, .int 1, .int 1, .ref a1, .int 6, .int 0, .int 1, .int 0])), (a1, .inl (cy 1, 864, .inl f0))] ∧ NK U ∧ SK cb (va_A [(a0, .inr (5, [.ref cb, .int 81, .int 0, .ref a2, .int 1, .ref a3, .int 0, .ref a4, .int 1, .int 1, .ref a1, .int 6, .int 0, .int 1, .int 0])), (a1, .inl (cy 1, 864, .inl f0))] sz) U U.heap)) (va_Qv (fun u : (Nat → Int32) => True) (fun u t => match u with | (u0) => va_P (dC, dI) vwCl [(a0, .inr (5, [.ref cb, .int 81, .int 0, .ref a2, .int 1, .ref a3, .int 0, .ref a4, .int 1, .int 1, .ref a1, .int 6, .int 0, .int 1, .int 0])), (a1, .inl (cy 1, 864, .inl u0))] t.heap ∧ va_K (dC, dI) vwCl (TYS cy) t ∧ va_D (va_A [(a0, .inr (5, [.ref cb, .int 81, .int 0, .ref a2, .int 1, .ref a3, .int 0, .ref a4, .int 1, .int 1, .ref a1, .int 6, .int 0, .int 1, .int 0])), (a1, .inl (cy 1, 864, .inl f0))] sz) [(a0, .inr (5, [.ref cb, .int 81, .int 0, .ref a2, .int 1, .ref a3, .int 0, .ref a4, .int 1, .int 1, .ref a1, .int 6, .int 0, .int 1, .int 0])), (a1, .inl (cy 1, 864, .inl u0))]) (va_A [(a0, .inr (5, [.ref cb, .int 81, .int 0, .ref a2, .int 1, .ref a3, .int 0, .ref a4, .int 1, .int 1, .ref a1, .int 6, .int 0, .int 1, .int 0])), (a1, .inl (cy 1, 864, .inl f0))] sz)) 0 0 (va_A [(a0, .inr (5, [.ref cb, .int 81, .int 0, .ref a2, .int 1, .ref a3, .int 0, .ref a4, .int 1, .int 1, .ref a1, .int 6, .int 0, .int 1, .int 0])), (a1, .inl (cy 1, 864, .inl f0))] sz) := by
  refine Met.ofW (cc := cX5_setFunction) (maxL := 4) (ret := none) (by decide) rfl ?_
  intro p e s m args below meth c s₁ B hml hv
  obtain ⟨rfl, hsz, hP, hK, hD0, hN, hSK⟩ := hv
  have hx := B.exec
  have hb := B.bytes
  have hr := B.returns
  have hts := atoms_spec (ws := wsX5_setFunction) B.pre
  have hown : s.vm.findClass RX5 = some m.cls := findClass_of_methodNamed B.named
  have hlocks := B.notSynchronized
  subst hsz
  have hD := hD0.self (sz := s.heap.size)
  generalize hAe : va_A [(a0, .inr (5, [.ref cb, .int 81, .int 0, .ref a2, .int 1, .ref a3, .int 0, .ref a4, .int 1, .int 1, .ref a1, .int 6, .int 0, .int 1, .int 0])), (a1, .inl (cy 1, 864, .inl f0))] s.heap.size = A at hD hSK ⊢
  have hA : ∀ q : Nat, s.heap.size ≤ q → A q := fun q h => by rw [← hAe]; exact Or.inr h
  have hS : va_S A s.heap s.heap [] := va_S.rf
  have hP : va_P (dC, dI) vwCl [(a0, .inr (5, [.ref cb, .int 81, .int 0, .ref a2, .int 1, .ref a3, .int 0, .ref a4, .int 1, .int 1, .ref a1, .int 6, .int 0, .int 1, .int 0])), (a1, .inl (cy 1, 864, .inl f0))] s.heap := hP
  have hl := lv_entry ([.ref a0, .int 0, .int 7, .int 0]) (n := 4) (Nat.le_of_ble_eq_true rfl)
  rw [lg_entry_eq]
  generalize (lg_sl ([.ref a0, .int 0, .int 7, .int 0]) ++ List.replicate (4 - (lg_sl ([.ref a0, .int 0, .int 7, .int 0])).length) Slot.unset).toArray = ls at hl ⊢
  replace hl : lv_has ls 4 [(0, .ref a0), (1, .int 0), (2, .int 7), (3, .int 0)] := hl
  refine lv_iload_n hx hb dX5_setFunction_0 rfl (lv_at hl 1 rfl) ?_
  refine lv_if_lt (tgt := 22) hx hb dX5_setFunction_1 (by decide) (fun h => absurd h (by decide)) (fun _ => ?_)
  refine lv_iload_n hx hb dX5_setFunction_4 rfl (lv_at hl 1 rfl) ?_
  refine lv_bipush (v := 96) hx hb dX5_setFunction_5 (by decide) ?_
  refine lv_icmp_ge (tgt := 22) hx hb dX5_setFunction_7 (by decide) (fun h => absurd h (by decide)) (fun _ => ?_)
  refine lv_aload_n hx hb dX5_setFunction_10 rfl (lv_at hl 0 rfl) ?_
  refine va_get (D := (dC, dI)) (ci := 5) (v := .ref a1) (C := RX5) (T := TX5) (N := 15) hx hb hts iw_X5_setFunction_X5 hown hK hP 0 rfl rfl 10 (by decide) (hts _ m_X5_setFunction_1) (fun _ h9 => h9) rfl dX5_setFunction_11 ?_
  refine lv_iload_n hx hb dX5_setFunction_14 rfl (lv_at hl 1 rfl) ?_
  refine lv_bipush (v := 9) hx hb dX5_setFunction_15 (by decide) ?_
  refine lv_imul hx hb dX5_setFunction_17 ?_
  refine lv_topi (fun z_1 ez_1 => ?_)
  obtain rfl : z_1 = 0 := ez_1.trans (by decide)
  clear ez_1
  refine lv_iload_n hx hb dX5_setFunction_18 rfl (lv_at hl 2 rfl) ?_
  refine lv_iadd hx hb dX5_setFunction_19 ?_
  refine lv_topi (fun z_2 ez_2 => ?_)
  obtain rfl : z_2 = 7 := ez_2.trans (by decide)
  clear ez_2
  refine lv_iload_n hx hb dX5_setFunction_20 rfl (lv_at hl 3 rfl) ?_
  refine va_iast hx hb hK hP hD hS 1 1 rfl rfl (by unfold vp_in; decide) dX5_setFunction_21 (fun H_4 locs hP2 hD2 hS2 => ?_)
  replace hP : va_P (dC, dI) vwCl [(a0, .inr (5, [.ref cb, .int 81, .int 0, .ref a2, .int 1, .ref a3, .int 0, .ref a4, .int 1, .int 1, .ref a1, .int 6, .int 0, .int 1, .int 0])), (a1, .inl (cy 1, 864, .inl (upd f0 7 0)))] H_4 := hP2
  replace hD : va_D A [(a0, .inr (5, [.ref cb, .int 81, .int 0, .ref a2, .int 1, .ref a3, .int 0, .ref a4, .int 1, .int 1, .ref a1, .int 6, .int 0, .int 1, .int 0])), (a1, .inl (cy 1, 864, .inl (upd f0 7 0)))] := hD2
  replace hS := hS2
  clear hP2 hD2 hS2
  obtain ⟨g_3, eg_3⟩ : ∃ z, upd f0 7 0 = z := ⟨_, rfl⟩
  rw [eg_3] at hP hD
  exact W.vret hx hb hr (fun t ht hW => ⟨⟨(g_3), rfl, trivial, by rw [ht]; exact hP, va_K.moved hW.alike hK, hD⟩, hS.F ht⟩) hS.2.2 dX5_setFunction_22

set_option maxHeartbeats 4000000 in
set_option maxRecDepth 100000 in
theorem cc_42_X5_setFunction (l : Launch) (dC : Nat → ClassId) (dI : Nat → Nat → Nat) (cy : Nat → ClassId) (sz : Nat) (cb : Nat) (a0 : Nat) (a1 : Nat) (a2 : Nat) (a3 : Nat) (a4 : Nat) (f0 : Nat → Int32)  : Met l yX5_setFunction wsX5_setFunction ({ frames := 0, cells := 0, slots := 0, locals := 0 }) (va_Pc [.ref a0, .int 0, .int 8, .int 0] (fun U => U.heap.size = sz ∧ va_P (dC, dI) vwCl [(a0, .inr (5, [.ref cb, .int 81, .int 0, .ref a2, .int 1, .ref a3, .int 0, .ref a4, .int 1, .int 1, .ref a1, .int 6, .int 0, .int 1, .int 0])), (a1, .inl (cy 1, 864, .inl f0))] U.heap ∧ va_K (dC, dI) vwCl (TYS cy) U ∧ va_D (fun _ => True) [(a0, .inr (5, [.ref cb, .int 81, .int 0, .ref a2, .int 1, .ref a3, .int 0, .ref a4, .int 1, .int 1, .ref a1, .int 6, .int 0, .int 1, .int 0])), (a1, .inl (cy 1, 864, .inl f0))] ∧ NK U ∧ SK cb (va_A [(a0, .inr (5, [.ref cb, .int 81, .int 0, .ref a2, .int 1, .ref a3, .int 0, .ref a4, .int 1, .int 1, .ref a1, .int 6, .int 0, .int 1, .int 0])), (a1, .inl (cy 1, 864, .inl f0))] sz) U U.heap)) (va_Qv (fun u : (Nat → Int32) => True) (fun u t => match u with | (u0) => va_P (dC, dI) vwCl [(a0, .inr (5, [.ref cb, .int 81, .int 0, .ref a2, .int 1, .ref a3, .int 0, .ref a4, .int 1, .int 1, .ref a1, .int 6, .int 0, .int 1, .int 0])), (a1, .inl (cy 1, 864, .inl u0))] t.heap ∧ va_K (dC, dI) vwCl (TYS cy) t ∧ va_D (va_A [(a0, .inr (5, [.ref cb, .int 81, .int 0, .ref a2, .int 1, .ref a3, .int 0, .ref a4, .int 1, .int 1, .ref a1, .int 6, .int 0, .int 1, .int 0])), (a1, .inl (cy 1, 864, .inl f0))] sz) [(a0, .inr (5, [.ref cb, .int 81, .int 0, .ref a2, .int 1, .ref a3, .int 0, .ref a4, .int 1, .int 1, .ref a1, .int 6, .int 0, .int 1, .int 0])), (a1, .inl (cy 1, 864, .inl u0))]) (va_A [(a0, .inr (5, [.ref cb, .int 81, .int 0, .ref a2, .int 1, .ref a3, .int 0, .ref a4, .int 1, .int 1, .ref a1, .int 6, .int 0, .int 1, .int 0])), (a1, .inl (cy 1, 864, .inl f0))] sz)) 0 0 (va_A [(a0, .inr (5, [.ref cb, .int 81, .int 0, .ref a2, .int 1, .ref a3, .int 0, .ref a4, .int 1, .int 1, .ref a1, .int 6, .int 0, .int 1, .int 0])), (a1, .inl (cy 1, 864, .inl f0))] sz) := by
  refine Met.ofW (cc := cX5_setFunction) (maxL := 4) (ret := none) (by decide) rfl ?_
  intro p e s m args below meth c s₁ B hml hv
  obtain ⟨rfl, hsz, hP, hK, hD0, hN, hSK⟩ := hv
  have hx := B.exec
  have hb := B.bytes
  have hr := B.returns
  have hts := atoms_spec (ws := wsX5_setFunction) B.pre
  have hown : s.vm.findClass RX5 = some m.cls := findClass_of_methodNamed B.named
  have hlocks := B.notSynchronized
  subst hsz
  have hD := hD0.self (sz := s.heap.size)
  generalize hAe : va_A [(a0, .inr (5, [.ref cb, .int 81, .int 0, .ref a2, .int 1, .ref a3, .int 0, .ref a4, .int 1, .int 1, .ref a1, .int 6, .int 0, .int 1, .int 0])), (a1, .inl (cy 1, 864, .inl f0))] s.heap.size = A at hD hSK ⊢
  have hA : ∀ q : Nat, s.heap.size ≤ q → A q := fun q h => by rw [← hAe]; exact Or.inr h
  have hS : va_S A s.heap s.heap [] := va_S.rf
  have hP : va_P (dC, dI) vwCl [(a0, .inr (5, [.ref cb, .int 81, .int 0, .ref a2, .int 1, .ref a3, .int 0, .ref a4, .int 1, .int 1, .ref a1, .int 6, .int 0, .int 1, .int 0])), (a1, .inl (cy 1, 864, .inl f0))] s.heap := hP
  have hl := lv_entry ([.ref a0, .int 0, .int 8, .int 0]) (n := 4) (Nat.le_of_ble_eq_true rfl)
  rw [lg_entry_eq]
  generalize (lg_sl ([.ref a0, .int 0, .int 8, .int 0]) ++ List.replicate (4 - (lg_sl ([.ref a0, .int 0, .int 8, .int 0])).length) Slot.unset).toArray = ls at hl ⊢
  replace hl : lv_has ls 4 [(0, .ref a0), (1, .int 0), (2, .int 8), (3, .int 0)] := hl
  refine lv_iload_n hx hb dX5_setFunction_0 rfl (lv_at hl 1 rfl) ?_
  refine lv_if_lt (tgt := 22) hx hb dX5_setFunction_1 (by decide) (fun h => absurd h (by decide)) (fun _ => ?_)
  refine lv_iload_n hx hb dX5_setFunction_4 rfl (lv_at hl 1 rfl) ?_
  refine lv_bipush (v := 96) hx hb dX5_setFunction_5 (by decide) ?_
  refine lv_icmp_ge (tgt := 22) hx hb dX5_setFunction_7 (by decide) (fun h => absurd h (by decide)) (fun _ => ?_)
  refine lv_aload_n hx hb dX5_setFunction_10 rfl (lv_at hl 0 rfl) ?_
  refine va_get (D := (dC, dI)) (ci := 5) (v := .ref a1) (C := RX5) (T := TX5) (N := 15) hx hb hts iw_X5_setFunction_X5 hown hK hP 0 rfl rfl 10 (by decide) (hts _ m_X5_setFunction_1) (fun _ h9 => h9) rfl dX5_setFunction_11 ?_
  refine lv_iload_n hx hb dX5_setFunction_14 rfl (lv_at hl 1 rfl) ?_
  refine lv_bipush (v := 9) hx hb dX5_setFunction_15 (by decide) ?_
  refine lv_imul hx hb dX5_setFunction_17 ?_
  refine lv_topi (fun z_1 ez_1 => ?_)
  obtain rfl : z_1 = 0 := ez_1.trans (by decide)
  clear ez_1
  refine lv_iload_n hx hb dX5_setFunction_18 rfl (lv_at hl 2 rfl) ?_
  refine lv_iadd hx hb dX5_setFunction_19 ?_
  refine lv_topi (fun z_2 ez_2 => ?_)
  obtain rfl : z_2 = 8 := ez_2.trans (by decide)
  clear ez_2
  refine lv_iload_n hx hb dX5_setFunction_20 rfl (lv_at hl 3 rfl) ?_
  refine va_iast hx hb hK hP hD hS 1 1 rfl rfl (by unfold vp_in; decide) dX5_setFunction_21 (fun H_4 locs hP2 hD2 hS2 => ?_)
  replace hP : va_P (dC, dI) vwCl [(a0, .inr (5, [.ref cb, .int 81, .int 0, .ref a2, .int 1, .ref a3, .int 0, .ref a4, .int 1, .int 1, .ref a1, .int 6, .int 0, .int 1, .int 0])), (a1, .inl (cy 1, 864, .inl (upd f0 8 0)))] H_4 := hP2
  replace hD : va_D A [(a0, .inr (5, [.ref cb, .int 81, .int 0, .ref a2, .int 1, .ref a3, .int 0, .ref a4, .int 1, .int 1, .ref a1, .int 6, .int 0, .int 1, .int 0])), (a1, .inl (cy 1, 864, .inl (upd f0 8 0)))] := hD2
  replace hS := hS2
  clear hP2 hD2 hS2
  obtain ⟨g_3, eg_3⟩ : ∃ z, upd f0 8 0 = z := ⟨_, rfl⟩
  rw [eg_3] at hP hD
  exact W.vret hx hb hr (fun t ht hW => ⟨⟨(g_3), rfl, trivial, by rw [ht]; exact hP, va_K.moved hW.alike hK, hD⟩, hS.F ht⟩) hS.2.2 dX5_setFunction_22

set_option maxHeartbeats 4000000 in
set_option maxRecDepth 100000 in
theorem cc_44_X6_readByte (l : Launch) (dC : Nat → ClassId) (dI : Nat → Nat → Nat) (cy : Nat → ClassId) (sz : Nat) (cb : Nat) (a0 : Nat) (a1 : Nat) (a2 : Nat) (a3 : Nat) (a4 : Nat) (a5 : Nat) (a6 : Nat)  : Met l yX6_readByte wsX6_readByte ({ frames := 0, cells := 0, slots := 0, locals := 0 }) (va_Pc [.ref a0] (fun U => U.heap.size = sz ∧ va_P (dC, dI) vwCl [(a0, .inr (6, [.int 0, .int 0, .ref a1, .int 14, .int 0, .int 0, .int 0, .int 0, .ref a2])), (a1, .inr (5, [.ref cb, .int 81, .int 0, .ref a3, .int 1, .ref a4, .int 0, .ref a5, .int 1, .int 1, .ref a6, .int 6, .int 0, .int 1, .int 0]))] U.heap ∧ va_K (dC, dI) vwCl (TYS cy) U ∧ va_D (fun _ => True) [(a0, .inr (6, [.int 0, .int 0, .ref a1, .int 14, .int 0, .int 0, .int 0, .int 0, .ref a2])), (a1, .inr (5, [.ref cb, .int 81, .int 0, .ref a3, .int 1, .ref a4, .int 0, .ref a5, .int 1, .int 1, .ref a6, .int 6, .int 0, .int 1, .int 0]))] ∧ NK U ∧ SK cb (va_A [(a0, .inr (6, [.int 0, .int 0, .ref a1, .int 14, .int 0, .int 0, .int 0, .int 0, .ref a2])), (a1, .inr (5, [.ref cb, .int 81, .int 0, .ref a3, .int 1, .ref a4, .int 0, .ref a5, .int 1, .int 1, .ref a6, .int 6, .int 0, .int 1, .int 0]))] sz) U U.heap)) (va_Qi (fun (r : Int32) (u : Unit) => r = 1) (fun u t => va_P (dC, dI) vwCl [(a0, .inr (6, [.int 0, .int 0, .ref a1, .int 15, .int 0, .int 0, .int 0, .int 0, .ref a2])), (a1, .inr (5, [.ref cb, .int 81, .int 0, .ref a3, .int 1, .ref a4, .int 0, .ref a5, .int 1, .int 1, .ref a6, .int 6, .int 0, .int 1, .int 0]))] t.heap ∧ va_K (dC, dI) vwCl (TYS cy) t ∧ va_D (va_A [(a0, .inr (6, [.int 0, .int 0, .ref a1, .int 14, .int 0, .int 0, .int 0, .int 0, .ref a2])), (a1, .inr (5, [.ref cb, .int 81, .int 0, .ref a3, .int 1, .ref a4, .int 0, .ref a5, .int 1, .int 1, .ref a6, .int 6, .int 0, .int 1, .int 0]))] sz) [(a0, .inr (6, [.int 0, .int 0, .ref a1, .int 15, .int 0, .int 0, .int 0, .int 0, .ref a2])), (a1, .inr (5, [.ref cb, .int 81, .int 0, .ref a3, .int 1, .ref a4, .int 0, .ref a5, .int 1, .int 1, .ref a6, .int 6, .int 0, .int 1, .int 0]))]) (va_A [(a0, .inr (6, [.int 0, .int 0, .ref a1, .int 14, .int 0, .int 0, .int 0, .int 0, .ref a2])), (a1, .inr (5, [.ref cb, .int 81, .int 0, .ref a3, .int 1, .ref a4, .int 0, .ref a5, .int 1, .int 1, .ref a6, .int 6, .int 0, .int 1, .int 0]))] sz)) 0 0 (va_A [(a0, .inr (6, [.int 0, .int 0, .ref a1, .int 14, .int 0, .int 0, .int 0, .int 0, .ref a2])), (a1, .inr (5, [.ref cb, .int 81, .int 0, .ref a3, .int 1, .ref a4, .int 0, .ref a5, .int 1, .int 1, .ref a6, .int 6, .int 0, .int 1, .int 0]))] sz) := by
  refine Met.ofW (cc := cX6_readByte) (maxL := 1) (ret := (some .int)) (by decide) rfl ?_
  intro p e s m args below meth c s₁ B hml hv
  obtain ⟨rfl, hsz, hP, hK, hD0, hN, hSK⟩ := hv
  have hx := B.exec
  have hb := B.bytes
  have hr := B.returns
  have hts := atoms_spec (ws := wsX6_readByte) B.pre
  have hown : s.vm.findClass RX6 = some m.cls := findClass_of_methodNamed B.named
  have hlocks := B.notSynchronized
  subst hsz
  have hD := hD0.self (sz := s.heap.size)
  generalize hAe : va_A [(a0, .inr (6, [.int 0, .int 0, .ref a1, .int 14, .int 0, .int 0, .int 0, .int 0, .ref a2])), (a1, .inr (5, [.ref cb, .int 81, .int 0, .ref a3, .int 1, .ref a4, .int 0, .ref a5, .int 1, .int 1, .ref a6, .int 6, .int 0, .int 1, .int 0]))] s.heap.size = A at hD hSK ⊢
  have hA : ∀ q : Nat, s.heap.size ≤ q → A q := fun q h => by rw [← hAe]; exact Or.inr h
  have hS : va_S A s.heap s.heap [] := va_S.rf
  have hP : va_P (dC, dI) vwCl [(a0, .inr (6, [.int 0, .int 0, .ref a1, .int 14, .int 0, .int 0, .int 0, .int 0, .ref a2])), (a1, .inr (5, [.ref cb, .int 81, .int 0, .ref a3, .int 1, .ref a4, .int 0, .ref a5, .int 1, .int 1, .ref a6, .int 6, .int 0, .int 1, .int 0]))] s.heap := hP
  have hl := lv_entry ([.ref a0]) (n := 1) (Nat.le_of_ble_eq_true rfl)
  rw [lg_entry_eq]
  generalize (lg_sl ([.ref a0]) ++ List.replicate (1 - (lg_sl ([.ref a0])).length) Slot.unset).toArray = ls at hl ⊢
  replace hl : lv_has ls 1 [(0, .ref a0)] := hl
  refine lv_aload_n hx hb dX6_readByte_0 rfl (lv_at hl 0 rfl) ?_
  refine va_get (D := (dC, dI)) (ci := 6) (v := .int 0) (C := RX6) (T := TX6) (N := 9) hx hb hts iw_X6_readByte_X6 hown hK hP 0 rfl rfl 1 (by decide) (hts _ m_X6_readByte_1) (fun _ h9 => h9) rfl dX6_readByte_1 ?_
  refine lv_if_eq (tgt := 9) hx hb dX6_readByte_4 (by decide) (fun _ => ?_) (fun h => absurd (by decide) h)
  refine lv_aload_n hx hb dX6_readByte_9 rfl (lv_at hl 0 rfl) ?_
  refine va_get (D := (dC, dI)) (ci := 6) (v := .int 14) (C := RX6) (T := TX6) (N := 9) hx hb hts iw_X6_readByte_X6 hown hK hP 0 rfl rfl 3 (by decide) (hts _ m_X6_readByte_2) (fun _ h9 => h9) rfl dX6_readByte_10 ?_
  refine lv_aload_n hx hb dX6_readByte_13 rfl (lv_at hl 0 rfl) ?_
  refine va_get (D := (dC, dI)) (ci := 6) (v := .ref a1) (C := RX6) (T := TX6) (N := 9) hx hb hts iw_X6_readByte_X6 hown hK hP 0 rfl rfl 2 (by decide) (hts _ m_X6_readByte_3) (fun _ h9 => h9) rfl dX6_readByte_14 ?_
  refine va_get (D := (dC, dI)) (ci := 5) (v := .int 81) (C := RX5) (T := TX5) (N := 15) hx hb hts iw_X6_readByte_X5 hown hK hP 1 rfl rfl 1 (by decide) (hts _ m_X6_readByte_4) (fun _ h9 => h9) rfl dX6_readByte_17 ?_
  refine lv_icmp_lt (tgt := 41) hx hb dX6_readByte_20 (by decide) (fun _ => ?_) (fun h => absurd (by decide) h)
  refine lv_aload_n hx hb dX6_readByte_41 rfl (lv_at hl 0 rfl) ?_
  refine va_get (D := (dC, dI)) (ci := 6) (v := .ref a1) (C := RX6) (T := TX6) (N := 9) hx hb hts iw_X6_readByte_X6 hown hK hP 0 rfl rfl 2 (by decide) (hts _ m_X6_readByte_3) (fun _ h9 => h9) rfl dX6_readByte_42 ?_
  refine va_get (D := (dC, dI)) (ci := 5) (v := .ref cb) (C := RX5) (T := TX5) (N := 15) hx hb hts iw_X6_readByte_X5 hown hK hP 1 rfl rfl 0 (by decide) (hts _ m_X6_readByte_6) (fun _ h9 => h9) rfl dX6_readByte_45 ?_
  refine lv_aload_n hx hb dX6_readByte_48 rfl (lv_at hl 0 rfl) ?_
  refine lv_dup hx hb dX6_readByte_49 rfl ?_
  refine va_get (D := (dC, dI)) (ci := 6) (v := .int 14) (C := RX6) (T := TX6) (N := 9) hx hb hts iw_X6_readByte_X6 hown hK hP 0 rfl rfl 3 (by decide) (hts _ m_X6_readByte_2) (fun _ h9 => h9) rfl dX6_readByte_50 ?_
  refine lv_dup_x1 hx hb dX6_readByte_53 rfl rfl ?_
  refine lv_iconst (v := 1) hx hb dX6_readByte_54 (by decide) ?_
  refine lv_iadd hx hb dX6_readByte_55 ?_
  refine lv_topi (fun z_1 ez_1 => ?_)
  obtain rfl : z_1 = 15 := ez_1.trans (by decide)
  clear ez_1
  refine va_put (D := (dC, dI)) (ci := 6) (v := .int 15) (ty := .int) (C := RX6) (T := TX6) (N := 9) hx hb hts iw_X6_readByte_X6 tyX6 tyX6_ok nmX6 hown hK hP hD hS 0 rfl rfl 3 (by decide) (hts _ m_X6_readByte_2) (fun _ h9 => h9) rfl (by decide +kernel) rfl rfl (Nat.le_of_ble_eq_true rfl) dX6_readByte_56 (fun H_2 locs hP2 hD2 hS2 => ?_)
  replace hP : va_P (dC, dI) vwCl [(a0, .inr (6, [.int 0, .int 0, .ref a1, .int 15, .int 0, .int 0, .int 0, .int 0, .ref a2])), (a1, .inr (5, [.ref cb, .int 81, .int 0, .ref a3, .int 1, .ref a4, .int 0, .ref a5, .int 1, .int 1, .ref a6, .int 6, .int 0, .int 1, .int 0]))] H_2 := hP2
  replace hD : va_D A [(a0, .inr (6, [.int 0, .int 0, .ref a1, .int 15, .int 0, .int 0, .int 0, .int 0, .ref a2])), (a1, .inr (5, [.ref cb, .int 81, .int 0, .ref a3, .int 1, .ref a4, .int 0, .ref a5, .int 1, .int 1, .ref a6, .int 6, .int 0, .int 1, .int 0]))] := hD2
  replace hS := hS2
  clear hP2 hD2 hS2
  refine va_tb (v := .int 1) hx hb hSK.2 hS (by unfold vp_in; decide) rfl dX6_readByte_59 ?_
  refine lv_sipush (v := 255) hx hb dX6_readByte_60 (by decide) ?_
  refine lv_iand hx hb dX6_readByte_63 ?_
  refine lv_topi (fun z_3 ez_3 => ?_)
  obtain rfl : z_3 = 1 := ez_3.trans (by decide)
  clear ez_3
  exact W.iret hx hb hr (fun t ht hW => ⟨⟨1, (), rfl, rfl, by rw [ht]; exact hP, va_K.moved hW.alike hK, hD⟩, hS.F ht⟩) hS.2.2 dX6_readByte_64

set_option maxHeartbeats 4000000 in
set_option maxRecDepth 100000 in
theorem cc_43_X6_readNumber (l : Launch) (dC : Nat → ClassId) (dI : Nat → Nat → Nat) (cy : Nat → ClassId) (sz : Nat) (cb : Nat) (a0 : Nat) (a1 : Nat) (a2 : Nat) (a3 : Nat) (a4 : Nat) (a5 : Nat) (a6 : Nat)  : Met l yX6_readNumber wsX6_readNumber ({ frames := 1, cells := 0, slots := 0, locals := 20 }) (va_Pc [.ref a0, .int 0, .int 7] (fun U => U.heap.size = sz ∧ va_P (dC, dI) vwCl [(a0, .inr (6, [.int 0, .int 0, .ref a1, .int 14, .int 0, .int 0, .int 0, .int 0, .ref a2])), (a1, .inr (5, [.ref cb, .int 81, .int 0, .ref a3, .int 1, .ref a4, .int 0, .ref a5, .int 1, .int 1, .ref a6, .int 6, .int 0, .int 1, .int 0]))] U.heap ∧ va_K (dC, dI) vwCl (TYS cy) U ∧ va_D (fun _ => True) [(a0, .inr (6, [.int 0, .int 0, .ref a1, .int 14, .int 0, .int 0, .int 0, .int 0, .ref a2])), (a1, .inr (5, [.ref cb, .int 81, .int 0, .ref a3, .int 1, .ref a4, .int 0, .ref a5, .int 1, .int 1, .ref a6, .int 6, .int 0, .int 1, .int 0]))] ∧ NK U ∧ SK cb (va_A [(a0, .inr (6, [.int 0, .int 0, .ref a1, .int 14, .int 0, .int 0, .int 0, .int 0, .ref a2])), (a1, .inr (5, [.ref cb, .int 81, .int 0, .ref a3, .int 1, .ref a4, .int 0, .ref a5, .int 1, .int 1, .ref a6, .int 6, .int 0, .int 1, .int 0]))] sz) U U.heap)) (va_Qi (fun (r : Int32) (u : Unit) => r = 1) (fun u t => va_P (dC, dI) vwCl [(a0, .inr (6, [.int 0, .int 0, .ref a1, .int 15, .int 0, .int 0, .int 0, .int 0, .ref a2])), (a1, .inr (5, [.ref cb, .int 81, .int 0, .ref a3, .int 1, .ref a4, .int 0, .ref a5, .int 1, .int 1, .ref a6, .int 6, .int 0, .int 1, .int 0]))] t.heap ∧ va_K (dC, dI) vwCl (TYS cy) t ∧ va_D (va_A [(a0, .inr (6, [.int 0, .int 0, .ref a1, .int 14, .int 0, .int 0, .int 0, .int 0, .ref a2])), (a1, .inr (5, [.ref cb, .int 81, .int 0, .ref a3, .int 1, .ref a4, .int 0, .ref a5, .int 1, .int 1, .ref a6, .int 6, .int 0, .int 1, .int 0]))] sz) [(a0, .inr (6, [.int 0, .int 0, .ref a1, .int 15, .int 0, .int 0, .int 0, .int 0, .ref a2])), (a1, .inr (5, [.ref cb, .int 81, .int 0, .ref a3, .int 1, .ref a4, .int 0, .ref a5, .int 1, .int 1, .ref a6, .int 6, .int 0, .int 1, .int 0]))]) (va_A [(a0, .inr (6, [.int 0, .int 0, .ref a1, .int 14, .int 0, .int 0, .int 0, .int 0, .ref a2])), (a1, .inr (5, [.ref cb, .int 81, .int 0, .ref a3, .int 1, .ref a4, .int 0, .ref a5, .int 1, .int 1, .ref a6, .int 6, .int 0, .int 1, .int 0]))] sz)) 0 0 (va_A [(a0, .inr (6, [.int 0, .int 0, .ref a1, .int 14, .int 0, .int 0, .int 0, .int 0, .ref a2])), (a1, .inr (5, [.ref cb, .int 81, .int 0, .ref a3, .int 1, .ref a4, .int 0, .ref a5, .int 1, .int 1, .ref a6, .int 6, .int 0, .int 1, .int 0]))] sz) := by
  refine Met.ofW (cc := cX6_readNumber) (maxL := 5) (ret := (some .int)) (by decide) rfl ?_
  intro p e s m args below meth c s₁ B hml hv
  obtain ⟨rfl, hsz, hP, hK, hD0, hN, hSK⟩ := hv
  have hx := B.exec
  have hb := B.bytes
  have hr := B.returns
  have hts := atoms_spec (ws := wsX6_readNumber) B.pre
  have hown : s.vm.findClass RX6 = some m.cls := findClass_of_methodNamed B.named
  have hlocks := B.notSynchronized
  subst hsz
  have hD := hD0.self (sz := s.heap.size)
  generalize hAe : va_A [(a0, .inr (6, [.int 0, .int 0, .ref a1, .int 14, .int 0, .int 0, .int 0, .int 0, .ref a2])), (a1, .inr (5, [.ref cb, .int 81, .int 0, .ref a3, .int 1, .ref a4, .int 0, .ref a5, .int 1, .int 1, .ref a6, .int 6, .int 0, .int 1, .int 0]))] s.heap.size = A at hD hSK ⊢
  have hA : ∀ q : Nat, s.heap.size ≤ q → A q := fun q h => by rw [← hAe]; exact Or.inr h
  have hS : va_S A s.heap s.heap [] := va_S.rf
  have hP : va_P (dC, dI) vwCl [(a0, .inr (6, [.int 0, .int 0, .ref a1, .int 14, .int 0, .int 0, .int 0, .int 0, .ref a2])), (a1, .inr (5, [.ref cb, .int 81, .int 0, .ref a3, .int 1, .ref a4, .int 0, .ref a5, .int 1, .int 1, .ref a6, .int 6, .int 0, .int 1, .int 0]))] s.heap := hP
  have hl := lv_entry ([.ref a0, .int 0, .int 7]) (n := 5) (Nat.le_of_ble_eq_true rfl)
  rw [lg_entry_eq]
  generalize (lg_sl ([.ref a0, .int 0, .int 7]) ++ List.replicate (5 - (lg_sl ([.ref a0, .int 0, .int 7])).length) Slot.unset).toArray = ls at hl ⊢
  replace hl : lv_has ls 5 [(0, .ref a0), (1, .int 0), (2, .int 7)] := hl
  refine lv_aload_n hx hb dX6_readNumber_0 rfl (lv_at hl 0 rfl) ?_
  refine va_get (D := (dC, dI)) (ci := 6) (v := .int 14) (C := RX6) (T := TX6) (N := 9) hx hb hts iw_X6_readNumber_X6 hown hK hP 0 rfl rfl 3 (by decide) (hts _ m_X6_readNumber_1) (fun _ h9 => h9) rfl dX6_readNumber_1 ?_
  refine lv_istore_n (lv' := [(3, .int 14), (0, .ref a0), (1, .int 0), (2, .int 7)]) hx hb dX6_readNumber_4 rfl hl (by decide) rfl (fun ls hl2 => ?_)
  replace hl := hl2
  clear hl2
  refine lv_aload_n hx hb dX6_readNumber_5 rfl (lv_at hl 1 rfl) ?_
  have hPc := hP.sub (ws' := [(a0, .inr (6, [.int 0, .int 0, .ref a1, .int 14, .int 0, .int 0, .int 0, .int 0, .ref a2])), (a1, .inr (5, [.ref cb, .int 81, .int 0, .ref a3, .int 1, .ref a4, .int 0, .ref a5, .int 1, .int 1, .ref a6, .int 6, .int 0, .int 1, .int 0]))]) [0, 1] rfl
  have hDc := hD.sub (ws' := [(a0, .inr (6, [.int 0, .int 0, .ref a1, .int 14, .int 0, .int 0, .int 0, .int 0, .ref a2])), (a1, .inr (5, [.ref cb, .int 81, .int 0, .ref a3, .int 1, .ref a4, .int 0, .ref a5, .int 1, .int 1, .ref a6, .int 6, .int 0, .int 1, .int 0]))]) [0, 1] (by decide) rfl
  have hFc := va_free (wc := [(a0, .inr (6, [.int 0, .int 0, .ref a1, .int 14, .int 0, .int 0, .int 0, .int 0, .ref a2])), (a1, .inr (5, [.ref cb, .int 81, .int 0, .ref a3, .int 1, .ref a4, .int 0, .ref a5, .int 1, .int 1, .ref a6, .int 6, .int 0, .int 1, .int 0]))]) hD hS hA [0, 1] rfl
  refine va_calli (va_runV (As := []) (rest := []) ⟨hx, hb, hml, hown, hts⟩ (cc_44_X6_readByte l dC dI cy s.heap.size cb a0 a1 a2 a3 a4 a5 a6) (cwV 0 hts gX6_readNumber_X6_readByte rfl rfl rfl (by decide +kernel) ⟨Nat.le_of_ble_eq_true rfl, Nat.le_of_ble_eq_true rfl⟩) ⟨fun a U g mk q => by obtain ⟨q0, q1, qP, qK, qD, qN, qS⟩ := q; exact ⟨q0, q1, qP, va_K.moved (u := U) (U := U.calling g mk a) (Vm.Alike.refl U.vm) qK, qD, qN.same rfl, SK.moved (u := U) (U := U.calling g mk a) (Vm.Alike.refl U.vm) qS⟩, va_recv hK hPc (ci := 6) (q0 := 0) rfl rfl, fun U hU hW => ⟨rfl, by rw [hU], by rw [hU]; exact hPc, va_K.moved hW.alike hK, hDc.weaken (fun _ _ _ _ => trivial), hN.warm hW, by rw [hU]; exact ((hSK.kept hS.2.1).narrow hFc).moved hW.alike⟩⟩ rfl rfl hl.1 rfl (lv_room (Nat.le_of_ble_eq_true rfl)) dX6_readNumber_6 ⟨Nat.le_of_ble_eq_true rfl, Nat.le_of_ble_eq_true rfl⟩) hS (fun q _ h => hFc q h) hFc (fun r_1 u t H_2 locs ht hvm hw hB hz1 hk1 hS2 => ?_)
  obtain ⟨hP1, hK1, hD1⟩ := hB
  rw [ht] at hP1
  obtain rfl := hw
  obtain ⟨hP2, hD2⟩ := va_join (wr := []) (w1 := [(a0, .inr (6, [.int 0, .int 0, .ref a1, .int 15, .int 0, .int 0, .int 0, .int 0, .ref a2])), (a1, .inr (5, [.ref cb, .int 81, .int 0, .ref a3, .int 1, .ref a4, .int 0, .ref a5, .int 1, .int 1, .ref a6, .int 6, .int 0, .int 1, .int 0]))]) hP hD [0, 1] [] rfl rfl (by decide) (by decide) hk1 hFc hP1 hD1
  replace hP : va_P (dC, dI) vwCl [(a0, .inr (6, [.int 0, .int 0, .ref a1, .int 15, .int 0, .int 0, .int 0, .int 0, .ref a2])), (a1, .inr (5, [.ref cb, .int 81, .int 0, .ref a3, .int 1, .ref a4, .int 0, .ref a5, .int 1, .int 1, .ref a6, .int 6, .int 0, .int 1, .int 0]))] H_2 := hP2
  replace hD : va_D A [(a0, .inr (6, [.int 0, .int 0, .ref a1, .int 15, .int 0, .int 0, .int 0, .int 0, .ref a2])), (a1, .inr (5, [.ref cb, .int 81, .int 0, .ref a3, .int 1, .ref a4, .int 0, .ref a5, .int 1, .int 1, .ref a6, .int 6, .int 0, .int 1, .int 0]))] := hD2
  replace hS := hS2
  clear hP2 hD2 hS2
  clear hPc hDc hFc hP1 hD1 hK1 hk1 hz1 hvm ht
  refine W.widen (k := 0) (n := 0) (Nat.le_of_ble_eq_true rfl) (Nat.le_of_ble_eq_true rfl) ?_
  refine lv_istore (lv' := [(4, .int 1), (3, .int 14), (0, .ref a0), (1, .int 0), (2, .int 7)]) hx hb dX6_readNumber_9 hl (by decide) rfl (fun ls hl2 => ?_)
  replace hl := hl2
  clear hl2
  refine lv_iload hx hb dX6_readNumber_11 (lv_at hl 0 rfl) ?_
  refine lv_iload_n hx hb dX6_readNumber_13 rfl (lv_at hl 3 rfl) ?_
  refine lv_icmp_lt (tgt := 23) hx hb dX6_readNumber_14 (by decide) (fun h => absurd h (by decide)) (fun _ => ?_)
  refine lv_iload hx hb dX6_readNumber_17 (lv_at hl 0 rfl) ?_
  refine lv_iload_n hx hb dX6_readNumber_19 rfl (lv_at hl 4 rfl) ?_
  refine lv_icmp_le (tgt := 29) hx hb dX6_readNumber_20 (by decide) (fun _ => ?_) (fun h => absurd (by decide) h)
  refine lv_aload_n hx hb dX6_readNumber_29 rfl (lv_at hl 2 rfl) ?_
  refine va_get (D := (dC, dI)) (ci := 6) (v := .int 0) (C := RX6) (T := TX6) (N := 9) hx hb hts iw_X6_readNumber_X6 hown hK hP 0 rfl rfl 1 (by decide) (hts _ m_X6_readNumber_2) (fun _ h9 => h9) rfl dX6_readNumber_30 ?_
  refine lv_if_ne (tgt := 41) hx hb dX6_readNumber_33 (by decide) (fun h => absurd (by decide) h) (fun _ => ?_)
  refine lv_iload hx hb dX6_readNumber_36 (lv_at hl 0 rfl) ?_
  refine lv_goto (tgt := 42) hx hb dX6_readNumber_38 (by decide) ?_
  exact W.iret hx hb hr (fun t ht hW => ⟨⟨1, (), rfl, rfl, by rw [ht]; exact hP, va_K.moved hW.alike hK, hD⟩, hS.F ht⟩) hS.2.2 dX6_readNumber_42

set_option maxHeartbeats 4000000 in
set_option maxRecDepth 100000 in
theorem cc_45_X5_setFunction (l : Launch) (dC : Nat → ClassId) (dI : Nat → Nat → Nat) (cy : Nat → ClassId) (sz : Nat) (cb : Nat) (a0 : Nat) (a1 : Nat) (a2 : Nat) (a3 : Nat) (a4 : Nat) (f0 : Nat → Int32)  : Met l yX5_setFunction wsX5_setFunction ({ frames := 0, cells := 0, slots := 0, locals := 0 }) (va_Pc [.ref a0, .int 0, .int 0, .int 1] (fun U => U.heap.size = sz ∧ va_P (dC, dI) vwCl [(a0, .inr (5, [.ref cb, .int 81, .int 0, .ref a2, .int 1, .ref a3, .int 0, .ref a4, .int 1, .int 1, .ref a1, .int 6, .int 0, .int 1, .int 0])), (a1, .inl (cy 1, 864, .inl f0))] U.heap ∧ va_K (dC, dI) vwCl (TYS cy) U ∧ va_D (fun _ => True) [(a0, .inr (5, [.ref cb, .int 81, .int 0, .ref a2, .int 1, .ref a3, .int 0, .ref a4, .int 1, .int 1, .ref a1, .int 6, .int 0, .int 1, .int 0])), (a1, .inl (cy 1, 864, .inl f0))] ∧ NK U ∧ SK cb (va_A [(a0, .inr (5, [.ref cb, .int 81, .int 0, .ref a2, .int 1, .ref a3, .int 0, .ref a4, .int 1, .int 1, .ref a1, .int 6, .int 0, .int 1, .int 0])), (a1, .inl (cy 1, 864, .inl f0))] sz) U U.heap)) (va_Qv (fun u : (Nat → Int32) => True) (fun u t => match u with | (u0) => va_P (dC, dI) vwCl [(a0, .inr (5, [.ref cb, .int 81, .int 0, .ref a2, .int 1, .ref a3, .int 0, .ref a4, .int 1, .int 1, .ref a1, .int 6, .int 0, .int 1, .int 0])), (a1, .inl (cy 1, 864, .inl u0))] t.heap ∧ va_K (dC, dI) vwCl (TYS cy) t ∧ va_D (va_A [(a0, .inr (5, [.ref cb, .int 81, .int 0, .ref a2, .int 1, .ref a3, .int 0, .ref a4, .int 1, .int 1, .ref a1, .int 6, .int 0, .int 1, .int 0])), (a1, .inl (cy 1, 864, .inl f0))] sz) [(a0, .inr (5, [.ref cb, .int 81, .int 0, .ref a2, .int 1, .ref a3, .int 0, .ref a4, .int 1, .int 1, .ref a1, .int 6, .int 0, .int 1, .int 0])), (a1, .inl (cy 1, 864, .inl u0))]) (va_A [(a0, .inr (5, [.ref cb, .int 81, .int 0, .ref a2, .int 1, .ref a3, .int 0, .ref a4, .int 1, .int 1, .ref a1, .int 6, .int 0, .int 1, .int 0])), (a1, .inl (cy 1, 864, .inl f0))] sz)) 0 0 (va_A [(a0, .inr (5, [.ref cb, .int 81, .int 0, .ref a2, .int 1, .ref a3, .int 0, .ref a4, .int 1, .int 1, .ref a1, .int 6, .int 0, .int 1, .int 0])), (a1, .inl (cy 1, 864, .inl f0))] sz) := by
  refine Met.ofW (cc := cX5_setFunction) (maxL := 4) (ret := none) (by decide) rfl ?_
  intro p e s m args below meth c s₁ B hml hv
  obtain ⟨rfl, hsz, hP, hK, hD0, hN, hSK⟩ := hv
  have hx := B.exec
  have hb := B.bytes
  have hr := B.returns
  have hts := atoms_spec (ws := wsX5_setFunction) B.pre
  have hown : s.vm.findClass RX5 = some m.cls := findClass_of_methodNamed B.named
  have hlocks := B.notSynchronized
  subst hsz
  have hD := hD0.self (sz := s.heap.size)
  generalize hAe : va_A [(a0, .inr (5, [.ref cb, .int 81, .int 0, .ref a2, .int 1, .ref a3, .int 0, .ref a4, .int 1, .int 1, .ref a1, .int 6, .int 0, .int 1, .int 0])), (a1, .inl (cy 1, 864, .inl f0))] s.heap.size = A at hD hSK ⊢
  have hA : ∀ q : Nat, s.heap.size ≤ q → A q := fun q h => by rw [← hAe]; exact Or.inr h
  have hS : va_S A s.heap s.heap [] := va_S.rf
  have hP : va_P (dC, dI) vwCl [(a0, .inr (5, [.ref cb, .int 81, .int 0, .ref a2, .int 1, .ref a3, .int 0, .ref a4, .int 1, .int 1, .ref a1, .int 6, .int 0, .int 1, .int 0])), (a1, .inl (cy 1, 864, .inl f0))] s.heap := hP
  have hl := lv_entry ([.ref a0, .int 0, .int 0, .int 1]) (n := 4) (Nat.le_of_ble_eq_true rfl)
  rw [lg_entry_eq]
  generalize (lg_sl ([.ref a0, .int 0, .int 0, .int 1]) ++ List.replicate (4 - (lg_sl ([.ref a0, .int 0, .int 0, .int 1])).length) Slot.unset).toArray = ls at hl ⊢
  replace hl : lv_has ls 4 [(0, .ref a0), (1, .int 0), (2, .int 0), (3, .int 1)] := hl
  refine lv_iload_n hx hb dX5_setFunction_0 rfl (lv_at hl 1 rfl) ?_
  refine lv_if_lt (tgt := 22) hx hb dX5_setFunction_1 (by decide) (fun h => absurd h (by decide)) (fun _ => ?_)
  refine lv_iload_n hx hb dX5_setFunction_4 rfl (lv_at hl 1 rfl) ?_
  refine lv_bipush (v := 96) hx hb dX5_setFunction_5 (by decide) ?_
  refine lv_icmp_ge (tgt := 22) hx hb dX5_setFunction_7 (by decide) (fun h => absurd h (by decide)) (fun _ => ?_)
  refine lv_aload_n hx hb dX5_setFunction_10 rfl (lv_at hl 0 rfl) ?_
  refine va_get (D := (dC, dI)) (ci := 5) (v := .ref a1) (C := RX5) (T := TX5) (N := 15) hx hb hts iw_X5_setFunction_X5 hown hK hP 0 rfl rfl 10 (by decide) (hts _ m_X5_setFunction_1) (fun _ h9 => h9) rfl dX5_setFunction_11 ?_
  refine lv_iload_n hx hb dX5_setFunction_14 rfl (lv_at hl 1 rfl) ?_
  refine lv_bipush (v := 9) hx hb dX5_setFunction_15 (by decide) ?_
  refine lv_imul hx hb dX5_setFunction_17 ?_
  refine lv_topi (fun z_1 ez_1 => ?_)
  obtain rfl : z_1 = 0 := ez_1.trans (by decide)
  clear ez_1
  refine lv_iload_n hx hb dX5_setFunction_18 rfl (lv_at hl 2 rfl) ?_
  refine lv_iadd hx hb dX5_setFunction_19 ?_
  refine lv_topi (fun z_2 ez_2 => ?_)
  obtain rfl : z_2 = 0 := ez_2.trans (by decide)
  clear ez_2
  refine lv_iload_n hx hb dX5_setFunction_20 rfl (lv_at hl 3 rfl) ?_
  refine va_iast hx hb hK hP hD hS 1 1 rfl rfl (by unfold vp_in; decide) dX5_setFunction_21 (fun H_4 locs hP2 hD2 hS2 => ?_)
  replace hP : va_P (dC, dI) vwCl [(a0, .inr (5, [.ref cb, .int 81, .int 0, .ref a2, .int 1, .ref a3, .int 0, .ref a4, .int 1, .int 1, .ref a1, .int 6, .int 0, .int 1, .int 0])), (a1, .inl (cy 1, 864, .inl (upd f0 0 1)))] H_4 := hP2
  replace hD : va_D A [(a0, .inr (5, [.ref cb, .int 81, .int 0, .ref a2, .int 1, .ref a3, .int 0, .ref a4, .int 1, .int 1, .ref a1, .int 6, .int 0, .int 1, .int 0])), (a1, .inl (cy 1, 864, .inl (upd f0 0 1)))] := hD2
  replace hS := hS2
  clear hP2 hD2 hS2
  obtain ⟨g_3, eg_3⟩ : ∃ z, upd f0 0 1 = z := ⟨_, rfl⟩
  rw [eg_3] at hP hD
  exact W.vret hx hb hr (fun t ht hW => ⟨⟨(g_3), rfl, trivial, by rw [ht]; exact hP, va_K.moved hW.alike hK, hD⟩, hS.F ht⟩) hS.2.2 dX5_setFunction_22

set_option maxHeartbeats 4000000 in
set_option maxRecDepth 100000 in
theorem cc_46_X5_setFunction (l : Launch) (dC : Nat → ClassId) (dI : Nat → Nat → Nat) (cy : Nat → ClassId) (sz : Nat) (cb : Nat) (a0 : Nat) (a1 : Nat) (a2 : Nat) (a3 : Nat) (a4 : Nat) (f0 : Nat → Int32)  : Met l yX5_setFunction wsX5_setFunction ({ frames := 0, cells := 0, slots := 0, locals := 0 }) (va_Pc [.ref a0, .int 0, .int 1, .int 1] (fun U => U.heap.size = sz ∧ va_P (dC, dI) vwCl [(a0, .inr (5, [.ref cb, .int 81, .int 0, .ref a2, .int 1, .ref a3, .int 0, .ref a4, .int 1, .int 1, .ref a1, .int 6, .int 0, .int 1, .int 0])), (a1, .inl (cy 1, 864, .inl f0))] U.heap ∧ va_K (dC, dI) vwCl (TYS cy) U ∧ va_D (fun _ => True) [(a0, .inr (5, [.ref cb, .int 81, .int 0, .ref a2, .int 1, .ref a3, .int 0, .ref a4, .int 1, .int 1, .ref a1, .int 6, .int 0, .int 1, .int 0])), (a1, .inl (cy 1, 864, .inl f0))] ∧ NK U ∧ SK cb (va_A [(a0, .inr (5, [.ref cb, .int 81, .int 0, .ref a2, .int 1, .ref a3, .int 0, .ref a4, .int 1, .int 1, .ref a1, .int 6, .int 0, .int 1, .int 0])), (a1, .inl (cy 1, 864, .inl f0))] sz) U U.heap)) (va_Qv (fun u : (Nat → Int32) => True) (fun u t => match u with | (u0) => va_P (dC, dI) vwCl [(a0, .inr (5, [.ref cb, .int 81, .int 0, .ref a2, .int 1, .ref a3, .int 0, .ref a4, .int 1, .int 1, .ref a1, .int 6, .int 0, .int 1, .int 0])), (a1, .inl (cy 1, 864, .inl u0))] t.heap ∧ va_K (dC, dI) vwCl (TYS cy) t ∧ va_D (va_A [(a0, .inr (5, [.ref cb, .int 81, .int 0, .ref a2, .int 1, .ref a3, .int 0, .ref a4, .int 1, .int 1, .ref a1, .int 6, .int 0, .int 1, .int 0])), (a1, .inl (cy 1, 864, .inl f0))] sz) [(a0, .inr (5, [.ref cb, .int 81, .int 0, .ref a2, .int 1, .ref a3, .int 0, .ref a4, .int 1, .int 1, .ref a1, .int 6, .int 0, .int 1, .int 0])), (a1, .inl (cy 1, 864, .inl u0))]) (va_A [(a0, .inr (5, [.ref cb, .int 81, .int 0, .ref a2, .int 1, .ref a3, .int 0, .ref a4, .int 1, .int 1, .ref a1, .int 6, .int 0, .int 1, .int 0])), (a1, .inl (cy 1, 864, .inl f0))] sz)) 0 0 (va_A [(a0, .inr (5, [.ref cb, .int 81, .int 0, .ref a2, .int 1, .ref a3, .int 0, .ref a4, .int 1, .int 1, .ref a1, .int 6, .int 0, .int 1, .int 0])), (a1, .inl (cy 1, 864, .inl f0))] sz) := by
  refine Met.ofW (cc := cX5_setFunction) (maxL := 4) (ret := none) (by decide) rfl ?_
  intro p e s m args below meth c s₁ B hml hv
  obtain ⟨rfl, hsz, hP, hK, hD0, hN, hSK⟩ := hv
  have hx := B.exec
  have hb := B.bytes
  have hr := B.returns
  have hts := atoms_spec (ws := wsX5_setFunction) B.pre
  have hown : s.vm.findClass RX5 = some m.cls := findClass_of_methodNamed B.named
  have hlocks := B.notSynchronized
  subst hsz
  have hD := hD0.self (sz := s.heap.size)
  generalize hAe : va_A [(a0, .inr (5, [.ref cb, .int 81, .int 0, .ref a2, .int 1, .ref a3, .int 0, .ref a4, .int 1, .int 1, .ref a1, .int 6, .int 0, .int 1, .int 0])), (a1, .inl (cy 1, 864, .inl f0))] s.heap.size = A at hD hSK ⊢
  have hA : ∀ q : Nat, s.heap.size ≤ q → A q := fun q h => by rw [← hAe]; exact Or.inr h
  have hS : va_S A s.heap s.heap [] := va_S.rf
  have hP : va_P (dC, dI) vwCl [(a0, .inr (5, [.ref cb, .int 81, .int 0, .ref a2, .int 1, .ref a3, .int 0, .ref a4, .int 1, .int 1, .ref a1, .int 6, .int 0, .int 1, .int 0])), (a1, .inl (cy 1, 864, .inl f0))] s.heap := hP
  have hl := lv_entry ([.ref a0, .int 0, .int 1, .int 1]) (n := 4) (Nat.le_of_ble_eq_true rfl)
  rw [lg_entry_eq]
  generalize (lg_sl ([.ref a0, .int 0, .int 1, .int 1]) ++ List.replicate (4 - (lg_sl ([.ref a0, .int 0, .int 1, .int 1])).length) Slot.unset).toArray = ls at hl ⊢
  replace hl : lv_has ls 4 [(0, .ref a0), (1, .int 0), (2, .int 1), (3, .int 1)] := hl
  refine lv_iload_n hx hb dX5_setFunction_0 rfl (lv_at hl 1 rfl) ?_
  refine lv_if_lt (tgt := 22) hx hb dX5_setFunction_1 (by decide) (fun h => absurd h (by decide)) (fun _ => ?_)
  refine lv_iload_n hx hb dX5_setFunction_4 rfl (lv_at hl 1 rfl) ?_
  refine lv_bipush (v := 96) hx hb dX5_setFunction_5 (by decide) ?_
  refine lv_icmp_ge (tgt := 22) hx hb dX5_setFunction_7 (by decide) (fun h => absurd h (by decide)) (fun _ => ?_)
  refine lv_aload_n hx hb dX5_setFunction_10 rfl (lv_at hl 0 rfl) ?_
  refine va_get (D := (dC, dI)) (ci := 5) (v := .ref a1) (C := RX5) (T := TX5) (N := 15) hx hb hts iw_X5_setFunction_X5 hown hK hP 0 rfl rfl 10 (by decide) (hts _ m_X5_setFunction_1) (fun _ h9 => h9) rfl dX5_setFunction_11 ?_
  refine lv_iload_n hx hb dX5_setFunction_14 rfl (lv_at hl 1 rfl) ?_
  refine lv_bipush (v := 9) hx hb dX5_setFunction_15 (by decide) ?_
  refine lv_imul hx hb dX5_setFunction_17 ?_
  refine lv_topi (fun z_1 ez_1 => ?_)
  obtain rfl : z_1 = 0 := ez_1.trans (by decide)
  clear ez_1
  refine lv_iload_n hx hb dX5_setFunction_18 rfl (lv_at hl 2 rfl) ?_
  refine lv_iadd hx hb dX5_setFunction_19 ?_
  refine lv_topi (fun z_2 ez_2 => ?_)
  obtain rfl : z_2 = 1 := ez_2.trans (by decide)
  clear ez_2
  refine lv_iload_n hx hb dX5_setFunction_20 rfl (lv_at hl 3 rfl) ?_
  refine va_iast hx hb hK hP hD hS 1 1 rfl rfl (by unfold vp_in; decide) dX5_setFunction_21 (fun H_4 locs hP2 hD2 hS2 => ?_)
  replace hP : va_P (dC, dI) vwCl [(a0, .inr (5, [.ref cb, .int 81, .int 0, .ref a2, .int 1, .ref a3, .int 0, .ref a4, .int 1, .int 1, .ref a1, .int 6, .int 0, .int 1, .int 0])), (a1, .inl (cy 1, 864, .inl (upd f0 1 1)))] H_4 := hP2
  replace hD : va_D A [(a0, .inr (5, [.ref cb, .int 81, .int 0, .ref a2, .int 1, .ref a3, .int 0, .ref a4, .int 1, .int 1, .ref a1, .int 6, .int 0, .int 1, .int 0])), (a1, .inl (cy 1, 864, .inl (upd f0 1 1)))] := hD2
  replace hS := hS2
  clear hP2 hD2 hS2
  obtain ⟨g_3, eg_3⟩ : ∃ z, upd f0 1 1 = z := ⟨_, rfl⟩
  rw [eg_3] at hP hD
  exact W.vret hx hb hr (fun t ht hW => ⟨⟨(g_3), rfl, trivial, by rw [ht]; exact hP, va_K.moved hW.alike hK, hD⟩, hS.F ht⟩) hS.2.2 dX5_setFunction_22

set_option maxHeartbeats 4000000 in
set_option maxRecDepth 100000 in
theorem cc_49_X6_readByte (l : Launch) (dC : Nat → ClassId) (dI : Nat → Nat → Nat) (cy : Nat → ClassId) (sz : Nat) (cb : Nat) (a0 : Nat) (a1 : Nat) (a2 : Nat) (a3 : Nat) (a4 : Nat) (a5 : Nat) (a6 : Nat)  : Met l yX6_readByte wsX6_readByte ({ frames := 0, cells := 0, slots := 0, locals := 0 }) (va_Pc [.ref a0] (fun U => U.heap.size = sz ∧ va_P (dC, dI) vwCl [(a0, .inr (6, [.int 0, .int 0, .ref a1, .int 15, .int 0, .int 0, .int 0, .int 0, .ref a2])), (a1, .inr (5, [.ref cb, .int 81, .int 0, .ref a3, .int 1, .ref a4, .int 0, .ref a5, .int 1, .int 1, .ref a6, .int 6, .int 0, .int 1, .int 0]))] U.heap ∧ va_K (dC, dI) vwCl (TYS cy) U ∧ va_D (fun _ => True) [(a0, .inr (6, [.int 0, .int 0, .ref a1, .int 15, .int 0, .int 0, .int 0, .int 0, .ref a2])), (a1, .inr (5, [.ref cb, .int 81, .int 0, .ref a3, .int 1, .ref a4, .int 0, .ref a5, .int 1, .int 1, .ref a6, .int 6, .int 0, .int 1, .int 0]))] ∧ NK U ∧ SK cb (va_A [(a0, .inr (6, [.int 0, .int 0, .ref a1, .int 15, .int 0, .int 0, .int 0, .int 0, .ref a2])), (a1, .inr (5, [.ref cb, .int 81, .int 0, .ref a3, .int 1, .ref a4, .int 0, .ref a5, .int 1, .int 1, .ref a6, .int 6, .int 0, .int 1, .int 0]))] sz) U U.heap)) (va_Qi (fun (r : Int32) (u : Unit) => r = 1) (fun u t => va_P (dC, dI) vwCl [(a0, .inr (6, [.int 0, .int 0, .ref a1, .int 16, .int 0, .int 0, .int 0, .int 0, .ref a2])), (a1, .inr (5, [.ref cb, .int 81, .int 0, .ref a3, .int 1, .ref a4, .int 0, .ref a5, .int 1, .int 1, .ref a6, .int 6, .int 0, .int 1, .int 0]))] t.heap ∧ va_K (dC, dI) vwCl (TYS cy) t ∧ va_D (va_A [(a0, .inr (6, [.int 0, .int 0, .ref a1, .int 15, .int 0, .int 0, .int 0, .int 0, .ref a2])), (a1, .inr (5, [.ref cb, .int 81, .int 0, .ref a3, .int 1, .ref a4, .int 0, .ref a5, .int 1, .int 1, .ref a6, .int 6, .int 0, .int 1, .int 0]))] sz) [(a0, .inr (6, [.int 0, .int 0, .ref a1, .int 16, .int 0, .int 0, .int 0, .int 0, .ref a2])), (a1, .inr (5, [.ref cb, .int 81, .int 0, .ref a3, .int 1, .ref a4, .int 0, .ref a5, .int 1, .int 1, .ref a6, .int 6, .int 0, .int 1, .int 0]))]) (va_A [(a0, .inr (6, [.int 0, .int 0, .ref a1, .int 15, .int 0, .int 0, .int 0, .int 0, .ref a2])), (a1, .inr (5, [.ref cb, .int 81, .int 0, .ref a3, .int 1, .ref a4, .int 0, .ref a5, .int 1, .int 1, .ref a6, .int 6, .int 0, .int 1, .int 0]))] sz)) 0 0 (va_A [(a0, .inr (6, [.int 0, .int 0, .ref a1, .int 15, .int 0, .int 0, .int 0, .int 0, .ref a2])), (a1, .inr (5, [.ref cb, .int 81, .int 0, .ref a3, .int 1, .ref a4, .int 0, .ref a5, .int 1, .int 1, .ref a6, .int 6, .int 0, .int 1, .int 0]))] sz) := by
  refine Met.ofW (cc := cX6_readByte) (maxL := 1) (ret := (some .int)) (by decide) rfl ?_
  intro p e s m args below meth c s₁ B hml hv
  obtain ⟨rfl, hsz, hP, hK, hD0, hN, hSK⟩ := hv
  have hx := B.exec
  have hb := B.bytes
  have hr := B.returns
  have hts := atoms_spec (ws := wsX6_readByte) B.pre
  have hown : s.vm.findClass RX6 = some m.cls := findClass_of_methodNamed B.named
  have hlocks := B.notSynchronized
  subst hsz
  have hD := hD0.self (sz := s.heap.size)
  generalize hAe : va_A [(a0, .inr (6, [.int 0, .int 0, .ref a1, .int 15, .int 0, .int 0, .int 0, .int 0, .ref a2])), (a1, .inr (5, [.ref cb, .int 81, .int 0, .ref a3, .int 1, .ref a4, .int 0, .ref a5, .int 1, .int 1, .ref a6, .int 6, .int 0, .int 1, .int 0]))] s.heap.size = A at hD hSK ⊢
  have hA : ∀ q : Nat, s.heap.size ≤ q → A q := fun q h => by rw [← hAe]; exact Or.inr h
  have hS : va_S A s.heap s.heap [] := va_S.rf
  have hP : va_P (dC, dI) vwCl [(a0, .inr (6, [.int 0, .int 0, .ref a1, .int 15, .int 0, .int 0, .int 0, .int 0, .ref a2])), (a1, .inr (5, [.ref cb, .int 81, .int 0, .ref a3, .int 1, .ref a4, .int 0, .ref a5, .int 1, .int 1, .ref a6, .int 6, .int 0, .int 1, .int 0]))] s.heap := hP
  have hl := lv_entry ([.ref a0]) (n := 1) (Nat.le_of_ble_eq_true rfl)
  rw [lg_entry_eq]
  generalize (lg_sl ([.ref a0]) ++ List.replicate (1 - (lg_sl ([.ref a0])).length) Slot.unset).toArray = ls at hl ⊢
  replace hl : lv_has ls 1 [(0, .ref a0)] := hl
  refine lv_aload_n hx hb dX6_readByte_0 rfl (lv_at hl 0 rfl) ?_
  refine va_get (D := (dC, dI)) (ci := 6) (v := .int 0) (C := RX6) (T := TX6) (N := 9) hx hb hts iw_X6_readByte_X6 hown hK hP 0 rfl rfl 1 (by decide) (hts _ m_X6_readByte_1) (fun _ h9 => h9) rfl dX6_readByte_1 ?_
  refine lv_if_eq (tgt := 9) hx hb dX6_readByte_4 (by decide) (fun _ => ?_) (fun h => absurd (by decide) h)
  refine lv_aload_n hx hb dX6_readByte_9 rfl (lv_at hl 0 rfl) ?_
  refine va_get (D := (dC, dI)) (ci := 6) (v := .int 15) (C := RX6) (T := TX6) (N := 9) hx hb hts iw_X6_readByte_X6 hown hK hP 0 rfl rfl 3 (by decide) (hts _ m_X6_readByte_2) (fun _ h9 => h9) rfl dX6_readByte_10 ?_
  refine lv_aload_n hx hb dX6_readByte_13 rfl (lv_at hl 0 rfl) ?_
  refine va_get (D := (dC, dI)) (ci := 6) (v := .ref a1) (C := RX6) (T := TX6) (N := 9) hx hb hts iw_X6_readByte_X6 hown hK hP 0 rfl rfl 2 (by decide) (hts _ m_X6_readByte_3) (fun _ h9 => h9) rfl dX6_readByte_14 ?_
  refine va_get (D := (dC, dI)) (ci := 5) (v := .int 81) (C := RX5) (T := TX5) (N := 15) hx hb hts iw_X6_readByte_X5 hown hK hP 1 rfl rfl 1 (by decide) (hts _ m_X6_readByte_4) (fun _ h9 => h9) rfl dX6_readByte_17 ?_
  refine lv_icmp_lt (tgt := 41) hx hb dX6_readByte_20 (by decide) (fun _ => ?_) (fun h => absurd (by decide) h)
  refine lv_aload_n hx hb dX6_readByte_41 rfl (lv_at hl 0 rfl) ?_
  refine va_get (D := (dC, dI)) (ci := 6) (v := .ref a1) (C := RX6) (T := TX6) (N := 9) hx hb hts iw_X6_readByte_X6 hown hK hP 0 rfl rfl 2 (by decide) (hts _ m_X6_readByte_3) (fun _ h9 => h9) rfl dX6_readByte_42 ?_
  refine va_get (D := (dC, dI)) (ci := 5) (v := .ref cb) (C := RX5) (T := TX5) (N := 15) hx hb hts iw_X6_readByte_X5 hown hK hP 1 rfl rfl 0 (by decide) (hts _ m_X6_readByte_6) (fun _ h9 => h9) rfl dX6_readByte_45 ?_
  refine lv_aload_n hx hb dX6_readByte_48 rfl (lv_at hl 0 rfl) ?_
  refine lv_dup hx hb dX6_readByte_49 rfl ?_
  refine va_get (D := (dC, dI)) (ci := 6) (v := .int 15) (C := RX6) (T := TX6) (N := 9) hx hb hts iw_X6_readByte_X6 hown hK hP 0 rfl rfl 3 (by decide) (hts _ m_X6_readByte_2) (fun _ h9 => h9) rfl dX6_readByte_50 ?_
  refine lv_dup_x1 hx hb dX6_readByte_53 rfl rfl ?_
  refine lv_iconst (v := 1) hx hb dX6_readByte_54 (by decide) ?_
  refine lv_iadd hx hb dX6_readByte_55 ?_
  refine lv_topi (fun z_1 ez_1 => ?_)
  obtain rfl : z_1 = 16 := ez_1.trans (by decide)
  clear ez_1
  refine va_put (D := (dC, dI)) (ci := 6) (v := .int 16) (ty := .int) (C := RX6) (T := TX6) (N := 9) hx hb hts iw_X6_readByte_X6 tyX6 tyX6_ok nmX6 hown hK hP hD hS 0 rfl rfl 3 (by decide) (hts _ m_X6_readByte_2) (fun _ h9 => h9) rfl (by decide +kernel) rfl rfl (Nat.le_of_ble_eq_true rfl) dX6_readByte_56 (fun H_2 locs hP2 hD2 hS2 => ?_)
  replace hP : va_P (dC, dI) vwCl [(a0, .inr (6, [.int 0, .int 0, .ref a1, .int 16, .int 0, .int 0, .int 0, .int 0, .ref a2])), (a1, .inr (5, [.ref cb, .int 81, .int 0, .ref a3, .int 1, .ref a4, .int 0, .ref a5, .int 1, .int 1, .ref a6, .int 6, .int 0, .int 1, .int 0]))] H_2 := hP2
  replace hD : va_D A [(a0, .inr (6, [.int 0, .int 0, .ref a1, .int 16, .int 0, .int 0, .int 0, .int 0, .ref a2])), (a1, .inr (5, [.ref cb, .int 81, .int 0, .ref a3, .int 1, .ref a4, .int 0, .ref a5, .int 1, .int 1, .ref a6, .int 6, .int 0, .int 1, .int 0]))] := hD2
  replace hS := hS2
  clear hP2 hD2 hS2
  refine va_tb (v := .int 1) hx hb hSK.2 hS (by unfold vp_in; decide) rfl dX6_readByte_59 ?_
  refine lv_sipush (v := 255) hx hb dX6_readByte_60 (by decide) ?_
  refine lv_iand hx hb dX6_readByte_63 ?_
  refine lv_topi (fun z_3 ez_3 => ?_)
  obtain rfl : z_3 = 1 := ez_3.trans (by decide)
  clear ez_3
  exact W.iret hx hb hr (fun t ht hW => ⟨⟨1, (), rfl, rfl, by rw [ht]; exact hP, va_K.moved hW.alike hK, hD⟩, hS.F ht⟩) hS.2.2 dX6_readByte_64

set_option maxHeartbeats 4000000 in
set_option maxRecDepth 100000 in
theorem cc_48_X6_readNumber (l : Launch) (dC : Nat → ClassId) (dI : Nat → Nat → Nat) (cy : Nat → ClassId) (sz : Nat) (cb : Nat) (a0 : Nat) (a1 : Nat) (a2 : Nat) (a3 : Nat) (a4 : Nat) (a5 : Nat) (a6 : Nat)  : Met l yX6_readNumber wsX6_readNumber ({ frames := 1, cells := 0, slots := 0, locals := 20 }) (va_Pc [.ref a0, .int 0, .int 8] (fun U => U.heap.size = sz ∧ va_P (dC, dI) vwCl [(a0, .inr (6, [.int 0, .int 0, .ref a1, .int 15, .int 0, .int 0, .int 0, .int 0, .ref a2])), (a1, .inr (5, [.ref cb, .int 81, .int 0, .ref a3, .int 1, .ref a4, .int 0, .ref a5, .int 1, .int 1, .ref a6, .int 6, .int 0, .int 1, .int 0]))] U.heap ∧ va_K (dC, dI) vwCl (TYS cy) U ∧ va_D (fun _ => True) [(a0, .inr (6, [.int 0, .int 0, .ref a1, .int 15, .int 0, .int 0, .int 0, .int 0, .ref a2])), (a1, .inr (5, [.ref cb, .int 81, .int 0, .ref a3, .int 1, .ref a4, .int 0, .ref a5, .int 1, .int 1, .ref a6, .int 6, .int 0, .int 1, .int 0]))] ∧ NK U ∧ SK cb (va_A [(a0, .inr (6, [.int 0, .int 0, .ref a1, .int 15, .int 0, .int 0, .int 0, .int 0, .ref a2])), (a1, .inr (5, [.ref cb, .int 81, .int 0, .ref a3, .int 1, .ref a4, .int 0, .ref a5, .int 1, .int 1, .ref a6, .int 6, .int 0, .int 1, .int 0]))] sz) U U.heap)) (va_Qi (fun (r : Int32) (u : Unit) => r = 1) (fun u t => va_P (dC, dI) vwCl [(a0, .inr (6, [.int 0, .int 0, .ref a1, .int 16, .int 0, .int 0, .int 0, .int 0, .ref a2])), (a1, .inr (5, [.ref cb, .int 81, .int 0, .ref a3, .int 1, .ref a4, .int 0, .ref a5, .int 1, .int 1, .ref a6, .int 6, .int 0, .int 1, .int 0]))] t.heap ∧ va_K (dC, dI) vwCl (TYS cy) t ∧ va_D (va_A [(a0, .inr (6, [.int 0, .int 0, .ref a1, .int 15, .int 0, .int 0, .int 0, .int 0, .ref a2])), (a1, .inr (5, [.ref cb, .int 81, .int 0, .ref a3, .int 1, .ref a4, .int 0, .ref a5, .int 1, .int 1, .ref a6, .int 6, .int 0, .int 1, .int 0]))] sz) [(a0, .inr (6, [.int 0, .int 0, .ref a1, .int 16, .int 0, .int 0, .int 0, .int 0, .ref a2])), (a1, .inr (5, [.ref cb, .int 81, .int 0, .ref a3, .int 1, .ref a4, .int 0, .ref a5, .int 1, .int 1, .ref a6, .int 6, .int 0, .int 1, .int 0]))]) (va_A [(a0, .inr (6, [.int 0, .int 0, .ref a1, .int 15, .int 0, .int 0, .int 0, .int 0, .ref a2])), (a1, .inr (5, [.ref cb, .int 81, .int 0, .ref a3, .int 1, .ref a4, .int 0, .ref a5, .int 1, .int 1, .ref a6, .int 6, .int 0, .int 1, .int 0]))] sz)) 0 0 (va_A [(a0, .inr (6, [.int 0, .int 0, .ref a1, .int 15, .int 0, .int 0, .int 0, .int 0, .ref a2])), (a1, .inr (5, [.ref cb, .int 81, .int 0, .ref a3, .int 1, .ref a4, .int 0, .ref a5, .int 1, .int 1, .ref a6, .int 6, .int 0, .int 1, .int 0]))] sz) := by
  refine Met.ofW (cc := cX6_readNumber) (maxL := 5) (ret := (some .int)) (by decide) rfl ?_
  intro p e s m args below meth c s₁ B hml hv
  obtain ⟨rfl, hsz, hP, hK, hD0, hN, hSK⟩ := hv
  have hx := B.exec
  have hb := B.bytes
  have hr := B.returns
  have hts := atoms_spec (ws := wsX6_readNumber) B.pre
  have hown : s.vm.findClass RX6 = some m.cls := findClass_of_methodNamed B.named
  have hlocks := B.notSynchronized
  subst hsz
  have hD := hD0.self (sz := s.heap.size)
  generalize hAe : va_A [(a0, .inr (6, [.int 0, .int 0, .ref a1, .int 15, .int 0, .int 0, .int 0, .int 0, .ref a2])), (a1, .inr (5, [.ref cb, .int 81, .int 0, .ref a3, .int 1, .ref a4, .int 0, .ref a5, .int 1, .int 1, .ref a6, .int 6, .int 0, .int 1, .int 0]))] s.heap.size = A at hD hSK ⊢
  have hA : ∀ q : Nat, s.heap.size ≤ q → A q := fun q h => by rw [← hAe]; exact Or.inr h
  have hS : va_S A s.heap s.heap [] := va_S.rf
  have hP : va_P (dC, dI) vwCl [(a0, .inr (6, [.int 0, .int 0, .ref a1, .int 15, .int 0, .int 0, .int 0, .int 0, .ref a2])), (a1, .inr (5, [.ref cb, .int 81, .int 0, .ref a3, .int 1, .ref a4, .int 0, .ref a5, .int 1, .int 1, .ref a6, .int 6, .int 0, .int 1, .int 0]))] s.heap := hP
  have hl := lv_entry ([.ref a0, .int 0, .int 8]) (n := 5) (Nat.le_of_ble_eq_true rfl)
  rw [lg_entry_eq]
  generalize (lg_sl ([.ref a0, .int 0, .int 8]) ++ List.replicate (5 - (lg_sl ([.ref a0, .int 0, .int 8])).length) Slot.unset).toArray = ls at hl ⊢
  replace hl : lv_has ls 5 [(0, .ref a0), (1, .int 0), (2, .int 8)] := hl
  refine lv_aload_n hx hb dX6_readNumber_0 rfl (lv_at hl 0 rfl) ?_
  refine va_get (D := (dC, dI)) (ci := 6) (v := .int 15) (C := RX6) (T := TX6) (N := 9) hx hb hts iw_X6_readNumber_X6 hown hK hP 0 rfl rfl 3 (by decide) (hts _ m_X6_readNumber_1) (fun _ h9 => h9) rfl dX6_readNumber_1 ?_
  refine lv_istore_n (lv' := [(3, .int 15), (0, .ref a0), (1, .int 0), (2, .int 8)]) hx hb dX6_readNumber_4 rfl hl (by decide) rfl (fun ls hl2 => ?_)
  replace hl := hl2
  clear hl2
  refine lv_aload_n hx hb dX6_readNumber_5 rfl (lv_at hl 1 rfl) ?_
  have hPc := hP.sub (ws' := [(a0, .inr (6, [.int 0, .int 0, .ref a1, .int 15, .int 0, .int 0, .int 0, .int 0, .ref a2])), (a1, .inr (5, [.ref cb, .int 81, .int 0, .ref a3, .int 1, .ref a4, .int 0, .ref a5, .int 1, .int 1, .ref a6, .int 6, .int 0, .int 1, .int 0]))]) [0, 1] rfl
  have hDc := hD.sub (ws' := [(a0, .inr (6, [.int 0, .int 0, .ref a1, .int 15, .int 0, .int 0, .int 0, .int 0, .ref a2])), (a1, .inr (5, [.ref cb, .int 81, .int 0, .ref a3, .int 1, .ref a4, .int 0, .ref a5, .int 1, .int 1, .ref a6, .int 6, .int 0, .int 1, .int 0]))]) [0, 1] (by decide) rfl
  have hFc := va_free (wc := [(a0, .inr (6, [.int 0, .int 0, .ref a1, .int 15, .int 0, .int 0, .int 0, .int 0, .ref a2])), (a1, .inr (5, [.ref cb, .int 81, .int 0, .ref a3, .int 1, .ref a4, .int 0, .ref a5, .int 1, .int 1, .ref a6, .int 6, .int 0, .int 1, .int 0]))]) hD hS hA [0, 1] rfl
  refine va_calli (va_runV (As := []) (rest := []) ⟨hx, hb, hml, hown, hts⟩ (cc_49_X6_readByte l dC dI cy s.heap.size cb a0 a1 a2 a3 a4 a5 a6) (cwV 0 hts gX6_readNumber_X6_readByte rfl rfl rfl (by decide +kernel) ⟨Nat.le_of_ble_eq_true rfl, Nat.le_of_ble_eq_true rfl⟩) ⟨fun a U g mk q => by obtain ⟨q0, q1, qP, qK, qD, qN, qS⟩ := q; exact ⟨q0, q1, qP, va_K.moved (u := U) (U := U.calling g mk a) (Vm.Alike.refl U.vm) qK, qD, qN.same rfl, SK.moved (u := U) (U := U.calling g mk a) (Vm.Alike.refl U.vm) qS⟩, va_recv hK hPc (ci := 6) (q0 := 0) rfl rfl, fun U hU hW => ⟨rfl, by rw [hU], by rw [hU]; exact hPc, va_K.moved hW.alike hK, hDc.weaken (fun _ _ _ _ => trivial), hN.warm hW, by rw [hU]; exact ((hSK.kept hS.2.1).narrow hFc).moved hW.alike⟩⟩ rfl rfl hl.1 rfl (lv_room (Nat.le_of_ble_eq_true rfl)) dX6_readNumber_6 ⟨Nat.le_of_ble_eq_true rfl, Nat.le_of_ble_eq_true rfl⟩) hS (fun q _ h => hFc q h) hFc (fun r_1 u t H_2 locs ht hvm hw hB hz1 hk1 hS2 => ?_)
  obtain ⟨hP1, hK1, hD1⟩ := hB
  rw [ht] at hP1
  obtain rfl := hw
  obtain ⟨hP2, hD2⟩ := va_join (wr := []) (w1 := [(a0, .inr (6, [.int 0, .int 0, .ref a1, .int 16, .int 0, .int 0, .int 0, .int 0, .ref a2])), (a1, .inr (5, [.ref cb, .int 81, .int 0, .ref a3, .int 1, .ref a4, .int 0, .ref a5, .int 1, .int 1, .ref a6, .int 6, .int 0, .int 1, .int 0]))]) hP hD [0, 1] [] rfl rfl (by decide) (by decide) hk1 hFc hP1 hD1
  replace hP : va_P (dC, dI) vwCl [(a0, .inr (6, [.int 0, .int 0, .ref a1, .int 16, .int 0, .int 0, .int 0, .int 0, .ref a2])), (a1, .inr (5, [.ref cb, .int 81, .int 0, .ref a3, .int 1, .ref a4, .int 0, .ref a5, .int 1, .int 1, .ref a6, .int 6, .int 0, .int 1, .int 0]))] H_2 := hP2
  replace hD : va_D A [(a0, .inr (6, [.int 0, .int 0, .ref a1, .int 16, .int 0, .int 0, .int 0, .int 0, .ref a2])), (a1, .inr (5, [.ref cb, .int 81, .int 0, .ref a3, .int 1, .ref a4, .int 0, .ref a5, .int 1, .int 1, .ref a6, .int 6, .int 0, .int 1, .int 0]))] := hD2
  replace hS := hS2
  clear hP2 hD2 hS2
  clear hPc hDc hFc hP1 hD1 hK1 hk1 hz1 hvm ht
  refine W.widen (k := 0) (n := 0) (Nat.le_of_ble_eq_true rfl) (Nat.le_of_ble_eq_true rfl) ?_
  refine lv_istore (lv' := [(4, .int 1), (3, .int 15), (0, .ref a0), (1, .int 0), (2, .int 8)]) hx hb dX6_readNumber_9 hl (by decide) rfl (fun ls hl2 => ?_)
  replace hl := hl2
  clear hl2
  refine lv_iload hx hb dX6_readNumber_11 (lv_at hl 0 rfl) ?_
  refine lv_iload_n hx hb dX6_readNumber_13 rfl (lv_at hl 3 rfl) ?_
  refine lv_icmp_lt (tgt := 23) hx hb dX6_readNumber_14 (by decide) (fun h => absurd h (by decide)) (fun _ => ?_)
  refine lv_iload hx hb dX6_readNumber_17 (lv_at hl 0 rfl) ?_
  refine lv_iload_n hx hb dX6_readNumber_19 rfl (lv_at hl 4 rfl) ?_
  refine lv_icmp_le (tgt := 29) hx hb dX6_readNumber_20 (by decide) (fun _ => ?_) (fun h => absurd (by decide) h)
  refine lv_aload_n hx hb dX6_readNumber_29 rfl (lv_at hl 2 rfl) ?_
  refine va_get (D := (dC, dI)) (ci := 6) (v := .int 0) (C := RX6) (T := TX6) (N := 9) hx hb hts iw_X6_readNumber_X6 hown hK hP 0 rfl rfl 1 (by decide) (hts _ m_X6_readNumber_2) (fun _ h9 => h9) rfl dX6_readNumber_30 ?_
  refine lv_if_ne (tgt := 41) hx hb dX6_readNumber_33 (by decide) (fun h => absurd (by decide) h) (fun _ => ?_)
  refine lv_iload hx hb dX6_readNumber_36 (lv_at hl 0 rfl) ?_
  refine lv_goto (tgt := 42) hx hb dX6_readNumber_38 (by decide) ?_
  exact W.iret hx hb hr (fun t ht hW => ⟨⟨1, (), rfl, rfl, by rw [ht]; exact hP, va_K.moved hW.alike hK, hD⟩, hS.F ht⟩) hS.2.2 dX6_readNumber_42

set_option maxHeartbeats 4000000 in
set_option maxRecDepth 100000 in
theorem cc_52_X6_readByte (l : Launch) (dC : Nat → ClassId) (dI : Nat → Nat → Nat) (cy : Nat → ClassId) (sz : Nat) (cb : Nat) (a0 : Nat) (a1 : Nat) (a2 : Nat) (a3 : Nat) (a4 : Nat) (a5 : Nat) (a6 : Nat)  : Met l yX6_readByte wsX6_readByte ({ frames := 0, cells := 0, slots := 0, locals := 0 }) (va_Pc [.ref a0] (fun U => U.heap.size = sz ∧ va_P (dC, dI) vwCl [(a0, .inr (6, [.int 0, .int 0, .ref a1, .int 16, .int 0, .int 0, .int 0, .int 0, .ref a2])), (a1, .inr (5, [.ref cb, .int 81, .int 0, .ref a3, .int 1, .ref a4, .int 0, .ref a5, .int 1, .int 1, .ref a6, .int 6, .int 0, .int 1, .int 0]))] U.heap ∧ va_K (dC, dI) vwCl (TYS cy) U ∧ va_D (fun _ => True) [(a0, .inr (6, [.int 0, .int 0, .ref a1, .int 16, .int 0, .int 0, .int 0, .int 0, .ref a2])), (a1, .inr (5, [.ref cb, .int 81, .int 0, .ref a3, .int 1, .ref a4, .int 0, .ref a5, .int 1, .int 1, .ref a6, .int 6, .int 0, .int 1, .int 0]))] ∧ NK U ∧ SK cb (va_A [(a0, .inr (6, [.int 0, .int 0, .ref a1, .int 16, .int 0, .int 0, .int 0, .int 0, .ref a2])), (a1, .inr (5, [.ref cb, .int 81, .int 0, .ref a3, .int 1, .ref a4, .int 0, .ref a5, .int 1, .int 1, .ref a6, .int 6, .int 0, .int 1, .int 0]))] sz) U U.heap)) (va_Qi (fun (r : Int32) (u : Unit) => r = 3) (fun u t => va_P (dC, dI) vwCl [(a0, .inr (6, [.int 0, .int 0, .ref a1, .int 17, .int 0, .int 0, .int 0, .int 0, .ref a2])), (a1, .inr (5, [.ref cb, .int 81, .int 0, .ref a3, .int 1, .ref a4, .int 0, .ref a5, .int 1, .int 1, .ref a6, .int 6, .int 0, .int 1, .int 0]))] t.heap ∧ va_K (dC, dI) vwCl (TYS cy) t ∧ va_D (va_A [(a0, .inr (6, [.int 0, .int 0, .ref a1, .int 16, .int 0, .int 0, .int 0, .int 0, .ref a2])), (a1, .inr (5, [.ref cb, .int 81, .int 0, .ref a3, .int 1, .ref a4, .int 0, .ref a5, .int 1, .int 1, .ref a6, .int 6, .int 0, .int 1, .int 0]))] sz) [(a0, .inr (6, [.int 0, .int 0, .ref a1, .int 17, .int 0, .int 0, .int 0, .int 0, .ref a2])), (a1, .inr (5, [.ref cb, .int 81, .int 0, .ref a3, .int 1, .ref a4, .int 0, .ref a5, .int 1, .int 1, .ref a6, .int 6, .int 0, .int 1, .int 0]))]) (va_A [(a0, .inr (6, [.int 0, .int 0, .ref a1, .int 16, .int 0, .int 0, .int 0, .int 0, .ref a2])), (a1, .inr (5, [.ref cb, .int 81, .int 0, .ref a3, .int 1, .ref a4, .int 0, .ref a5, .int 1, .int 1, .ref a6, .int 6, .int 0, .int 1, .int 0]))] sz)) 0 0 (va_A [(a0, .inr (6, [.int 0, .int 0, .ref a1, .int 16, .int 0, .int 0, .int 0, .int 0, .ref a2])), (a1, .inr (5, [.ref cb, .int 81, .int 0, .ref a3, .int 1, .ref a4, .int 0, .ref a5, .int 1, .int 1, .ref a6, .int 6, .int 0, .int 1, .int 0]))] sz) := by
  refine Met.ofW (cc := cX6_readByte) (maxL := 1) (ret := (some .int)) (by decide) rfl ?_
  intro p e s m args below meth c s₁ B hml hv
  obtain ⟨rfl, hsz, hP, hK, hD0, hN, hSK⟩ := hv
  have hx := B.exec
  have hb := B.bytes
  have hr := B.returns
  have hts := atoms_spec (ws := wsX6_readByte) B.pre
  have hown : s.vm.findClass RX6 = some m.cls := findClass_of_methodNamed B.named
  have hlocks := B.notSynchronized
  subst hsz
  have hD := hD0.self (sz := s.heap.size)
  generalize hAe : va_A [(a0, .inr (6, [.int 0, .int 0, .ref a1, .int 16, .int 0, .int 0, .int 0, .int 0, .ref a2])), (a1, .inr (5, [.ref cb, .int 81, .int 0, .ref a3, .int 1, .ref a4, .int 0, .ref a5, .int 1, .int 1, .ref a6, .int 6, .int 0, .int 1, .int 0]))] s.heap.size = A at hD hSK ⊢
  have hA : ∀ q : Nat, s.heap.size ≤ q → A q := fun q h => by rw [← hAe]; exact Or.inr h
  have hS : va_S A s.heap s.heap [] := va_S.rf
  have hP : va_P (dC, dI) vwCl [(a0, .inr (6, [.int 0, .int 0, .ref a1, .int 16, .int 0, .int 0, .int 0, .int 0, .ref a2])), (a1, .inr (5, [.ref cb, .int 81, .int 0, .ref a3, .int 1, .ref a4, .int 0, .ref a5, .int 1, .int 1, .ref a6, .int 6, .int 0, .int 1, .int 0]))] s.heap := hP
  have hl := lv_entry ([.ref a0]) (n := 1) (Nat.le_of_ble_eq_true rfl)
  rw [lg_entry_eq]
  generalize (lg_sl ([.ref a0]) ++ List.replicate (1 - (lg_sl ([.ref a0])).length) Slot.unset).toArray = ls at hl ⊢
  replace hl : lv_has ls 1 [(0, .ref a0)] := hl
  refine lv_aload_n hx hb dX6_readByte_0 rfl (lv_at hl 0 rfl) ?_
  refine va_get (D := (dC, dI)) (ci := 6) (v := .int 0) (C := RX6) (T := TX6) (N := 9) hx hb hts iw_X6_readByte_X6 hown hK hP 0 rfl rfl 1 (by decide) (hts _ m_X6_readByte_1) (fun _ h9 => h9) rfl dX6_readByte_1 ?_
  refine lv_if_eq (tgt := 9) hx hb dX6_readByte_4 (by decide) (fun _ => ?_) (fun h => absurd (by decide) h)
  refine lv_aload_n hx hb dX6_readByte_9 rfl (lv_at hl 0 rfl) ?_
  refine va_get (D := (dC, dI)) (ci := 6) (v := .int 16) (C := RX6) (T := TX6) (N := 9) hx hb hts iw_X6_readByte_X6 hown hK hP 0 rfl rfl 3 (by decide) (hts _ m_X6_readByte_2) (fun _ h9 => h9) rfl dX6_readByte_10 ?_
  refine lv_aload_n hx hb dX6_readByte_13 rfl (lv_at hl 0 rfl) ?_
  refine va_get (D := (dC, dI)) (ci := 6) (v := .ref a1) (C := RX6) (T := TX6) (N := 9) hx hb hts iw_X6_readByte_X6 hown hK hP 0 rfl rfl 2 (by decide) (hts _ m_X6_readByte_3) (fun _ h9 => h9) rfl dX6_readByte_14 ?_
  refine va_get (D := (dC, dI)) (ci := 5) (v := .int 81) (C := RX5) (T := TX5) (N := 15) hx hb hts iw_X6_readByte_X5 hown hK hP 1 rfl rfl 1 (by decide) (hts _ m_X6_readByte_4) (fun _ h9 => h9) rfl dX6_readByte_17 ?_
  refine lv_icmp_lt (tgt := 41) hx hb dX6_readByte_20 (by decide) (fun _ => ?_) (fun h => absurd (by decide) h)
  refine lv_aload_n hx hb dX6_readByte_41 rfl (lv_at hl 0 rfl) ?_
  refine va_get (D := (dC, dI)) (ci := 6) (v := .ref a1) (C := RX6) (T := TX6) (N := 9) hx hb hts iw_X6_readByte_X6 hown hK hP 0 rfl rfl 2 (by decide) (hts _ m_X6_readByte_3) (fun _ h9 => h9) rfl dX6_readByte_42 ?_
  refine va_get (D := (dC, dI)) (ci := 5) (v := .ref cb) (C := RX5) (T := TX5) (N := 15) hx hb hts iw_X6_readByte_X5 hown hK hP 1 rfl rfl 0 (by decide) (hts _ m_X6_readByte_6) (fun _ h9 => h9) rfl dX6_readByte_45 ?_
  refine lv_aload_n hx hb dX6_readByte_48 rfl (lv_at hl 0 rfl) ?_
  refine lv_dup hx hb dX6_readByte_49 rfl ?_
  refine va_get (D := (dC, dI)) (ci := 6) (v := .int 16) (C := RX6) (T := TX6) (N := 9) hx hb hts iw_X6_readByte_X6 hown hK hP 0 rfl rfl 3 (by decide) (hts _ m_X6_readByte_2) (fun _ h9 => h9) rfl dX6_readByte_50 ?_
  refine lv_dup_x1 hx hb dX6_readByte_53 rfl rfl ?_
  refine lv_iconst (v := 1) hx hb dX6_readByte_54 (by decide) ?_
  refine lv_iadd hx hb dX6_readByte_55 ?_
  refine lv_topi (fun z_1 ez_1 => ?_)
  obtain rfl : z_1 = 17 := ez_1.trans (by decide)
  clear ez_1
  refine va_put (D := (dC, dI)) (ci := 6) (v := .int 17) (ty := .int) (C := RX6) (T := TX6) (N := 9) hx hb hts iw_X6_readByte_X6 tyX6 tyX6_ok nmX6 hown hK hP hD hS 0 rfl rfl 3 (by decide) (hts _ m_X6_readByte_2) (fun _ h9 => h9) rfl (by decide +kernel) rfl rfl (Nat.le_of_ble_eq_true rfl) dX6_readByte_56 (fun H_2 locs hP2 hD2 hS2 => ?_)
  replace hP : va_P (dC, dI) vwCl [(a0, .inr (6, [.int 0, .int 0, .ref a1, .int 17, .int 0, .int 0, .int 0, .int 0, .ref a2])), (a1, .inr (5, [.ref cb, .int 81, .int 0, .ref a3, .int 1, .ref a4, .int 0, .ref a5, .int 1, .int 1, .ref a6, .int 6, .int 0, .int 1, .int 0]))] H_2 := hP2
  replace hD : va_D A [(a0, .inr (6, [.int 0, .int 0, .ref a1, .int 17, .int 0, .int 0, .int 0, .int 0, .ref a2])), (a1, .inr (5, [.ref cb, .int 81, .int 0, .ref a3, .int 1, .ref a4, .int 0, .ref a5, .int 1, .int 1, .ref a6, .int 6, .int 0, .int 1, .int 0]))] := hD2
  replace hS := hS2
  clear hP2 hD2 hS2
  refine va_tb (v := .int 3) hx hb hSK.2 hS (by unfold vp_in; decide) rfl dX6_readByte_59 ?_
  refine lv_sipush (v := 255) hx hb dX6_readByte_60 (by decide) ?_
  refine lv_iand hx hb dX6_readByte_63 ?_
  refine lv_topi (fun z_3 ez_3 => ?_)
  obtain rfl : z_3 = 3 := ez_3.trans (by decide)
  clear ez_3
  exact W.iret hx hb hr (fun t ht hW => ⟨⟨3, (), rfl, rfl, by rw [ht]; exact hP, va_K.moved hW.alike hK, hD⟩, hS.F ht⟩) hS.2.2 dX6_readByte_64

set_option maxHeartbeats 4000000 in
set_option maxRecDepth 100000 in
theorem cc_51_X6_readOneType (l : Launch) (dC : Nat → ClassId) (dI : Nat → Nat → Nat) (cy : Nat → ClassId) (sz : Nat) (cb : Nat) (a0 : Nat) (a1 : Nat) (a2 : Nat) (a3 : Nat) (a4 : Nat) (a5 : Nat) (a6 : Nat)  : Met l yX6_readOneType wsX6_readOneType ({ frames := 1, cells := 0, slots := 0, locals := 20 }) (va_Pc [.ref a0, .int 1] (fun U => U.heap.size = sz ∧ va_P (dC, dI) vwCl [(a0, .inr (6, [.int 0, .int 0, .ref a1, .int 16, .int 0, .int 0, .int 0, .int 0, .ref a2])), (a1, .inr (5, [.ref cb, .int 81, .int 0, .ref a3, .int 1, .ref a4, .int 0, .ref a5, .int 1, .int 1, .ref a6, .int 6, .int 0, .int 1, .int 0]))] U.heap ∧ va_K (dC, dI) vwCl (TYS cy) U ∧ va_D (fun _ => True) [(a0, .inr (6, [.int 0, .int 0, .ref a1, .int 16, .int 0, .int 0, .int 0, .int 0, .ref a2])), (a1, .inr (5, [.ref cb, .int 81, .int 0, .ref a3, .int 1, .ref a4, .int 0, .ref a5, .int 1, .int 1, .ref a6, .int 6, .int 0, .int 1, .int 0]))] ∧ NK U ∧ SK cb (va_A [(a0, .inr (6, [.int 0, .int 0, .ref a1, .int 16, .int 0, .int 0, .int 0, .int 0, .ref a2])), (a1, .inr (5, [.ref cb, .int 81, .int 0, .ref a3, .int 1, .ref a4, .int 0, .ref a5, .int 1, .int 1, .ref a6, .int 6, .int 0, .int 1, .int 0]))] sz) U U.heap)) (va_Ql (fun (r : Int64) (u : Unit) => r = 3) (fun u t => va_P (dC, dI) vwCl [(a0, .inr (6, [.int 0, .int 0, .ref a1, .int 17, .int 0, .int 0, .int 0, .int 0, .ref a2])), (a1, .inr (5, [.ref cb, .int 81, .int 0, .ref a3, .int 1, .ref a4, .int 0, .ref a5, .int 1, .int 1, .ref a6, .int 6, .int 0, .int 1, .int 0]))] t.heap ∧ va_K (dC, dI) vwCl (TYS cy) t ∧ va_D (va_A [(a0, .inr (6, [.int 0, .int 0, .ref a1, .int 16, .int 0, .int 0, .int 0, .int 0, .ref a2])), (a1, .inr (5, [.ref cb, .int 81, .int 0, .ref a3, .int 1, .ref a4, .int 0, .ref a5, .int 1, .int 1, .ref a6, .int 6, .int 0, .int 1, .int 0]))] sz) [(a0, .inr (6, [.int 0, .int 0, .ref a1, .int 17, .int 0, .int 0, .int 0, .int 0, .ref a2])), (a1, .inr (5, [.ref cb, .int 81, .int 0, .ref a3, .int 1, .ref a4, .int 0, .ref a5, .int 1, .int 1, .ref a6, .int 6, .int 0, .int 1, .int 0]))]) (va_A [(a0, .inr (6, [.int 0, .int 0, .ref a1, .int 16, .int 0, .int 0, .int 0, .int 0, .ref a2])), (a1, .inr (5, [.ref cb, .int 81, .int 0, .ref a3, .int 1, .ref a4, .int 0, .ref a5, .int 1, .int 1, .ref a6, .int 6, .int 0, .int 1, .int 0]))] sz)) 0 0 (va_A [(a0, .inr (6, [.int 0, .int 0, .ref a1, .int 16, .int 0, .int 0, .int 0, .int 0, .ref a2])), (a1, .inr (5, [.ref cb, .int 81, .int 0, .ref a3, .int 1, .ref a4, .int 0, .ref a5, .int 1, .int 1, .ref a6, .int 6, .int 0, .int 1, .int 0]))] sz) := by
  refine Met.ofW (cc := cX6_readOneType) (maxL := 7) (ret := (some .long)) (by decide) rfl ?_
  intro p e s m args below meth c s₁ B hml hv
  obtain ⟨rfl, hsz, hP, hK, hD0, hN, hSK⟩ := hv
  have hx := B.exec
  have hb := B.bytes
  have hr := B.returns
  have hts := atoms_spec (ws := wsX6_readOneType) B.pre
  have hown : s.vm.findClass RX6 = some m.cls := findClass_of_methodNamed B.named
  have hlocks := B.notSynchronized
  subst hsz
  have hD := hD0.self (sz := s.heap.size)
  generalize hAe : va_A [(a0, .inr (6, [.int 0, .int 0, .ref a1, .int 16, .int 0, .int 0, .int 0, .int 0, .ref a2])), (a1, .inr (5, [.ref cb, .int 81, .int 0, .ref a3, .int 1, .ref a4, .int 0, .ref a5, .int 1, .int 1, .ref a6, .int 6, .int 0, .int 1, .int 0]))] s.heap.size = A at hD hSK ⊢
  have hA : ∀ q : Nat, s.heap.size ≤ q → A q := fun q h => by rw [← hAe]; exact Or.inr h
  have hS : va_S A s.heap s.heap [] := va_S.rf
  have hP : va_P (dC, dI) vwCl [(a0, .inr (6, [.int 0, .int 0, .ref a1, .int 16, .int 0, .int 0, .int 0, .int 0, .ref a2])), (a1, .inr (5, [.ref cb, .int 81, .int 0, .ref a3, .int 1, .ref a4, .int 0, .ref a5, .int 1, .int 1, .ref a6, .int 6, .int 0, .int 1, .int 0]))] s.heap := hP
  have hl := lv_entry ([.ref a0, .int 1]) (n := 7) (Nat.le_of_ble_eq_true rfl)
  rw [lg_entry_eq]
  generalize (lg_sl ([.ref a0, .int 1]) ++ List.replicate (7 - (lg_sl ([.ref a0, .int 1])).length) Slot.unset).toArray = ls at hl ⊢
  replace hl : lv_has ls 7 [(0, .ref a0), (1, .int 1)] := hl
  refine lv_lconst (v := 0) hx hb dX6_readOneType_0 (by decide) ?_
  refine lv_lstore_n (lv' := [(2, .long 0), (0, .ref a0), (1, .int 1)]) hx hb dX6_readOneType_1 rfl hl (by decide) rfl (fun ls hl2 => ?_)
  replace hl := hl2
  clear hl2
  refine lv_aload_n hx hb dX6_readOneType_2 rfl (lv_at hl 1 rfl) ?_
  refine va_get (D := (dC, dI)) (ci := 6) (v := .int 16) (C := RX6) (T := TX6) (N := 9) hx hb hts iw_X6_readOneType_X6 hown hK hP 0 rfl rfl 3 (by decide) (hts _ m_X6_readOneType_1) (fun _ h9 => h9) rfl dX6_readOneType_3 ?_
  refine lv_istore (lv' := [(4, .int 16), (2, .long 0), (0, .ref a0), (1, .int 1)]) hx hb dX6_readOneType_6 hl (by decide) rfl (fun ls hl2 => ?_)
  replace hl := hl2
  clear hl2
  refine lv_aload_n hx hb dX6_readOneType_8 rfl (lv_at hl 2 rfl) ?_
  have hPc := hP.sub (ws' := [(a0, .inr (6, [.int 0, .int 0, .ref a1, .int 16, .int 0, .int 0, .int 0, .int 0, .ref a2])), (a1, .inr (5, [.ref cb, .int 81, .int 0, .ref a3, .int 1, .ref a4, .int 0, .ref a5, .int 1, .int 1, .ref a6, .int 6, .int 0, .int 1, .int 0]))]) [0, 1] rfl
  have hDc := hD.sub (ws' := [(a0, .inr (6, [.int 0, .int 0, .ref a1, .int 16, .int 0, .int 0, .int 0, .int 0, .ref a2])), (a1, .inr (5, [.ref cb, .int 81, .int 0, .ref a3, .int 1, .ref a4, .int 0, .ref a5, .int 1, .int 1, .ref a6, .int 6, .int 0, .int 1, .int 0]))]) [0, 1] (by decide) rfl
  have hFc := va_free (wc := [(a0, .inr (6, [.int 0, .int 0, .ref a1, .int 16, .int 0, .int 0, .int 0, .int 0, .ref a2])), (a1, .inr (5, [.ref cb, .int 81, .int 0, .ref a3, .int 1, .ref a4, .int 0, .ref a5, .int 1, .int 1, .ref a6, .int 6, .int 0, .int 1, .int 0]))]) hD hS hA [0, 1] rfl
  refine va_calli (va_runV (As := []) (rest := []) ⟨hx, hb, hml, hown, hts⟩ (cc_52_X6_readByte l dC dI cy s.heap.size cb a0 a1 a2 a3 a4 a5 a6) (cwV 0 hts gX6_readOneType_X6_readByte rfl rfl rfl (by decide +kernel) ⟨Nat.le_of_ble_eq_true rfl, Nat.le_of_ble_eq_true rfl⟩) ⟨fun a U g mk q => by obtain ⟨q0, q1, qP, qK, qD, qN, qS⟩ := q; exact ⟨q0, q1, qP, va_K.moved (u := U) (U := U.calling g mk a) (Vm.Alike.refl U.vm) qK, qD, qN.same rfl, SK.moved (u := U) (U := U.calling g mk a) (Vm.Alike.refl U.vm) qS⟩, va_recv hK hPc (ci := 6) (q0 := 0) rfl rfl, fun U hU hW => ⟨rfl, by rw [hU], by rw [hU]; exact hPc, va_K.moved hW.alike hK, hDc.weaken (fun _ _ _ _ => trivial), hN.warm hW, by rw [hU]; exact ((hSK.kept hS.2.1).narrow hFc).moved hW.alike⟩⟩ rfl rfl hl.1 rfl (lv_room (Nat.le_of_ble_eq_true rfl)) dX6_readOneType_9 ⟨Nat.le_of_ble_eq_true rfl, Nat.le_of_ble_eq_true rfl⟩) hS (fun q _ h => hFc q h) hFc (fun r_1 u t H_2 locs ht hvm hw hB hz1 hk1 hS2 => ?_)
  obtain ⟨hP1, hK1, hD1⟩ := hB
  rw [ht] at hP1
  obtain rfl := hw
  obtain ⟨hP2, hD2⟩ := va_join (wr := []) (w1 := [(a0, .inr (6, [.int 0, .int 0, .ref a1, .int 17, .int 0, .int 0, .int 0, .int 0, .ref a2])), (a1, .inr (5, [.ref cb, .int 81, .int 0, .ref a3, .int 1, .ref a4, .int 0, .ref a5, .int 1, .int 1, .ref a6, .int 6, .int 0, .int 1, .int 0]))]) hP hD [0, 1] [] rfl rfl (by decide) (by decide) hk1 hFc hP1 hD1
  replace hP : va_P (dC, dI) vwCl [(a0, .inr (6, [.int 0, .int 0, .ref a1, .int 17, .int 0, .int 0, .int 0, .int 0, .ref a2])), (a1, .inr (5, [.ref cb, .int 81, .int 0, .ref a3, .int 1, .ref a4, .int 0, .ref a5, .int 1, .int 1, .ref a6, .int 6, .int 0, .int 1, .int 0]))] H_2 := hP2
  replace hD : va_D A [(a0, .inr (6, [.int 0, .int 0, .ref a1, .int 17, .int 0, .int 0, .int 0, .int 0, .ref a2])), (a1, .inr (5, [.ref cb, .int 81, .int 0, .ref a3, .int 1, .ref a4, .int 0, .ref a5, .int 1, .int 1, .ref a6, .int 6, .int 0, .int 1, .int 0]))] := hD2
  replace hS := hS2
  clear hP2 hD2 hS2
  clear hPc hDc hFc hP1 hD1 hK1 hk1 hz1 hvm ht
  refine W.widen (k := 0) (n := 0) (Nat.le_of_ble_eq_true rfl) (Nat.le_of_ble_eq_true rfl) ?_
  refine lv_istore (lv' := [(5, .int 3), (4, .int 16), (2, .long 0), (0, .ref a0), (1, .int 1)]) hx hb dX6_readOneType_12 hl (by decide) rfl (fun ls hl2 => ?_)
  replace hl := hl2
  clear hl2
  refine lv_iload_n hx hb dX6_readOneType_14 rfl (lv_at hl 4 rfl) ?_
  refine lv_if_eq (tgt := 48) hx hb dX6_readOneType_15 (by decide) (fun h => absurd h (by decide)) (fun _ => ?_)
  refine lv_iload hx hb dX6_readOneType_18 (lv_at hl 0 rfl) ?_
  refine lv_bipush (v := 8) hx hb dX6_readOneType_20 (by decide) ?_
  refine lv_icmp_eq (tgt := 32) hx hb dX6_readOneType_22 (by decide) (fun h => absurd h (by decide)) (fun _ => ?_)
  refine lv_iload hx hb dX6_readOneType_25 (lv_at hl 0 rfl) ?_
  refine lv_bipush (v := 9) hx hb dX6_readOneType_27 (by decide) ?_
  refine lv_icmp_ne (tgt := 48) hx hb dX6_readOneType_29 (by decide) (fun _ => ?_) (fun h => absurd h (by decide))
  refine lv_iconst (v := 0) hx hb dX6_readOneType_48 (by decide) ?_
  refine lv_istore (lv' := [(6, .int 0), (5, .int 3), (4, .int 16), (2, .long 0), (0, .ref a0), (1, .int 1)]) hx hb dX6_readOneType_49 hl (by decide) rfl (fun ls hl2 => ?_)
  replace hl := hl2
  clear hl2
  refine lv_iload hx hb dX6_readOneType_51 (lv_at hl 0 rfl) ?_
  refine lv_iconst (v := 4) hx hb dX6_readOneType_53 (by decide) ?_
  refine lv_icmp_ge (tgt := 91) hx hb dX6_readOneType_54 (by decide) (fun h => absurd h (by decide)) (fun _ => ?_)
  refine lv_iload hx hb dX6_readOneType_57 (lv_at hl 1 rfl) ?_
  refine lv_bipush (v := 7) hx hb dX6_readOneType_59 (by decide) ?_
  refine lv_icmp_ne (tgt := 91) hx hb dX6_readOneType_61 (by decide) (fun _ => ?_) (fun h => absurd h (by decide))
  refine lv_iload hx hb dX6_readOneType_91 (lv_at hl 1 rfl) ?_
  refine lv_iconst (v := 1) hx hb dX6_readOneType_93 (by decide) ?_
  refine lv_icmp_lt (tgt := 104) hx hb dX6_readOneType_94 (by decide) (fun h => absurd h (by decide)) (fun _ => ?_)
  refine lv_iload hx hb dX6_readOneType_97 (lv_at hl 1 rfl) ?_
  refine lv_bipush (v := 6) hx hb dX6_readOneType_99 (by decide) ?_
  refine lv_icmp_le (tgt := 111) hx hb dX6_readOneType_101 (by decide) (fun _ => ?_) (fun h => absurd (by decide) h)
  refine lv_lload_n hx hb dX6_readOneType_111 rfl (lv_at hl 3 rfl) ?_
  refine lv_bipush (v := 8) hx hb dX6_readOneType_112 (by decide) ?_
  refine lv_lshl (v := 0) hx hb dX6_readOneType_114 (by decide) ?_
  refine lv_iload hx hb dX6_readOneType_115 (lv_at hl 1 rfl) ?_
  refine lv_i2l (v := 3) hx hb dX6_readOneType_117 (by decide) ?_
  refine lv_lor hx hb dX6_readOneType_118 ?_
  refine lv_topl (fun z_3 ez_3 => ?_)
  obtain rfl : z_3 = 3 := ez_3.trans (by decide)
  clear ez_3
  refine lv_lstore_n (lv' := [(2, .long 3), (6, .int 0), (5, .int 3), (4, .int 16), (0, .ref a0), (1, .int 1)]) hx hb dX6_readOneType_119 rfl hl (by decide) rfl (fun ls hl2 => ?_)
  replace hl := hl2
  clear hl2
  refine lv_iload hx hb dX6_readOneType_120 (lv_at hl 2 rfl) ?_
  refine lv_bipush (v := 6) hx hb dX6_readOneType_122 (by decide) ?_
  refine lv_icmp_eq (tgt := 129) hx hb dX6_readOneType_124 (by decide) (fun h => absurd h (by decide)) (fun _ => ?_)
  refine lv_lload_n hx hb dX6_readOneType_127 rfl (lv_at hl 0 rfl) ?_
  exact W.lret hx hb hr (fun t ht hW => ⟨⟨3, (), rfl, rfl, by rw [ht]; exact hP, va_K.moved hW.alike hK, hD⟩, hS.F ht⟩) hS.2.2 dX6_readOneType_128

set_option maxHeartbeats 4000000 in
set_option maxRecDepth 100000 in
theorem cc_53_X5_addType (l : Launch) (dC : Nat → ClassId) (dI : Nat → Nat → Nat) (cy : Nat → ClassId) (sz : Nat) (cb : Nat) (a0 : Nat) (a1 : Nat) (a2 : Nat) (a3 : Nat) (a4 : Nat) (f0 : Nat → Int64) (f0_0 : f0 0 = 3) : Met l yX5_addType wsX5_addType ({ frames := 0, cells := 0, slots := 0, locals := 0 }) (va_Pc [.ref a0, .long 3] (fun U => U.heap.size = sz ∧ va_P (dC, dI) vwCl [(a0, .inr (5, [.ref cb, .int 81, .int 0, .ref a1, .int 1, .ref a2, .int 0, .ref a3, .int 1, .int 1, .ref a4, .int 6, .int 0, .int 1, .int 0])), (a1, .inl (cy 2, 2048, .inr (.inl f0)))] U.heap ∧ va_K (dC, dI) vwCl (TYS cy) U ∧ va_D (fun _ => True) [(a0, .inr (5, [.ref cb, .int 81, .int 0, .ref a1, .int 1, .ref a2, .int 0, .ref a3, .int 1, .int 1, .ref a4, .int 6, .int 0, .int 1, .int 0])), (a1, .inl (cy 2, 2048, .inr (.inl f0)))] ∧ NK U ∧ SK cb (va_A [(a0, .inr (5, [.ref cb, .int 81, .int 0, .ref a1, .int 1, .ref a2, .int 0, .ref a3, .int 1, .int 1, .ref a4, .int 6, .int 0, .int 1, .int 0])), (a1, .inl (cy 2, 2048, .inr (.inl f0)))] sz) U U.heap)) (va_Qv (fun u : (Nat → Int64) => match u with | (u0) => u0 0 = 3) (fun u t => match u with | (u0) => va_P (dC, dI) vwCl [(a0, .inr (5, [.ref cb, .int 81, .int 0, .ref a1, .int 2, .ref a2, .int 0, .ref a3, .int 1, .int 1, .ref a4, .int 6, .int 0, .int 1, .int 0])), (a1, .inl (cy 2, 2048, .inr (.inl u0)))] t.heap ∧ va_K (dC, dI) vwCl (TYS cy) t ∧ va_D (va_A [(a0, .inr (5, [.ref cb, .int 81, .int 0, .ref a1, .int 1, .ref a2, .int 0, .ref a3, .int 1, .int 1, .ref a4, .int 6, .int 0, .int 1, .int 0])), (a1, .inl (cy 2, 2048, .inr (.inl f0)))] sz) [(a0, .inr (5, [.ref cb, .int 81, .int 0, .ref a1, .int 2, .ref a2, .int 0, .ref a3, .int 1, .int 1, .ref a4, .int 6, .int 0, .int 1, .int 0])), (a1, .inl (cy 2, 2048, .inr (.inl u0)))]) (va_A [(a0, .inr (5, [.ref cb, .int 81, .int 0, .ref a1, .int 1, .ref a2, .int 0, .ref a3, .int 1, .int 1, .ref a4, .int 6, .int 0, .int 1, .int 0])), (a1, .inl (cy 2, 2048, .inr (.inl f0)))] sz)) 0 0 (va_A [(a0, .inr (5, [.ref cb, .int 81, .int 0, .ref a1, .int 1, .ref a2, .int 0, .ref a3, .int 1, .int 1, .ref a4, .int 6, .int 0, .int 1, .int 0])), (a1, .inl (cy 2, 2048, .inr (.inl f0)))] sz) := by
  refine Met.ofW (cc := cX5_addType) (maxL := 3) (ret := none) (by decide) rfl ?_
  intro p e s m args below meth c s₁ B hml hv
  obtain ⟨rfl, hsz, hP, hK, hD0, hN, hSK⟩ := hv
  have hx := B.exec
  have hb := B.bytes
  have hr := B.returns
  have hts := atoms_spec (ws := wsX5_addType) B.pre
  have hown : s.vm.findClass RX5 = some m.cls := findClass_of_methodNamed B.named
  have hlocks := B.notSynchronized
  subst hsz
  have hD := hD0.self (sz := s.heap.size)
  generalize hAe : va_A [(a0, .inr (5, [.ref cb, .int 81, .int 0, .ref a1, .int 1, .ref a2, .int 0, .ref a3, .int 1, .int 1, .ref a4, .int 6, .int 0, .int 1, .int 0])), (a1, .inl (cy 2, 2048, .inr (.inl f0)))] s.heap.size = A at hD hSK ⊢
  have hA : ∀ q : Nat, s.heap.size ≤ q → A q := fun q h => by rw [← hAe]; exact Or.inr h
  have hS : va_S A s.heap s.heap [] := va_S.rf
  have hP : va_P (dC, dI) vwCl [(a0, .inr (5, [.ref cb, .int 81, .int 0, .ref a1, .int 1, .ref a2, .int 0, .ref a3, .int 1, .int 1, .ref a4, .int 6, .int 0, .int 1, .int 0])), (a1, .inl (cy 2, 2048, .inr (.inl f0)))] s.heap := hP
  have hl := lv_entry ([.ref a0, .long 3]) (n := 3) (Nat.le_of_ble_eq_true rfl)
  rw [lg_entry_eq]
  generalize (lg_sl ([.ref a0, .long 3]) ++ List.replicate (3 - (lg_sl ([.ref a0, .long 3])).length) Slot.unset).toArray = ls at hl ⊢
  replace hl : lv_has ls 3 [(0, .ref a0), (1, .long 3)] := hl
  refine lv_aload_n hx hb dX5_addType_0 rfl (lv_at hl 0 rfl) ?_
  refine va_get (D := (dC, dI)) (ci := 5) (v := .int 1) (C := RX5) (T := TX5) (N := 15) hx hb hts iw_X5_addType_X5 hown hK hP 0 rfl rfl 4 (by decide) (hts _ m_X5_addType_1) (fun _ h9 => h9) rfl dX5_addType_1 ?_
  refine lv_aload_n hx hb dX5_addType_4 rfl (lv_at hl 0 rfl) ?_
  refine va_get (D := (dC, dI)) (ci := 5) (v := .ref a1) (C := RX5) (T := TX5) (N := 15) hx hb hts iw_X5_addType_X5 hown hK hP 0 rfl rfl 3 (by decide) (hts _ m_X5_addType_2) (fun _ h9 => h9) rfl dX5_addType_5 ?_
  refine va_alen (v := 2048) hx hb hK hP 1 2 rfl rfl rfl dX5_addType_8 ?_
  refine lv_icmp_ge (tgt := 29) hx hb dX5_addType_9 (by decide) (fun h => absurd h (by decide)) (fun _ => ?_)
  refine lv_aload_n hx hb dX5_addType_12 rfl (lv_at hl 0 rfl) ?_
  refine va_get (D := (dC, dI)) (ci := 5) (v := .ref a1) (C := RX5) (T := TX5) (N := 15) hx hb hts iw_X5_addType_X5 hown hK hP 0 rfl rfl 3 (by decide) (hts _ m_X5_addType_2) (fun _ h9 => h9) rfl dX5_addType_13 ?_
  refine lv_aload_n hx hb dX5_addType_16 rfl (lv_at hl 0 rfl) ?_
  refine lv_dup hx hb dX5_addType_17 rfl ?_
  refine va_get (D := (dC, dI)) (ci := 5) (v := .int 1) (C := RX5) (T := TX5) (N := 15) hx hb hts iw_X5_addType_X5 hown hK hP 0 rfl rfl 4 (by decide) (hts _ m_X5_addType_1) (fun _ h9 => h9) rfl dX5_addType_18 ?_
  refine lv_dup_x1 hx hb dX5_addType_21 rfl rfl ?_
  refine lv_iconst (v := 1) hx hb dX5_addType_22 (by decide) ?_
  refine lv_iadd hx hb dX5_addType_23 ?_
  refine lv_topi (fun z_1 ez_1 => ?_)
  obtain rfl : z_1 = 2 := ez_1.trans (by decide)
  clear ez_1
  refine va_put (D := (dC, dI)) (ci := 5) (v := .int 2) (ty := .int) (C := RX5) (T := TX5) (N := 15) hx hb hts iw_X5_addType_X5 tyX5 tyX5_ok nmX5 hown hK hP hD hS 0 rfl rfl 4 (by decide) (hts _ m_X5_addType_1) (fun _ h9 => h9) rfl (by decide +kernel) rfl rfl (Nat.le_of_ble_eq_true rfl) dX5_addType_24 (fun H_2 locs hP2 hD2 hS2 => ?_)
  replace hP : va_P (dC, dI) vwCl [(a0, .inr (5, [.ref cb, .int 81, .int 0, .ref a1, .int 2, .ref a2, .int 0, .ref a3, .int 1, .int 1, .ref a4, .int 6, .int 0, .int 1, .int 0])), (a1, .inl (cy 2, 2048, .inr (.inl f0)))] H_2 := hP2
  replace hD : va_D A [(a0, .inr (5, [.ref cb, .int 81, .int 0, .ref a1, .int 2, .ref a2, .int 0, .ref a3, .int 1, .int 1, .ref a4, .int 6, .int 0, .int 1, .int 0])), (a1, .inl (cy 2, 2048, .inr (.inl f0)))] := hD2
  replace hS := hS2
  clear hP2 hD2 hS2
  refine lv_lload_n hx hb dX5_addType_27 rfl (lv_at hl 1 rfl) ?_
  refine va_last hx hb hK hP hD hS 1 2 rfl rfl (by unfold vp_in; decide) dX5_addType_28 (fun H_4 locs hP2 hD2 hS2 => ?_)
  replace hP : va_P (dC, dI) vwCl [(a0, .inr (5, [.ref cb, .int 81, .int 0, .ref a1, .int 2, .ref a2, .int 0, .ref a3, .int 1, .int 1, .ref a4, .int 6, .int 0, .int 1, .int 0])), (a1, .inl (cy 2, 2048, .inr (.inl (vp_updL f0 1 3))))] H_4 := hP2
  replace hD : va_D A [(a0, .inr (5, [.ref cb, .int 81, .int 0, .ref a1, .int 2, .ref a2, .int 0, .ref a3, .int 1, .int 1, .ref a4, .int 6, .int 0, .int 1, .int 0])), (a1, .inl (cy 2, 2048, .inr (.inl (vp_updL f0 1 3))))] := hD2
  replace hS := hS2
  clear hP2 hD2 hS2
  obtain ⟨g_3, eg_3⟩ : ∃ z, vp_updL f0 1 3 = z := ⟨_, rfl⟩
  rw [eg_3] at hP hD
  have kg_3_0 : g_3 0 = 3 := by rw [← eg_3, pk_uLn (by decide)]; exact f0_0
  exact W.vret hx hb hr (fun t ht hW => ⟨⟨(g_3), rfl, kg_3_0, by rw [ht]; exact hP, va_K.moved hW.alike hK, hD⟩, hS.F ht⟩) hS.2.2 dX5_addType_29

set_option maxHeartbeats 4000000 in
set_option maxRecDepth 100000 in
theorem cc_50_X6_readTypes (l : Launch) (dC : Nat → ClassId) (dI : Nat → Nat → Nat) (cy : Nat → ClassId) (sz : Nat) (cb : Nat) (a0 : Nat) (a1 : Nat) (a2 : Nat) (a3 : Nat) (a4 : Nat) (a5 : Nat) (a6 : Nat) (f0 : Nat → Int64) (f0_0 : f0 0 = 3) : Met l yX6_readTypes wsX6_readTypes ({ frames := 2, cells := 0, slots := 0, locals := 46 }) (va_Pc [.ref a0, .int 1, .int 1] (fun U => U.heap.size = sz ∧ va_P (dC, dI) vwCl [(a0, .inr (6, [.int 0, .int 0, .ref a1, .int 16, .int 0, .int 0, .int 0, .int 0, .ref a3])), (a1, .inr (5, [.ref cb, .int 81, .int 0, .ref a2, .int 1, .ref a4, .int 0, .ref a5, .int 1, .int 1, .ref a6, .int 6, .int 0, .int 1, .int 0])), (a2, .inl (cy 2, 2048, .inr (.inl f0)))] U.heap ∧ va_K (dC, dI) vwCl (TYS cy) U ∧ va_D (fun _ => True) [(a0, .inr (6, [.int 0, .int 0, .ref a1, .int 16, .int 0, .int 0, .int 0, .int 0, .ref a3])), (a1, .inr (5, [.ref cb, .int 81, .int 0, .ref a2, .int 1, .ref a4, .int 0, .ref a5, .int 1, .int 1, .ref a6, .int 6, .int 0, .int 1, .int 0])), (a2, .inl (cy 2, 2048, .inr (.inl f0)))] ∧ NK U ∧ SK cb (va_A [(a0, .inr (6, [.int 0, .int 0, .ref a1, .int 16, .int 0, .int 0, .int 0, .int 0, .ref a3])), (a1, .inr (5, [.ref cb, .int 81, .int 0, .ref a2, .int 1, .ref a4, .int 0, .ref a5, .int 1, .int 1, .ref a6, .int 6, .int 0, .int 1, .int 0])), (a2, .inl (cy 2, 2048, .inr (.inl f0)))] sz) U U.heap)) (va_Qv (fun u : (Nat → Int64) => match u with | (u0) => u0 0 = 3) (fun u t => match u with | (u0) => va_P (dC, dI) vwCl [(a0, .inr (6, [.int 0, .int 0, .ref a1, .int 17, .int 0, .int 0, .int 0, .int 0, .ref a3])), (a1, .inr (5, [.ref cb, .int 81, .int 0, .ref a2, .int 2, .ref a4, .int 0, .ref a5, .int 1, .int 1, .ref a6, .int 6, .int 0, .int 1, .int 0])), (a2, .inl (cy 2, 2048, .inr (.inl u0)))] t.heap ∧ va_K (dC, dI) vwCl (TYS cy) t ∧ va_D (va_A [(a0, .inr (6, [.int 0, .int 0, .ref a1, .int 16, .int 0, .int 0, .int 0, .int 0, .ref a3])), (a1, .inr (5, [.ref cb, .int 81, .int 0, .ref a2, .int 1, .ref a4, .int 0, .ref a5, .int 1, .int 1, .ref a6, .int 6, .int 0, .int 1, .int 0])), (a2, .inl (cy 2, 2048, .inr (.inl f0)))] sz) [(a0, .inr (6, [.int 0, .int 0, .ref a1, .int 17, .int 0, .int 0, .int 0, .int 0, .ref a3])), (a1, .inr (5, [.ref cb, .int 81, .int 0, .ref a2, .int 2, .ref a4, .int 0, .ref a5, .int 1, .int 1, .ref a6, .int 6, .int 0, .int 1, .int 0])), (a2, .inl (cy 2, 2048, .inr (.inl u0)))]) (va_A [(a0, .inr (6, [.int 0, .int 0, .ref a1, .int 16, .int 0, .int 0, .int 0, .int 0, .ref a3])), (a1, .inr (5, [.ref cb, .int 81, .int 0, .ref a2, .int 1, .ref a4, .int 0, .ref a5, .int 1, .int 1, .ref a6, .int 6, .int 0, .int 1, .int 0])), (a2, .inl (cy 2, 2048, .inr (.inl f0)))] sz)) 0 0 (va_A [(a0, .inr (6, [.int 0, .int 0, .ref a1, .int 16, .int 0, .int 0, .int 0, .int 0, .ref a3])), (a1, .inr (5, [.ref cb, .int 81, .int 0, .ref a2, .int 1, .ref a4, .int 0, .ref a5, .int 1, .int 1, .ref a6, .int 6, .int 0, .int 1, .int 0])), (a2, .inl (cy 2, 2048, .inr (.inl f0)))] sz) := by
  refine Met.ofW (cc := cX6_readTypes) (maxL := 4) (ret := none) (by decide) rfl ?_
  intro p e s m args below meth c s₁ B hml hv
  obtain ⟨rfl, hsz, hP, hK, hD0, hN, hSK⟩ := hv
  have hx := B.exec
  have hb := B.bytes
  have hr := B.returns
  have hts := atoms_spec (ws := wsX6_readTypes) B.pre
  have hown : s.vm.findClass RX6 = some m.cls := findClass_of_methodNamed B.named
  have hlocks := B.notSynchronized
  subst hsz
  have hD := hD0.self (sz := s.heap.size)
  generalize hAe : va_A [(a0, .inr (6, [.int 0, .int 0, .ref a1, .int 16, .int 0, .int 0, .int 0, .int 0, .ref a3])), (a1, .inr (5, [.ref cb, .int 81, .int 0, .ref a2, .int 1, .ref a4, .int 0, .ref a5, .int 1, .int 1, .ref a6, .int 6, .int 0, .int 1, .int 0])), (a2, .inl (cy 2, 2048, .inr (.inl f0)))] s.heap.size = A at hD hSK ⊢
  have hA : ∀ q : Nat, s.heap.size ≤ q → A q := fun q h => by rw [← hAe]; exact Or.inr h
  have hS : va_S A s.heap s.heap [] := va_S.rf
  have hP : va_P (dC, dI) vwCl [(a0, .inr (6, [.int 0, .int 0, .ref a1, .int 16, .int 0, .int 0, .int 0, .int 0, .ref a3])), (a1, .inr (5, [.ref cb, .int 81, .int 0, .ref a2, .int 1, .ref a4, .int 0, .ref a5, .int 1, .int 1, .ref a6, .int 6, .int 0, .int 1, .int 0])), (a2, .inl (cy 2, 2048, .inr (.inl f0)))] s.heap := hP
  have hl := lv_entry ([.ref a0, .int 1, .int 1]) (n := 4) (Nat.le_of_ble_eq_true rfl)
  rw [lg_entry_eq]
  generalize (lg_sl ([.ref a0, .int 1, .int 1]) ++ List.replicate (4 - (lg_sl ([.ref a0, .int 1, .int 1])).length) Slot.unset).toArray = ls at hl ⊢
  replace hl : lv_has ls 4 [(0, .ref a0), (1, .int 1), (2, .int 1)] := hl
  refine lv_iconst (v := 0) hx hb dX6_readTypes_0 (by decide) ?_
  refine lv_istore_n (lv' := [(3, .int 0), (0, .ref a0), (1, .int 1), (2, .int 1)]) hx hb dX6_readTypes_1 rfl hl (by decide) rfl (fun ls hl2 => ?_)
  replace hl := hl2
  clear hl2
  refine lv_iload_n hx hb dX6_readTypes_2 rfl (lv_at hl 0 rfl) ?_
  refine lv_iload_n hx hb dX6_readTypes_3 rfl (lv_at hl 2 rfl) ?_
  refine lv_icmp_ge (tgt := 32) hx hb dX6_readTypes_4 (by decide) (fun h => absurd h (by decide)) (fun _ => ?_)
  refine lv_aload_n hx hb dX6_readTypes_7 rfl (lv_at hl 1 rfl) ?_
  refine va_get (D := (dC, dI)) (ci := 6) (v := .int 0) (C := RX6) (T := TX6) (N := 9) hx hb hts iw_X6_readTypes_X6 hown hK hP 0 rfl rfl 1 (by decide) (hts _ m_X6_readTypes_1) (fun _ h9 => h9) rfl dX6_readTypes_8 ?_
  refine lv_if_ne (tgt := 32) hx hb dX6_readTypes_11 (by decide) (fun h => absurd (by decide) h) (fun _ => ?_)
  refine lv_aload_n hx hb dX6_readTypes_14 rfl (lv_at hl 1 rfl) ?_
  refine va_get (D := (dC, dI)) (ci := 6) (v := .ref a1) (C := RX6) (T := TX6) (N := 9) hx hb hts iw_X6_readTypes_X6 hown hK hP 0 rfl rfl 2 (by decide) (hts _ m_X6_readTypes_2) (fun _ h9 => h9) rfl dX6_readTypes_15 ?_
  refine lv_aload_n hx hb dX6_readTypes_18 rfl (lv_at hl 1 rfl) ?_
  refine lv_iload_n hx hb dX6_readTypes_19 rfl (lv_at hl 3 rfl) ?_
  have hPc := hP.sub (ws' := [(a0, .inr (6, [.int 0, .int 0, .ref a1, .int 16, .int 0, .int 0, .int 0, .int 0, .ref a3])), (a1, .inr (5, [.ref cb, .int 81, .int 0, .ref a2, .int 1, .ref a4, .int 0, .ref a5, .int 1, .int 1, .ref a6, .int 6, .int 0, .int 1, .int 0]))]) [0, 1] rfl
  have hDc := hD.sub (ws' := [(a0, .inr (6, [.int 0, .int 0, .ref a1, .int 16, .int 0, .int 0, .int 0, .int 0, .ref a3])), (a1, .inr (5, [.ref cb, .int 81, .int 0, .ref a2, .int 1, .ref a4, .int 0, .ref a5, .int 1, .int 1, .ref a6, .int 6, .int 0, .int 1, .int 0]))]) [0, 1] (by decide) rfl
  have hFc := va_free (wc := [(a0, .inr (6, [.int 0, .int 0, .ref a1, .int 16, .int 0, .int 0, .int 0, .int 0, .ref a3])), (a1, .inr (5, [.ref cb, .int 81, .int 0, .ref a2, .int 1, .ref a4, .int 0, .ref a5, .int 1, .int 1, .ref a6, .int 6, .int 0, .int 1, .int 0]))]) hD hS hA [0, 1] rfl
  refine va_calll (va_runV (As := [.int 1]) (rest := [.ref a1]) ⟨hx, hb, hml, hown, hts⟩ (cc_51_X6_readOneType l dC dI cy s.heap.size cb a0 a1 a3 a2 a4 a5 a6) (cwV 1 hts gX6_readTypes_X6_readOneType rfl rfl rfl (by decide +kernel) ⟨Nat.le_of_ble_eq_true rfl, Nat.le_of_ble_eq_true rfl⟩) ⟨fun a U g mk q => by obtain ⟨q0, q1, qP, qK, qD, qN, qS⟩ := q; exact ⟨q0, q1, qP, va_K.moved (u := U) (U := U.calling g mk a) (Vm.Alike.refl U.vm) qK, qD, qN.same rfl, SK.moved (u := U) (U := U.calling g mk a) (Vm.Alike.refl U.vm) qS⟩, va_recv hK hPc (ci := 6) (q0 := 0) rfl rfl, fun U hU hW => ⟨rfl, by rw [hU], by rw [hU]; exact hPc, va_K.moved hW.alike hK, hDc.weaken (fun _ _ _ _ => trivial), hN.warm hW, by rw [hU]; exact ((hSK.kept hS.2.1).narrow hFc).moved hW.alike⟩⟩ rfl rfl hl.1 rfl (lv_room (Nat.le_of_ble_eq_true rfl)) dX6_readTypes_20 ⟨Nat.le_of_ble_eq_true rfl, Nat.le_of_ble_eq_true rfl⟩) hS (fun q _ h => hFc q h) hFc (fun r_1 u t H_2 locs ht hvm hw hB hz1 hk1 hS2 => ?_)
  obtain ⟨hP1, hK1, hD1⟩ := hB
  rw [ht] at hP1
  obtain rfl := hw
  obtain ⟨hP2, hD2⟩ := va_join (wr := [(a2, .inl (cy 2, 2048, .inr (.inl f0)))]) (w1 := [(a0, .inr (6, [.int 0, .int 0, .ref a1, .int 17, .int 0, .int 0, .int 0, .int 0, .ref a3])), (a1, .inr (5, [.ref cb, .int 81, .int 0, .ref a2, .int 1, .ref a4, .int 0, .ref a5, .int 1, .int 1, .ref a6, .int 6, .int 0, .int 1, .int 0]))]) hP hD [0, 1] [2] rfl rfl (by decide) (by decide) hk1 hFc hP1 hD1
  replace hP : va_P (dC, dI) vwCl [(a2, .inl (cy 2, 2048, .inr (.inl f0))), (a0, .inr (6, [.int 0, .int 0, .ref a1, .int 17, .int 0, .int 0, .int 0, .int 0, .ref a3])), (a1, .inr (5, [.ref cb, .int 81, .int 0, .ref a2, .int 1, .ref a4, .int 0, .ref a5, .int 1, .int 1, .ref a6, .int 6, .int 0, .int 1, .int 0]))] H_2 := hP2
  replace hD : va_D A [(a2, .inl (cy 2, 2048, .inr (.inl f0))), (a0, .inr (6, [.int 0, .int 0, .ref a1, .int 17, .int 0, .int 0, .int 0, .int 0, .ref a3])), (a1, .inr (5, [.ref cb, .int 81, .int 0, .ref a2, .int 1, .ref a4, .int 0, .ref a5, .int 1, .int 1, .ref a6, .int 6, .int 0, .int 1, .int 0]))] := hD2
  replace hS := hS2
  clear hP2 hD2 hS2
  clear hPc hDc hFc hP1 hD1 hK1 hk1 hz1 hvm ht
  refine W.widen (k := 0) (n := 0) (Nat.le_of_ble_eq_true rfl) (Nat.le_of_ble_eq_true rfl) ?_
  have hPc := hP.sub (ws' := [(a1, .inr (5, [.ref cb, .int 81, .int 0, .ref a2, .int 1, .ref a4, .int 0, .ref a5, .int 1, .int 1, .ref a6, .int 6, .int 0, .int 1, .int 0])), (a2, .inl (cy 2, 2048, .inr (.inl f0)))]) [2, 0] rfl
  have hDc := hD.sub (ws' := [(a1, .inr (5, [.ref cb, .int 81, .int 0, .ref a2, .int 1, .ref a4, .int 0, .ref a5, .int 1, .int 1, .ref a6, .int 6, .int 0, .int 1, .int 0])), (a2, .inl (cy 2, 2048, .inr (.inl f0)))]) [2, 0] (by decide) rfl
  have hFc := va_free (wc := [(a1, .inr (5, [.ref cb, .int 81, .int 0, .ref a2, .int 1, .ref a4, .int 0, .ref a5, .int 1, .int 1, .ref a6, .int 6, .int 0, .int 1, .int 0])), (a2, .inl (cy 2, 2048, .inr (.inl f0)))]) hD hS hA [2, 0] rfl
  refine va_callv (va_runV (As := [.long 3]) (rest := []) ⟨hx, hb, hml, hown, hts⟩ (cc_53_X5_addType l dC dI cy H_2.size cb a1 a2 a4 a5 a6 f0 f0_0) (cwV 1 hts gX6_readTypes_X5_addType rfl rfl rfl (by decide +kernel) ⟨Nat.le_of_ble_eq_true rfl, Nat.le_of_ble_eq_true rfl⟩) ⟨fun a U g mk q => by obtain ⟨q0, q1, qP, qK, qD, qN, qS⟩ := q; exact ⟨q0, q1, qP, va_K.moved (u := U) (U := U.calling g mk a) (Vm.Alike.refl U.vm) qK, qD, qN.same rfl, SK.moved (u := U) (U := U.calling g mk a) (Vm.Alike.refl U.vm) qS⟩, va_recv hK hPc (ci := 5) (q0 := 0) rfl rfl, fun U hU hW => ⟨rfl, by rw [hU], by rw [hU]; exact hPc, va_K.moved hW.alike hK, hDc.weaken (fun _ _ _ _ => trivial), hN.warm hW, by rw [hU]; exact ((hSK.kept hS.2.1).narrow hFc).moved hW.alike⟩⟩ rfl rfl hl.1 rfl (lv_room (Nat.le_of_ble_eq_true rfl)) dX6_readTypes_23 ⟨Nat.le_of_ble_eq_true rfl, Nat.le_of_ble_eq_true rfl⟩) hS (fun q _ h => hFc q h) hFc (fun u t H_3 locs ht hvm hw hB hz1 hk1 hS2 => ?_)
  obtain ⟨g_4, rfl⟩ : ∃ z, z = u := ⟨_, rfl⟩
  obtain ⟨hP1, hK1, hD1⟩ := hB
  rw [ht] at hP1
  have kp_5 := hw
  obtain ⟨hP2, hD2⟩ := va_join (wr := [(a0, .inr (6, [.int 0, .int 0, .ref a1, .int 17, .int 0, .int 0, .int 0, .int 0, .ref a3]))]) (w1 := [(a1, .inr (5, [.ref cb, .int 81, .int 0, .ref a2, .int 2, .ref a4, .int 0, .ref a5, .int 1, .int 1, .ref a6, .int 6, .int 0, .int 1, .int 0])), (a2, .inl (cy 2, 2048, .inr (.inl g_4)))]) hP hD [2, 0] [1] rfl rfl (by decide) (by decide) hk1 hFc hP1 hD1
  replace hP : va_P (dC, dI) vwCl [(a0, .inr (6, [.int 0, .int 0, .ref a1, .int 17, .int 0, .int 0, .int 0, .int 0, .ref a3])), (a1, .inr (5, [.ref cb, .int 81, .int 0, .ref a2, .int 2, .ref a4, .int 0, .ref a5, .int 1, .int 1, .ref a6, .int 6, .int 0, .int 1, .int 0])), (a2, .inl (cy 2, 2048, .inr (.inl g_4)))] H_3 := hP2
  replace hD : va_D A [(a0, .inr (6, [.int 0, .int 0, .ref a1, .int 17, .int 0, .int 0, .int 0, .int 0, .ref a3])), (a1, .inr (5, [.ref cb, .int 81, .int 0, .ref a2, .int 2, .ref a4, .int 0, .ref a5, .int 1, .int 1, .ref a6, .int 6, .int 0, .int 1, .int 0])), (a2, .inl (cy 2, 2048, .inr (.inl g_4)))] := hD2
  replace hS := hS2
  clear hP2 hD2 hS2
  clear hPc hDc hFc hP1 hD1 hK1 hk1 hz1 hvm ht
  refine W.widen (k := 0) (n := 0) (Nat.le_of_ble_eq_true rfl) (Nat.le_of_ble_eq_true rfl) ?_
  refine lv_iinc (v := 1) (lv' := [(3, .int 1), (0, .ref a0), (1, .int 1), (2, .int 1)]) hx hb dX6_readTypes_26 hl (k := 0) rfl (by decide) (by decide) rfl (fun ls hl2 => ?_)
  replace hl := hl2
  clear hl2
  refine lv_goto (tgt := 2) hx hb dX6_readTypes_29 (by decide) ?_
  refine lv_iload_n hx hb dX6_readTypes_2 rfl (lv_at hl 0 rfl) ?_
  refine lv_iload_n hx hb dX6_readTypes_3 rfl (lv_at hl 2 rfl) ?_
  refine lv_icmp_ge (tgt := 32) hx hb dX6_readTypes_4 (by decide) (fun _ => ?_) (fun h => absurd (by decide) h)
  exact W.vret hx hb hr (fun t ht hW => ⟨⟨(g_4), rfl, kp_5, by rw [ht]; exact hP, va_K.moved hW.alike hK, hD⟩, hS.F ht⟩) hS.2.2 dX6_readTypes_32

set_option maxHeartbeats 4000000 in
set_option maxRecDepth 100000 in
theorem cc_47_X6_readList (l : Launch) (dC : Nat → ClassId) (dI : Nat → Nat → Nat) (cy : Nat → ClassId) (sz : Nat) (cb : Nat) (a0 : Nat) (a1 : Nat) (a2 : Nat) (a3 : Nat) (a4 : Nat) (a5 : Nat) (a6 : Nat) (f0 : Nat → Int64) (f0_0 : f0 0 = 3) : Met l yX6_readList wsX6_readList ({ frames := 3, cells := 0, slots := 0, locals := 69 }) (va_Pc [.ref a0, .int 8] (fun U => U.heap.size = sz ∧ va_P (dC, dI) vwCl [(a0, .inr (6, [.int 0, .int 0, .ref a1, .int 15, .int 0, .int 0, .int 0, .int 0, .ref a3])), (a1, .inr (5, [.ref cb, .int 81, .int 0, .ref a2, .int 1, .ref a4, .int 0, .ref a5, .int 1, .int 1, .ref a6, .int 6, .int 0, .int 1, .int 0])), (a2, .inl (cy 2, 2048, .inr (.inl f0)))] U.heap ∧ va_K (dC, dI) vwCl (TYS cy) U ∧ va_D (fun _ => True) [(a0, .inr (6, [.int 0, .int 0, .ref a1, .int 15, .int 0, .int 0, .int 0, .int 0, .ref a3])), (a1, .inr (5, [.ref cb, .int 81, .int 0, .ref a2, .int 1, .ref a4, .int 0, .ref a5, .int 1, .int 1, .ref a6, .int 6, .int 0, .int 1, .int 0])), (a2, .inl (cy 2, 2048, .inr (.inl f0)))] ∧ NK U ∧ SK cb (va_A [(a0, .inr (6, [.int 0, .int 0, .ref a1, .int 15, .int 0, .int 0, .int 0, .int 0, .ref a3])), (a1, .inr (5, [.ref cb, .int 81, .int 0, .ref a2, .int 1, .ref a4, .int 0, .ref a5, .int 1, .int 1, .ref a6, .int 6, .int 0, .int 1, .int 0])), (a2, .inl (cy 2, 2048, .inr (.inl f0)))] sz) U U.heap)) (va_Qi (fun (r : Int32) (u : (Nat → Int64)) => match u with | (u0) => r = 1 ∧ u0 0 = 3) (fun u t => match u with | (u0) => va_P (dC, dI) vwCl [(a0, .inr (6, [.int 0, .int 0, .ref a1, .int 17, .int 0, .int 0, .int 0, .int 0, .ref a3])), (a1, .inr (5, [.ref cb, .int 81, .int 0, .ref a2, .int 2, .ref a4, .int 0, .ref a5, .int 1, .int 1, .ref a6, .int 6, .int 0, .int 1, .int 0])), (a2, .inl (cy 2, 2048, .inr (.inl u0)))] t.heap ∧ va_K (dC, dI) vwCl (TYS cy) t ∧ va_D (va_A [(a0, .inr (6, [.int 0, .int 0, .ref a1, .int 15, .int 0, .int 0, .int 0, .int 0, .ref a3])), (a1, .inr (5, [.ref cb, .int 81, .int 0, .ref a2, .int 1, .ref a4, .int 0, .ref a5, .int 1, .int 1, .ref a6, .int 6, .int 0, .int 1, .int 0])), (a2, .inl (cy 2, 2048, .inr (.inl f0)))] sz) [(a0, .inr (6, [.int 0, .int 0, .ref a1, .int 17, .int 0, .int 0, .int 0, .int 0, .ref a3])), (a1, .inr (5, [.ref cb, .int 81, .int 0, .ref a2, .int 2, .ref a4, .int 0, .ref a5, .int 1, .int 1, .ref a6, .int 6, .int 0, .int 1, .int 0])), (a2, .inl (cy 2, 2048, .inr (.inl u0)))]) (va_A [(a0, .inr (6, [.int 0, .int 0, .ref a1, .int 15, .int 0, .int 0, .int 0, .int 0, .ref a3])), (a1, .inr (5, [.ref cb, .int 81, .int 0, .ref a2, .int 1, .ref a4, .int 0, .ref a5, .int 1, .int 1, .ref a6, .int 6, .int 0, .int 1, .int 0])), (a2, .inl (cy 2, 2048, .inr (.inl f0)))] sz)) 0 0 (va_A [(a0, .inr (6, [.int 0, .int 0, .ref a1, .int 15, .int 0, .int 0, .int 0, .int 0, .ref a3])), (a1, .inr (5, [.ref cb, .int 81, .int 0, .ref a2, .int 1, .ref a4, .int 0, .ref a5, .int 1, .int 1, .ref a6, .int 6, .int 0, .int 1, .int 0])), (a2, .inl (cy 2, 2048, .inr (.inl f0)))] sz) := by
  refine Met.ofW (cc := cX6_readList) (maxL := 3) (ret := (some .int)) (by decide) rfl ?_
  intro p e s m args below meth c s₁ B hml hv
  obtain ⟨rfl, hsz, hP, hK, hD0, hN, hSK⟩ := hv
  have hx := B.exec
  have hb := B.bytes
  have hr := B.returns
  have hts := atoms_spec (ws := wsX6_readList) B.pre
  have hown : s.vm.findClass RX6 = some m.cls := findClass_of_methodNamed B.named
  have hlocks := B.notSynchronized
  subst hsz
  have hD := hD0.self (sz := s.heap.size)
  generalize hAe : va_A [(a0, .inr (6, [.int 0, .int 0, .ref a1, .int 15, .int 0, .int 0, .int 0, .int 0, .ref a3])), (a1, .inr (5, [.ref cb, .int 81, .int 0, .ref a2, .int 1, .ref a4, .int 0, .ref a5, .int 1, .int 1, .ref a6, .int 6, .int 0, .int 1, .int 0])), (a2, .inl (cy 2, 2048, .inr (.inl f0)))] s.heap.size = A at hD hSK ⊢
  have hA : ∀ q : Nat, s.heap.size ≤ q → A q := fun q h => by rw [← hAe]; exact Or.inr h
  have hS : va_S A s.heap s.heap [] := va_S.rf
  have hP : va_P (dC, dI) vwCl [(a0, .inr (6, [.int 0, .int 0, .ref a1, .int 15, .int 0, .int 0, .int 0, .int 0, .ref a3])), (a1, .inr (5, [.ref cb, .int 81, .int 0, .ref a2, .int 1, .ref a4, .int 0, .ref a5, .int 1, .int 1, .ref a6, .int 6, .int 0, .int 1, .int 0])), (a2, .inl (cy 2, 2048, .inr (.inl f0)))] s.heap := hP
  have hl := lv_entry ([.ref a0, .int 8]) (n := 3) (Nat.le_of_ble_eq_true rfl)
  rw [lg_entry_eq]
  generalize (lg_sl ([.ref a0, .int 8]) ++ List.replicate (3 - (lg_sl ([.ref a0, .int 8])).length) Slot.unset).toArray = ls at hl ⊢
  replace hl : lv_has ls 3 [(0, .ref a0), (1, .int 8)] := hl
  refine lv_aload_n hx hb dX6_readList_0 rfl (lv_at hl 0 rfl) ?_
  refine lv_iconst (v := 0) hx hb dX6_readList_1 (by decide) ?_
  refine lv_iload_n hx hb dX6_readList_2 rfl (lv_at hl 1 rfl) ?_
  have hPc := hP.sub (ws' := [(a0, .inr (6, [.int 0, .int 0, .ref a1, .int 15, .int 0, .int 0, .int 0, .int 0, .ref a3])), (a1, .inr (5, [.ref cb, .int 81, .int 0, .ref a2, .int 1, .ref a4, .int 0, .ref a5, .int 1, .int 1, .ref a6, .int 6, .int 0, .int 1, .int 0]))]) [0, 1] rfl
  have hDc := hD.sub (ws' := [(a0, .inr (6, [.int 0, .int 0, .ref a1, .int 15, .int 0, .int 0, .int 0, .int 0, .ref a3])), (a1, .inr (5, [.ref cb, .int 81, .int 0, .ref a2, .int 1, .ref a4, .int 0, .ref a5, .int 1, .int 1, .ref a6, .int 6, .int 0, .int 1, .int 0]))]) [0, 1] (by decide) rfl
  have hFc := va_free (wc := [(a0, .inr (6, [.int 0, .int 0, .ref a1, .int 15, .int 0, .int 0, .int 0, .int 0, .ref a3])), (a1, .inr (5, [.ref cb, .int 81, .int 0, .ref a2, .int 1, .ref a4, .int 0, .ref a5, .int 1, .int 1, .ref a6, .int 6, .int 0, .int 1, .int 0]))]) hD hS hA [0, 1] rfl
  refine va_calli (va_runV (As := [.int 0, .int 8]) (rest := []) ⟨hx, hb, hml, hown, hts⟩ (cc_48_X6_readNumber l dC dI cy s.heap.size cb a0 a1 a3 a2 a4 a5 a6) (cwV 2 hts gX6_readList_X6_readNumber rfl rfl rfl (by decide +kernel) ⟨Nat.le_of_ble_eq_true rfl, Nat.le_of_ble_eq_true rfl⟩) ⟨fun a U g mk q => by obtain ⟨q0, q1, qP, qK, qD, qN, qS⟩ := q; exact ⟨q0, q1, qP, va_K.moved (u := U) (U := U.calling g mk a) (Vm.Alike.refl U.vm) qK, qD, qN.same rfl, SK.moved (u := U) (U := U.calling g mk a) (Vm.Alike.refl U.vm) qS⟩, va_recv hK hPc (ci := 6) (q0 := 0) rfl rfl, fun U hU hW => ⟨rfl, by rw [hU], by rw [hU]; exact hPc, va_K.moved hW.alike hK, hDc.weaken (fun _ _ _ _ => trivial), hN.warm hW, by rw [hU]; exact ((hSK.kept hS.2.1).narrow hFc).moved hW.alike⟩⟩ rfl rfl hl.1 rfl (lv_room (Nat.le_of_ble_eq_true rfl)) dX6_readList_3 ⟨Nat.le_of_ble_eq_true rfl, Nat.le_of_ble_eq_true rfl⟩) hS (fun q _ h => hFc q h) hFc (fun r_1 u t H_2 locs ht hvm hw hB hz1 hk1 hS2 => ?_)
  obtain ⟨hP1, hK1, hD1⟩ := hB
  rw [ht] at hP1
  obtain rfl := hw
  obtain ⟨hP2, hD2⟩ := va_join (wr := [(a2, .inl (cy 2, 2048, .inr (.inl f0)))]) (w1 := [(a0, .inr (6, [.int 0, .int 0, .ref a1, .int 16, .int 0, .int 0, .int 0, .int 0, .ref a3])), (a1, .inr (5, [.ref cb, .int 81, .int 0, .ref a2, .int 1, .ref a4, .int 0, .ref a5, .int 1, .int 1, .ref a6, .int 6, .int 0, .int 1, .int 0]))]) hP hD [0, 1] [2] rfl rfl (by decide) (by decide) hk1 hFc hP1 hD1
  replace hP : va_P (dC, dI) vwCl [(a2, .inl (cy 2, 2048, .inr (.inl f0))), (a0, .inr (6, [.int 0, .int 0, .ref a1, .int 16, .int 0, .int 0, .int 0, .int 0, .ref a3])), (a1, .inr (5, [.ref cb, .int 81, .int 0, .ref a2, .int 1, .ref a4, .int 0, .ref a5, .int 1, .int 1, .ref a6, .int 6, .int 0, .int 1, .int 0]))] H_2 := hP2
  replace hD : va_D A [(a2, .inl (cy 2, 2048, .inr (.inl f0))), (a0, .inr (6, [.int 0, .int 0, .ref a1, .int 16, .int 0, .int 0, .int 0, .int 0, .ref a3])), (a1, .inr (5, [.ref cb, .int 81, .int 0, .ref a2, .int 1, .ref a4, .int 0, .ref a5, .int 1, .int 1, .ref a6, .int 6, .int 0, .int 1, .int 0]))] := hD2
  replace hS := hS2
  clear hP2 hD2 hS2
  clear hPc hDc hFc hP1 hD1 hK1 hk1 hz1 hvm ht
  refine W.widen (k := 0) (n := 0) (Nat.le_of_ble_eq_true rfl) (Nat.le_of_ble_eq_true rfl) ?_
  refine lv_istore_n (lv' := [(2, .int 1), (0, .ref a0), (1, .int 8)]) hx hb dX6_readList_6 rfl hl (by decide) rfl (fun ls hl2 => ?_)
  replace hl := hl2
  clear hl2
  refine lv_aload_n hx hb dX6_readList_7 rfl (lv_at hl 1 rfl) ?_
  refine lv_iload_n hx hb dX6_readList_8 rfl (lv_at hl 0 rfl) ?_
  refine lv_iconst (v := 1) hx hb dX6_readList_9 (by decide) ?_
  have hPc := hP.sub (ws' := [(a0, .inr (6, [.int 0, .int 0, .ref a1, .int 16, .int 0, .int 0, .int 0, .int 0, .ref a3])), (a1, .inr (5, [.ref cb, .int 81, .int 0, .ref a2, .int 1, .ref a4, .int 0, .ref a5, .int 1, .int 1, .ref a6, .int 6, .int 0, .int 1, .int 0])), (a2, .inl (cy 2, 2048, .inr (.inl f0)))]) [1, 2, 0] rfl
  have hDc := hD.sub (ws' := [(a0, .inr (6, [.int 0, .int 0, .ref a1, .int 16, .int 0, .int 0, .int 0, .int 0, .ref a3])), (a1, .inr (5, [.ref cb, .int 81, .int 0, .ref a2, .int 1, .ref a4, .int 0, .ref a5, .int 1, .int 1, .ref a6, .int 6, .int 0, .int 1, .int 0])), (a2, .inl (cy 2, 2048, .inr (.inl f0)))]) [1, 2, 0] (by decide) rfl
  have hFc := va_free (wc := [(a0, .inr (6, [.int 0, .int 0, .ref a1, .int 16, .int 0, .int 0, .int 0, .int 0, .ref a3])), (a1, .inr (5, [.ref cb, .int 81, .int 0, .ref a2, .int 1, .ref a4, .int 0, .ref a5, .int 1, .int 1, .ref a6, .int 6, .int 0, .int 1, .int 0])), (a2, .inl (cy 2, 2048, .inr (.inl f0)))]) hD hS hA [1, 2, 0] rfl
  refine va_callv (va_runV (As := [.int 1, .int 1]) (rest := []) ⟨hx, hb, hml, hown, hts⟩ (cc_50_X6_readTypes l dC dI cy H_2.size cb a0 a1 a2 a3 a4 a5 a6 f0 f0_0) (cwV 2 hts gX6_readList_X6_readTypes rfl rfl rfl (by decide +kernel) ⟨Nat.le_of_ble_eq_true rfl, Nat.le_of_ble_eq_true rfl⟩) ⟨fun a U g mk q => by obtain ⟨q0, q1, qP, qK, qD, qN, qS⟩ := q; exact ⟨q0, q1, qP, va_K.moved (u := U) (U := U.calling g mk a) (Vm.Alike.refl U.vm) qK, qD, qN.same rfl, SK.moved (u := U) (U := U.calling g mk a) (Vm.Alike.refl U.vm) qS⟩, va_recv hK hPc (ci := 6) (q0 := 0) rfl rfl, fun U hU hW => ⟨rfl, by rw [hU], by rw [hU]; exact hPc, va_K.moved hW.alike hK, hDc.weaken (fun _ _ _ _ => trivial), hN.warm hW, by rw [hU]; exact ((hSK.kept hS.2.1).narrow hFc).moved hW.alike⟩⟩ rfl rfl hl.1 rfl (lv_room (Nat.le_of_ble_eq_true rfl)) dX6_readList_10 ⟨Nat.le_of_ble_eq_true rfl, Nat.le_of_ble_eq_true rfl⟩) hS (fun q _ h => hFc q h) hFc (fun u t H_3 locs ht hvm hw hB hz1 hk1 hS2 => ?_)
  obtain ⟨g_4, rfl⟩ : ∃ z, z = u := ⟨_, rfl⟩
  obtain ⟨hP1, hK1, hD1⟩ := hB
  rw [ht] at hP1
  have kp_5 := hw
  obtain ⟨hP2, hD2⟩ := va_join (wr := []) (w1 := [(a0, .inr (6, [.int 0, .int 0, .ref a1, .int 17, .int 0, .int 0, .int 0, .int 0, .ref a3])), (a1, .inr (5, [.ref cb, .int 81, .int 0, .ref a2, .int 2, .ref a4, .int 0, .ref a5, .int 1, .int 1, .ref a6, .int 6, .int 0, .int 1, .int 0])), (a2, .inl (cy 2, 2048, .inr (.inl g_4)))]) hP hD [1, 2, 0] [] rfl rfl (by decide) (by decide) hk1 hFc hP1 hD1
  replace hP : va_P (dC, dI) vwCl [(a0, .inr (6, [.int 0, .int 0, .ref a1, .int 17, .int 0, .int 0, .int 0, .int 0, .ref a3])), (a1, .inr (5, [.ref cb, .int 81, .int 0, .ref a2, .int 2, .ref a4, .int 0, .ref a5, .int 1, .int 1, .ref a6, .int 6, .int 0, .int 1, .int 0])), (a2, .inl (cy 2, 2048, .inr (.inl g_4)))] H_3 := hP2
  replace hD : va_D A [(a0, .inr (6, [.int 0, .int 0, .ref a1, .int 17, .int 0, .int 0, .int 0, .int 0, .ref a3])), (a1, .inr (5, [.ref cb, .int 81, .int 0, .ref a2, .int 2, .ref a4, .int 0, .ref a5, .int 1, .int 1, .ref a6, .int 6, .int 0, .int 1, .int 0])), (a2, .inl (cy 2, 2048, .inr (.inl g_4)))] := hD2
  replace hS := hS2
  clear hP2 hD2 hS2
  clear hPc hDc hFc hP1 hD1 hK1 hk1 hz1 hvm ht
  refine W.widen (k := 0) (n := 0) (Nat.le_of_ble_eq_true rfl) (Nat.le_of_ble_eq_true rfl) ?_
  refine lv_iload_n hx hb dX6_readList_13 rfl (lv_at hl 0 rfl) ?_
  exact W.iret hx hb hr (fun t ht hW => ⟨⟨1, (g_4), rfl, ⟨rfl, kp_5⟩, by rw [ht]; exact hP, va_K.moved hW.alike hK, hD⟩, hS.F ht⟩) hS.2.2 dX6_readList_14

set_option maxHeartbeats 4000000 in
set_option maxRecDepth 100000 in
theorem cc_54_X5_setFunction (l : Launch) (dC : Nat → ClassId) (dI : Nat → Nat → Nat) (cy : Nat → ClassId) (sz : Nat) (cb : Nat) (a0 : Nat) (a1 : Nat) (a2 : Nat) (a3 : Nat) (a4 : Nat) (f0 : Nat → Int32)  : Met l yX5_setFunction wsX5_setFunction ({ frames := 0, cells := 0, slots := 0, locals := 0 }) (va_Pc [.ref a0, .int 0, .int 2, .int 1] (fun U => U.heap.size = sz ∧ va_P (dC, dI) vwCl [(a0, .inr (5, [.ref cb, .int 81, .int 0, .ref a2, .int 2, .ref a3, .int 0, .ref a4, .int 1, .int 1, .ref a1, .int 6, .int 0, .int 1, .int 0])), (a1, .inl (cy 1, 864, .inl f0))] U.heap ∧ va_K (dC, dI) vwCl (TYS cy) U ∧ va_D (fun _ => True) [(a0, .inr (5, [.ref cb, .int 81, .int 0, .ref a2, .int 2, .ref a3, .int 0, .ref a4, .int 1, .int 1, .ref a1, .int 6, .int 0, .int 1, .int 0])), (a1, .inl (cy 1, 864, .inl f0))] ∧ NK U ∧ SK cb (va_A [(a0, .inr (5, [.ref cb, .int 81, .int 0, .ref a2, .int 2, .ref a3, .int 0, .ref a4, .int 1, .int 1, .ref a1, .int 6, .int 0, .int 1, .int 0])), (a1, .inl (cy 1, 864, .inl f0))] sz) U U.heap)) (va_Qv (fun u : (Nat → Int32) => True) (fun u t => match u with | (u0) => va_P (dC, dI) vwCl [(a0, .inr (5, [.ref cb, .int 81, .int 0, .ref a2, .int 2, .ref a3, .int 0, .ref a4, .int 1, .int 1, .ref a1, .int 6, .int 0, .int 1, .int 0])), (a1, .inl (cy 1, 864, .inl u0))] t.heap ∧ va_K (dC, dI) vwCl (TYS cy) t ∧ va_D (va_A [(a0, .inr (5, [.ref cb, .int 81, .int 0, .ref a2, .int 2, .ref a3, .int 0, .ref a4, .int 1, .int 1, .ref a1, .int 6, .int 0, .int 1, .int 0])), (a1, .inl (cy 1, 864, .inl f0))] sz) [(a0, .inr (5, [.ref cb, .int 81, .int 0, .ref a2, .int 2, .ref a3, .int 0, .ref a4, .int 1, .int 1, .ref a1, .int 6, .int 0, .int 1, .int 0])), (a1, .inl (cy 1, 864, .inl u0))]) (va_A [(a0, .inr (5, [.ref cb, .int 81, .int 0, .ref a2, .int 2, .ref a3, .int 0, .ref a4, .int 1, .int 1, .ref a1, .int 6, .int 0, .int 1, .int 0])), (a1, .inl (cy 1, 864, .inl f0))] sz)) 0 0 (va_A [(a0, .inr (5, [.ref cb, .int 81, .int 0, .ref a2, .int 2, .ref a3, .int 0, .ref a4, .int 1, .int 1, .ref a1, .int 6, .int 0, .int 1, .int 0])), (a1, .inl (cy 1, 864, .inl f0))] sz) := by
  refine Met.ofW (cc := cX5_setFunction) (maxL := 4) (ret := none) (by decide) rfl ?_
  intro p e s m args below meth c s₁ B hml hv
  obtain ⟨rfl, hsz, hP, hK, hD0, hN, hSK⟩ := hv
  have hx := B.exec
  have hb := B.bytes
  have hr := B.returns
  have hts := atoms_spec (ws := wsX5_setFunction) B.pre
  have hown : s.vm.findClass RX5 = some m.cls := findClass_of_methodNamed B.named
  have hlocks := B.notSynchronized
  subst hsz
  have hD := hD0.self (sz := s.heap.size)
  generalize hAe : va_A [(a0, .inr (5, [.ref cb, .int 81, .int 0, .ref a2, .int 2, .ref a3, .int 0, .ref a4, .int 1, .int 1, .ref a1, .int 6, .int 0, .int 1, .int 0])), (a1, .inl (cy 1, 864, .inl f0))] s.heap.size = A at hD hSK ⊢
  have hA : ∀ q : Nat, s.heap.size ≤ q → A q := fun q h => by rw [← hAe]; exact Or.inr h
  have hS : va_S A s.heap s.heap [] := va_S.rf
  have hP : va_P (dC, dI) vwCl [(a0, .inr (5, [.ref cb, .int 81, .int 0, .ref a2, .int 2, .ref a3, .int 0, .ref a4, .int 1, .int 1, .ref a1, .int 6, .int 0, .int 1, .int 0])), (a1, .inl (cy 1, 864, .inl f0))] s.heap := hP
  have hl := lv_entry ([.ref a0, .int 0, .int 2, .int 1]) (n := 4) (Nat.le_of_ble_eq_true rfl)
  rw [lg_entry_eq]
  generalize (lg_sl ([.ref a0, .int 0, .int 2, .int 1]) ++ List.replicate (4 - (lg_sl ([.ref a0, .int 0, .int 2, .int 1])).length) Slot.unset).toArray = ls at hl ⊢
  replace hl : lv_has ls 4 [(0, .ref a0), (1, .int 0), (2, .int 2), (3, .int 1)] := hl
  refine lv_iload_n hx hb dX5_setFunction_0 rfl (lv_at hl 1 rfl) ?_
  refine lv_if_lt (tgt := 22) hx hb dX5_setFunction_1 (by decide) (fun h => absurd h (by decide)) (fun _ => ?_)
  refine lv_iload_n hx hb dX5_setFunction_4 rfl (lv_at hl 1 rfl) ?_
  refine lv_bipush (v := 96) hx hb dX5_setFunction_5 (by decide) ?_
  refine lv_icmp_ge (tgt := 22) hx hb dX5_setFunction_7 (by decide) (fun h => absurd h (by decide)) (fun _ => ?_)
  refine lv_aload_n hx hb dX5_setFunction_10 rfl (lv_at hl 0 rfl) ?_
  refine va_get (D := (dC, dI)) (ci := 5) (v := .ref a1) (C := RX5) (T := TX5) (N := 15) hx hb hts iw_X5_setFunction_X5 hown hK hP 0 rfl rfl 10 (by decide) (hts _ m_X5_setFunction_1) (fun _ h9 => h9) rfl dX5_setFunction_11 ?_
  refine lv_iload_n hx hb dX5_setFunction_14 rfl (lv_at hl 1 rfl) ?_
  refine lv_bipush (v := 9) hx hb dX5_setFunction_15 (by decide) ?_
  refine lv_imul hx hb dX5_setFunction_17 ?_
  refine lv_topi (fun z_1 ez_1 => ?_)
  obtain rfl : z_1 = 0 := ez_1.trans (by decide)
  clear ez_1
  refine lv_iload_n hx hb dX5_setFunction_18 rfl (lv_at hl 2 rfl) ?_
  refine lv_iadd hx hb dX5_setFunction_19 ?_
  refine lv_topi (fun z_2 ez_2 => ?_)
  obtain rfl : z_2 = 2 := ez_2.trans (by decide)
  clear ez_2
  refine lv_iload_n hx hb dX5_setFunction_20 rfl (lv_at hl 3 rfl) ?_
  refine va_iast hx hb hK hP hD hS 1 1 rfl rfl (by unfold vp_in; decide) dX5_setFunction_21 (fun H_4 locs hP2 hD2 hS2 => ?_)
  replace hP : va_P (dC, dI) vwCl [(a0, .inr (5, [.ref cb, .int 81, .int 0, .ref a2, .int 2, .ref a3, .int 0, .ref a4, .int 1, .int 1, .ref a1, .int 6, .int 0, .int 1, .int 0])), (a1, .inl (cy 1, 864, .inl (upd f0 2 1)))] H_4 := hP2
  replace hD : va_D A [(a0, .inr (5, [.ref cb, .int 81, .int 0, .ref a2, .int 2, .ref a3, .int 0, .ref a4, .int 1, .int 1, .ref a1, .int 6, .int 0, .int 1, .int 0])), (a1, .inl (cy 1, 864, .inl (upd f0 2 1)))] := hD2
  replace hS := hS2
  clear hP2 hD2 hS2
  obtain ⟨g_3, eg_3⟩ : ∃ z, upd f0 2 1 = z := ⟨_, rfl⟩
  rw [eg_3] at hP hD
  exact W.vret hx hb hr (fun t ht hW => ⟨⟨(g_3), rfl, trivial, by rw [ht]; exact hP, va_K.moved hW.alike hK, hD⟩, hS.F ht⟩) hS.2.2 dX5_setFunction_22

set_option maxHeartbeats 4000000 in
set_option maxRecDepth 100000 in
theorem cc_57_X6_readByte (l : Launch) (dC : Nat → ClassId) (dI : Nat → Nat → Nat) (cy : Nat → ClassId) (sz : Nat) (cb : Nat) (a0 : Nat) (a1 : Nat) (a2 : Nat) (a3 : Nat) (a4 : Nat) (a5 : Nat) (a6 : Nat)  : Met l yX6_readByte wsX6_readByte ({ frames := 0, cells := 0, slots := 0, locals := 0 }) (va_Pc [.ref a0] (fun U => U.heap.size = sz ∧ va_P (dC, dI) vwCl [(a0, .inr (6, [.int 0, .int 0, .ref a1, .int 17, .int 0, .int 0, .int 0, .int 0, .ref a2])), (a1, .inr (5, [.ref cb, .int 81, .int 0, .ref a3, .int 2, .ref a4, .int 0, .ref a5, .int 1, .int 1, .ref a6, .int 6, .int 0, .int 1, .int 0]))] U.heap ∧ va_K (dC, dI) vwCl (TYS cy) U ∧ va_D (fun _ => True) [(a0, .inr (6, [.int 0, .int 0, .ref a1, .int 17, .int 0, .int 0, .int 0, .int 0, .ref a2])), (a1, .inr (5, [.ref cb, .int 81, .int 0, .ref a3, .int 2, .ref a4, .int 0, .ref a5, .int 1, .int 1, .ref a6, .int 6, .int 0, .int 1, .int 0]))] ∧ NK U ∧ SK cb (va_A [(a0, .inr (6, [.int 0, .int 0, .ref a1, .int 17, .int 0, .int 0, .int 0, .int 0, .ref a2])), (a1, .inr (5, [.ref cb, .int 81, .int 0, .ref a3, .int 2, .ref a4, .int 0, .ref a5, .int 1, .int 1, .ref a6, .int 6, .int 0, .int 1, .int 0]))] sz) U U.heap)) (va_Qi (fun (r : Int32) (u : Unit) => r = 1) (fun u t => va_P (dC, dI) vwCl [(a0, .inr (6, [.int 0, .int 0, .ref a1, .int 18, .int 0, .int 0, .int 0, .int 0, .ref a2])), (a1, .inr (5, [.ref cb, .int 81, .int 0, .ref a3, .int 2, .ref a4, .int 0, .ref a5, .int 1, .int 1, .ref a6, .int 6, .int 0, .int 1, .int 0]))] t.heap ∧ va_K (dC, dI) vwCl (TYS cy) t ∧ va_D (va_A [(a0, .inr (6, [.int 0, .int 0, .ref a1, .int 17, .int 0, .int 0, .int 0, .int 0, .ref a2])), (a1, .inr (5, [.ref cb, .int 81, .int 0, .ref a3, .int 2, .ref a4, .int 0, .ref a5, .int 1, .int 1, .ref a6, .int 6, .int 0, .int 1, .int 0]))] sz) [(a0, .inr (6, [.int 0, .int 0, .ref a1, .int 18, .int 0, .int 0, .int 0, .int 0, .ref a2])), (a1, .inr (5, [.ref cb, .int 81, .int 0, .ref a3, .int 2, .ref a4, .int 0, .ref a5, .int 1, .int 1, .ref a6, .int 6, .int 0, .int 1, .int 0]))]) (va_A [(a0, .inr (6, [.int 0, .int 0, .ref a1, .int 17, .int 0, .int 0, .int 0, .int 0, .ref a2])), (a1, .inr (5, [.ref cb, .int 81, .int 0, .ref a3, .int 2, .ref a4, .int 0, .ref a5, .int 1, .int 1, .ref a6, .int 6, .int 0, .int 1, .int 0]))] sz)) 0 0 (va_A [(a0, .inr (6, [.int 0, .int 0, .ref a1, .int 17, .int 0, .int 0, .int 0, .int 0, .ref a2])), (a1, .inr (5, [.ref cb, .int 81, .int 0, .ref a3, .int 2, .ref a4, .int 0, .ref a5, .int 1, .int 1, .ref a6, .int 6, .int 0, .int 1, .int 0]))] sz) := by
  refine Met.ofW (cc := cX6_readByte) (maxL := 1) (ret := (some .int)) (by decide) rfl ?_
  intro p e s m args below meth c s₁ B hml hv
  obtain ⟨rfl, hsz, hP, hK, hD0, hN, hSK⟩ := hv
  have hx := B.exec
  have hb := B.bytes
  have hr := B.returns
  have hts := atoms_spec (ws := wsX6_readByte) B.pre
  have hown : s.vm.findClass RX6 = some m.cls := findClass_of_methodNamed B.named
  have hlocks := B.notSynchronized
  subst hsz
  have hD := hD0.self (sz := s.heap.size)
  generalize hAe : va_A [(a0, .inr (6, [.int 0, .int 0, .ref a1, .int 17, .int 0, .int 0, .int 0, .int 0, .ref a2])), (a1, .inr (5, [.ref cb, .int 81, .int 0, .ref a3, .int 2, .ref a4, .int 0, .ref a5, .int 1, .int 1, .ref a6, .int 6, .int 0, .int 1, .int 0]))] s.heap.size = A at hD hSK ⊢
  have hA : ∀ q : Nat, s.heap.size ≤ q → A q := fun q h => by rw [← hAe]; exact Or.inr h
  have hS : va_S A s.heap s.heap [] := va_S.rf
  have hP : va_P (dC, dI) vwCl [(a0, .inr (6, [.int 0, .int 0, .ref a1, .int 17, .int 0, .int 0, .int 0, .int 0, .ref a2])), (a1, .inr (5, [.ref cb, .int 81, .int 0, .ref a3, .int 2, .ref a4, .int 0, .ref a5, .int 1, .int 1, .ref a6, .int 6, .int 0, .int 1, .int 0]))] s.heap := hP
  have hl := lv_entry ([.ref a0]) (n := 1) (Nat.le_of_ble_eq_true rfl)
  rw [lg_entry_eq]
  generalize (lg_sl ([.ref a0]) ++ List.replicate (1 - (lg_sl ([.ref a0])).length) Slot.unset).toArray = ls at hl ⊢
  replace hl : lv_has ls 1 [(0, .ref a0)] := hl
  refine lv_aload_n hx hb dX6_readByte_0 rfl (lv_at hl 0 rfl) ?_
  refine va_get (D := (dC, dI)) (ci := 6) (v := .int 0) (C := RX6) (T := TX6) (N := 9) hx hb hts iw_X6_readByte_X6 hown hK hP 0 rfl rfl 1 (by decide) (hts _ m_X6_readByte_1) (fun _ h9 => h9) rfl dX6_readByte_1 ?_
  refine lv_if_eq (tgt := 9) hx hb dX6_readByte_4 (by decide) (fun _ => ?_) (fun h => absurd (by decide) h)
  refine lv_aload_n hx hb dX6_readByte_9 rfl (lv_at hl 0 rfl) ?_
  refine va_get (D := (dC, dI)) (ci := 6) (v := .int 17) (C := RX6) (T := TX6) (N := 9) hx hb hts iw_X6_readByte_X6 hown hK hP 0 rfl rfl 3 (by decide) (hts _ m_X6_readByte_2) (fun _ h9 => h9) rfl dX6_readByte_10 ?_
  refine lv_aload_n hx hb dX6_readByte_13 rfl (lv_at hl 0 rfl) ?_
  refine va_get (D := (dC, dI)) (ci := 6) (v := .ref a1) (C := RX6) (T := TX6) (N := 9) hx hb hts iw_X6_readByte_X6 hown hK hP 0 rfl rfl 2 (by decide) (hts _ m_X6_readByte_3) (fun _ h9 => h9) rfl dX6_readByte_14 ?_
  refine va_get (D := (dC, dI)) (ci := 5) (v := .int 81) (C := RX5) (T := TX5) (N := 15) hx hb hts iw_X6_readByte_X5 hown hK hP 1 rfl rfl 1 (by decide) (hts _ m_X6_readByte_4) (fun _ h9 => h9) rfl dX6_readByte_17 ?_
  refine lv_icmp_lt (tgt := 41) hx hb dX6_readByte_20 (by decide) (fun _ => ?_) (fun h => absurd (by decide) h)
  refine lv_aload_n hx hb dX6_readByte_41 rfl (lv_at hl 0 rfl) ?_
  refine va_get (D := (dC, dI)) (ci := 6) (v := .ref a1) (C := RX6) (T := TX6) (N := 9) hx hb hts iw_X6_readByte_X6 hown hK hP 0 rfl rfl 2 (by decide) (hts _ m_X6_readByte_3) (fun _ h9 => h9) rfl dX6_readByte_42 ?_
  refine va_get (D := (dC, dI)) (ci := 5) (v := .ref cb) (C := RX5) (T := TX5) (N := 15) hx hb hts iw_X6_readByte_X5 hown hK hP 1 rfl rfl 0 (by decide) (hts _ m_X6_readByte_6) (fun _ h9 => h9) rfl dX6_readByte_45 ?_
  refine lv_aload_n hx hb dX6_readByte_48 rfl (lv_at hl 0 rfl) ?_
  refine lv_dup hx hb dX6_readByte_49 rfl ?_
  refine va_get (D := (dC, dI)) (ci := 6) (v := .int 17) (C := RX6) (T := TX6) (N := 9) hx hb hts iw_X6_readByte_X6 hown hK hP 0 rfl rfl 3 (by decide) (hts _ m_X6_readByte_2) (fun _ h9 => h9) rfl dX6_readByte_50 ?_
  refine lv_dup_x1 hx hb dX6_readByte_53 rfl rfl ?_
  refine lv_iconst (v := 1) hx hb dX6_readByte_54 (by decide) ?_
  refine lv_iadd hx hb dX6_readByte_55 ?_
  refine lv_topi (fun z_1 ez_1 => ?_)
  obtain rfl : z_1 = 18 := ez_1.trans (by decide)
  clear ez_1
  refine va_put (D := (dC, dI)) (ci := 6) (v := .int 18) (ty := .int) (C := RX6) (T := TX6) (N := 9) hx hb hts iw_X6_readByte_X6 tyX6 tyX6_ok nmX6 hown hK hP hD hS 0 rfl rfl 3 (by decide) (hts _ m_X6_readByte_2) (fun _ h9 => h9) rfl (by decide +kernel) rfl rfl (Nat.le_of_ble_eq_true rfl) dX6_readByte_56 (fun H_2 locs hP2 hD2 hS2 => ?_)
  replace hP : va_P (dC, dI) vwCl [(a0, .inr (6, [.int 0, .int 0, .ref a1, .int 18, .int 0, .int 0, .int 0, .int 0, .ref a2])), (a1, .inr (5, [.ref cb, .int 81, .int 0, .ref a3, .int 2, .ref a4, .int 0, .ref a5, .int 1, .int 1, .ref a6, .int 6, .int 0, .int 1, .int 0]))] H_2 := hP2
  replace hD : va_D A [(a0, .inr (6, [.int 0, .int 0, .ref a1, .int 18, .int 0, .int 0, .int 0, .int 0, .ref a2])), (a1, .inr (5, [.ref cb, .int 81, .int 0, .ref a3, .int 2, .ref a4, .int 0, .ref a5, .int 1, .int 1, .ref a6, .int 6, .int 0, .int 1, .int 0]))] := hD2
  replace hS := hS2
  clear hP2 hD2 hS2
  refine va_tb (v := .int 1) hx hb hSK.2 hS (by unfold vp_in; decide) rfl dX6_readByte_59 ?_
  refine lv_sipush (v := 255) hx hb dX6_readByte_60 (by decide) ?_
  refine lv_iand hx hb dX6_readByte_63 ?_
  refine lv_topi (fun z_3 ez_3 => ?_)
  obtain rfl : z_3 = 1 := ez_3.trans (by decide)
  clear ez_3
  exact W.iret hx hb hr (fun t ht hW => ⟨⟨1, (), rfl, rfl, by rw [ht]; exact hP, va_K.moved hW.alike hK, hD⟩, hS.F ht⟩) hS.2.2 dX6_readByte_64

set_option maxHeartbeats 4000000 in
set_option maxRecDepth 100000 in
theorem cc_56_X6_readNumber (l : Launch) (dC : Nat → ClassId) (dI : Nat → Nat → Nat) (cy : Nat → ClassId) (sz : Nat) (cb : Nat) (a0 : Nat) (a1 : Nat) (a2 : Nat) (a3 : Nat) (a4 : Nat) (a5 : Nat) (a6 : Nat)  : Met l yX6_readNumber wsX6_readNumber ({ frames := 1, cells := 0, slots := 0, locals := 20 }) (va_Pc [.ref a0, .int 0, .int 8] (fun U => U.heap.size = sz ∧ va_P (dC, dI) vwCl [(a0, .inr (6, [.int 0, .int 0, .ref a1, .int 17, .int 0, .int 0, .int 0, .int 0, .ref a2])), (a1, .inr (5, [.ref cb, .int 81, .int 0, .ref a3, .int 2, .ref a4, .int 0, .ref a5, .int 1, .int 1, .ref a6, .int 6, .int 0, .int 1, .int 0]))] U.heap ∧ va_K (dC, dI) vwCl (TYS cy) U ∧ va_D (fun _ => True) [(a0, .inr (6, [.int 0, .int 0, .ref a1, .int 17, .int 0, .int 0, .int 0, .int 0, .ref a2])), (a1, .inr (5, [.ref cb, .int 81, .int 0, .ref a3, .int 2, .ref a4, .int 0, .ref a5, .int 1, .int 1, .ref a6, .int 6, .int 0, .int 1, .int 0]))] ∧ NK U ∧ SK cb (va_A [(a0, .inr (6, [.int 0, .int 0, .ref a1, .int 17, .int 0, .int 0, .int 0, .int 0, .ref a2])), (a1, .inr (5, [.ref cb, .int 81, .int 0, .ref a3, .int 2, .ref a4, .int 0, .ref a5, .int 1, .int 1, .ref a6, .int 6, .int 0, .int 1, .int 0]))] sz) U U.heap)) (va_Qi (fun (r : Int32) (u : Unit) => r = 1) (fun u t => va_P (dC, dI) vwCl [(a0, .inr (6, [.int 0, .int 0, .ref a1, .int 18, .int 0, .int 0, .int 0, .int 0, .ref a2])), (a1, .inr (5, [.ref cb, .int 81, .int 0, .ref a3, .int 2, .ref a4, .int 0, .ref a5, .int 1, .int 1, .ref a6, .int 6, .int 0, .int 1, .int 0]))] t.heap ∧ va_K (dC, dI) vwCl (TYS cy) t ∧ va_D (va_A [(a0, .inr (6, [.int 0, .int 0, .ref a1, .int 17, .int 0, .int 0, .int 0, .int 0, .ref a2])), (a1, .inr (5, [.ref cb, .int 81, .int 0, .ref a3, .int 2, .ref a4, .int 0, .ref a5, .int 1, .int 1, .ref a6, .int 6, .int 0, .int 1, .int 0]))] sz) [(a0, .inr (6, [.int 0, .int 0, .ref a1, .int 18, .int 0, .int 0, .int 0, .int 0, .ref a2])), (a1, .inr (5, [.ref cb, .int 81, .int 0, .ref a3, .int 2, .ref a4, .int 0, .ref a5, .int 1, .int 1, .ref a6, .int 6, .int 0, .int 1, .int 0]))]) (va_A [(a0, .inr (6, [.int 0, .int 0, .ref a1, .int 17, .int 0, .int 0, .int 0, .int 0, .ref a2])), (a1, .inr (5, [.ref cb, .int 81, .int 0, .ref a3, .int 2, .ref a4, .int 0, .ref a5, .int 1, .int 1, .ref a6, .int 6, .int 0, .int 1, .int 0]))] sz)) 0 0 (va_A [(a0, .inr (6, [.int 0, .int 0, .ref a1, .int 17, .int 0, .int 0, .int 0, .int 0, .ref a2])), (a1, .inr (5, [.ref cb, .int 81, .int 0, .ref a3, .int 2, .ref a4, .int 0, .ref a5, .int 1, .int 1, .ref a6, .int 6, .int 0, .int 1, .int 0]))] sz) := by
  refine Met.ofW (cc := cX6_readNumber) (maxL := 5) (ret := (some .int)) (by decide) rfl ?_
  intro p e s m args below meth c s₁ B hml hv
  obtain ⟨rfl, hsz, hP, hK, hD0, hN, hSK⟩ := hv
  have hx := B.exec
  have hb := B.bytes
  have hr := B.returns
  have hts := atoms_spec (ws := wsX6_readNumber) B.pre
  have hown : s.vm.findClass RX6 = some m.cls := findClass_of_methodNamed B.named
  have hlocks := B.notSynchronized
  subst hsz
  have hD := hD0.self (sz := s.heap.size)
  generalize hAe : va_A [(a0, .inr (6, [.int 0, .int 0, .ref a1, .int 17, .int 0, .int 0, .int 0, .int 0, .ref a2])), (a1, .inr (5, [.ref cb, .int 81, .int 0, .ref a3, .int 2, .ref a4, .int 0, .ref a5, .int 1, .int 1, .ref a6, .int 6, .int 0, .int 1, .int 0]))] s.heap.size = A at hD hSK ⊢
  have hA : ∀ q : Nat, s.heap.size ≤ q → A q := fun q h => by rw [← hAe]; exact Or.inr h
  have hS : va_S A s.heap s.heap [] := va_S.rf
  have hP : va_P (dC, dI) vwCl [(a0, .inr (6, [.int 0, .int 0, .ref a1, .int 17, .int 0, .int 0, .int 0, .int 0, .ref a2])), (a1, .inr (5, [.ref cb, .int 81, .int 0, .ref a3, .int 2, .ref a4, .int 0, .ref a5, .int 1, .int 1, .ref a6, .int 6, .int 0, .int 1, .int 0]))] s.heap := hP
  have hl := lv_entry ([.ref a0, .int 0, .int 8]) (n := 5) (Nat.le_of_ble_eq_true rfl)
  rw [lg_entry_eq]
  generalize (lg_sl ([.ref a0, .int 0, .int 8]) ++ List.replicate (5 - (lg_sl ([.ref a0, .int 0, .int 8])).length) Slot.unset).toArray = ls at hl ⊢
  replace hl : lv_has ls 5 [(0, .ref a0), (1, .int 0), (2, .int 8)] := hl
  refine lv_aload_n hx hb dX6_readNumber_0 rfl (lv_at hl 0 rfl) ?_
  refine va_get (D := (dC, dI)) (ci := 6) (v := .int 17) (C := RX6) (T := TX6) (N := 9) hx hb hts iw_X6_readNumber_X6 hown hK hP 0 rfl rfl 3 (by decide) (hts _ m_X6_readNumber_1) (fun _ h9 => h9) rfl dX6_readNumber_1 ?_
  refine lv_istore_n (lv' := [(3, .int 17), (0, .ref a0), (1, .int 0), (2, .int 8)]) hx hb dX6_readNumber_4 rfl hl (by decide) rfl (fun ls hl2 => ?_)
  replace hl := hl2
  clear hl2
  refine lv_aload_n hx hb dX6_readNumber_5 rfl (lv_at hl 1 rfl) ?_
  have hPc := hP.sub (ws' := [(a0, .inr (6, [.int 0, .int 0, .ref a1, .int 17, .int 0, .int 0, .int 0, .int 0, .ref a2])), (a1, .inr (5, [.ref cb, .int 81, .int 0, .ref a3, .int 2, .ref a4, .int 0, .ref a5, .int 1, .int 1, .ref a6, .int 6, .int 0, .int 1, .int 0]))]) [0, 1] rfl
  have hDc := hD.sub (ws' := [(a0, .inr (6, [.int 0, .int 0, .ref a1, .int 17, .int 0, .int 0, .int 0, .int 0, .ref a2])), (a1, .inr (5, [.ref cb, .int 81, .int 0, .ref a3, .int 2, .ref a4, .int 0, .ref a5, .int 1, .int 1, .ref a6, .int 6, .int 0, .int 1, .int 0]))]) [0, 1] (by decide) rfl
  have hFc := va_free (wc := [(a0, .inr (6, [.int 0, .int 0, .ref a1, .int 17, .int 0, .int 0, .int 0, .int 0, .ref a2])), (a1, .inr (5, [.ref cb, .int 81, .int 0, .ref a3, .int 2, .ref a4, .int 0, .ref a5, .int 1, .int 1, .ref a6, .int 6, .int 0, .int 1, .int 0]))]) hD hS hA [0, 1] rfl
  refine va_calli (va_runV (As := []) (rest := []) ⟨hx, hb, hml, hown, hts⟩ (cc_57_X6_readByte l dC dI cy s.heap.size cb a0 a1 a2 a3 a4 a5 a6) (cwV 0 hts gX6_readNumber_X6_readByte rfl rfl rfl (by decide +kernel) ⟨Nat.le_of_ble_eq_true rfl, Nat.le_of_ble_eq_true rfl⟩) ⟨fun a U g mk q => by obtain ⟨q0, q1, qP, qK, qD, qN, qS⟩ := q; exact ⟨q0, q1, qP, va_K.moved (u := U) (U := U.calling g mk a) (Vm.Alike.refl U.vm) qK, qD, qN.same rfl, SK.moved (u := U) (U := U.calling g mk a) (Vm.Alike.refl U.vm) qS⟩, va_recv hK hPc (ci := 6) (q0 := 0) rfl rfl, fun U hU hW => ⟨rfl, by rw [hU], by rw [hU]; exact hPc, va_K.moved hW.alike hK, hDc.weaken (fun _ _ _ _ => trivial), hN.warm hW, by rw [hU]; exact ((hSK.kept hS.2.1).narrow hFc).moved hW.alike⟩⟩ rfl rfl hl.1 rfl (lv_room (Nat.le_of_ble_eq_true rfl)) dX6_readNumber_6 ⟨Nat.le_of_ble_eq_true rfl, Nat.le_of_ble_eq_true rfl⟩) hS (fun q _ h => hFc q h) hFc (fun r_1 u t H_2 locs ht hvm hw hB hz1 hk1 hS2 => ?_)
  obtain ⟨hP1, hK1, hD1⟩ := hB
  rw [ht] at hP1
  obtain rfl := hw
  obtain ⟨hP2, hD2⟩ := va_join (wr := []) (w1 := [(a0, .inr (6, [.int 0, .int 0, .ref a1, .int 18, .int 0, .int 0, .int 0, .int 0, .ref a2])), (a1, .inr (5, [.ref cb, .int 81, .int 0, .ref a3, .int 2, .ref a4, .int 0, .ref a5, .int 1, .int 1, .ref a6, .int 6, .int 0, .int 1, .int 0]))]) hP hD [0, 1] [] rfl rfl (by decide) (by decide) hk1 hFc hP1 hD1
  replace hP : va_P (dC, dI) vwCl [(a0, .inr (6, [.int 0, .int 0, .ref a1, .int 18, .int 0, .int 0, .int 0, .int 0, .ref a2])), (a1, .inr (5, [.ref cb, .int 81, .int 0, .ref a3, .int 2, .ref a4, .int 0, .ref a5, .int 1, .int 1, .ref a6, .int 6, .int 0, .int 1, .int 0]))] H_2 := hP2
  replace hD : va_D A [(a0, .inr (6, [.int 0, .int 0, .ref a1, .int 18, .int 0, .int 0, .int 0, .int 0, .ref a2])), (a1, .inr (5, [.ref cb, .int 81, .int 0, .ref a3, .int 2, .ref a4, .int 0, .ref a5, .int 1, .int 1, .ref a6, .int 6, .int 0, .int 1, .int 0]))] := hD2
  replace hS := hS2
  clear hP2 hD2 hS2
  clear hPc hDc hFc hP1 hD1 hK1 hk1 hz1 hvm ht
  refine W.widen (k := 0) (n := 0) (Nat.le_of_ble_eq_true rfl) (Nat.le_of_ble_eq_true rfl) ?_
  refine lv_istore (lv' := [(4, .int 1), (3, .int 17), (0, .ref a0), (1, .int 0), (2, .int 8)]) hx hb dX6_readNumber_9 hl (by decide) rfl (fun ls hl2 => ?_)
  replace hl := hl2
  clear hl2
  refine lv_iload hx hb dX6_readNumber_11 (lv_at hl 0 rfl) ?_
  refine lv_iload_n hx hb dX6_readNumber_13 rfl (lv_at hl 3 rfl) ?_
  refine lv_icmp_lt (tgt := 23) hx hb dX6_readNumber_14 (by decide) (fun h => absurd h (by decide)) (fun _ => ?_)
  refine lv_iload hx hb dX6_readNumber_17 (lv_at hl 0 rfl) ?_
  refine lv_iload_n hx hb dX6_readNumber_19 rfl (lv_at hl 4 rfl) ?_
  refine lv_icmp_le (tgt := 29) hx hb dX6_readNumber_20 (by decide) (fun _ => ?_) (fun h => absurd (by decide) h)
  refine lv_aload_n hx hb dX6_readNumber_29 rfl (lv_at hl 2 rfl) ?_
  refine va_get (D := (dC, dI)) (ci := 6) (v := .int 0) (C := RX6) (T := TX6) (N := 9) hx hb hts iw_X6_readNumber_X6 hown hK hP 0 rfl rfl 1 (by decide) (hts _ m_X6_readNumber_2) (fun _ h9 => h9) rfl dX6_readNumber_30 ?_
  refine lv_if_ne (tgt := 41) hx hb dX6_readNumber_33 (by decide) (fun h => absurd (by decide) h) (fun _ => ?_)
  refine lv_iload hx hb dX6_readNumber_36 (lv_at hl 0 rfl) ?_
  refine lv_goto (tgt := 42) hx hb dX6_readNumber_38 (by decide) ?_
  exact W.iret hx hb hr (fun t ht hW => ⟨⟨1, (), rfl, rfl, by rw [ht]; exact hP, va_K.moved hW.alike hK, hD⟩, hS.F ht⟩) hS.2.2 dX6_readNumber_42

set_option maxHeartbeats 4000000 in
set_option maxRecDepth 100000 in
theorem cc_60_X6_readByte (l : Launch) (dC : Nat → ClassId) (dI : Nat → Nat → Nat) (cy : Nat → ClassId) (sz : Nat) (cb : Nat) (a0 : Nat) (a1 : Nat) (a2 : Nat) (a3 : Nat) (a4 : Nat) (a5 : Nat) (a6 : Nat)  : Met l yX6_readByte wsX6_readByte ({ frames := 0, cells := 0, slots := 0, locals := 0 }) (va_Pc [.ref a0] (fun U => U.heap.size = sz ∧ va_P (dC, dI) vwCl [(a0, .inr (6, [.int 0, .int 0, .ref a1, .int 18, .int 0, .int 0, .int 0, .int 0, .ref a2])), (a1, .inr (5, [.ref cb, .int 81, .int 0, .ref a3, .int 2, .ref a4, .int 0, .ref a5, .int 1, .int 1, .ref a6, .int 6, .int 0, .int 1, .int 0]))] U.heap ∧ va_K (dC, dI) vwCl (TYS cy) U ∧ va_D (fun _ => True) [(a0, .inr (6, [.int 0, .int 0, .ref a1, .int 18, .int 0, .int 0, .int 0, .int 0, .ref a2])), (a1, .inr (5, [.ref cb, .int 81, .int 0, .ref a3, .int 2, .ref a4, .int 0, .ref a5, .int 1, .int 1, .ref a6, .int 6, .int 0, .int 1, .int 0]))] ∧ NK U ∧ SK cb (va_A [(a0, .inr (6, [.int 0, .int 0, .ref a1, .int 18, .int 0, .int 0, .int 0, .int 0, .ref a2])), (a1, .inr (5, [.ref cb, .int 81, .int 0, .ref a3, .int 2, .ref a4, .int 0, .ref a5, .int 1, .int 1, .ref a6, .int 6, .int 0, .int 1, .int 0]))] sz) U U.heap)) (va_Qi (fun (r : Int32) (u : Unit) => r = 6) (fun u t => va_P (dC, dI) vwCl [(a0, .inr (6, [.int 0, .int 0, .ref a1, .int 19, .int 0, .int 0, .int 0, .int 0, .ref a2])), (a1, .inr (5, [.ref cb, .int 81, .int 0, .ref a3, .int 2, .ref a4, .int 0, .ref a5, .int 1, .int 1, .ref a6, .int 6, .int 0, .int 1, .int 0]))] t.heap ∧ va_K (dC, dI) vwCl (TYS cy) t ∧ va_D (va_A [(a0, .inr (6, [.int 0, .int 0, .ref a1, .int 18, .int 0, .int 0, .int 0, .int 0, .ref a2])), (a1, .inr (5, [.ref cb, .int 81, .int 0, .ref a3, .int 2, .ref a4, .int 0, .ref a5, .int 1, .int 1, .ref a6, .int 6, .int 0, .int 1, .int 0]))] sz) [(a0, .inr (6, [.int 0, .int 0, .ref a1, .int 19, .int 0, .int 0, .int 0, .int 0, .ref a2])), (a1, .inr (5, [.ref cb, .int 81, .int 0, .ref a3, .int 2, .ref a4, .int 0, .ref a5, .int 1, .int 1, .ref a6, .int 6, .int 0, .int 1, .int 0]))]) (va_A [(a0, .inr (6, [.int 0, .int 0, .ref a1, .int 18, .int 0, .int 0, .int 0, .int 0, .ref a2])), (a1, .inr (5, [.ref cb, .int 81, .int 0, .ref a3, .int 2, .ref a4, .int 0, .ref a5, .int 1, .int 1, .ref a6, .int 6, .int 0, .int 1, .int 0]))] sz)) 0 0 (va_A [(a0, .inr (6, [.int 0, .int 0, .ref a1, .int 18, .int 0, .int 0, .int 0, .int 0, .ref a2])), (a1, .inr (5, [.ref cb, .int 81, .int 0, .ref a3, .int 2, .ref a4, .int 0, .ref a5, .int 1, .int 1, .ref a6, .int 6, .int 0, .int 1, .int 0]))] sz) := by
  refine Met.ofW (cc := cX6_readByte) (maxL := 1) (ret := (some .int)) (by decide) rfl ?_
  intro p e s m args below meth c s₁ B hml hv
  obtain ⟨rfl, hsz, hP, hK, hD0, hN, hSK⟩ := hv
  have hx := B.exec
  have hb := B.bytes
  have hr := B.returns
  have hts := atoms_spec (ws := wsX6_readByte) B.pre
  have hown : s.vm.findClass RX6 = some m.cls := findClass_of_methodNamed B.named
  have hlocks := B.notSynchronized
  subst hsz
  have hD := hD0.self (sz := s.heap.size)
  generalize hAe : va_A [(a0, .inr (6, [.int 0, .int 0, .ref a1, .int 18, .int 0, .int 0, .int 0, .int 0, .ref a2])), (a1, .inr (5, [.ref cb, .int 81, .int 0, .ref a3, .int 2, .ref a4, .int 0, .ref a5, .int 1, .int 1, .ref a6, .int 6, .int 0, .int 1, .int 0]))] s.heap.size = A at hD hSK ⊢
  have hA : ∀ q : Nat, s.heap.size ≤ q → A q := fun q h => by rw [← hAe]; exact Or.inr h
  have hS : va_S A s.heap s.heap [] := va_S.rf
  have hP : va_P (dC, dI) vwCl [(a0, .inr (6, [.int 0, .int 0, .ref a1, .int 18, .int 0, .int 0, .int 0, .int 0, .ref a2])), (a1, .inr (5, [.ref cb, .int 81, .int 0, .ref a3, .int 2, .ref a4, .int 0, .ref a5, .int 1, .int 1, .ref a6, .int 6, .int 0, .int 1, .int 0]))] s.heap := hP
  have hl := lv_entry ([.ref a0]) (n := 1) (Nat.le_of_ble_eq_true rfl)
  rw [lg_entry_eq]
  generalize (lg_sl ([.ref a0]) ++ List.replicate (1 - (lg_sl ([.ref a0])).length) Slot.unset).toArray = ls at hl ⊢
  replace hl : lv_has ls 1 [(0, .ref a0)] := hl
  refine lv_aload_n hx hb dX6_readByte_0 rfl (lv_at hl 0 rfl) ?_
  refine va_get (D := (dC, dI)) (ci := 6) (v := .int 0) (C := RX6) (T := TX6) (N := 9) hx hb hts iw_X6_readByte_X6 hown hK hP 0 rfl rfl 1 (by decide) (hts _ m_X6_readByte_1) (fun _ h9 => h9) rfl dX6_readByte_1 ?_
  refine lv_if_eq (tgt := 9) hx hb dX6_readByte_4 (by decide) (fun _ => ?_) (fun h => absurd (by decide) h)
  refine lv_aload_n hx hb dX6_readByte_9 rfl (lv_at hl 0 rfl) ?_
  refine va_get (D := (dC, dI)) (ci := 6) (v := .int 18) (C := RX6) (T := TX6) (N := 9) hx hb hts iw_X6_readByte_X6 hown hK hP 0 rfl rfl 3 (by decide) (hts _ m_X6_readByte_2) (fun _ h9 => h9) rfl dX6_readByte_10 ?_
  refine lv_aload_n hx hb dX6_readByte_13 rfl (lv_at hl 0 rfl) ?_
  refine va_get (D := (dC, dI)) (ci := 6) (v := .ref a1) (C := RX6) (T := TX6) (N := 9) hx hb hts iw_X6_readByte_X6 hown hK hP 0 rfl rfl 2 (by decide) (hts _ m_X6_readByte_3) (fun _ h9 => h9) rfl dX6_readByte_14 ?_
  refine va_get (D := (dC, dI)) (ci := 5) (v := .int 81) (C := RX5) (T := TX5) (N := 15) hx hb hts iw_X6_readByte_X5 hown hK hP 1 rfl rfl 1 (by decide) (hts _ m_X6_readByte_4) (fun _ h9 => h9) rfl dX6_readByte_17 ?_
  refine lv_icmp_lt (tgt := 41) hx hb dX6_readByte_20 (by decide) (fun _ => ?_) (fun h => absurd (by decide) h)
  refine lv_aload_n hx hb dX6_readByte_41 rfl (lv_at hl 0 rfl) ?_
  refine va_get (D := (dC, dI)) (ci := 6) (v := .ref a1) (C := RX6) (T := TX6) (N := 9) hx hb hts iw_X6_readByte_X6 hown hK hP 0 rfl rfl 2 (by decide) (hts _ m_X6_readByte_3) (fun _ h9 => h9) rfl dX6_readByte_42 ?_
  refine va_get (D := (dC, dI)) (ci := 5) (v := .ref cb) (C := RX5) (T := TX5) (N := 15) hx hb hts iw_X6_readByte_X5 hown hK hP 1 rfl rfl 0 (by decide) (hts _ m_X6_readByte_6) (fun _ h9 => h9) rfl dX6_readByte_45 ?_
  refine lv_aload_n hx hb dX6_readByte_48 rfl (lv_at hl 0 rfl) ?_
  refine lv_dup hx hb dX6_readByte_49 rfl ?_
  refine va_get (D := (dC, dI)) (ci := 6) (v := .int 18) (C := RX6) (T := TX6) (N := 9) hx hb hts iw_X6_readByte_X6 hown hK hP 0 rfl rfl 3 (by decide) (hts _ m_X6_readByte_2) (fun _ h9 => h9) rfl dX6_readByte_50 ?_
  refine lv_dup_x1 hx hb dX6_readByte_53 rfl rfl ?_
  refine lv_iconst (v := 1) hx hb dX6_readByte_54 (by decide) ?_
  refine lv_iadd hx hb dX6_readByte_55 ?_
  refine lv_topi (fun z_1 ez_1 => ?_)
  obtain rfl : z_1 = 19 := ez_1.trans (by decide)
  clear ez_1
  refine va_put (D := (dC, dI)) (ci := 6) (v := .int 19) (ty := .int) (C := RX6) (T := TX6) (N := 9) hx hb hts iw_X6_readByte_X6 tyX6 tyX6_ok nmX6 hown hK hP hD hS 0 rfl rfl 3 (by decide) (hts _ m_X6_readByte_2) (fun _ h9 => h9) rfl (by decide +kernel) rfl rfl (Nat.le_of_ble_eq_true rfl) dX6_readByte_56 (fun H_2 locs hP2 hD2 hS2 => ?_)
  replace hP : va_P (dC, dI) vwCl [(a0, .inr (6, [.int 0, .int 0, .ref a1, .int 19, .int 0, .int 0, .int 0, .int 0, .ref a2])), (a1, .inr (5, [.ref cb, .int 81, .int 0, .ref a3, .int 2, .ref a4, .int 0, .ref a5, .int 1, .int 1, .ref a6, .int 6, .int 0, .int 1, .int 0]))] H_2 := hP2
  replace hD : va_D A [(a0, .inr (6, [.int 0, .int 0, .ref a1, .int 19, .int 0, .int 0, .int 0, .int 0, .ref a2])), (a1, .inr (5, [.ref cb, .int 81, .int 0, .ref a3, .int 2, .ref a4, .int 0, .ref a5, .int 1, .int 1, .ref a6, .int 6, .int 0, .int 1, .int 0]))] := hD2
  replace hS := hS2
  clear hP2 hD2 hS2
  refine va_tb (v := .int 6) hx hb hSK.2 hS (by unfold vp_in; decide) rfl dX6_readByte_59 ?_
  refine lv_sipush (v := 255) hx hb dX6_readByte_60 (by decide) ?_
  refine lv_iand hx hb dX6_readByte_63 ?_
  refine lv_topi (fun z_3 ez_3 => ?_)
  obtain rfl : z_3 = 6 := ez_3.trans (by decide)
  clear ez_3
  exact W.iret hx hb hr (fun t ht hW => ⟨⟨6, (), rfl, rfl, by rw [ht]; exact hP, va_K.moved hW.alike hK, hD⟩, hS.F ht⟩) hS.2.2 dX6_readByte_64

set_option maxHeartbeats 4000000 in
set_option maxRecDepth 100000 in
theorem cc_61_X6_readByte (l : Launch) (dC : Nat → ClassId) (dI : Nat → Nat → Nat) (cy : Nat → ClassId) (sz : Nat) (cb : Nat) (a0 : Nat) (a1 : Nat) (a2 : Nat) (a3 : Nat) (a4 : Nat) (a5 : Nat) (a6 : Nat)  : Met l yX6_readByte wsX6_readByte ({ frames := 0, cells := 0, slots := 0, locals := 0 }) (va_Pc [.ref a0] (fun U => U.heap.size = sz ∧ va_P (dC, dI) vwCl [(a0, .inr (6, [.int 0, .int 0, .ref a1, .int 19, .int 0, .int 0, .int 0, .int 0, .ref a2])), (a1, .inr (5, [.ref cb, .int 81, .int 0, .ref a3, .int 2, .ref a4, .int 0, .ref a5, .int 1, .int 1, .ref a6, .int 6, .int 0, .int 1, .int 0]))] U.heap ∧ va_K (dC, dI) vwCl (TYS cy) U ∧ va_D (fun _ => True) [(a0, .inr (6, [.int 0, .int 0, .ref a1, .int 19, .int 0, .int 0, .int 0, .int 0, .ref a2])), (a1, .inr (5, [.ref cb, .int 81, .int 0, .ref a3, .int 2, .ref a4, .int 0, .ref a5, .int 1, .int 1, .ref a6, .int 6, .int 0, .int 1, .int 0]))] ∧ NK U ∧ SK cb (va_A [(a0, .inr (6, [.int 0, .int 0, .ref a1, .int 19, .int 0, .int 0, .int 0, .int 0, .ref a2])), (a1, .inr (5, [.ref cb, .int 81, .int 0, .ref a3, .int 2, .ref a4, .int 0, .ref a5, .int 1, .int 1, .ref a6, .int 6, .int 0, .int 1, .int 0]))] sz) U U.heap)) (va_Qi (fun (r : Int32) (u : Unit) => r = 0) (fun u t => va_P (dC, dI) vwCl [(a0, .inr (6, [.int 0, .int 0, .ref a1, .int 20, .int 0, .int 0, .int 0, .int 0, .ref a2])), (a1, .inr (5, [.ref cb, .int 81, .int 0, .ref a3, .int 2, .ref a4, .int 0, .ref a5, .int 1, .int 1, .ref a6, .int 6, .int 0, .int 1, .int 0]))] t.heap ∧ va_K (dC, dI) vwCl (TYS cy) t ∧ va_D (va_A [(a0, .inr (6, [.int 0, .int 0, .ref a1, .int 19, .int 0, .int 0, .int 0, .int 0, .ref a2])), (a1, .inr (5, [.ref cb, .int 81, .int 0, .ref a3, .int 2, .ref a4, .int 0, .ref a5, .int 1, .int 1, .ref a6, .int 6, .int 0, .int 1, .int 0]))] sz) [(a0, .inr (6, [.int 0, .int 0, .ref a1, .int 20, .int 0, .int 0, .int 0, .int 0, .ref a2])), (a1, .inr (5, [.ref cb, .int 81, .int 0, .ref a3, .int 2, .ref a4, .int 0, .ref a5, .int 1, .int 1, .ref a6, .int 6, .int 0, .int 1, .int 0]))]) (va_A [(a0, .inr (6, [.int 0, .int 0, .ref a1, .int 19, .int 0, .int 0, .int 0, .int 0, .ref a2])), (a1, .inr (5, [.ref cb, .int 81, .int 0, .ref a3, .int 2, .ref a4, .int 0, .ref a5, .int 1, .int 1, .ref a6, .int 6, .int 0, .int 1, .int 0]))] sz)) 0 0 (va_A [(a0, .inr (6, [.int 0, .int 0, .ref a1, .int 19, .int 0, .int 0, .int 0, .int 0, .ref a2])), (a1, .inr (5, [.ref cb, .int 81, .int 0, .ref a3, .int 2, .ref a4, .int 0, .ref a5, .int 1, .int 1, .ref a6, .int 6, .int 0, .int 1, .int 0]))] sz) := by
  refine Met.ofW (cc := cX6_readByte) (maxL := 1) (ret := (some .int)) (by decide) rfl ?_
  intro p e s m args below meth c s₁ B hml hv
  obtain ⟨rfl, hsz, hP, hK, hD0, hN, hSK⟩ := hv
  have hx := B.exec
  have hb := B.bytes
  have hr := B.returns
  have hts := atoms_spec (ws := wsX6_readByte) B.pre
  have hown : s.vm.findClass RX6 = some m.cls := findClass_of_methodNamed B.named
  have hlocks := B.notSynchronized
  subst hsz
  have hD := hD0.self (sz := s.heap.size)
  generalize hAe : va_A [(a0, .inr (6, [.int 0, .int 0, .ref a1, .int 19, .int 0, .int 0, .int 0, .int 0, .ref a2])), (a1, .inr (5, [.ref cb, .int 81, .int 0, .ref a3, .int 2, .ref a4, .int 0, .ref a5, .int 1, .int 1, .ref a6, .int 6, .int 0, .int 1, .int 0]))] s.heap.size = A at hD hSK ⊢
  have hA : ∀ q : Nat, s.heap.size ≤ q → A q := fun q h => by rw [← hAe]; exact Or.inr h
  have hS : va_S A s.heap s.heap [] := va_S.rf
  have hP : va_P (dC, dI) vwCl [(a0, .inr (6, [.int 0, .int 0, .ref a1, .int 19, .int 0, .int 0, .int 0, .int 0, .ref a2])), (a1, .inr (5, [.ref cb, .int 81, .int 0, .ref a3, .int 2, .ref a4, .int 0, .ref a5, .int 1, .int 1, .ref a6, .int 6, .int 0, .int 1, .int 0]))] s.heap := hP
  have hl := lv_entry ([.ref a0]) (n := 1) (Nat.le_of_ble_eq_true rfl)
  rw [lg_entry_eq]
  generalize (lg_sl ([.ref a0]) ++ List.replicate (1 - (lg_sl ([.ref a0])).length) Slot.unset).toArray = ls at hl ⊢
  replace hl : lv_has ls 1 [(0, .ref a0)] := hl
  refine lv_aload_n hx hb dX6_readByte_0 rfl (lv_at hl 0 rfl) ?_
  refine va_get (D := (dC, dI)) (ci := 6) (v := .int 0) (C := RX6) (T := TX6) (N := 9) hx hb hts iw_X6_readByte_X6 hown hK hP 0 rfl rfl 1 (by decide) (hts _ m_X6_readByte_1) (fun _ h9 => h9) rfl dX6_readByte_1 ?_
  refine lv_if_eq (tgt := 9) hx hb dX6_readByte_4 (by decide) (fun _ => ?_) (fun h => absurd (by decide) h)
  refine lv_aload_n hx hb dX6_readByte_9 rfl (lv_at hl 0 rfl) ?_
  refine va_get (D := (dC, dI)) (ci := 6) (v := .int 19) (C := RX6) (T := TX6) (N := 9) hx hb hts iw_X6_readByte_X6 hown hK hP 0 rfl rfl 3 (by decide) (hts _ m_X6_readByte_2) (fun _ h9 => h9) rfl dX6_readByte_10 ?_
  refine lv_aload_n hx hb dX6_readByte_13 rfl (lv_at hl 0 rfl) ?_
  refine va_get (D := (dC, dI)) (ci := 6) (v := .ref a1) (C := RX6) (T := TX6) (N := 9) hx hb hts iw_X6_readByte_X6 hown hK hP 0 rfl rfl 2 (by decide) (hts _ m_X6_readByte_3) (fun _ h9 => h9) rfl dX6_readByte_14 ?_
  refine va_get (D := (dC, dI)) (ci := 5) (v := .int 81) (C := RX5) (T := TX5) (N := 15) hx hb hts iw_X6_readByte_X5 hown hK hP 1 rfl rfl 1 (by decide) (hts _ m_X6_readByte_4) (fun _ h9 => h9) rfl dX6_readByte_17 ?_
  refine lv_icmp_lt (tgt := 41) hx hb dX6_readByte_20 (by decide) (fun _ => ?_) (fun h => absurd (by decide) h)
  refine lv_aload_n hx hb dX6_readByte_41 rfl (lv_at hl 0 rfl) ?_
  refine va_get (D := (dC, dI)) (ci := 6) (v := .ref a1) (C := RX6) (T := TX6) (N := 9) hx hb hts iw_X6_readByte_X6 hown hK hP 0 rfl rfl 2 (by decide) (hts _ m_X6_readByte_3) (fun _ h9 => h9) rfl dX6_readByte_42 ?_
  refine va_get (D := (dC, dI)) (ci := 5) (v := .ref cb) (C := RX5) (T := TX5) (N := 15) hx hb hts iw_X6_readByte_X5 hown hK hP 1 rfl rfl 0 (by decide) (hts _ m_X6_readByte_6) (fun _ h9 => h9) rfl dX6_readByte_45 ?_
  refine lv_aload_n hx hb dX6_readByte_48 rfl (lv_at hl 0 rfl) ?_
  refine lv_dup hx hb dX6_readByte_49 rfl ?_
  refine va_get (D := (dC, dI)) (ci := 6) (v := .int 19) (C := RX6) (T := TX6) (N := 9) hx hb hts iw_X6_readByte_X6 hown hK hP 0 rfl rfl 3 (by decide) (hts _ m_X6_readByte_2) (fun _ h9 => h9) rfl dX6_readByte_50 ?_
  refine lv_dup_x1 hx hb dX6_readByte_53 rfl rfl ?_
  refine lv_iconst (v := 1) hx hb dX6_readByte_54 (by decide) ?_
  refine lv_iadd hx hb dX6_readByte_55 ?_
  refine lv_topi (fun z_1 ez_1 => ?_)
  obtain rfl : z_1 = 20 := ez_1.trans (by decide)
  clear ez_1
  refine va_put (D := (dC, dI)) (ci := 6) (v := .int 20) (ty := .int) (C := RX6) (T := TX6) (N := 9) hx hb hts iw_X6_readByte_X6 tyX6 tyX6_ok nmX6 hown hK hP hD hS 0 rfl rfl 3 (by decide) (hts _ m_X6_readByte_2) (fun _ h9 => h9) rfl (by decide +kernel) rfl rfl (Nat.le_of_ble_eq_true rfl) dX6_readByte_56 (fun H_2 locs hP2 hD2 hS2 => ?_)
  replace hP : va_P (dC, dI) vwCl [(a0, .inr (6, [.int 0, .int 0, .ref a1, .int 20, .int 0, .int 0, .int 0, .int 0, .ref a2])), (a1, .inr (5, [.ref cb, .int 81, .int 0, .ref a3, .int 2, .ref a4, .int 0, .ref a5, .int 1, .int 1, .ref a6, .int 6, .int 0, .int 1, .int 0]))] H_2 := hP2
  replace hD : va_D A [(a0, .inr (6, [.int 0, .int 0, .ref a1, .int 20, .int 0, .int 0, .int 0, .int 0, .ref a2])), (a1, .inr (5, [.ref cb, .int 81, .int 0, .ref a3, .int 2, .ref a4, .int 0, .ref a5, .int 1, .int 1, .ref a6, .int 6, .int 0, .int 1, .int 0]))] := hD2
  replace hS := hS2
  clear hP2 hD2 hS2
  refine va_tb (v := .int 0) hx hb hSK.2 hS (by unfold vp_in; decide) rfl dX6_readByte_59 ?_
  refine lv_sipush (v := 255) hx hb dX6_readByte_60 (by decide) ?_
  refine lv_iand hx hb dX6_readByte_63 ?_
  refine lv_topi (fun z_3 ez_3 => ?_)
  obtain rfl : z_3 = 0 := ez_3.trans (by decide)
  clear ez_3
  exact W.iret hx hb hr (fun t ht hW => ⟨⟨0, (), rfl, rfl, by rw [ht]; exact hP, va_K.moved hW.alike hK, hD⟩, hS.F ht⟩) hS.2.2 dX6_readByte_64

set_option maxHeartbeats 4000000 in
set_option maxRecDepth 100000 in
theorem cc_59_X6_readOneType (l : Launch) (dC : Nat → ClassId) (dI : Nat → Nat → Nat) (cy : Nat → ClassId) (sz : Nat) (cb : Nat) (a0 : Nat) (a1 : Nat) (a2 : Nat) (a3 : Nat) (a4 : Nat) (a5 : Nat) (a6 : Nat)  : Met l yX6_readOneType wsX6_readOneType ({ frames := 1, cells := 0, slots := 0, locals := 20 }) (va_Pc [.ref a0, .int 1] (fun U => U.heap.size = sz ∧ va_P (dC, dI) vwCl [(a0, .inr (6, [.int 0, .int 0, .ref a1, .int 18, .int 0, .int 0, .int 0, .int 0, .ref a2])), (a1, .inr (5, [.ref cb, .int 81, .int 0, .ref a3, .int 2, .ref a4, .int 0, .ref a5, .int 1, .int 1, .ref a6, .int 6, .int 0, .int 1, .int 0]))] U.heap ∧ va_K (dC, dI) vwCl (TYS cy) U ∧ va_D (fun _ => True) [(a0, .inr (6, [.int 0, .int 0, .ref a1, .int 18, .int 0, .int 0, .int 0, .int 0, .ref a2])), (a1, .inr (5, [.ref cb, .int 81, .int 0, .ref a3, .int 2, .ref a4, .int 0, .ref a5, .int 1, .int 1, .ref a6, .int 6, .int 0, .int 1, .int 0]))] ∧ NK U ∧ SK cb (va_A [(a0, .inr (6, [.int 0, .int 0, .ref a1, .int 18, .int 0, .int 0, .int 0, .int 0, .ref a2])), (a1, .inr (5, [.ref cb, .int 81, .int 0, .ref a3, .int 2, .ref a4, .int 0, .ref a5, .int 1, .int 1, .ref a6, .int 6, .int 0, .int 1, .int 0]))] sz) U U.heap)) (va_Ql (fun (r : Int64) (u : Unit) => r = 1536) (fun u t => va_P (dC, dI) vwCl [(a0, .inr (6, [.int 0, .int 0, .ref a1, .int 20, .int 0, .int 0, .int 0, .int 0, .ref a2])), (a1, .inr (5, [.ref cb, .int 81, .int 0, .ref a3, .int 2, .ref a4, .int 0, .ref a5, .int 1, .int 1, .ref a6, .int 6, .int 0, .int 1, .int 0]))] t.heap ∧ va_K (dC, dI) vwCl (TYS cy) t ∧ va_D (va_A [(a0, .inr (6, [.int 0, .int 0, .ref a1, .int 18, .int 0, .int 0, .int 0, .int 0, .ref a2])), (a1, .inr (5, [.ref cb, .int 81, .int 0, .ref a3, .int 2, .ref a4, .int 0, .ref a5, .int 1, .int 1, .ref a6, .int 6, .int 0, .int 1, .int 0]))] sz) [(a0, .inr (6, [.int 0, .int 0, .ref a1, .int 20, .int 0, .int 0, .int 0, .int 0, .ref a2])), (a1, .inr (5, [.ref cb, .int 81, .int 0, .ref a3, .int 2, .ref a4, .int 0, .ref a5, .int 1, .int 1, .ref a6, .int 6, .int 0, .int 1, .int 0]))]) (va_A [(a0, .inr (6, [.int 0, .int 0, .ref a1, .int 18, .int 0, .int 0, .int 0, .int 0, .ref a2])), (a1, .inr (5, [.ref cb, .int 81, .int 0, .ref a3, .int 2, .ref a4, .int 0, .ref a5, .int 1, .int 1, .ref a6, .int 6, .int 0, .int 1, .int 0]))] sz)) 0 0 (va_A [(a0, .inr (6, [.int 0, .int 0, .ref a1, .int 18, .int 0, .int 0, .int 0, .int 0, .ref a2])), (a1, .inr (5, [.ref cb, .int 81, .int 0, .ref a3, .int 2, .ref a4, .int 0, .ref a5, .int 1, .int 1, .ref a6, .int 6, .int 0, .int 1, .int 0]))] sz) := by
  refine Met.ofW (cc := cX6_readOneType) (maxL := 7) (ret := (some .long)) (by decide) rfl ?_
  intro p e s m args below meth c s₁ B hml hv
  obtain ⟨rfl, hsz, hP, hK, hD0, hN, hSK⟩ := hv
  have hx := B.exec
  have hb := B.bytes
  have hr := B.returns
  have hts := atoms_spec (ws := wsX6_readOneType) B.pre
  have hown : s.vm.findClass RX6 = some m.cls := findClass_of_methodNamed B.named
  have hlocks := B.notSynchronized
  subst hsz
  have hD := hD0.self (sz := s.heap.size)
  generalize hAe : va_A [(a0, .inr (6, [.int 0, .int 0, .ref a1, .int 18, .int 0, .int 0, .int 0, .int 0, .ref a2])), (a1, .inr (5, [.ref cb, .int 81, .int 0, .ref a3, .int 2, .ref a4, .int 0, .ref a5, .int 1, .int 1, .ref a6, .int 6, .int 0, .int 1, .int 0]))] s.heap.size = A at hD hSK ⊢
  have hA : ∀ q : Nat, s.heap.size ≤ q → A q := fun q h => by rw [← hAe]; exact Or.inr h
  have hS : va_S A s.heap s.heap [] := va_S.rf
  have hP : va_P (dC, dI) vwCl [(a0, .inr (6, [.int 0, .int 0, .ref a1, .int 18, .int 0, .int 0, .int 0, .int 0, .ref a2])), (a1, .inr (5, [.ref cb, .int 81, .int 0, .ref a3, .int 2, .ref a4, .int 0, .ref a5, .int 1, .int 1, .ref a6, .int 6, .int 0, .int 1, .int 0]))] s.heap := hP
  have hl := lv_entry ([.ref a0, .int 1]) (n := 7) (Nat.le_of_ble_eq_true rfl)
  rw [lg_entry_eq]
  generalize (lg_sl ([.ref a0, .int 1]) ++ List.replicate (7 - (lg_sl ([.ref a0, .int 1])).length) Slot.unset).toArray = ls at hl ⊢
  replace hl : lv_has ls 7 [(0, .ref a0), (1, .int 1)] := hl
  refine lv_lconst (v := 0) hx hb dX6_readOneType_0 (by decide) ?_
  refine lv_lstore_n (lv' := [(2, .long 0), (0, .ref a0), (1, .int 1)]) hx hb dX6_readOneType_1 rfl hl (by decide) rfl (fun ls hl2 => ?_)
  replace hl := hl2
  clear hl2
  refine lv_aload_n hx hb dX6_readOneType_2 rfl (lv_at hl 1 rfl) ?_
  refine va_get (D := (dC, dI)) (ci := 6) (v := .int 18) (C := RX6) (T := TX6) (N := 9) hx hb hts iw_X6_readOneType_X6 hown hK hP 0 rfl rfl 3 (by decide) (hts _ m_X6_readOneType_1) (fun _ h9 => h9) rfl dX6_readOneType_3 ?_
  refine lv_istore (lv' := [(4, .int 18), (2, .long 0), (0, .ref a0), (1, .int 1)]) hx hb dX6_readOneType_6 hl (by decide) rfl (fun ls hl2 => ?_)
  replace hl := hl2
  clear hl2
  refine lv_aload_n hx hb dX6_readOneType_8 rfl (lv_at hl 2 rfl) ?_
  have hPc := hP.sub (ws' := [(a0, .inr (6, [.int 0, .int 0, .ref a1, .int 18, .int 0, .int 0, .int 0, .int 0, .ref a2])), (a1, .inr (5, [.ref cb, .int 81, .int 0, .ref a3, .int 2, .ref a4, .int 0, .ref a5, .int 1, .int 1, .ref a6, .int 6, .int 0, .int 1, .int 0]))]) [0, 1] rfl
  have hDc := hD.sub (ws' := [(a0, .inr (6, [.int 0, .int 0, .ref a1, .int 18, .int 0, .int 0, .int 0, .int 0, .ref a2])), (a1, .inr (5, [.ref cb, .int 81, .int 0, .ref a3, .int 2, .ref a4, .int 0, .ref a5, .int 1, .int 1, .ref a6, .int 6, .int 0, .int 1, .int 0]))]) [0, 1] (by decide) rfl
  have hFc := va_free (wc := [(a0, .inr (6, [.int 0, .int 0, .ref a1, .int 18, .int 0, .int 0, .int 0, .int 0, .ref a2])), (a1, .inr (5, [.ref cb, .int 81, .int 0, .ref a3, .int 2, .ref a4, .int 0, .ref a5, .int 1, .int 1, .ref a6, .int 6, .int 0, .int 1, .int 0]))]) hD hS hA [0, 1] rfl
  refine va_calli (va_runV (As := []) (rest := []) ⟨hx, hb, hml, hown, hts⟩ (cc_60_X6_readByte l dC dI cy s.heap.size cb a0 a1 a2 a3 a4 a5 a6) (cwV 0 hts gX6_readOneType_X6_readByte rfl rfl rfl (by decide +kernel) ⟨Nat.le_of_ble_eq_true rfl, Nat.le_of_ble_eq_true rfl⟩) ⟨fun a U g mk q => by obtain ⟨q0, q1, qP, qK, qD, qN, qS⟩ := q; exact ⟨q0, q1, qP, va_K.moved (u := U) (U := U.calling g mk a) (Vm.Alike.refl U.vm) qK, qD, qN.same rfl, SK.moved (u := U) (U := U.calling g mk a) (Vm.Alike.refl U.vm) qS⟩, va_recv hK hPc (ci := 6) (q0 := 0) rfl rfl, fun U hU hW => ⟨rfl, by rw [hU], by rw [hU]; exact hPc, va_K.moved hW.alike hK, hDc.weaken (fun _ _ _ _ => trivial), hN.warm hW, by rw [hU]; exact ((hSK.kept hS.2.1).narrow hFc).moved hW.alike⟩⟩ rfl rfl hl.1 rfl (lv_room (Nat.le_of_ble_eq_true rfl)) dX6_readOneType_9 ⟨Nat.le_of_ble_eq_true rfl, Nat.le_of_ble_eq_true rfl⟩) hS (fun q _ h => hFc q h) hFc (fun r_1 u t H_2 locs ht hvm hw hB hz1 hk1 hS2 => ?_)
  obtain ⟨hP1, hK1, hD1⟩ := hB
  rw [ht] at hP1
  obtain rfl := hw
  obtain ⟨hP2, hD2⟩ := va_join (wr := []) (w1 := [(a0, .inr (6, [.int 0, .int 0, .ref a1, .int 19, .int 0, .int 0, .int 0, .int 0, .ref a2])), (a1, .inr (5, [.ref cb, .int 81, .int 0, .ref a3, .int 2, .ref a4, .int 0, .ref a5, .int 1, .int 1, .ref a6, .int 6, .int 0, .int 1, .int 0]))]) hP hD [0, 1] [] rfl rfl (by decide) (by decide) hk1 hFc hP1 hD1
  replace hP : va_P (dC, dI) vwCl [(a0, .inr (6, [.int 0, .int 0, .ref a1, .int 19, .int 0, .int 0, .int 0, .int 0, .ref a2])), (a1, .inr (5, [.ref cb, .int 81, .int 0, .ref a3, .int 2, .ref a4, .int 0, .ref a5, .int 1, .int 1, .ref a6, .int 6, .int 0, .int 1, .int 0]))] H_2 := hP2
  replace hD : va_D A [(a0, .inr (6, [.int 0, .int 0, .ref a1, .int 19, .int 0, .int 0, .int 0, .int 0, .ref a2])), (a1, .inr (5, [.ref cb, .int 81, .int 0, .ref a3, .int 2, .ref a4, .int 0, .ref a5, .int 1, .int 1, .ref a6, .int 6, .int 0, .int 1, .int 0]))] := hD2
  replace hS := hS2
  clear hP2 hD2 hS2
  clear hPc hDc hFc hP1 hD1 hK1 hk1 hz1 hvm ht
  refine W.widen (k := 0) (n := 0) (Nat.le_of_ble_eq_true rfl) (Nat.le_of_ble_eq_true rfl) ?_
  refine lv_istore (lv' := [(5, .int 6), (4, .int 18), (2, .long 0), (0, .ref a0), (1, .int 1)]) hx hb dX6_readOneType_12 hl (by decide) rfl (fun ls hl2 => ?_)
  replace hl := hl2
  clear hl2
  refine lv_iload_n hx hb dX6_readOneType_14 rfl (lv_at hl 4 rfl) ?_
  refine lv_if_eq (tgt := 48) hx hb dX6_readOneType_15 (by decide) (fun h => absurd h (by decide)) (fun _ => ?_)
  refine lv_iload hx hb dX6_readOneType_18 (lv_at hl 0 rfl) ?_
  refine lv_bipush (v := 8) hx hb dX6_readOneType_20 (by decide) ?_
  refine lv_icmp_eq (tgt := 32) hx hb dX6_readOneType_22 (by decide) (fun h => absurd h (by decide)) (fun _ => ?_)
  refine lv_iload hx hb dX6_readOneType_25 (lv_at hl 0 rfl) ?_
  refine lv_bipush (v := 9) hx hb dX6_readOneType_27 (by decide) ?_
  refine lv_icmp_ne (tgt := 48) hx hb dX6_readOneType_29 (by decide) (fun _ => ?_) (fun h => absurd h (by decide))
  refine lv_iconst (v := 0) hx hb dX6_readOneType_48 (by decide) ?_
  refine lv_istore (lv' := [(6, .int 0), (5, .int 6), (4, .int 18), (2, .long 0), (0, .ref a0), (1, .int 1)]) hx hb dX6_readOneType_49 hl (by decide) rfl (fun ls hl2 => ?_)
  replace hl := hl2
  clear hl2
  refine lv_iload hx hb dX6_readOneType_51 (lv_at hl 0 rfl) ?_
  refine lv_iconst (v := 4) hx hb dX6_readOneType_53 (by decide) ?_
  refine lv_icmp_ge (tgt := 91) hx hb dX6_readOneType_54 (by decide) (fun h => absurd h (by decide)) (fun _ => ?_)
  refine lv_iload hx hb dX6_readOneType_57 (lv_at hl 1 rfl) ?_
  refine lv_bipush (v := 7) hx hb dX6_readOneType_59 (by decide) ?_
  refine lv_icmp_ne (tgt := 91) hx hb dX6_readOneType_61 (by decide) (fun _ => ?_) (fun h => absurd h (by decide))
  refine lv_iload hx hb dX6_readOneType_91 (lv_at hl 1 rfl) ?_
  refine lv_iconst (v := 1) hx hb dX6_readOneType_93 (by decide) ?_
  refine lv_icmp_lt (tgt := 104) hx hb dX6_readOneType_94 (by decide) (fun h => absurd h (by decide)) (fun _ => ?_)
  refine lv_iload hx hb dX6_readOneType_97 (lv_at hl 1 rfl) ?_
  refine lv_bipush (v := 6) hx hb dX6_readOneType_99 (by decide) ?_
  refine lv_icmp_le (tgt := 111) hx hb dX6_readOneType_101 (by decide) (fun _ => ?_) (fun h => absurd (by decide) h)
  refine lv_lload_n hx hb dX6_readOneType_111 rfl (lv_at hl 3 rfl) ?_
  refine lv_bipush (v := 8) hx hb dX6_readOneType_112 (by decide) ?_
  refine lv_lshl (v := 0) hx hb dX6_readOneType_114 (by decide) ?_
  refine lv_iload hx hb dX6_readOneType_115 (lv_at hl 1 rfl) ?_
  refine lv_i2l (v := 6) hx hb dX6_readOneType_117 (by decide) ?_
  refine lv_lor hx hb dX6_readOneType_118 ?_
  refine lv_topl (fun z_3 ez_3 => ?_)
  obtain rfl : z_3 = 6 := ez_3.trans (by decide)
  clear ez_3
  refine lv_lstore_n (lv' := [(2, .long 6), (6, .int 0), (5, .int 6), (4, .int 18), (0, .ref a0), (1, .int 1)]) hx hb dX6_readOneType_119 rfl hl (by decide) rfl (fun ls hl2 => ?_)
  replace hl := hl2
  clear hl2
  refine lv_iload hx hb dX6_readOneType_120 (lv_at hl 2 rfl) ?_
  refine lv_bipush (v := 6) hx hb dX6_readOneType_122 (by decide) ?_
  refine lv_icmp_eq (tgt := 129) hx hb dX6_readOneType_124 (by decide) (fun _ => ?_) (fun h => absurd (by decide) h)
  refine lv_aload_n hx hb dX6_readOneType_129 rfl (lv_at hl 4 rfl) ?_
  refine va_get (D := (dC, dI)) (ci := 6) (v := .int 19) (C := RX6) (T := TX6) (N := 9) hx hb hts iw_X6_readOneType_X6 hown hK hP 0 rfl rfl 3 (by decide) (hts _ m_X6_readOneType_1) (fun _ h9 => h9) rfl dX6_readOneType_130 ?_
  refine lv_istore (lv' := [(4, .int 19), (2, .long 6), (6, .int 0), (5, .int 6), (0, .ref a0), (1, .int 1)]) hx hb dX6_readOneType_133 hl (by decide) rfl (fun ls hl2 => ?_)
  replace hl := hl2
  clear hl2
  refine lv_aload_n hx hb dX6_readOneType_135 rfl (lv_at hl 4 rfl) ?_
  have hPc := hP.sub (ws' := [(a0, .inr (6, [.int 0, .int 0, .ref a1, .int 19, .int 0, .int 0, .int 0, .int 0, .ref a2])), (a1, .inr (5, [.ref cb, .int 81, .int 0, .ref a3, .int 2, .ref a4, .int 0, .ref a5, .int 1, .int 1, .ref a6, .int 6, .int 0, .int 1, .int 0]))]) [0, 1] rfl
  have hDc := hD.sub (ws' := [(a0, .inr (6, [.int 0, .int 0, .ref a1, .int 19, .int 0, .int 0, .int 0, .int 0, .ref a2])), (a1, .inr (5, [.ref cb, .int 81, .int 0, .ref a3, .int 2, .ref a4, .int 0, .ref a5, .int 1, .int 1, .ref a6, .int 6, .int 0, .int 1, .int 0]))]) [0, 1] (by decide) rfl
  have hFc := va_free (wc := [(a0, .inr (6, [.int 0, .int 0, .ref a1, .int 19, .int 0, .int 0, .int 0, .int 0, .ref a2])), (a1, .inr (5, [.ref cb, .int 81, .int 0, .ref a3, .int 2, .ref a4, .int 0, .ref a5, .int 1, .int 1, .ref a6, .int 6, .int 0, .int 1, .int 0]))]) hD hS hA [0, 1] rfl
  refine va_calli (va_runV (As := []) (rest := []) ⟨hx, hb, hml, hown, hts⟩ (cc_61_X6_readByte l dC dI cy H_2.size cb a0 a1 a2 a3 a4 a5 a6) (cwV 0 hts gX6_readOneType_X6_readByte rfl rfl rfl (by decide +kernel) ⟨Nat.le_of_ble_eq_true rfl, Nat.le_of_ble_eq_true rfl⟩) ⟨fun a U g mk q => by obtain ⟨q0, q1, qP, qK, qD, qN, qS⟩ := q; exact ⟨q0, q1, qP, va_K.moved (u := U) (U := U.calling g mk a) (Vm.Alike.refl U.vm) qK, qD, qN.same rfl, SK.moved (u := U) (U := U.calling g mk a) (Vm.Alike.refl U.vm) qS⟩, va_recv hK hPc (ci := 6) (q0 := 0) rfl rfl, fun U hU hW => ⟨rfl, by rw [hU], by rw [hU]; exact hPc, va_K.moved hW.alike hK, hDc.weaken (fun _ _ _ _ => trivial), hN.warm hW, by rw [hU]; exact ((hSK.kept hS.2.1).narrow hFc).moved hW.alike⟩⟩ rfl rfl hl.1 rfl (lv_room (Nat.le_of_ble_eq_true rfl)) dX6_readOneType_136 ⟨Nat.le_of_ble_eq_true rfl, Nat.le_of_ble_eq_true rfl⟩) hS (fun q _ h => hFc q h) hFc (fun r_4 u t H_5 locs ht hvm hw hB hz1 hk1 hS2 => ?_)
  obtain ⟨hP1, hK1, hD1⟩ := hB
  rw [ht] at hP1
  obtain rfl := hw
  obtain ⟨hP2, hD2⟩ := va_join (wr := []) (w1 := [(a0, .inr (6, [.int 0, .int 0, .ref a1, .int 20, .int 0, .int 0, .int 0, .int 0, .ref a2])), (a1, .inr (5, [.ref cb, .int 81, .int 0, .ref a3, .int 2, .ref a4, .int 0, .ref a5, .int 1, .int 1, .ref a6, .int 6, .int 0, .int 1, .int 0]))]) hP hD [0, 1] [] rfl rfl (by decide) (by decide) hk1 hFc hP1 hD1
  replace hP : va_P (dC, dI) vwCl [(a0, .inr (6, [.int 0, .int 0, .ref a1, .int 20, .int 0, .int 0, .int 0, .int 0, .ref a2])), (a1, .inr (5, [.ref cb, .int 81, .int 0, .ref a3, .int 2, .ref a4, .int 0, .ref a5, .int 1, .int 1, .ref a6, .int 6, .int 0, .int 1, .int 0]))] H_5 := hP2
  replace hD : va_D A [(a0, .inr (6, [.int 0, .int 0, .ref a1, .int 20, .int 0, .int 0, .int 0, .int 0, .ref a2])), (a1, .inr (5, [.ref cb, .int 81, .int 0, .ref a3, .int 2, .ref a4, .int 0, .ref a5, .int 1, .int 1, .ref a6, .int 6, .int 0, .int 1, .int 0]))] := hD2
  replace hS := hS2
  clear hP2 hD2 hS2
  clear hPc hDc hFc hP1 hD1 hK1 hk1 hz1 hvm ht
  refine W.widen (k := 0) (n := 0) (Nat.le_of_ble_eq_true rfl) (Nat.le_of_ble_eq_true rfl) ?_
  refine lv_istore (lv' := [(6, .int 0), (4, .int 19), (2, .long 6), (5, .int 6), (0, .ref a0), (1, .int 1)]) hx hb dX6_readOneType_139 hl (by decide) rfl (fun ls hl2 => ?_)
  replace hl := hl2
  clear hl2
  refine lv_aload_n hx hb dX6_readOneType_141 rfl (lv_at hl 4 rfl) ?_
  refine va_get (D := (dC, dI)) (ci := 6) (v := .int 0) (C := RX6) (T := TX6) (N := 9) hx hb hts iw_X6_readOneType_X6 hown hK hP 0 rfl rfl 4 (by decide) (hts _ m_X6_readOneType_2) (fun _ h9 => h9) rfl dX6_readOneType_142 ?_
  refine lv_if_eq (tgt := 168) hx hb dX6_readOneType_145 (by decide) (fun _ => ?_) (fun h => absurd (by decide) h)
  refine lv_lload_n hx hb dX6_readOneType_168 rfl (lv_at hl 2 rfl) ?_
  refine lv_bipush (v := 8) hx hb dX6_readOneType_169 (by decide) ?_
  refine lv_lshl (v := 1536) hx hb dX6_readOneType_171 (by decide) ?_
  refine lv_iload hx hb dX6_readOneType_172 (lv_at hl 0 rfl) ?_
  refine lv_i2l (v := 0) hx hb dX6_readOneType_174 (by decide) ?_
  refine lv_lor hx hb dX6_readOneType_175 ?_
  refine lv_topl (fun z_6 ez_6 => ?_)
  obtain rfl : z_6 = 1536 := ez_6.trans (by decide)
  clear ez_6
  exact W.lret hx hb hr (fun t ht hW => ⟨⟨1536, (), rfl, rfl, by rw [ht]; exact hP, va_K.moved hW.alike hK, hD⟩, hS.F ht⟩) hS.2.2 dX6_readOneType_176

set_option maxHeartbeats 4000000 in
set_option maxRecDepth 100000 in
theorem cc_62_X5_addType (l : Launch) (dC : Nat → ClassId) (dI : Nat → Nat → Nat) (cy : Nat → ClassId) (sz : Nat) (cb : Nat) (a0 : Nat) (a1 : Nat) (a2 : Nat) (a3 : Nat) (a4 : Nat) (f0 : Nat → Int64) (f0_0 : f0 0 = 3) : Met l yX5_addType wsX5_addType ({ frames := 0, cells := 0, slots := 0, locals := 0 }) (va_Pc [.ref a0, .long 1536] (fun U => U.heap.size = sz ∧ va_P (dC, dI) vwCl [(a0, .inr (5, [.ref cb, .int 81, .int 0, .ref a1, .int 2, .ref a2, .int 0, .ref a3, .int 1, .int 1, .ref a4, .int 6, .int 0, .int 1, .int 0])), (a1, .inl (cy 2, 2048, .inr (.inl f0)))] U.heap ∧ va_K (dC, dI) vwCl (TYS cy) U ∧ va_D (fun _ => True) [(a0, .inr (5, [.ref cb, .int 81, .int 0, .ref a1, .int 2, .ref a2, .int 0, .ref a3, .int 1, .int 1, .ref a4, .int 6, .int 0, .int 1, .int 0])), (a1, .inl (cy 2, 2048, .inr (.inl f0)))] ∧ NK U ∧ SK cb (va_A [(a0, .inr (5, [.ref cb, .int 81, .int 0, .ref a1, .int 2, .ref a2, .int 0, .ref a3, .int 1, .int 1, .ref a4, .int 6, .int 0, .int 1, .int 0])), (a1, .inl (cy 2, 2048, .inr (.inl f0)))] sz) U U.heap)) (va_Qv (fun u : (Nat → Int64) => match u with | (u0) => u0 0 = 3) (fun u t => match u with | (u0) => va_P (dC, dI) vwCl [(a0, .inr (5, [.ref cb, .int 81, .int 0, .ref a1, .int 3, .ref a2, .int 0, .ref a3, .int 1, .int 1, .ref a4, .int 6, .int 0, .int 1, .int 0])), (a1, .inl (cy 2, 2048, .inr (.inl u0)))] t.heap ∧ va_K (dC, dI) vwCl (TYS cy) t ∧ va_D (va_A [(a0, .inr (5, [.ref cb, .int 81, .int 0, .ref a1, .int 2, .ref a2, .int 0, .ref a3, .int 1, .int 1, .ref a4, .int 6, .int 0, .int 1, .int 0])), (a1, .inl (cy 2, 2048, .inr (.inl f0)))] sz) [(a0, .inr (5, [.ref cb, .int 81, .int 0, .ref a1, .int 3, .ref a2, .int 0, .ref a3, .int 1, .int 1, .ref a4, .int 6, .int 0, .int 1, .int 0])), (a1, .inl (cy 2, 2048, .inr (.inl u0)))]) (va_A [(a0, .inr (5, [.ref cb, .int 81, .int 0, .ref a1, .int 2, .ref a2, .int 0, .ref a3, .int 1, .int 1, .ref a4, .int 6, .int 0, .int 1, .int 0])), (a1, .inl (cy 2, 2048, .inr (.inl f0)))] sz)) 0 0 (va_A [(a0, .inr (5, [.ref cb, .int 81, .int 0, .ref a1, .int 2, .ref a2, .int 0, .ref a3, .int 1, .int 1, .ref a4, .int 6, .int 0, .int 1, .int 0])), (a1, .inl (cy 2, 2048, .inr (.inl f0)))] sz) := by
  refine Met.ofW (cc := cX5_addType) (maxL := 3) (ret := none) (by decide) rfl ?_
  intro p e s m args below meth c s₁ B hml hv
  obtain ⟨rfl, hsz, hP, hK, hD0, hN, hSK⟩ := hv
  have hx := B.exec
  have hb := B.bytes
  have hr := B.returns
  have hts := atoms_spec (ws := wsX5_addType) B.pre
  have hown : s.vm.findClass RX5 = some m.cls := findClass_of_methodNamed B.named
  have hlocks := B.notSynchronized
  subst hsz
  have hD := hD0.self (sz := s.heap.size)
  generalize hAe : va_A [(a0, .inr (5, [.ref cb, .int 81, .int 0, .ref a1, .int 2, .ref a2, .int 0, .ref a3, .int 1, .int 1, .ref a4, .int 6, .int 0, .int 1, .int 0])), (a1, .inl (cy 2, 2048, .inr (.inl f0)))] s.heap.size = A at hD hSK ⊢
  have hA : ∀ q : Nat, s.heap.size ≤ q → A q := fun q h => by rw [← hAe]; exact Or.inr h
  have hS : va_S A s.heap s.heap [] := va_S.rf
  have hP : va_P (dC, dI) vwCl [(a0, .inr (5, [.ref cb, .int 81, .int 0, .ref a1, .int 2, .ref a2, .int 0, .ref a3, .int 1, .int 1, .ref a4, .int 6, .int 0, .int 1, .int 0])), (a1, .inl (cy 2, 2048, .inr (.inl f0)))] s.heap := hP
  have hl := lv_entry ([.ref a0, .long 1536]) (n := 3) (Nat.le_of_ble_eq_true rfl)
  rw [lg_entry_eq]
  generalize (lg_sl ([.ref a0, .long 1536]) ++ List.replicate (3 - (lg_sl ([.ref a0, .long 1536])).length) Slot.unset).toArray = ls at hl ⊢
  replace hl : lv_has ls 3 [(0, .ref a0), (1, .long 1536)] := hl
  refine lv_aload_n hx hb dX5_addType_0 rfl (lv_at hl 0 rfl) ?_
  refine va_get (D := (dC, dI)) (ci := 5) (v := .int 2) (C := RX5) (T := TX5) (N := 15) hx hb hts iw_X5_addType_X5 hown hK hP 0 rfl rfl 4 (by decide) (hts _ m_X5_addType_1) (fun _ h9 => h9) rfl dX5_addType_1 ?_
  refine lv_aload_n hx hb dX5_addType_4 rfl (lv_at hl 0 rfl) ?_
  refine va_get (D := (dC, dI)) (ci := 5) (v := .ref a1) (C := RX5) (T := TX5) (N := 15) hx hb hts iw_X5_addType_X5 hown hK hP 0 rfl rfl 3 (by decide) (hts _ m_X5_addType_2) (fun _ h9 => h9) rfl dX5_addType_5 ?_
  refine va_alen (v := 2048) hx hb hK hP 1 2 rfl rfl rfl dX5_addType_8 ?_
  refine lv_icmp_ge (tgt := 29) hx hb dX5_addType_9 (by decide) (fun h => absurd h (by decide)) (fun _ => ?_)
  refine lv_aload_n hx hb dX5_addType_12 rfl (lv_at hl 0 rfl) ?_
  refine va_get (D := (dC, dI)) (ci := 5) (v := .ref a1) (C := RX5) (T := TX5) (N := 15) hx hb hts iw_X5_addType_X5 hown hK hP 0 rfl rfl 3 (by decide) (hts _ m_X5_addType_2) (fun _ h9 => h9) rfl dX5_addType_13 ?_
  refine lv_aload_n hx hb dX5_addType_16 rfl (lv_at hl 0 rfl) ?_
  refine lv_dup hx hb dX5_addType_17 rfl ?_
  refine va_get (D := (dC, dI)) (ci := 5) (v := .int 2) (C := RX5) (T := TX5) (N := 15) hx hb hts iw_X5_addType_X5 hown hK hP 0 rfl rfl 4 (by decide) (hts _ m_X5_addType_1) (fun _ h9 => h9) rfl dX5_addType_18 ?_
  refine lv_dup_x1 hx hb dX5_addType_21 rfl rfl ?_
  refine lv_iconst (v := 1) hx hb dX5_addType_22 (by decide) ?_
  refine lv_iadd hx hb dX5_addType_23 ?_
  refine lv_topi (fun z_1 ez_1 => ?_)
  obtain rfl : z_1 = 3 := ez_1.trans (by decide)
  clear ez_1
  refine va_put (D := (dC, dI)) (ci := 5) (v := .int 3) (ty := .int) (C := RX5) (T := TX5) (N := 15) hx hb hts iw_X5_addType_X5 tyX5 tyX5_ok nmX5 hown hK hP hD hS 0 rfl rfl 4 (by decide) (hts _ m_X5_addType_1) (fun _ h9 => h9) rfl (by decide +kernel) rfl rfl (Nat.le_of_ble_eq_true rfl) dX5_addType_24 (fun H_2 locs hP2 hD2 hS2 => ?_)
  replace hP : va_P (dC, dI) vwCl [(a0, .inr (5, [.ref cb, .int 81, .int 0, .ref a1, .int 3, .ref a2, .int 0, .ref a3, .int 1, .int 1, .ref a4, .int 6, .int 0, .int 1, .int 0])), (a1, .inl (cy 2, 2048, .inr (.inl f0)))] H_2 := hP2
  replace hD : va_D A [(a0, .inr (5, [.ref cb, .int 81, .int 0, .ref a1, .int 3, .ref a2, .int 0, .ref a3, .int 1, .int 1, .ref a4, .int 6, .int 0, .int 1, .int 0])), (a1, .inl (cy 2, 2048, .inr (.inl f0)))] := hD2
  replace hS := hS2
  clear hP2 hD2 hS2
  refine lv_lload_n hx hb dX5_addType_27 rfl (lv_at hl 1 rfl) ?_
  refine va_last hx hb hK hP hD hS 1 2 rfl rfl (by unfold vp_in; decide) dX5_addType_28 (fun H_4 locs hP2 hD2 hS2 => ?_)
  replace hP : va_P (dC, dI) vwCl [(a0, .inr (5, [.ref cb, .int 81, .int 0, .ref a1, .int 3, .ref a2, .int 0, .ref a3, .int 1, .int 1, .ref a4, .int 6, .int 0, .int 1, .int 0])), (a1, .inl (cy 2, 2048, .inr (.inl (vp_updL f0 2 1536))))] H_4 := hP2
  replace hD : va_D A [(a0, .inr (5, [.ref cb, .int 81, .int 0, .ref a1, .int 3, .ref a2, .int 0, .ref a3, .int 1, .int 1, .ref a4, .int 6, .int 0, .int 1, .int 0])), (a1, .inl (cy 2, 2048, .inr (.inl (vp_updL f0 2 1536))))] := hD2
  replace hS := hS2
  clear hP2 hD2 hS2
  obtain ⟨g_3, eg_3⟩ : ∃ z, vp_updL f0 2 1536 = z := ⟨_, rfl⟩
  rw [eg_3] at hP hD
  have kg_3_0 : g_3 0 = 3 := by rw [← eg_3, pk_uLn (by decide)]; exact f0_0
  exact W.vret hx hb hr (fun t ht hW => ⟨⟨(g_3), rfl, kg_3_0, by rw [ht]; exact hP, va_K.moved hW.alike hK, hD⟩, hS.F ht⟩) hS.2.2 dX5_addType_29

set_option maxHeartbeats 4000000 in
set_option maxRecDepth 100000 in
theorem cc_58_X6_readTypes (l : Launch) (dC : Nat → ClassId) (dI : Nat → Nat → Nat) (cy : Nat → ClassId) (sz : Nat) (cb : Nat) (a0 : Nat) (a1 : Nat) (a2 : Nat) (a3 : Nat) (a4 : Nat) (a5 : Nat) (a6 : Nat) (f0 : Nat → Int64) (f0_0 : f0 0 = 3) : Met l yX6_readTypes wsX6_readTypes ({ frames := 2, cells := 0, slots := 0, locals := 46 }) (va_Pc [.ref a0, .int 1, .int 1] (fun U => U.heap.size = sz ∧ va_P (dC, dI) vwCl [(a0, .inr (6, [.int 0, .int 0, .ref a1, .int 18, .int 0, .int 0, .int 0, .int 0, .ref a3])), (a1, .inr (5, [.ref cb, .int 81, .int 0, .ref a2, .int 2, .ref a4, .int 0, .ref a5, .int 1, .int 1, .ref a6, .int 6, .int 0, .int 1, .int 0])), (a2, .inl (cy 2, 2048, .inr (.inl f0)))] U.heap ∧ va_K (dC, dI) vwCl (TYS cy) U ∧ va_D (fun _ => True) [(a0, .inr (6, [.int 0, .int 0, .ref a1, .int 18, .int 0, .int 0, .int 0, .int 0, .ref a3])), (a1, .inr (5, [.ref cb, .int 81, .int 0, .ref a2, .int 2, .ref a4, .int 0, .ref a5, .int 1, .int 1, .ref a6, .int 6, .int 0, .int 1, .int 0])), (a2, .inl (cy 2, 2048, .inr (.inl f0)))] ∧ NK U ∧ SK cb (va_A [(a0, .inr (6, [.int 0, .int 0, .ref a1, .int 18, .int 0, .int 0, .int 0, .int 0, .ref a3])), (a1, .inr (5, [.ref cb, .int 81, .int 0, .ref a2, .int 2, .ref a4, .int 0, .ref a5, .int 1, .int 1, .ref a6, .int 6, .int 0, .int 1, .int 0])), (a2, .inl (cy 2, 2048, .inr (.inl f0)))] sz) U U.heap)) (va_Qv (fun u : (Nat → Int64) => match u with | (u0) => u0 0 = 3) (fun u t => match u with | (u0) => va_P (dC, dI) vwCl [(a0, .inr (6, [.int 0, .int 0, .ref a1, .int 20, .int 0, .int 0, .int 0, .int 0, .ref a3])), (a1, .inr (5, [.ref cb, .int 81, .int 0, .ref a2, .int 3, .ref a4, .int 0, .ref a5, .int 1, .int 1, .ref a6, .int 6, .int 0, .int 1, .int 0])), (a2, .inl (cy 2, 2048, .inr (.inl u0)))] t.heap ∧ va_K (dC, dI) vwCl (TYS cy) t ∧ va_D (va_A [(a0, .inr (6, [.int 0, .int 0, .ref a1, .int 18, .int 0, .int 0, .int 0, .int 0, .ref a3])), (a1, .inr (5, [.ref cb, .int 81, .int 0, .ref a2, .int 2, .ref a4, .int 0, .ref a5, .int 1, .int 1, .ref a6, .int 6, .int 0, .int 1, .int 0])), (a2, .inl (cy 2, 2048, .inr (.inl f0)))] sz) [(a0, .inr (6, [.int 0, .int 0, .ref a1, .int 20, .int 0, .int 0, .int 0, .int 0, .ref a3])), (a1, .inr (5, [.ref cb, .int 81, .int 0, .ref a2, .int 3, .ref a4, .int 0, .ref a5, .int 1, .int 1, .ref a6, .int 6, .int 0, .int 1, .int 0])), (a2, .inl (cy 2, 2048, .inr (.inl u0)))]) (va_A [(a0, .inr (6, [.int 0, .int 0, .ref a1, .int 18, .int 0, .int 0, .int 0, .int 0, .ref a3])), (a1, .inr (5, [.ref cb, .int 81, .int 0, .ref a2, .int 2, .ref a4, .int 0, .ref a5, .int 1, .int 1, .ref a6, .int 6, .int 0, .int 1, .int 0])), (a2, .inl (cy 2, 2048, .inr (.inl f0)))] sz)) 0 0 (va_A [(a0, .inr (6, [.int 0, .int 0, .ref a1, .int 18, .int 0, .int 0, .int 0, .int 0, .ref a3])), (a1, .inr (5, [.ref cb, .int 81, .int 0, .ref a2, .int 2, .ref a4, .int 0, .ref a5, .int 1, .int 1, .ref a6, .int 6, .int 0, .int 1, .int 0])), (a2, .inl (cy 2, 2048, .inr (.inl f0)))] sz) := by
  refine Met.ofW (cc := cX6_readTypes) (maxL := 4) (ret := none) (by decide) rfl ?_
  intro p e s m args below meth c s₁ B hml hv
  obtain ⟨rfl, hsz, hP, hK, hD0, hN, hSK⟩ := hv
  have hx := B.exec
  have hb := B.bytes
  have hr := B.returns
  have hts := atoms_spec (ws := wsX6_readTypes) B.pre
  have hown : s.vm.findClass RX6 = some m.cls := findClass_of_methodNamed B.named
  have hlocks := B.notSynchronized
  subst hsz
  have hD := hD0.self (sz := s.heap.size)
  generalize hAe : va_A [(a0, .inr (6, [.int 0, .int 0, .ref a1, .int 18, .int 0, .int 0, .int 0, .int 0, .ref a3])), (a1, .inr (5, [.ref cb, .int 81, .int 0, .ref a2, .int 2, .ref a4, .int 0, .ref a5, .int 1, .int 1, .ref a6, .int 6, .int 0, .int 1, .int 0])), (a2, .inl (cy 2, 2048, .inr (.inl f0)))] s.heap.size = A at hD hSK ⊢
  have hA : ∀ q : Nat, s.heap.size ≤ q → A q := fun q h => by rw [← hAe]; exact Or.inr h
  have hS : va_S A s.heap s.heap [] := va_S.rf
  have hP : va_P (dC, dI) vwCl [(a0, .inr (6, [.int 0, .int 0, .ref a1, .int 18, .int 0, .int 0, .int 0, .int 0, .ref a3])), (a1, .inr (5, [.ref cb, .int 81, .int 0, .ref a2, .int 2, .ref a4, .int 0, .ref a5, .int 1, .int 1, .ref a6, .int 6, .int 0, .int 1, .int 0])), (a2, .inl (cy 2, 2048, .inr (.inl f0)))] s.heap := hP
  have hl := lv_entry ([.ref a0, .int 1, .int 1]) (n := 4) (Nat.le_of_ble_eq_true rfl)
  rw [lg_entry_eq]
  generalize (lg_sl ([.ref a0, .int 1, .int 1]) ++ List.replicate (4 - (lg_sl ([.ref a0, .int 1, .int 1])).length) Slot.unset).toArray = ls at hl ⊢
  replace hl : lv_has ls 4 [(0, .ref a0), (1, .int 1), (2, .int 1)] := hl
  refine lv_iconst (v := 0) hx hb dX6_readTypes_0 (by decide) ?_
  refine lv_istore_n (lv' := [(3, .int 0), (0, .ref a0), (1, .int 1), (2, .int 1)]) hx hb dX6_readTypes_1 rfl hl (by decide) rfl (fun ls hl2 => ?_)
  replace hl := hl2
  clear hl2
  refine lv_iload_n hx hb dX6_readTypes_2 rfl (lv_at hl 0 rfl) ?_
  refine lv_iload_n hx hb dX6_readTypes_3 rfl (lv_at hl 2 rfl) ?_
  refine lv_icmp_ge (tgt := 32) hx hb dX6_readTypes_4 (by decide) (fun h => absurd h (by decide)) (fun _ => ?_)
  refine lv_aload_n hx hb dX6_readTypes_7 rfl (lv_at hl 1 rfl) ?_
  refine va_get (D := (dC, dI)) (ci := 6) (v := .int 0) (C := RX6) (T := TX6) (N := 9) hx hb hts iw_X6_readTypes_X6 hown hK hP 0 rfl rfl 1 (by decide) (hts _ m_X6_readTypes_1) (fun _ h9 => h9) rfl dX6_readTypes_8 ?_
  refine lv_if_ne (tgt := 32) hx hb dX6_readTypes_11 (by decide) (fun h => absurd (by decide) h) (fun _ => ?_)
  refine lv_aload_n hx hb dX6_readTypes_14 rfl (lv_at hl 1 rfl) ?_
  refine va_get (D := (dC, dI)) (ci := 6) (v := .ref a1) (C := RX6) (T := TX6) (N := 9) hx hb hts iw_X6_readTypes_X6 hown hK hP 0 rfl rfl 2 (by decide) (hts _ m_X6_readTypes_2) (fun _ h9 => h9) rfl dX6_readTypes_15 ?_
  refine lv_aload_n hx hb dX6_readTypes_18 rfl (lv_at hl 1 rfl) ?_
  refine lv_iload_n hx hb dX6_readTypes_19 rfl (lv_at hl 3 rfl) ?_
  have hPc := hP.sub (ws' := [(a0, .inr (6, [.int 0, .int 0, .ref a1, .int 18, .int 0, .int 0, .int 0, .int 0, .ref a3])), (a1, .inr (5, [.ref cb, .int 81, .int 0, .ref a2, .int 2, .ref a4, .int 0, .ref a5, .int 1, .int 1, .ref a6, .int 6, .int 0, .int 1, .int 0]))]) [0, 1] rfl
  have hDc := hD.sub (ws' := [(a0, .inr (6, [.int 0, .int 0, .ref a1, .int 18, .int 0, .int 0, .int 0, .int 0, .ref a3])), (a1, .inr (5, [.ref cb, .int 81, .int 0, .ref a2, .int 2, .ref a4, .int 0, .ref a5, .int 1, .int 1, .ref a6, .int 6, .int 0, .int 1, .int 0]))]) [0, 1] (by decide) rfl
  have hFc := va_free (wc := [(a0, .inr (6, [.int 0, .int 0, .ref a1, .int 18, .int 0, .int 0, .int 0, .int 0, .ref a3])), (a1, .inr (5, [.ref cb, .int 81, .int 0, .ref a2, .int 2, .ref a4, .int 0, .ref a5, .int 1, .int 1, .ref a6, .int 6, .int 0, .int 1, .int 0]))]) hD hS hA [0, 1] rfl
  refine va_calll (va_runV (As := [.int 1]) (rest := [.ref a1]) ⟨hx, hb, hml, hown, hts⟩ (cc_59_X6_readOneType l dC dI cy s.heap.size cb a0 a1 a3 a2 a4 a5 a6) (cwV 1 hts gX6_readTypes_X6_readOneType rfl rfl rfl (by decide +kernel) ⟨Nat.le_of_ble_eq_true rfl, Nat.le_of_ble_eq_true rfl⟩) ⟨fun a U g mk q => by obtain ⟨q0, q1, qP, qK, qD, qN, qS⟩ := q; exact ⟨q0, q1, qP, va_K.moved (u := U) (U := U.calling g mk a) (Vm.Alike.refl U.vm) qK, qD, qN.same rfl, SK.moved (u := U) (U := U.calling g mk a) (Vm.Alike.refl U.vm) qS⟩, va_recv hK hPc (ci := 6) (q0 := 0) rfl rfl, fun U hU hW => ⟨rfl, by rw [hU], by rw [hU]; exact hPc, va_K.moved hW.alike hK, hDc.weaken (fun _ _ _ _ => trivial), hN.warm hW, by rw [hU]; exact ((hSK.kept hS.2.1).narrow hFc).moved hW.alike⟩⟩ rfl rfl hl.1 rfl (lv_room (Nat.le_of_ble_eq_true rfl)) dX6_readTypes_20 ⟨Nat.le_of_ble_eq_true rfl, Nat.le_of_ble_eq_true rfl⟩) hS (fun q _ h => hFc q h) hFc (fun r_1 u t H_2 locs ht hvm hw hB hz1 hk1 hS2 => ?_)
  obtain ⟨hP1, hK1, hD1⟩ := hB
  rw [ht] at hP1
  obtain rfl := hw
  obtain ⟨hP2, hD2⟩ := va_join (wr := [(a2, .inl (cy 2, 2048, .inr (.inl f0)))]) (w1 := [(a0, .inr (6, [.int 0, .int 0, .ref a1, .int 20, .int 0, .int 0, .int 0, .int 0, .ref a3])), (a1, .inr (5, [.ref cb, .int 81, .int 0, .ref a2, .int 2, .ref a4, .int 0, .ref a5, .int 1, .int 1, .ref a6, .int 6, .int 0, .int 1, .int 0]))]) hP hD [0, 1] [2] rfl rfl (by decide) (by decide) hk1 hFc hP1 hD1
  replace hP : va_P (dC, dI) vwCl [(a2, .inl (cy 2, 2048, .inr (.inl f0))), (a0, .inr (6, [.int 0, .int 0, .ref a1, .int 20, .int 0, .int 0, .int 0, .int 0, .ref a3])), (a1, .inr (5, [.ref cb, .int 81, .int 0, .ref a2, .int 2, .ref a4, .int 0, .ref a5, .int 1, .int 1, .ref a6, .int 6, .int 0, .int 1, .int 0]))] H_2 := hP2
  replace hD : va_D A [(a2, .inl (cy 2, 2048, .inr (.inl f0))), (a0, .inr (6, [.int 0, .int 0, .ref a1, .int 20, .int 0, .int 0, .int 0, .int 0, .ref a3])), (a1, .inr (5, [.ref cb, .int 81, .int 0, .ref a2, .int 2, .ref a4, .int 0, .ref a5, .int 1, .int 1, .ref a6, .int 6, .int 0, .int 1, .int 0]))] := hD2
  replace hS := hS2
  clear hP2 hD2 hS2
  clear hPc hDc hFc hP1 hD1 hK1 hk1 hz1 hvm ht
  refine W.widen (k := 0) (n := 0) (Nat.le_of_ble_eq_true rfl) (Nat.le_of_ble_eq_true rfl) ?_
  have hPc := hP.sub (ws' := [(a1, .inr (5, [.ref cb, .int 81, .int 0, .ref a2, .int 2, .ref a4, .int 0, .ref a5, .int 1, .int 1, .ref a6, .int 6, .int 0, .int 1, .int 0])), (a2, .inl (cy 2, 2048, .inr (.inl f0)))]) [2, 0] rfl
  have hDc := hD.sub (ws' := [(a1, .inr (5, [.ref cb, .int 81, .int 0, .ref a2, .int 2, .ref a4, .int 0, .ref a5, .int 1, .int 1, .ref a6, .int 6, .int 0, .int 1, .int 0])), (a2, .inl (cy 2, 2048, .inr (.inl f0)))]) [2, 0] (by decide) rfl
  have hFc := va_free (wc := [(a1, .inr (5, [.ref cb, .int 81, .int 0, .ref a2, .int 2, .ref a4, .int 0, .ref a5, .int 1, .int 1, .ref a6, .int 6, .int 0, .int 1, .int 0])), (a2, .inl (cy 2, 2048, .inr (.inl f0)))]) hD hS hA [2, 0] rfl
  refine va_callv (va_runV (As := [.long 1536]) (rest := []) ⟨hx, hb, hml, hown, hts⟩ (cc_62_X5_addType l dC dI cy H_2.size cb a1 a2 a4 a5 a6 f0 f0_0) (cwV 1 hts gX6_readTypes_X5_addType rfl rfl rfl (by decide +kernel) ⟨Nat.le_of_ble_eq_true rfl, Nat.le_of_ble_eq_true rfl⟩) ⟨fun a U g mk q => by obtain ⟨q0, q1, qP, qK, qD, qN, qS⟩ := q; exact ⟨q0, q1, qP, va_K.moved (u := U) (U := U.calling g mk a) (Vm.Alike.refl U.vm) qK, qD, qN.same rfl, SK.moved (u := U) (U := U.calling g mk a) (Vm.Alike.refl U.vm) qS⟩, va_recv hK hPc (ci := 5) (q0 := 0) rfl rfl, fun U hU hW => ⟨rfl, by rw [hU], by rw [hU]; exact hPc, va_K.moved hW.alike hK, hDc.weaken (fun _ _ _ _ => trivial), hN.warm hW, by rw [hU]; exact ((hSK.kept hS.2.1).narrow hFc).moved hW.alike⟩⟩ rfl rfl hl.1 rfl (lv_room (Nat.le_of_ble_eq_true rfl)) dX6_readTypes_23 ⟨Nat.le_of_ble_eq_true rfl, Nat.le_of_ble_eq_true rfl⟩) hS (fun q _ h => hFc q h) hFc (fun u t H_3 locs ht hvm hw hB hz1 hk1 hS2 => ?_)
  obtain ⟨g_4, rfl⟩ : ∃ z, z = u := ⟨_, rfl⟩
  obtain ⟨hP1, hK1, hD1⟩ := hB
  rw [ht] at hP1
  have kp_5 := hw
  obtain ⟨hP2, hD2⟩ := va_join (wr := [(a0, .inr (6, [.int 0, .int 0, .ref a1, .int 20, .int 0, .int 0, .int 0, .int 0, .ref a3]))]) (w1 := [(a1, .inr (5, [.ref cb, .int 81, .int 0, .ref a2, .int 3, .ref a4, .int 0, .ref a5, .int 1, .int 1, .ref a6, .int 6, .int 0, .int 1, .int 0])), (a2, .inl (cy 2, 2048, .inr (.inl g_4)))]) hP hD [2, 0] [1] rfl rfl (by decide) (by decide) hk1 hFc hP1 hD1
  replace hP : va_P (dC, dI) vwCl [(a0, .inr (6, [.int 0, .int 0, .ref a1, .int 20, .int 0, .int 0, .int 0, .int 0, .ref a3])), (a1, .inr (5, [.ref cb, .int 81, .int 0, .ref a2, .int 3, .ref a4, .int 0, .ref a5, .int 1, .int 1, .ref a6, .int 6, .int 0, .int 1, .int 0])), (a2, .inl (cy 2, 2048, .inr (.inl g_4)))] H_3 := hP2
  replace hD : va_D A [(a0, .inr (6, [.int 0, .int 0, .ref a1, .int 20, .int 0, .int 0, .int 0, .int 0, .ref a3])), (a1, .inr (5, [.ref cb, .int 81, .int 0, .ref a2, .int 3, .ref a4, .int 0, .ref a5, .int 1, .int 1, .ref a6, .int 6, .int 0, .int 1, .int 0])), (a2, .inl (cy 2, 2048, .inr (.inl g_4)))] := hD2
  replace hS := hS2
  clear hP2 hD2 hS2
  clear hPc hDc hFc hP1 hD1 hK1 hk1 hz1 hvm ht
  refine W.widen (k := 0) (n := 0) (Nat.le_of_ble_eq_true rfl) (Nat.le_of_ble_eq_true rfl) ?_
  refine lv_iinc (v := 1) (lv' := [(3, .int 1), (0, .ref a0), (1, .int 1), (2, .int 1)]) hx hb dX6_readTypes_26 hl (k := 0) rfl (by decide) (by decide) rfl (fun ls hl2 => ?_)
  replace hl := hl2
  clear hl2
  refine lv_goto (tgt := 2) hx hb dX6_readTypes_29 (by decide) ?_
  refine lv_iload_n hx hb dX6_readTypes_2 rfl (lv_at hl 0 rfl) ?_
  refine lv_iload_n hx hb dX6_readTypes_3 rfl (lv_at hl 2 rfl) ?_
  refine lv_icmp_ge (tgt := 32) hx hb dX6_readTypes_4 (by decide) (fun _ => ?_) (fun h => absurd (by decide) h)
  exact W.vret hx hb hr (fun t ht hW => ⟨⟨(g_4), rfl, kp_5, by rw [ht]; exact hP, va_K.moved hW.alike hK, hD⟩, hS.F ht⟩) hS.2.2 dX6_readTypes_32

set_option maxHeartbeats 4000000 in
set_option maxRecDepth 100000 in
theorem cc_55_X6_readList (l : Launch) (dC : Nat → ClassId) (dI : Nat → Nat → Nat) (cy : Nat → ClassId) (sz : Nat) (cb : Nat) (a0 : Nat) (a1 : Nat) (a2 : Nat) (a3 : Nat) (a4 : Nat) (a5 : Nat) (a6 : Nat) (f0 : Nat → Int64) (f0_0 : f0 0 = 3) : Met l yX6_readList wsX6_readList ({ frames := 3, cells := 0, slots := 0, locals := 69 }) (va_Pc [.ref a0, .int 8] (fun U => U.heap.size = sz ∧ va_P (dC, dI) vwCl [(a0, .inr (6, [.int 0, .int 0, .ref a1, .int 17, .int 0, .int 0, .int 0, .int 0, .ref a3])), (a1, .inr (5, [.ref cb, .int 81, .int 0, .ref a2, .int 2, .ref a4, .int 0, .ref a5, .int 1, .int 1, .ref a6, .int 6, .int 0, .int 1, .int 0])), (a2, .inl (cy 2, 2048, .inr (.inl f0)))] U.heap ∧ va_K (dC, dI) vwCl (TYS cy) U ∧ va_D (fun _ => True) [(a0, .inr (6, [.int 0, .int 0, .ref a1, .int 17, .int 0, .int 0, .int 0, .int 0, .ref a3])), (a1, .inr (5, [.ref cb, .int 81, .int 0, .ref a2, .int 2, .ref a4, .int 0, .ref a5, .int 1, .int 1, .ref a6, .int 6, .int 0, .int 1, .int 0])), (a2, .inl (cy 2, 2048, .inr (.inl f0)))] ∧ NK U ∧ SK cb (va_A [(a0, .inr (6, [.int 0, .int 0, .ref a1, .int 17, .int 0, .int 0, .int 0, .int 0, .ref a3])), (a1, .inr (5, [.ref cb, .int 81, .int 0, .ref a2, .int 2, .ref a4, .int 0, .ref a5, .int 1, .int 1, .ref a6, .int 6, .int 0, .int 1, .int 0])), (a2, .inl (cy 2, 2048, .inr (.inl f0)))] sz) U U.heap)) (va_Qi (fun (r : Int32) (u : (Nat → Int64)) => match u with | (u0) => r = 1 ∧ u0 0 = 3) (fun u t => match u with | (u0) => va_P (dC, dI) vwCl [(a0, .inr (6, [.int 0, .int 0, .ref a1, .int 20, .int 0, .int 0, .int 0, .int 0, .ref a3])), (a1, .inr (5, [.ref cb, .int 81, .int 0, .ref a2, .int 3, .ref a4, .int 0, .ref a5, .int 1, .int 1, .ref a6, .int 6, .int 0, .int 1, .int 0])), (a2, .inl (cy 2, 2048, .inr (.inl u0)))] t.heap ∧ va_K (dC, dI) vwCl (TYS cy) t ∧ va_D (va_A [(a0, .inr (6, [.int 0, .int 0, .ref a1, .int 17, .int 0, .int 0, .int 0, .int 0, .ref a3])), (a1, .inr (5, [.ref cb, .int 81, .int 0, .ref a2, .int 2, .ref a4, .int 0, .ref a5, .int 1, .int 1, .ref a6, .int 6, .int 0, .int 1, .int 0])), (a2, .inl (cy 2, 2048, .inr (.inl f0)))] sz) [(a0, .inr (6, [.int 0, .int 0, .ref a1, .int 20, .int 0, .int 0, .int 0, .int 0, .ref a3])), (a1, .inr (5, [.ref cb, .int 81, .int 0, .ref a2, .int 3, .ref a4, .int 0, .ref a5, .int 1, .int 1, .ref a6, .int 6, .int 0, .int 1, .int 0])), (a2, .inl (cy 2, 2048, .inr (.inl u0)))]) (va_A [(a0, .inr (6, [.int 0, .int 0, .ref a1, .int 17, .int 0, .int 0, .int 0, .int 0, .ref a3])), (a1, .inr (5, [.ref cb, .int 81, .int 0, .ref a2, .int 2, .ref a4, .int 0, .ref a5, .int 1, .int 1, .ref a6, .int 6, .int 0, .int 1, .int 0])), (a2, .inl (cy 2, 2048, .inr (.inl f0)))] sz)) 0 0 (va_A [(a0, .inr (6, [.int 0, .int 0, .ref a1, .int 17, .int 0, .int 0, .int 0, .int 0, .ref a3])), (a1, .inr (5, [.ref cb, .int 81, .int 0, .ref a2, .int 2, .ref a4, .int 0, .ref a5, .int 1, .int 1, .ref a6, .int 6, .int 0, .int 1, .int 0])), (a2, .inl (cy 2, 2048, .inr (.inl f0)))] sz) := by
  refine Met.ofW (cc := cX6_readList) (maxL := 3) (ret := (some .int)) (by decide) rfl ?_
  intro p e s m args below meth c s₁ B hml hv
  obtain ⟨rfl, hsz, hP, hK, hD0, hN, hSK⟩ := hv
  have hx := B.exec
  have hb := B.bytes
  have hr := B.returns
  have hts := atoms_spec (ws := wsX6_readList) B.pre
  have hown : s.vm.findClass RX6 = some m.cls := findClass_of_methodNamed B.named
  have hlocks := B.notSynchronized
  subst hsz
  have hD := hD0.self (sz := s.heap.size)
  generalize hAe : va_A [(a0, .inr (6, [.int 0, .int 0, .ref a1, .int 17, .int 0, .int 0, .int 0, .int 0, .ref a3])), (a1, .inr (5, [.ref cb, .int 81, .int 0, .ref a2, .int 2, .ref a4, .int 0, .ref a5, .int 1, .int 1, .ref a6, .int 6, .int 0, .int 1, .int 0])), (a2, .inl (cy 2, 2048, .inr (.inl f0)))] s.heap.size = A at hD hSK ⊢
  have hA : ∀ q : Nat, s.heap.size ≤ q → A q := fun q h => by rw [← hAe]; exact Or.inr h
  have hS : va_S A s.heap s.heap [] := va_S.rf
  have hP : va_P (dC, dI) vwCl [(a0, .inr (6, [.int 0, .int 0, .ref a1, .int 17, .int 0, .int 0, .int 0, .int 0, .ref a3])), (a1, .inr (5, [.ref cb, .int 81, .int 0, .ref a2, .int 2, .ref a4, .int 0, .ref a5, .int 1, .int 1, .ref a6, .int 6, .int 0, .int 1, .int 0])), (a2, .inl (cy 2, 2048, .inr (.inl f0)))] s.heap := hP
  have hl := lv_entry ([.ref a0, .int 8]) (n := 3) (Nat.le_of_ble_eq_true rfl)
  rw [lg_entry_eq]
  generalize (lg_sl ([.ref a0, .int 8]) ++ List.replicate (3 - (lg_sl ([.ref a0, .int 8])).length) Slot.unset).toArray = ls at hl ⊢
  replace hl : lv_has ls 3 [(0, .ref a0), (1, .int 8)] := hl
  refine lv_aload_n hx hb dX6_readList_0 rfl (lv_at hl 0 rfl) ?_
  refine lv_iconst (v := 0) hx hb dX6_readList_1 (by decide) ?_
  refine lv_iload_n hx hb dX6_readList_2 rfl (lv_at hl 1 rfl) ?_
  have hPc := hP.sub (ws' := [(a0, .inr (6, [.int 0, .int 0, .ref a1, .int 17, .int 0, .int 0, .int 0, .int 0, .ref a3])), (a1, .inr (5, [.ref cb, .int 81, .int 0, .ref a2, .int 2, .ref a4, .int 0, .ref a5, .int 1, .int 1, .ref a6, .int 6, .int 0, .int 1, .int 0]))]) [0, 1] rfl
  have hDc := hD.sub (ws' := [(a0, .inr (6, [.int 0, .int 0, .ref a1, .int 17, .int 0, .int 0, .int 0, .int 0, .ref a3])), (a1, .inr (5, [.ref cb, .int 81, .int 0, .ref a2, .int 2, .ref a4, .int 0, .ref a5, .int 1, .int 1, .ref a6, .int 6, .int 0, .int 1, .int 0]))]) [0, 1] (by decide) rfl
  have hFc := va_free (wc := [(a0, .inr (6, [.int 0, .int 0, .ref a1, .int 17, .int 0, .int 0, .int 0, .int 0, .ref a3])), (a1, .inr (5, [.ref cb, .int 81, .int 0, .ref a2, .int 2, .ref a4, .int 0, .ref a5, .int 1, .int 1, .ref a6, .int 6, .int 0, .int 1, .int 0]))]) hD hS hA [0, 1] rfl
  refine va_calli (va_runV (As := [.int 0, .int 8]) (rest := []) ⟨hx, hb, hml, hown, hts⟩ (cc_56_X6_readNumber l dC dI cy s.heap.size cb a0 a1 a3 a2 a4 a5 a6) (cwV 2 hts gX6_readList_X6_readNumber rfl rfl rfl (by decide +kernel) ⟨Nat.le_of_ble_eq_true rfl, Nat.le_of_ble_eq_true rfl⟩) ⟨fun a U g mk q => by obtain ⟨q0, q1, qP, qK, qD, qN, qS⟩ := q; exact ⟨q0, q1, qP, va_K.moved (u := U) (U := U.calling g mk a) (Vm.Alike.refl U.vm) qK, qD, qN.same rfl, SK.moved (u := U) (U := U.calling g mk a) (Vm.Alike.refl U.vm) qS⟩, va_recv hK hPc (ci := 6) (q0 := 0) rfl rfl, fun U hU hW => ⟨rfl, by rw [hU], by rw [hU]; exact hPc, va_K.moved hW.alike hK, hDc.weaken (fun _ _ _ _ => trivial), hN.warm hW, by rw [hU]; exact ((hSK.kept hS.2.1).narrow hFc).moved hW.alike⟩⟩ rfl rfl hl.1 rfl (lv_room (Nat.le_of_ble_eq_true rfl)) dX6_readList_3 ⟨Nat.le_of_ble_eq_true rfl, Nat.le_of_ble_eq_true rfl⟩) hS (fun q _ h => hFc q h) hFc (fun r_1 u t H_2 locs ht hvm hw hB hz1 hk1 hS2 => ?_)
  obtain ⟨hP1, hK1, hD1⟩ := hB
  rw [ht] at hP1
  obtain rfl := hw
  obtain ⟨hP2, hD2⟩ := va_join (wr := [(a2, .inl (cy 2, 2048, .inr (.inl f0)))]) (w1 := [(a0, .inr (6, [.int 0, .int 0, .ref a1, .int 18, .int 0, .int 0, .int 0, .int 0, .ref a3])), (a1, .inr (5, [.ref cb, .int 81, .int 0, .ref a2, .int 2, .ref a4, .int 0, .ref a5, .int 1, .int 1, .ref a6, .int 6, .int 0, .int 1, .int 0]))]) hP hD [0, 1] [2] rfl rfl (by decide) (by decide) hk1 hFc hP1 hD1
  replace hP : va_P (dC, dI) vwCl [(a2, .inl (cy 2, 2048, .inr (.inl f0))), (a0, .inr (6, [.int 0, .int 0, .ref a1, .int 18, .int 0, .int 0, .int 0, .int 0, .ref a3])), (a1, .inr (5, [.ref cb, .int 81, .int 0, .ref a2, .int 2, .ref a4, .int 0, .ref a5, .int 1, .int 1, .ref a6, .int 6, .int 0, .int 1, .int 0]))] H_2 := hP2
  replace hD : va_D A [(a2, .inl (cy 2, 2048, .inr (.inl f0))), (a0, .inr (6, [.int 0, .int 0, .ref a1, .int 18, .int 0, .int 0, .int 0, .int 0, .ref a3])), (a1, .inr (5, [.ref cb, .int 81, .int 0, .ref a2, .int 2, .ref a4, .int 0, .ref a5, .int 1, .int 1, .ref a6, .int 6, .int 0, .int 1, .int 0]))] := hD2
  replace hS := hS2
  clear hP2 hD2 hS2
  clear hPc hDc hFc hP1 hD1 hK1 hk1 hz1 hvm ht
  refine W.widen (k := 0) (n := 0) (Nat.le_of_ble_eq_true rfl) (Nat.le_of_ble_eq_true rfl) ?_
  refine lv_istore_n (lv' := [(2, .int 1), (0, .ref a0), (1, .int 8)]) hx hb dX6_readList_6 rfl hl (by decide) rfl (fun ls hl2 => ?_)
  replace hl := hl2
  clear hl2
  refine lv_aload_n hx hb dX6_readList_7 rfl (lv_at hl 1 rfl) ?_
  refine lv_iload_n hx hb dX6_readList_8 rfl (lv_at hl 0 rfl) ?_
  refine lv_iconst (v := 1) hx hb dX6_readList_9 (by decide) ?_
  have hPc := hP.sub (ws' := [(a0, .inr (6, [.int 0, .int 0, .ref a1, .int 18, .int 0, .int 0, .int 0, .int 0, .ref a3])), (a1, .inr (5, [.ref cb, .int 81, .int 0, .ref a2, .int 2, .ref a4, .int 0, .ref a5, .int 1, .int 1, .ref a6, .int 6, .int 0, .int 1, .int 0])), (a2, .inl (cy 2, 2048, .inr (.inl f0)))]) [1, 2, 0] rfl
  have hDc := hD.sub (ws' := [(a0, .inr (6, [.int 0, .int 0, .ref a1, .int 18, .int 0, .int 0, .int 0, .int 0, .ref a3])), (a1, .inr (5, [.ref cb, .int 81, .int 0, .ref a2, .int 2, .ref a4, .int 0, .ref a5, .int 1, .int 1, .ref a6, .int 6, .int 0, .int 1, .int 0])), (a2, .inl (cy 2, 2048, .inr (.inl f0)))]) [1, 2, 0] (by decide) rfl
  have hFc := va_free (wc := [(a0, .inr (6, [.int 0, .int 0, .ref a1, .int 18, .int 0, .int 0, .int 0, .int 0, .ref a3])), (a1, .inr (5, [.ref cb, .int 81, .int 0, .ref a2, .int 2, .ref a4, .int 0, .ref a5, .int 1, .int 1, .ref a6, .int 6, .int 0, .int 1, .int 0])), (a2, .inl (cy 2, 2048, .inr (.inl f0)))]) hD hS hA [1, 2, 0] rfl
  refine va_callv (va_runV (As := [.int 1, .int 1]) (rest := []) ⟨hx, hb, hml, hown, hts⟩ (cc_58_X6_readTypes l dC dI cy H_2.size cb a0 a1 a2 a3 a4 a5 a6 f0 f0_0) (cwV 2 hts gX6_readList_X6_readTypes rfl rfl rfl (by decide +kernel) ⟨Nat.le_of_ble_eq_true rfl, Nat.le_of_ble_eq_true rfl⟩) ⟨fun a U g mk q => by obtain ⟨q0, q1, qP, qK, qD, qN, qS⟩ := q; exact ⟨q0, q1, qP, va_K.moved (u := U) (U := U.calling g mk a) (Vm.Alike.refl U.vm) qK, qD, qN.same rfl, SK.moved (u := U) (U := U.calling g mk a) (Vm.Alike.refl U.vm) qS⟩, va_recv hK hPc (ci := 6) (q0 := 0) rfl rfl, fun U hU hW => ⟨rfl, by rw [hU], by rw [hU]; exact hPc, va_K.moved hW.alike hK, hDc.weaken (fun _ _ _ _ => trivial), hN.warm hW, by rw [hU]; exact ((hSK.kept hS.2.1).narrow hFc).moved hW.alike⟩⟩ rfl rfl hl.1 rfl (lv_room (Nat.le_of_ble_eq_true rfl)) dX6_readList_10 ⟨Nat.le_of_ble_eq_true rfl, Nat.le_of_ble_eq_true rfl⟩) hS (fun q _ h => hFc q h) hFc (fun u t H_3 locs ht hvm hw hB hz1 hk1 hS2 => ?_)
  obtain ⟨g_4, rfl⟩ : ∃ z, z = u := ⟨_, rfl⟩
  obtain ⟨hP1, hK1, hD1⟩ := hB
  rw [ht] at hP1
  have kp_5 := hw
  obtain ⟨hP2, hD2⟩ := va_join (wr := []) (w1 := [(a0, .inr (6, [.int 0, .int 0, .ref a1, .int 20, .int 0, .int 0, .int 0, .int 0, .ref a3])), (a1, .inr (5, [.ref cb, .int 81, .int 0, .ref a2, .int 3, .ref a4, .int 0, .ref a5, .int 1, .int 1, .ref a6, .int 6, .int 0, .int 1, .int 0])), (a2, .inl (cy 2, 2048, .inr (.inl g_4)))]) hP hD [1, 2, 0] [] rfl rfl (by decide) (by decide) hk1 hFc hP1 hD1
  replace hP : va_P (dC, dI) vwCl [(a0, .inr (6, [.int 0, .int 0, .ref a1, .int 20, .int 0, .int 0, .int 0, .int 0, .ref a3])), (a1, .inr (5, [.ref cb, .int 81, .int 0, .ref a2, .int 3, .ref a4, .int 0, .ref a5, .int 1, .int 1, .ref a6, .int 6, .int 0, .int 1, .int 0])), (a2, .inl (cy 2, 2048, .inr (.inl g_4)))] H_3 := hP2
  replace hD : va_D A [(a0, .inr (6, [.int 0, .int 0, .ref a1, .int 20, .int 0, .int 0, .int 0, .int 0, .ref a3])), (a1, .inr (5, [.ref cb, .int 81, .int 0, .ref a2, .int 3, .ref a4, .int 0, .ref a5, .int 1, .int 1, .ref a6, .int 6, .int 0, .int 1, .int 0])), (a2, .inl (cy 2, 2048, .inr (.inl g_4)))] := hD2
  replace hS := hS2
  clear hP2 hD2 hS2
  clear hPc hDc hFc hP1 hD1 hK1 hk1 hz1 hvm ht
  refine W.widen (k := 0) (n := 0) (Nat.le_of_ble_eq_true rfl) (Nat.le_of_ble_eq_true rfl) ?_
  refine lv_iload_n hx hb dX6_readList_13 rfl (lv_at hl 0 rfl) ?_
  exact W.iret hx hb hr (fun t ht hW => ⟨⟨1, (g_4), rfl, ⟨rfl, kp_5⟩, by rw [ht]; exact hP, va_K.moved hW.alike hK, hD⟩, hS.F ht⟩) hS.2.2 dX6_readList_14

set_option maxHeartbeats 4000000 in
set_option maxRecDepth 100000 in
theorem cc_63_X5_setFunction (l : Launch) (dC : Nat → ClassId) (dI : Nat → Nat → Nat) (cy : Nat → ClassId) (sz : Nat) (cb : Nat) (a0 : Nat) (a1 : Nat) (a2 : Nat) (a3 : Nat) (a4 : Nat) (f0 : Nat → Int32)  : Met l yX5_setFunction wsX5_setFunction ({ frames := 0, cells := 0, slots := 0, locals := 0 }) (va_Pc [.ref a0, .int 0, .int 3, .int 1] (fun U => U.heap.size = sz ∧ va_P (dC, dI) vwCl [(a0, .inr (5, [.ref cb, .int 81, .int 0, .ref a2, .int 3, .ref a3, .int 0, .ref a4, .int 1, .int 1, .ref a1, .int 6, .int 0, .int 1, .int 0])), (a1, .inl (cy 1, 864, .inl f0))] U.heap ∧ va_K (dC, dI) vwCl (TYS cy) U ∧ va_D (fun _ => True) [(a0, .inr (5, [.ref cb, .int 81, .int 0, .ref a2, .int 3, .ref a3, .int 0, .ref a4, .int 1, .int 1, .ref a1, .int 6, .int 0, .int 1, .int 0])), (a1, .inl (cy 1, 864, .inl f0))] ∧ NK U ∧ SK cb (va_A [(a0, .inr (5, [.ref cb, .int 81, .int 0, .ref a2, .int 3, .ref a3, .int 0, .ref a4, .int 1, .int 1, .ref a1, .int 6, .int 0, .int 1, .int 0])), (a1, .inl (cy 1, 864, .inl f0))] sz) U U.heap)) (va_Qv (fun u : (Nat → Int32) => True) (fun u t => match u with | (u0) => va_P (dC, dI) vwCl [(a0, .inr (5, [.ref cb, .int 81, .int 0, .ref a2, .int 3, .ref a3, .int 0, .ref a4, .int 1, .int 1, .ref a1, .int 6, .int 0, .int 1, .int 0])), (a1, .inl (cy 1, 864, .inl u0))] t.heap ∧ va_K (dC, dI) vwCl (TYS cy) t ∧ va_D (va_A [(a0, .inr (5, [.ref cb, .int 81, .int 0, .ref a2, .int 3, .ref a3, .int 0, .ref a4, .int 1, .int 1, .ref a1, .int 6, .int 0, .int 1, .int 0])), (a1, .inl (cy 1, 864, .inl f0))] sz) [(a0, .inr (5, [.ref cb, .int 81, .int 0, .ref a2, .int 3, .ref a3, .int 0, .ref a4, .int 1, .int 1, .ref a1, .int 6, .int 0, .int 1, .int 0])), (a1, .inl (cy 1, 864, .inl u0))]) (va_A [(a0, .inr (5, [.ref cb, .int 81, .int 0, .ref a2, .int 3, .ref a3, .int 0, .ref a4, .int 1, .int 1, .ref a1, .int 6, .int 0, .int 1, .int 0])), (a1, .inl (cy 1, 864, .inl f0))] sz)) 0 0 (va_A [(a0, .inr (5, [.ref cb, .int 81, .int 0, .ref a2, .int 3, .ref a3, .int 0, .ref a4, .int 1, .int 1, .ref a1, .int 6, .int 0, .int 1, .int 0])), (a1, .inl (cy 1, 864, .inl f0))] sz) := by
  refine Met.ofW (cc := cX5_setFunction) (maxL := 4) (ret := none) (by decide) rfl ?_
  intro p e s m args below meth c s₁ B hml hv
  obtain ⟨rfl, hsz, hP, hK, hD0, hN, hSK⟩ := hv
  have hx := B.exec
  have hb := B.bytes
  have hr := B.returns
  have hts := atoms_spec (ws := wsX5_setFunction) B.pre
  have hown : s.vm.findClass RX5 = some m.cls := findClass_of_methodNamed B.named
  have hlocks := B.notSynchronized
  subst hsz
  have hD := hD0.self (sz := s.heap.size)
  generalize hAe : va_A [(a0, .inr (5, [.ref cb, .int 81, .int 0, .ref a2, .int 3, .ref a3, .int 0, .ref a4, .int 1, .int 1, .ref a1, .int 6, .int 0, .int 1, .int 0])), (a1, .inl (cy 1, 864, .inl f0))] s.heap.size = A at hD hSK ⊢
  have hA : ∀ q : Nat, s.heap.size ≤ q → A q := fun q h => by rw [← hAe]; exact Or.inr h
  have hS : va_S A s.heap s.heap [] := va_S.rf
  have hP : va_P (dC, dI) vwCl [(a0, .inr (5, [.ref cb, .int 81, .int 0, .ref a2, .int 3, .ref a3, .int 0, .ref a4, .int 1, .int 1, .ref a1, .int 6, .int 0, .int 1, .int 0])), (a1, .inl (cy 1, 864, .inl f0))] s.heap := hP
  have hl := lv_entry ([.ref a0, .int 0, .int 3, .int 1]) (n := 4) (Nat.le_of_ble_eq_true rfl)
  rw [lg_entry_eq]
  generalize (lg_sl ([.ref a0, .int 0, .int 3, .int 1]) ++ List.replicate (4 - (lg_sl ([.ref a0, .int 0, .int 3, .int 1])).length) Slot.unset).toArray = ls at hl ⊢
  replace hl : lv_has ls 4 [(0, .ref a0), (1, .int 0), (2, .int 3), (3, .int 1)] := hl
  refine lv_iload_n hx hb dX5_setFunction_0 rfl (lv_at hl 1 rfl) ?_
  refine lv_if_lt (tgt := 22) hx hb dX5_setFunction_1 (by decide) (fun h => absurd h (by decide)) (fun _ => ?_)
  refine lv_iload_n hx hb dX5_setFunction_4 rfl (lv_at hl 1 rfl) ?_
  refine lv_bipush (v := 96) hx hb dX5_setFunction_5 (by decide) ?_
  refine lv_icmp_ge (tgt := 22) hx hb dX5_setFunction_7 (by decide) (fun h => absurd h (by decide)) (fun _ => ?_)
  refine lv_aload_n hx hb dX5_setFunction_10 rfl (lv_at hl 0 rfl) ?_
  refine va_get (D := (dC, dI)) (ci := 5) (v := .ref a1) (C := RX5) (T := TX5) (N := 15) hx hb hts iw_X5_setFunction_X5 hown hK hP 0 rfl rfl 10 (by decide) (hts _ m_X5_setFunction_1) (fun _ h9 => h9) rfl dX5_setFunction_11 ?_
  refine lv_iload_n hx hb dX5_setFunction_14 rfl (lv_at hl 1 rfl) ?_
  refine lv_bipush (v := 9) hx hb dX5_setFunction_15 (by decide) ?_
  refine lv_imul hx hb dX5_setFunction_17 ?_
  refine lv_topi (fun z_1 ez_1 => ?_)
  obtain rfl : z_1 = 0 := ez_1.trans (by decide)
  clear ez_1
  refine lv_iload_n hx hb dX5_setFunction_18 rfl (lv_at hl 2 rfl) ?_
  refine lv_iadd hx hb dX5_setFunction_19 ?_
  refine lv_topi (fun z_2 ez_2 => ?_)
  obtain rfl : z_2 = 3 := ez_2.trans (by decide)
  clear ez_2
  refine lv_iload_n hx hb dX5_setFunction_20 rfl (lv_at hl 3 rfl) ?_
  refine va_iast hx hb hK hP hD hS 1 1 rfl rfl (by unfold vp_in; decide) dX5_setFunction_21 (fun H_4 locs hP2 hD2 hS2 => ?_)
  replace hP : va_P (dC, dI) vwCl [(a0, .inr (5, [.ref cb, .int 81, .int 0, .ref a2, .int 3, .ref a3, .int 0, .ref a4, .int 1, .int 1, .ref a1, .int 6, .int 0, .int 1, .int 0])), (a1, .inl (cy 1, 864, .inl (upd f0 3 1)))] H_4 := hP2
  replace hD : va_D A [(a0, .inr (5, [.ref cb, .int 81, .int 0, .ref a2, .int 3, .ref a3, .int 0, .ref a4, .int 1, .int 1, .ref a1, .int 6, .int 0, .int 1, .int 0])), (a1, .inl (cy 1, 864, .inl (upd f0 3 1)))] := hD2
  replace hS := hS2
  clear hP2 hD2 hS2
  obtain ⟨g_3, eg_3⟩ : ∃ z, upd f0 3 1 = z := ⟨_, rfl⟩
  rw [eg_3] at hP hD
  exact W.vret hx hb hr (fun t ht hW => ⟨⟨(g_3), rfl, trivial, by rw [ht]; exact hP, va_K.moved hW.alike hK, hD⟩, hS.F ht⟩) hS.2.2 dX5_setFunction_22

set_option maxHeartbeats 4000000 in
set_option maxRecDepth 100000 in
theorem cc_66_X6_readByte (l : Launch) (dC : Nat → ClassId) (dI : Nat → Nat → Nat) (cy : Nat → ClassId) (sz : Nat) (cb : Nat) (a0 : Nat) (a1 : Nat) (a2 : Nat) (a3 : Nat) (a4 : Nat) (a5 : Nat) (a6 : Nat)  : Met l yX6_readByte wsX6_readByte ({ frames := 0, cells := 0, slots := 0, locals := 0 }) (va_Pc [.ref a0] (fun U => U.heap.size = sz ∧ va_P (dC, dI) vwCl [(a0, .inr (6, [.int 0, .int 0, .ref a1, .int 20, .int 0, .int 0, .int 0, .int 0, .ref a2])), (a1, .inr (5, [.ref cb, .int 81, .int 0, .ref a3, .int 3, .ref a4, .int 0, .ref a5, .int 1, .int 1, .ref a6, .int 6, .int 0, .int 1, .int 0]))] U.heap ∧ va_K (dC, dI) vwCl (TYS cy) U ∧ va_D (fun _ => True) [(a0, .inr (6, [.int 0, .int 0, .ref a1, .int 20, .int 0, .int 0, .int 0, .int 0, .ref a2])), (a1, .inr (5, [.ref cb, .int 81, .int 0, .ref a3, .int 3, .ref a4, .int 0, .ref a5, .int 1, .int 1, .ref a6, .int 6, .int 0, .int 1, .int 0]))] ∧ NK U ∧ SK cb (va_A [(a0, .inr (6, [.int 0, .int 0, .ref a1, .int 20, .int 0, .int 0, .int 0, .int 0, .ref a2])), (a1, .inr (5, [.ref cb, .int 81, .int 0, .ref a3, .int 3, .ref a4, .int 0, .ref a5, .int 1, .int 1, .ref a6, .int 6, .int 0, .int 1, .int 0]))] sz) U U.heap)) (va_Qi (fun (r : Int32) (u : Unit) => r = 0) (fun u t => va_P (dC, dI) vwCl [(a0, .inr (6, [.int 0, .int 0, .ref a1, .int 21, .int 0, .int 0, .int 0, .int 0, .ref a2])), (a1, .inr (5, [.ref cb, .int 81, .int 0, .ref a3, .int 3, .ref a4, .int 0, .ref a5, .int 1, .int 1, .ref a6, .int 6, .int 0, .int 1, .int 0]))] t.heap ∧ va_K (dC, dI) vwCl (TYS cy) t ∧ va_D (va_A [(a0, .inr (6, [.int 0, .int 0, .ref a1, .int 20, .int 0, .int 0, .int 0, .int 0, .ref a2])), (a1, .inr (5, [.ref cb, .int 81, .int 0, .ref a3, .int 3, .ref a4, .int 0, .ref a5, .int 1, .int 1, .ref a6, .int 6, .int 0, .int 1, .int 0]))] sz) [(a0, .inr (6, [.int 0, .int 0, .ref a1, .int 21, .int 0, .int 0, .int 0, .int 0, .ref a2])), (a1, .inr (5, [.ref cb, .int 81, .int 0, .ref a3, .int 3, .ref a4, .int 0, .ref a5, .int 1, .int 1, .ref a6, .int 6, .int 0, .int 1, .int 0]))]) (va_A [(a0, .inr (6, [.int 0, .int 0, .ref a1, .int 20, .int 0, .int 0, .int 0, .int 0, .ref a2])), (a1, .inr (5, [.ref cb, .int 81, .int 0, .ref a3, .int 3, .ref a4, .int 0, .ref a5, .int 1, .int 1, .ref a6, .int 6, .int 0, .int 1, .int 0]))] sz)) 0 0 (va_A [(a0, .inr (6, [.int 0, .int 0, .ref a1, .int 20, .int 0, .int 0, .int 0, .int 0, .ref a2])), (a1, .inr (5, [.ref cb, .int 81, .int 0, .ref a3, .int 3, .ref a4, .int 0, .ref a5, .int 1, .int 1, .ref a6, .int 6, .int 0, .int 1, .int 0]))] sz) := by
  refine Met.ofW (cc := cX6_readByte) (maxL := 1) (ret := (some .int)) (by decide) rfl ?_
  intro p e s m args below meth c s₁ B hml hv
  obtain ⟨rfl, hsz, hP, hK, hD0, hN, hSK⟩ := hv
  have hx := B.exec
  have hb := B.bytes
  have hr := B.returns
  have hts := atoms_spec (ws := wsX6_readByte) B.pre
  have hown : s.vm.findClass RX6 = some m.cls := findClass_of_methodNamed B.named
  have hlocks := B.notSynchronized
  subst hsz
  have hD := hD0.self (sz := s.heap.size)
  generalize hAe : va_A [(a0, .inr (6, [.int 0, .int 0, .ref a1, .int 20, .int 0, .int 0, .int 0, .int 0, .ref a2])), (a1, .inr (5, [.ref cb, .int 81, .int 0, .ref a3, .int 3, .ref a4, .int 0, .ref a5, .int 1, .int 1, .ref a6, .int 6, .int 0, .int 1, .int 0]))] s.heap.size = A at hD hSK ⊢
  have hA : ∀ q : Nat, s.heap.size ≤ q → A q := fun q h => by rw [← hAe]; exact Or.inr h
  have hS : va_S A s.heap s.heap [] := va_S.rf
  have hP : va_P (dC, dI) vwCl [(a0, .inr (6, [.int 0, .int 0, .ref a1, .int 20, .int 0, .int 0, .int 0, .int 0, .ref a2])), (a1, .inr (5, [.ref cb, .int 81, .int 0, .ref a3, .int 3, .ref a4, .int 0, .ref a5, .int 1, .int 1, .ref a6, .int 6, .int 0, .int 1, .int 0]))] s.heap := hP
  have hl := lv_entry ([.ref a0]) (n := 1) (Nat.le_of_ble_eq_true rfl)
  rw [lg_entry_eq]
  generalize (lg_sl ([.ref a0]) ++ List.replicate (1 - (lg_sl ([.ref a0])).length) Slot.unset).toArray = ls at hl ⊢
  replace hl : lv_has ls 1 [(0, .ref a0)] := hl
  refine lv_aload_n hx hb dX6_readByte_0 rfl (lv_at hl 0 rfl) ?_
  refine va_get (D := (dC, dI)) (ci := 6) (v := .int 0) (C := RX6) (T := TX6) (N := 9) hx hb hts iw_X6_readByte_X6 hown hK hP 0 rfl rfl 1 (by decide) (hts _ m_X6_readByte_1) (fun _ h9 => h9) rfl dX6_readByte_1 ?_
  refine lv_if_eq (tgt := 9) hx hb dX6_readByte_4 (by decide) (fun _ => ?_) (fun h => absurd (by decide) h)
  refine lv_aload_n hx hb dX6_readByte_9 rfl (lv_at hl 0 rfl) ?_
  refine va_get (D := (dC, dI)) (ci := 6) (v := .int 20) (C := RX6) (T := TX6) (N := 9) hx hb hts iw_X6_readByte_X6 hown hK hP 0 rfl rfl 3 (by decide) (hts _ m_X6_readByte_2) (fun _ h9 => h9) rfl dX6_readByte_10 ?_
  refine lv_aload_n hx hb dX6_readByte_13 rfl (lv_at hl 0 rfl) ?_
  refine va_get (D := (dC, dI)) (ci := 6) (v := .ref a1) (C := RX6) (T := TX6) (N := 9) hx hb hts iw_X6_readByte_X6 hown hK hP 0 rfl rfl 2 (by decide) (hts _ m_X6_readByte_3) (fun _ h9 => h9) rfl dX6_readByte_14 ?_
  refine va_get (D := (dC, dI)) (ci := 5) (v := .int 81) (C := RX5) (T := TX5) (N := 15) hx hb hts iw_X6_readByte_X5 hown hK hP 1 rfl rfl 1 (by decide) (hts _ m_X6_readByte_4) (fun _ h9 => h9) rfl dX6_readByte_17 ?_
  refine lv_icmp_lt (tgt := 41) hx hb dX6_readByte_20 (by decide) (fun _ => ?_) (fun h => absurd (by decide) h)
  refine lv_aload_n hx hb dX6_readByte_41 rfl (lv_at hl 0 rfl) ?_
  refine va_get (D := (dC, dI)) (ci := 6) (v := .ref a1) (C := RX6) (T := TX6) (N := 9) hx hb hts iw_X6_readByte_X6 hown hK hP 0 rfl rfl 2 (by decide) (hts _ m_X6_readByte_3) (fun _ h9 => h9) rfl dX6_readByte_42 ?_
  refine va_get (D := (dC, dI)) (ci := 5) (v := .ref cb) (C := RX5) (T := TX5) (N := 15) hx hb hts iw_X6_readByte_X5 hown hK hP 1 rfl rfl 0 (by decide) (hts _ m_X6_readByte_6) (fun _ h9 => h9) rfl dX6_readByte_45 ?_
  refine lv_aload_n hx hb dX6_readByte_48 rfl (lv_at hl 0 rfl) ?_
  refine lv_dup hx hb dX6_readByte_49 rfl ?_
  refine va_get (D := (dC, dI)) (ci := 6) (v := .int 20) (C := RX6) (T := TX6) (N := 9) hx hb hts iw_X6_readByte_X6 hown hK hP 0 rfl rfl 3 (by decide) (hts _ m_X6_readByte_2) (fun _ h9 => h9) rfl dX6_readByte_50 ?_
  refine lv_dup_x1 hx hb dX6_readByte_53 rfl rfl ?_
  refine lv_iconst (v := 1) hx hb dX6_readByte_54 (by decide) ?_
  refine lv_iadd hx hb dX6_readByte_55 ?_
  refine lv_topi (fun z_1 ez_1 => ?_)
  obtain rfl : z_1 = 21 := ez_1.trans (by decide)
  clear ez_1
  refine va_put (D := (dC, dI)) (ci := 6) (v := .int 21) (ty := .int) (C := RX6) (T := TX6) (N := 9) hx hb hts iw_X6_readByte_X6 tyX6 tyX6_ok nmX6 hown hK hP hD hS 0 rfl rfl 3 (by decide) (hts _ m_X6_readByte_2) (fun _ h9 => h9) rfl (by decide +kernel) rfl rfl (Nat.le_of_ble_eq_true rfl) dX6_readByte_56 (fun H_2 locs hP2 hD2 hS2 => ?_)
  replace hP : va_P (dC, dI) vwCl [(a0, .inr (6, [.int 0, .int 0, .ref a1, .int 21, .int 0, .int 0, .int 0, .int 0, .ref a2])), (a1, .inr (5, [.ref cb, .int 81, .int 0, .ref a3, .int 3, .ref a4, .int 0, .ref a5, .int 1, .int 1, .ref a6, .int 6, .int 0, .int 1, .int 0]))] H_2 := hP2
  replace hD : va_D A [(a0, .inr (6, [.int 0, .int 0, .ref a1, .int 21, .int 0, .int 0, .int 0, .int 0, .ref a2])), (a1, .inr (5, [.ref cb, .int 81, .int 0, .ref a3, .int 3, .ref a4, .int 0, .ref a5, .int 1, .int 1, .ref a6, .int 6, .int 0, .int 1, .int 0]))] := hD2
  replace hS := hS2
  clear hP2 hD2 hS2
  refine va_tb (v := .int 0) hx hb hSK.2 hS (by unfold vp_in; decide) rfl dX6_readByte_59 ?_
  refine lv_sipush (v := 255) hx hb dX6_readByte_60 (by decide) ?_
  refine lv_iand hx hb dX6_readByte_63 ?_
  refine lv_topi (fun z_3 ez_3 => ?_)
  obtain rfl : z_3 = 0 := ez_3.trans (by decide)
  clear ez_3
  exact W.iret hx hb hr (fun t ht hW => ⟨⟨0, (), rfl, rfl, by rw [ht]; exact hP, va_K.moved hW.alike hK, hD⟩, hS.F ht⟩) hS.2.2 dX6_readByte_64

set_option maxHeartbeats 4000000 in
set_option maxRecDepth 100000 in
theorem cc_65_X6_readNumber (l : Launch) (dC : Nat → ClassId) (dI : Nat → Nat → Nat) (cy : Nat → ClassId) (sz : Nat) (cb : Nat) (a0 : Nat) (a1 : Nat) (a2 : Nat) (a3 : Nat) (a4 : Nat) (a5 : Nat) (a6 : Nat)  : Met l yX6_readNumber wsX6_readNumber ({ frames := 1, cells := 0, slots := 0, locals := 20 }) (va_Pc [.ref a0, .int 0, .int 32] (fun U => U.heap.size = sz ∧ va_P (dC, dI) vwCl [(a0, .inr (6, [.int 0, .int 0, .ref a1, .int 20, .int 0, .int 0, .int 0, .int 0, .ref a2])), (a1, .inr (5, [.ref cb, .int 81, .int 0, .ref a3, .int 3, .ref a4, .int 0, .ref a5, .int 1, .int 1, .ref a6, .int 6, .int 0, .int 1, .int 0]))] U.heap ∧ va_K (dC, dI) vwCl (TYS cy) U ∧ va_D (fun _ => True) [(a0, .inr (6, [.int 0, .int 0, .ref a1, .int 20, .int 0, .int 0, .int 0, .int 0, .ref a2])), (a1, .inr (5, [.ref cb, .int 81, .int 0, .ref a3, .int 3, .ref a4, .int 0, .ref a5, .int 1, .int 1, .ref a6, .int 6, .int 0, .int 1, .int 0]))] ∧ NK U ∧ SK cb (va_A [(a0, .inr (6, [.int 0, .int 0, .ref a1, .int 20, .int 0, .int 0, .int 0, .int 0, .ref a2])), (a1, .inr (5, [.ref cb, .int 81, .int 0, .ref a3, .int 3, .ref a4, .int 0, .ref a5, .int 1, .int 1, .ref a6, .int 6, .int 0, .int 1, .int 0]))] sz) U U.heap)) (va_Qi (fun (r : Int32) (u : Unit) => r = 0) (fun u t => va_P (dC, dI) vwCl [(a0, .inr (6, [.int 0, .int 0, .ref a1, .int 21, .int 0, .int 0, .int 0, .int 0, .ref a2])), (a1, .inr (5, [.ref cb, .int 81, .int 0, .ref a3, .int 3, .ref a4, .int 0, .ref a5, .int 1, .int 1, .ref a6, .int 6, .int 0, .int 1, .int 0]))] t.heap ∧ va_K (dC, dI) vwCl (TYS cy) t ∧ va_D (va_A [(a0, .inr (6, [.int 0, .int 0, .ref a1, .int 20, .int 0, .int 0, .int 0, .int 0, .ref a2])), (a1, .inr (5, [.ref cb, .int 81, .int 0, .ref a3, .int 3, .ref a4, .int 0, .ref a5, .int 1, .int 1, .ref a6, .int 6, .int 0, .int 1, .int 0]))] sz) [(a0, .inr (6, [.int 0, .int 0, .ref a1, .int 21, .int 0, .int 0, .int 0, .int 0, .ref a2])), (a1, .inr (5, [.ref cb, .int 81, .int 0, .ref a3, .int 3, .ref a4, .int 0, .ref a5, .int 1, .int 1, .ref a6, .int 6, .int 0, .int 1, .int 0]))]) (va_A [(a0, .inr (6, [.int 0, .int 0, .ref a1, .int 20, .int 0, .int 0, .int 0, .int 0, .ref a2])), (a1, .inr (5, [.ref cb, .int 81, .int 0, .ref a3, .int 3, .ref a4, .int 0, .ref a5, .int 1, .int 1, .ref a6, .int 6, .int 0, .int 1, .int 0]))] sz)) 0 0 (va_A [(a0, .inr (6, [.int 0, .int 0, .ref a1, .int 20, .int 0, .int 0, .int 0, .int 0, .ref a2])), (a1, .inr (5, [.ref cb, .int 81, .int 0, .ref a3, .int 3, .ref a4, .int 0, .ref a5, .int 1, .int 1, .ref a6, .int 6, .int 0, .int 1, .int 0]))] sz) := by
  refine Met.ofW (cc := cX6_readNumber) (maxL := 5) (ret := (some .int)) (by decide) rfl ?_
  intro p e s m args below meth c s₁ B hml hv
  obtain ⟨rfl, hsz, hP, hK, hD0, hN, hSK⟩ := hv
  have hx := B.exec
  have hb := B.bytes
  have hr := B.returns
  have hts := atoms_spec (ws := wsX6_readNumber) B.pre
  have hown : s.vm.findClass RX6 = some m.cls := findClass_of_methodNamed B.named
  have hlocks := B.notSynchronized
  subst hsz
  have hD := hD0.self (sz := s.heap.size)
  generalize hAe : va_A [(a0, .inr (6, [.int 0, .int 0, .ref a1, .int 20, .int 0, .int 0, .int 0, .int 0, .ref a2])), (a1, .inr (5, [.ref cb, .int 81, .int 0, .ref a3, .int 3, .ref a4, .int 0, .ref a5, .int 1, .int 1, .ref a6, .int 6, .int 0, .int 1, .int 0]))] s.heap.size = A at hD hSK ⊢
  have hA : ∀ q : Nat, s.heap.size ≤ q → A q := fun q h => by rw [← hAe]; exact Or.inr h
  have hS : va_S A s.heap s.heap [] := va_S.rf
  have hP : va_P (dC, dI) vwCl [(a0, .inr (6, [.int 0, .int 0, .ref a1, .int 20, .int 0, .int 0, .int 0, .int 0, .ref a2])), (a1, .inr (5, [.ref cb, .int 81, .int 0, .ref a3, .int 3, .ref a4, .int 0, .ref a5, .int 1, .int 1, .ref a6, .int 6, .int 0, .int 1, .int 0]))] s.heap := hP
  have hl := lv_entry ([.ref a0, .int 0, .int 32]) (n := 5) (Nat.le_of_ble_eq_true rfl)
  rw [lg_entry_eq]
  generalize (lg_sl ([.ref a0, .int 0, .int 32]) ++ List.replicate (5 - (lg_sl ([.ref a0, .int 0, .int 32])).length) Slot.unset).toArray = ls at hl ⊢
  replace hl : lv_has ls 5 [(0, .ref a0), (1, .int 0), (2, .int 32)] := hl
  refine lv_aload_n hx hb dX6_readNumber_0 rfl (lv_at hl 0 rfl) ?_
  refine va_get (D := (dC, dI)) (ci := 6) (v := .int 20) (C := RX6) (T := TX6) (N := 9) hx hb hts iw_X6_readNumber_X6 hown hK hP 0 rfl rfl 3 (by decide) (hts _ m_X6_readNumber_1) (fun _ h9 => h9) rfl dX6_readNumber_1 ?_
  refine lv_istore_n (lv' := [(3, .int 20), (0, .ref a0), (1, .int 0), (2, .int 32)]) hx hb dX6_readNumber_4 rfl hl (by decide) rfl (fun ls hl2 => ?_)
  replace hl := hl2
  clear hl2
  refine lv_aload_n hx hb dX6_readNumber_5 rfl (lv_at hl 1 rfl) ?_
  have hPc := hP.sub (ws' := [(a0, .inr (6, [.int 0, .int 0, .ref a1, .int 20, .int 0, .int 0, .int 0, .int 0, .ref a2])), (a1, .inr (5, [.ref cb, .int 81, .int 0, .ref a3, .int 3, .ref a4, .int 0, .ref a5, .int 1, .int 1, .ref a6, .int 6, .int 0, .int 1, .int 0]))]) [0, 1] rfl
  have hDc := hD.sub (ws' := [(a0, .inr (6, [.int 0, .int 0, .ref a1, .int 20, .int 0, .int 0, .int 0, .int 0, .ref a2])), (a1, .inr (5, [.ref cb, .int 81, .int 0, .ref a3, .int 3, .ref a4, .int 0, .ref a5, .int 1, .int 1, .ref a6, .int 6, .int 0, .int 1, .int 0]))]) [0, 1] (by decide) rfl
  have hFc := va_free (wc := [(a0, .inr (6, [.int 0, .int 0, .ref a1, .int 20, .int 0, .int 0, .int 0, .int 0, .ref a2])), (a1, .inr (5, [.ref cb, .int 81, .int 0, .ref a3, .int 3, .ref a4, .int 0, .ref a5, .int 1, .int 1, .ref a6, .int 6, .int 0, .int 1, .int 0]))]) hD hS hA [0, 1] rfl
  refine va_calli (va_runV (As := []) (rest := []) ⟨hx, hb, hml, hown, hts⟩ (cc_66_X6_readByte l dC dI cy s.heap.size cb a0 a1 a2 a3 a4 a5 a6) (cwV 0 hts gX6_readNumber_X6_readByte rfl rfl rfl (by decide +kernel) ⟨Nat.le_of_ble_eq_true rfl, Nat.le_of_ble_eq_true rfl⟩) ⟨fun a U g mk q => by obtain ⟨q0, q1, qP, qK, qD, qN, qS⟩ := q; exact ⟨q0, q1, qP, va_K.moved (u := U) (U := U.calling g mk a) (Vm.Alike.refl U.vm) qK, qD, qN.same rfl, SK.moved (u := U) (U := U.calling g mk a) (Vm.Alike.refl U.vm) qS⟩, va_recv hK hPc (ci := 6) (q0 := 0) rfl rfl, fun U hU hW => ⟨rfl, by rw [hU], by rw [hU]; exact hPc, va_K.moved hW.alike hK, hDc.weaken (fun _ _ _ _ => trivial), hN.warm hW, by rw [hU]; exact ((hSK.kept hS.2.1).narrow hFc).moved hW.alike⟩⟩ rfl rfl hl.1 rfl (lv_room (Nat.le_of_ble_eq_true rfl)) dX6_readNumber_6 ⟨Nat.le_of_ble_eq_true rfl, Nat.le_of_ble_eq_true rfl⟩) hS (fun q _ h => hFc q h) hFc (fun r_1 u t H_2 locs ht hvm hw hB hz1 hk1 hS2 => ?_)
  obtain ⟨hP1, hK1, hD1⟩ := hB
  rw [ht] at hP1
  obtain rfl := hw
  obtain ⟨hP2, hD2⟩ := va_join (wr := []) (w1 := [(a0, .inr (6, [.int 0, .int 0, .ref a1, .int 21, .int 0, .int 0, .int 0, .int 0, .ref a2])), (a1, .inr (5, [.ref cb, .int 81, .int 0, .ref a3, .int 3, .ref a4, .int 0, .ref a5, .int 1, .int 1, .ref a6, .int 6, .int 0, .int 1, .int 0]))]) hP hD [0, 1] [] rfl rfl (by decide) (by decide) hk1 hFc hP1 hD1
  replace hP : va_P (dC, dI) vwCl [(a0, .inr (6, [.int 0, .int 0, .ref a1, .int 21, .int 0, .int 0, .int 0, .int 0, .ref a2])), (a1, .inr (5, [.ref cb, .int 81, .int 0, .ref a3, .int 3, .ref a4, .int 0, .ref a5, .int 1, .int 1, .ref a6, .int 6, .int 0, .int 1, .int 0]))] H_2 := hP2
  replace hD : va_D A [(a0, .inr (6, [.int 0, .int 0, .ref a1, .int 21, .int 0, .int 0, .int 0, .int 0, .ref a2])), (a1, .inr (5, [.ref cb, .int 81, .int 0, .ref a3, .int 3, .ref a4, .int 0, .ref a5, .int 1, .int 1, .ref a6, .int 6, .int 0, .int 1, .int 0]))] := hD2
  replace hS := hS2
  clear hP2 hD2 hS2
  clear hPc hDc hFc hP1 hD1 hK1 hk1 hz1 hvm ht
  refine W.widen (k := 0) (n := 0) (Nat.le_of_ble_eq_true rfl) (Nat.le_of_ble_eq_true rfl) ?_
  refine lv_istore (lv' := [(4, .int 0), (3, .int 20), (0, .ref a0), (1, .int 0), (2, .int 32)]) hx hb dX6_readNumber_9 hl (by decide) rfl (fun ls hl2 => ?_)
  replace hl := hl2
  clear hl2
  refine lv_iload hx hb dX6_readNumber_11 (lv_at hl 0 rfl) ?_
  refine lv_iload_n hx hb dX6_readNumber_13 rfl (lv_at hl 3 rfl) ?_
  refine lv_icmp_lt (tgt := 23) hx hb dX6_readNumber_14 (by decide) (fun h => absurd h (by decide)) (fun _ => ?_)
  refine lv_iload hx hb dX6_readNumber_17 (lv_at hl 0 rfl) ?_
  refine lv_iload_n hx hb dX6_readNumber_19 rfl (lv_at hl 4 rfl) ?_
  refine lv_icmp_le (tgt := 29) hx hb dX6_readNumber_20 (by decide) (fun _ => ?_) (fun h => absurd (by decide) h)
  refine lv_aload_n hx hb dX6_readNumber_29 rfl (lv_at hl 2 rfl) ?_
  refine va_get (D := (dC, dI)) (ci := 6) (v := .int 0) (C := RX6) (T := TX6) (N := 9) hx hb hts iw_X6_readNumber_X6 hown hK hP 0 rfl rfl 1 (by decide) (hts _ m_X6_readNumber_2) (fun _ h9 => h9) rfl dX6_readNumber_30 ?_
  refine lv_if_ne (tgt := 41) hx hb dX6_readNumber_33 (by decide) (fun h => absurd (by decide) h) (fun _ => ?_)
  refine lv_iload hx hb dX6_readNumber_36 (lv_at hl 0 rfl) ?_
  refine lv_goto (tgt := 42) hx hb dX6_readNumber_38 (by decide) ?_
  exact W.iret hx hb hr (fun t ht hW => ⟨⟨0, (), rfl, rfl, by rw [ht]; exact hP, va_K.moved hW.alike hK, hD⟩, hS.F ht⟩) hS.2.2 dX6_readNumber_42

set_option maxHeartbeats 4000000 in
set_option maxRecDepth 100000 in
theorem cc_67_X6_readTypes (l : Launch) (dC : Nat → ClassId) (dI : Nat → Nat → Nat) (cy : Nat → ClassId) (sz : Nat) (cb : Nat) (a0 : Nat) (a1 : Nat) (a2 : Nat)  : Met l yX6_readTypes wsX6_readTypes ({ frames := 0, cells := 0, slots := 0, locals := 0 }) (va_Pc [.ref a0, .int 0, .int 1] (fun U => U.heap.size = sz ∧ va_P (dC, dI) vwCl [(a0, .inr (6, [.int 0, .int 0, .ref a1, .int 21, .int 0, .int 0, .int 0, .int 0, .ref a2]))] U.heap ∧ va_K (dC, dI) vwCl (TYS cy) U ∧ va_D (fun _ => True) [(a0, .inr (6, [.int 0, .int 0, .ref a1, .int 21, .int 0, .int 0, .int 0, .int 0, .ref a2]))] ∧ NK U ∧ SK cb (va_A [(a0, .inr (6, [.int 0, .int 0, .ref a1, .int 21, .int 0, .int 0, .int 0, .int 0, .ref a2]))] sz) U U.heap)) (va_Qv (fun u : Unit => True) (fun u t => va_P (dC, dI) vwCl [(a0, .inr (6, [.int 0, .int 0, .ref a1, .int 21, .int 0, .int 0, .int 0, .int 0, .ref a2]))] t.heap ∧ va_K (dC, dI) vwCl (TYS cy) t ∧ va_D (va_A [(a0, .inr (6, [.int 0, .int 0, .ref a1, .int 21, .int 0, .int 0, .int 0, .int 0, .ref a2]))] sz) [(a0, .inr (6, [.int 0, .int 0, .ref a1, .int 21, .int 0, .int 0, .int 0, .int 0, .ref a2]))]) (va_A [(a0, .inr (6, [.int 0, .int 0, .ref a1, .int 21, .int 0, .int 0, .int 0, .int 0, .ref a2]))] sz)) 0 0 (va_A [(a0, .inr (6, [.int 0, .int 0, .ref a1, .int 21, .int 0, .int 0, .int 0, .int 0, .ref a2]))] sz) := by
  refine Met.ofW (cc := cX6_readTypes) (maxL := 4) (ret := none) (by decide) rfl ?_
  intro p e s m args below meth c s₁ B hml hv
  obtain ⟨rfl, hsz, hP, hK, hD0, hN, hSK⟩ := hv
  have hx := B.exec
  have hb := B.bytes
  have hr := B.returns
  have hts := atoms_spec (ws := wsX6_readTypes) B.pre
  have hown : s.vm.findClass RX6 = some m.cls := findClass_of_methodNamed B.named
  have hlocks := B.notSynchronized
  subst hsz
  have hD := hD0.self (sz := s.heap.size)
  generalize hAe : va_A [(a0, .inr (6, [.int 0, .int 0, .ref a1, .int 21, .int 0, .int 0, .int 0, .int 0, .ref a2]))] s.heap.size = A at hD hSK ⊢
  have hA : ∀ q : Nat, s.heap.size ≤ q → A q := fun q h => by rw [← hAe]; exact Or.inr h
  have hS : va_S A s.heap s.heap [] := va_S.rf
  have hP : va_P (dC, dI) vwCl [(a0, .inr (6, [.int 0, .int 0, .ref a1, .int 21, .int 0, .int 0, .int 0, .int 0, .ref a2]))] s.heap := hP
  have hl := lv_entry ([.ref a0, .int 0, .int 1]) (n := 4) (Nat.le_of_ble_eq_true rfl)
  rw [lg_entry_eq]
  generalize (lg_sl ([.ref a0, .int 0, .int 1]) ++ List.replicate (4 - (lg_sl ([.ref a0, .int 0, .int 1])).length) Slot.unset).toArray = ls at hl ⊢
  replace hl : lv_has ls 4 [(0, .ref a0), (1, .int 0), (2, .int 1)] := hl
  refine lv_iconst (v := 0) hx hb dX6_readTypes_0 (by decide) ?_
  refine lv_istore_n (lv' := [(3, .int 0), (0, .ref a0), (1, .int 0), (2, .int 1)]) hx hb dX6_readTypes_1 rfl hl (by decide) rfl (fun ls hl2 => ?_)
  replace hl := hl2
  clear hl2
  refine lv_iload_n hx hb dX6_readTypes_2 rfl (lv_at hl 0 rfl) ?_
  refine lv_iload_n hx hb dX6_readTypes_3 rfl (lv_at hl 2 rfl) ?_
  refine lv_icmp_ge (tgt := 32) hx hb dX6_readTypes_4 (by decide) (fun _ => ?_) (fun h => absurd (by decide) h)
  exact W.vret hx hb hr (fun t ht hW => ⟨⟨(), rfl, trivial, by rw [ht]; exact hP, va_K.moved hW.alike hK, hD⟩, hS.F ht⟩) hS.2.2 dX6_readTypes_32

set_option maxHeartbeats 4000000 in
set_option maxRecDepth 100000 in
theorem cc_64_X6_readList (l : Launch) (dC : Nat → ClassId) (dI : Nat → Nat → Nat) (cy : Nat → ClassId) (sz : Nat) (cb : Nat) (a0 : Nat) (a1 : Nat) (a2 : Nat) (a3 : Nat) (a4 : Nat) (a5 : Nat) (a6 : Nat)  : Met l yX6_readList wsX6_readList ({ frames := 2, cells := 0, slots := 0, locals := 44 }) (va_Pc [.ref a0, .int 32] (fun U => U.heap.size = sz ∧ va_P (dC, dI) vwCl [(a0, .inr (6, [.int 0, .int 0, .ref a1, .int 20, .int 0, .int 0, .int 0, .int 0, .ref a2])), (a1, .inr (5, [.ref cb, .int 81, .int 0, .ref a3, .int 3, .ref a4, .int 0, .ref a5, .int 1, .int 1, .ref a6, .int 6, .int 0, .int 1, .int 0]))] U.heap ∧ va_K (dC, dI) vwCl (TYS cy) U ∧ va_D (fun _ => True) [(a0, .inr (6, [.int 0, .int 0, .ref a1, .int 20, .int 0, .int 0, .int 0, .int 0, .ref a2])), (a1, .inr (5, [.ref cb, .int 81, .int 0, .ref a3, .int 3, .ref a4, .int 0, .ref a5, .int 1, .int 1, .ref a6, .int 6, .int 0, .int 1, .int 0]))] ∧ NK U ∧ SK cb (va_A [(a0, .inr (6, [.int 0, .int 0, .ref a1, .int 20, .int 0, .int 0, .int 0, .int 0, .ref a2])), (a1, .inr (5, [.ref cb, .int 81, .int 0, .ref a3, .int 3, .ref a4, .int 0, .ref a5, .int 1, .int 1, .ref a6, .int 6, .int 0, .int 1, .int 0]))] sz) U U.heap)) (va_Qi (fun (r : Int32) (u : Unit) => r = 0) (fun u t => va_P (dC, dI) vwCl [(a0, .inr (6, [.int 0, .int 0, .ref a1, .int 21, .int 0, .int 0, .int 0, .int 0, .ref a2])), (a1, .inr (5, [.ref cb, .int 81, .int 0, .ref a3, .int 3, .ref a4, .int 0, .ref a5, .int 1, .int 1, .ref a6, .int 6, .int 0, .int 1, .int 0]))] t.heap ∧ va_K (dC, dI) vwCl (TYS cy) t ∧ va_D (va_A [(a0, .inr (6, [.int 0, .int 0, .ref a1, .int 20, .int 0, .int 0, .int 0, .int 0, .ref a2])), (a1, .inr (5, [.ref cb, .int 81, .int 0, .ref a3, .int 3, .ref a4, .int 0, .ref a5, .int 1, .int 1, .ref a6, .int 6, .int 0, .int 1, .int 0]))] sz) [(a0, .inr (6, [.int 0, .int 0, .ref a1, .int 21, .int 0, .int 0, .int 0, .int 0, .ref a2])), (a1, .inr (5, [.ref cb, .int 81, .int 0, .ref a3, .int 3, .ref a4, .int 0, .ref a5, .int 1, .int 1, .ref a6, .int 6, .int 0, .int 1, .int 0]))]) (va_A [(a0, .inr (6, [.int 0, .int 0, .ref a1, .int 20, .int 0, .int 0, .int 0, .int 0, .ref a2])), (a1, .inr (5, [.ref cb, .int 81, .int 0, .ref a3, .int 3, .ref a4, .int 0, .ref a5, .int 1, .int 1, .ref a6, .int 6, .int 0, .int 1, .int 0]))] sz)) 0 0 (va_A [(a0, .inr (6, [.int 0, .int 0, .ref a1, .int 20, .int 0, .int 0, .int 0, .int 0, .ref a2])), (a1, .inr (5, [.ref cb, .int 81, .int 0, .ref a3, .int 3, .ref a4, .int 0, .ref a5, .int 1, .int 1, .ref a6, .int 6, .int 0, .int 1, .int 0]))] sz) := by
  refine Met.ofW (cc := cX6_readList) (maxL := 3) (ret := (some .int)) (by decide) rfl ?_
  intro p e s m args below meth c s₁ B hml hv
  obtain ⟨rfl, hsz, hP, hK, hD0, hN, hSK⟩ := hv
  have hx := B.exec
  have hb := B.bytes
  have hr := B.returns
  have hts := atoms_spec (ws := wsX6_readList) B.pre
  have hown : s.vm.findClass RX6 = some m.cls := findClass_of_methodNamed B.named
  have hlocks := B.notSynchronized
  subst hsz
  have hD := hD0.self (sz := s.heap.size)
  generalize hAe : va_A [(a0, .inr (6, [.int 0, .int 0, .ref a1, .int 20, .int 0, .int 0, .int 0, .int 0, .ref a2])), (a1, .inr (5, [.ref cb, .int 81, .int 0, .ref a3, .int 3, .ref a4, .int 0, .ref a5, .int 1, .int 1, .ref a6, .int 6, .int 0, .int 1, .int 0]))] s.heap.size = A at hD hSK ⊢
  have hA : ∀ q : Nat, s.heap.size ≤ q → A q := fun q h => by rw [← hAe]; exact Or.inr h
  have hS : va_S A s.heap s.heap [] := va_S.rf
  have hP : va_P (dC, dI) vwCl [(a0, .inr (6, [.int 0, .int 0, .ref a1, .int 20, .int 0, .int 0, .int 0, .int 0, .ref a2])), (a1, .inr (5, [.ref cb, .int 81, .int 0, .ref a3, .int 3, .ref a4, .int 0, .ref a5, .int 1, .int 1, .ref a6, .int 6, .int 0, .int 1, .int 0]))] s.heap := hP
  have hl := lv_entry ([.ref a0, .int 32]) (n := 3) (Nat.le_of_ble_eq_true rfl)
  rw [lg_entry_eq]
  generalize (lg_sl ([.ref a0, .int 32]) ++ List.replicate (3 - (lg_sl ([.ref a0, .int 32])).length) Slot.unset).toArray = ls at hl ⊢
  replace hl : lv_has ls 3 [(0, .ref a0), (1, .int 32)] := hl
  refine lv_aload_n hx hb dX6_readList_0 rfl (lv_at hl 0 rfl) ?_
  refine lv_iconst (v := 0) hx hb dX6_readList_1 (by decide) ?_
  refine lv_iload_n hx hb dX6_readList_2 rfl (lv_at hl 1 rfl) ?_
  have hPc := hP.sub (ws' := [(a0, .inr (6, [.int 0, .int 0, .ref a1, .int 20, .int 0, .int 0, .int 0, .int 0, .ref a2])), (a1, .inr (5, [.ref cb, .int 81, .int 0, .ref a3, .int 3, .ref a4, .int 0, .ref a5, .int 1, .int 1, .ref a6, .int 6, .int 0, .int 1, .int 0]))]) [0, 1] rfl
  have hDc := hD.sub (ws' := [(a0, .inr (6, [.int 0, .int 0, .ref a1, .int 20, .int 0, .int 0, .int 0, .int 0, .ref a2])), (a1, .inr (5, [.ref cb, .int 81, .int 0, .ref a3, .int 3, .ref a4, .int 0, .ref a5, .int 1, .int 1, .ref a6, .int 6, .int 0, .int 1, .int 0]))]) [0, 1] (by decide) rfl
  have hFc := va_free (wc := [(a0, .inr (6, [.int 0, .int 0, .ref a1, .int 20, .int 0, .int 0, .int 0, .int 0, .ref a2])), (a1, .inr (5, [.ref cb, .int 81, .int 0, .ref a3, .int 3, .ref a4, .int 0, .ref a5, .int 1, .int 1, .ref a6, .int 6, .int 0, .int 1, .int 0]))]) hD hS hA [0, 1] rfl
  refine va_calli (va_runV (As := [.int 0, .int 32]) (rest := []) ⟨hx, hb, hml, hown, hts⟩ (cc_65_X6_readNumber l dC dI cy s.heap.size cb a0 a1 a2 a3 a4 a5 a6) (cwV 2 hts gX6_readList_X6_readNumber rfl rfl rfl (by decide +kernel) ⟨Nat.le_of_ble_eq_true rfl, Nat.le_of_ble_eq_true rfl⟩) ⟨fun a U g mk q => by obtain ⟨q0, q1, qP, qK, qD, qN, qS⟩ := q; exact ⟨q0, q1, qP, va_K.moved (u := U) (U := U.calling g mk a) (Vm.Alike.refl U.vm) qK, qD, qN.same rfl, SK.moved (u := U) (U := U.calling g mk a) (Vm.Alike.refl U.vm) qS⟩, va_recv hK hPc (ci := 6) (q0 := 0) rfl rfl, fun U hU hW => ⟨rfl, by rw [hU], by rw [hU]; exact hPc, va_K.moved hW.alike hK, hDc.weaken (fun _ _ _ _ => trivial), hN.warm hW, by rw [hU]; exact ((hSK.kept hS.2.1).narrow hFc).moved hW.alike⟩⟩ rfl rfl hl.1 rfl (lv_room (Nat.le_of_ble_eq_true rfl)) dX6_readList_3 ⟨Nat.le_of_ble_eq_true rfl, Nat.le_of_ble_eq_true rfl⟩) hS (fun q _ h => hFc q h) hFc (fun r_1 u t H_2 locs ht hvm hw hB hz1 hk1 hS2 => ?_)
  obtain ⟨hP1, hK1, hD1⟩ := hB
  rw [ht] at hP1
  obtain rfl := hw
  obtain ⟨hP2, hD2⟩ := va_join (wr := []) (w1 := [(a0, .inr (6, [.int 0, .int 0, .ref a1, .int 21, .int 0, .int 0, .int 0, .int 0, .ref a2])), (a1, .inr (5, [.ref cb, .int 81, .int 0, .ref a3, .int 3, .ref a4, .int 0, .ref a5, .int 1, .int 1, .ref a6, .int 6, .int 0, .int 1, .int 0]))]) hP hD [0, 1] [] rfl rfl (by decide) (by decide) hk1 hFc hP1 hD1
  replace hP : va_P (dC, dI) vwCl [(a0, .inr (6, [.int 0, .int 0, .ref a1, .int 21, .int 0, .int 0, .int 0, .int 0, .ref a2])), (a1, .inr (5, [.ref cb, .int 81, .int 0, .ref a3, .int 3, .ref a4, .int 0, .ref a5, .int 1, .int 1, .ref a6, .int 6, .int 0, .int 1, .int 0]))] H_2 := hP2
  replace hD : va_D A [(a0, .inr (6, [.int 0, .int 0, .ref a1, .int 21, .int 0, .int 0, .int 0, .int 0, .ref a2])), (a1, .inr (5, [.ref cb, .int 81, .int 0, .ref a3, .int 3, .ref a4, .int 0, .ref a5, .int 1, .int 1, .ref a6, .int 6, .int 0, .int 1, .int 0]))] := hD2
  replace hS := hS2
  clear hP2 hD2 hS2
  clear hPc hDc hFc hP1 hD1 hK1 hk1 hz1 hvm ht
  refine W.widen (k := 0) (n := 0) (Nat.le_of_ble_eq_true rfl) (Nat.le_of_ble_eq_true rfl) ?_
  refine lv_istore_n (lv' := [(2, .int 0), (0, .ref a0), (1, .int 32)]) hx hb dX6_readList_6 rfl hl (by decide) rfl (fun ls hl2 => ?_)
  replace hl := hl2
  clear hl2
  refine lv_aload_n hx hb dX6_readList_7 rfl (lv_at hl 1 rfl) ?_
  refine lv_iload_n hx hb dX6_readList_8 rfl (lv_at hl 0 rfl) ?_
  refine lv_iconst (v := 1) hx hb dX6_readList_9 (by decide) ?_
  have hPc := hP.sub (ws' := [(a0, .inr (6, [.int 0, .int 0, .ref a1, .int 21, .int 0, .int 0, .int 0, .int 0, .ref a2]))]) [0] rfl
  have hDc := hD.sub (ws' := [(a0, .inr (6, [.int 0, .int 0, .ref a1, .int 21, .int 0, .int 0, .int 0, .int 0, .ref a2]))]) [0] (by decide) rfl
  have hFc := va_free (wc := [(a0, .inr (6, [.int 0, .int 0, .ref a1, .int 21, .int 0, .int 0, .int 0, .int 0, .ref a2]))]) hD hS hA [0] rfl
  refine va_callv (va_runV (As := [.int 0, .int 1]) (rest := []) ⟨hx, hb, hml, hown, hts⟩ (cc_67_X6_readTypes l dC dI cy H_2.size cb a0 a1 a2) (cwV 2 hts gX6_readList_X6_readTypes rfl rfl rfl (by decide +kernel) ⟨Nat.le_of_ble_eq_true rfl, Nat.le_of_ble_eq_true rfl⟩) ⟨fun a U g mk q => by obtain ⟨q0, q1, qP, qK, qD, qN, qS⟩ := q; exact ⟨q0, q1, qP, va_K.moved (u := U) (U := U.calling g mk a) (Vm.Alike.refl U.vm) qK, qD, qN.same rfl, SK.moved (u := U) (U := U.calling g mk a) (Vm.Alike.refl U.vm) qS⟩, va_recv hK hPc (ci := 6) (q0 := 0) rfl rfl, fun U hU hW => ⟨rfl, by rw [hU], by rw [hU]; exact hPc, va_K.moved hW.alike hK, hDc.weaken (fun _ _ _ _ => trivial), hN.warm hW, by rw [hU]; exact ((hSK.kept hS.2.1).narrow hFc).moved hW.alike⟩⟩ rfl rfl hl.1 rfl (lv_room (Nat.le_of_ble_eq_true rfl)) dX6_readList_10 ⟨Nat.le_of_ble_eq_true rfl, Nat.le_of_ble_eq_true rfl⟩) hS (fun q _ h => hFc q h) hFc (fun u t H_3 locs ht hvm hw hB hz1 hk1 hS2 => ?_)
  obtain ⟨hP1, hK1, hD1⟩ := hB
  rw [ht] at hP1
  obtain ⟨hP2, hD2⟩ := va_join (wr := [(a1, .inr (5, [.ref cb, .int 81, .int 0, .ref a3, .int 3, .ref a4, .int 0, .ref a5, .int 1, .int 1, .ref a6, .int 6, .int 0, .int 1, .int 0]))]) (w1 := [(a0, .inr (6, [.int 0, .int 0, .ref a1, .int 21, .int 0, .int 0, .int 0, .int 0, .ref a2]))]) hP hD [0] [1] rfl rfl (by decide) (by decide) hk1 hFc hP1 hD1
  replace hP : va_P (dC, dI) vwCl [(a1, .inr (5, [.ref cb, .int 81, .int 0, .ref a3, .int 3, .ref a4, .int 0, .ref a5, .int 1, .int 1, .ref a6, .int 6, .int 0, .int 1, .int 0])), (a0, .inr (6, [.int 0, .int 0, .ref a1, .int 21, .int 0, .int 0, .int 0, .int 0, .ref a2]))] H_3 := hP2
  replace hD : va_D A [(a1, .inr (5, [.ref cb, .int 81, .int 0, .ref a3, .int 3, .ref a4, .int 0, .ref a5, .int 1, .int 1, .ref a6, .int 6, .int 0, .int 1, .int 0])), (a0, .inr (6, [.int 0, .int 0, .ref a1, .int 21, .int 0, .int 0, .int 0, .int 0, .ref a2]))] := hD2
  replace hS := hS2
  clear hP2 hD2 hS2
  clear hPc hDc hFc hP1 hD1 hK1 hk1 hz1 hvm ht
  refine W.widen (k := 0) (n := 0) (Nat.le_of_ble_eq_true rfl) (Nat.le_of_ble_eq_true rfl) ?_
  refine lv_iload_n hx hb dX6_readList_13 rfl (lv_at hl 0 rfl) ?_
  have hP := hP.sub (ws' := [(a0, .inr (6, [.int 0, .int 0, .ref a1, .int 21, .int 0, .int 0, .int 0, .int 0, .ref a2])), (a1, .inr (5, [.ref cb, .int 81, .int 0, .ref a3, .int 3, .ref a4, .int 0, .ref a5, .int 1, .int 1, .ref a6, .int 6, .int 0, .int 1, .int 0]))]) [1, 0] rfl
  have hD := hD.sub (ws' := [(a0, .inr (6, [.int 0, .int 0, .ref a1, .int 21, .int 0, .int 0, .int 0, .int 0, .ref a2])), (a1, .inr (5, [.ref cb, .int 81, .int 0, .ref a3, .int 3, .ref a4, .int 0, .ref a5, .int 1, .int 1, .ref a6, .int 6, .int 0, .int 1, .int 0]))]) [1, 0] (by decide) rfl
  exact W.iret hx hb hr (fun t ht hW => ⟨⟨0, (), rfl, rfl, by rw [ht]; exact hP, va_K.moved hW.alike hK, hD⟩, hS.F ht⟩) hS.2.2 dX6_readList_14

set_option maxHeartbeats 4000000 in
set_option maxRecDepth 100000 in
theorem cc_68_X5_setFunction (l : Launch) (dC : Nat → ClassId) (dI : Nat → Nat → Nat) (cy : Nat → ClassId) (sz : Nat) (cb : Nat) (a0 : Nat) (a1 : Nat) (a2 : Nat) (a3 : Nat) (a4 : Nat) (f0 : Nat → Int32)  : Met l yX5_setFunction wsX5_setFunction ({ frames := 0, cells := 0, slots := 0, locals := 0 }) (va_Pc [.ref a0, .int 0, .int 4, .int 0] (fun U => U.heap.size = sz ∧ va_P (dC, dI) vwCl [(a0, .inr (5, [.ref cb, .int 81, .int 0, .ref a2, .int 3, .ref a3, .int 0, .ref a4, .int 1, .int 1, .ref a1, .int 6, .int 0, .int 1, .int 0])), (a1, .inl (cy 1, 864, .inl f0))] U.heap ∧ va_K (dC, dI) vwCl (TYS cy) U ∧ va_D (fun _ => True) [(a0, .inr (5, [.ref cb, .int 81, .int 0, .ref a2, .int 3, .ref a3, .int 0, .ref a4, .int 1, .int 1, .ref a1, .int 6, .int 0, .int 1, .int 0])), (a1, .inl (cy 1, 864, .inl f0))] ∧ NK U ∧ SK cb (va_A [(a0, .inr (5, [.ref cb, .int 81, .int 0, .ref a2, .int 3, .ref a3, .int 0, .ref a4, .int 1, .int 1, .ref a1, .int 6, .int 0, .int 1, .int 0])), (a1, .inl (cy 1, 864, .inl f0))] sz) U U.heap)) (va_Qv (fun u : (Nat → Int32) => True) (fun u t => match u with | (u0) => va_P (dC, dI) vwCl [(a0, .inr (5, [.ref cb, .int 81, .int 0, .ref a2, .int 3, .ref a3, .int 0, .ref a4, .int 1, .int 1, .ref a1, .int 6, .int 0, .int 1, .int 0])), (a1, .inl (cy 1, 864, .inl u0))] t.heap ∧ va_K (dC, dI) vwCl (TYS cy) t ∧ va_D (va_A [(a0, .inr (5, [.ref cb, .int 81, .int 0, .ref a2, .int 3, .ref a3, .int 0, .ref a4, .int 1, .int 1, .ref a1, .int 6, .int 0, .int 1, .int 0])), (a1, .inl (cy 1, 864, .inl f0))] sz) [(a0, .inr (5, [.ref cb, .int 81, .int 0, .ref a2, .int 3, .ref a3, .int 0, .ref a4, .int 1, .int 1, .ref a1, .int 6, .int 0, .int 1, .int 0])), (a1, .inl (cy 1, 864, .inl u0))]) (va_A [(a0, .inr (5, [.ref cb, .int 81, .int 0, .ref a2, .int 3, .ref a3, .int 0, .ref a4, .int 1, .int 1, .ref a1, .int 6, .int 0, .int 1, .int 0])), (a1, .inl (cy 1, 864, .inl f0))] sz)) 0 0 (va_A [(a0, .inr (5, [.ref cb, .int 81, .int 0, .ref a2, .int 3, .ref a3, .int 0, .ref a4, .int 1, .int 1, .ref a1, .int 6, .int 0, .int 1, .int 0])), (a1, .inl (cy 1, 864, .inl f0))] sz) := by
  refine Met.ofW (cc := cX5_setFunction) (maxL := 4) (ret := none) (by decide) rfl ?_
  intro p e s m args below meth c s₁ B hml hv
  obtain ⟨rfl, hsz, hP, hK, hD0, hN, hSK⟩ := hv
  have hx := B.exec
  have hb := B.bytes
  have hr := B.returns
  have hts := atoms_spec (ws := wsX5_setFunction) B.pre
  have hown : s.vm.findClass RX5 = some m.cls := findClass_of_methodNamed B.named
  have hlocks := B.notSynchronized
  subst hsz
  have hD := hD0.self (sz := s.heap.size)
  generalize hAe : va_A [(a0, .inr (5, [.ref cb, .int 81, .int 0, .ref a2, .int 3, .ref a3, .int 0, .ref a4, .int 1, .int 1, .ref a1, .int 6, .int 0, .int 1, .int 0])), (a1, .inl (cy 1, 864, .inl f0))] s.heap.size = A at hD hSK ⊢
  have hA : ∀ q : Nat, s.heap.size ≤ q → A q := fun q h => by rw [← hAe]; exact Or.inr h
  have hS : va_S A s.heap s.heap [] := va_S.rf
  have hP : va_P (dC, dI) vwCl [(a0, .inr (5, [.ref cb, .int 81, .int 0, .ref a2, .int 3, .ref a3, .int 0, .ref a4, .int 1, .int 1, .ref a1, .int 6, .int 0, .int 1, .int 0])), (a1, .inl (cy 1, 864, .inl f0))] s.heap := hP
  have hl := lv_entry ([.ref a0, .int 0, .int 4, .int 0]) (n := 4) (Nat.le_of_ble_eq_true rfl)
  rw [lg_entry_eq]
  generalize (lg_sl ([.ref a0, .int 0, .int 4, .int 0]) ++ List.replicate (4 - (lg_sl ([.ref a0, .int 0, .int 4, .int 0])).length) Slot.unset).toArray = ls at hl ⊢
  replace hl : lv_has ls 4 [(0, .ref a0), (1, .int 0), (2, .int 4), (3, .int 0)] := hl
  refine lv_iload_n hx hb dX5_setFunction_0 rfl (lv_at hl 1 rfl) ?_
  refine lv_if_lt (tgt := 22) hx hb dX5_setFunction_1 (by decide) (fun h => absurd h (by decide)) (fun _ => ?_)
  refine lv_iload_n hx hb dX5_setFunction_4 rfl (lv_at hl 1 rfl) ?_
  refine lv_bipush (v := 96) hx hb dX5_setFunction_5 (by decide) ?_
  refine lv_icmp_ge (tgt := 22) hx hb dX5_setFunction_7 (by decide) (fun h => absurd h (by decide)) (fun _ => ?_)
  refine lv_aload_n hx hb dX5_setFunction_10 rfl (lv_at hl 0 rfl) ?_
  refine va_get (D := (dC, dI)) (ci := 5) (v := .ref a1) (C := RX5) (T := TX5) (N := 15) hx hb hts iw_X5_setFunction_X5 hown hK hP 0 rfl rfl 10 (by decide) (hts _ m_X5_setFunction_1) (fun _ h9 => h9) rfl dX5_setFunction_11 ?_
  refine lv_iload_n hx hb dX5_setFunction_14 rfl (lv_at hl 1 rfl) ?_
  refine lv_bipush (v := 9) hx hb dX5_setFunction_15 (by decide) ?_
  refine lv_imul hx hb dX5_setFunction_17 ?_
  refine lv_topi (fun z_1 ez_1 => ?_)
  obtain rfl : z_1 = 0 := ez_1.trans (by decide)
  clear ez_1
  refine lv_iload_n hx hb dX5_setFunction_18 rfl (lv_at hl 2 rfl) ?_
  refine lv_iadd hx hb dX5_setFunction_19 ?_
  refine lv_topi (fun z_2 ez_2 => ?_)
  obtain rfl : z_2 = 4 := ez_2.trans (by decide)
  clear ez_2
  refine lv_iload_n hx hb dX5_setFunction_20 rfl (lv_at hl 3 rfl) ?_
  refine va_iast hx hb hK hP hD hS 1 1 rfl rfl (by unfold vp_in; decide) dX5_setFunction_21 (fun H_4 locs hP2 hD2 hS2 => ?_)
  replace hP : va_P (dC, dI) vwCl [(a0, .inr (5, [.ref cb, .int 81, .int 0, .ref a2, .int 3, .ref a3, .int 0, .ref a4, .int 1, .int 1, .ref a1, .int 6, .int 0, .int 1, .int 0])), (a1, .inl (cy 1, 864, .inl (upd f0 4 0)))] H_4 := hP2
  replace hD : va_D A [(a0, .inr (5, [.ref cb, .int 81, .int 0, .ref a2, .int 3, .ref a3, .int 0, .ref a4, .int 1, .int 1, .ref a1, .int 6, .int 0, .int 1, .int 0])), (a1, .inl (cy 1, 864, .inl (upd f0 4 0)))] := hD2
  replace hS := hS2
  clear hP2 hD2 hS2
  obtain ⟨g_3, eg_3⟩ : ∃ z, upd f0 4 0 = z := ⟨_, rfl⟩
  rw [eg_3] at hP hD
  exact W.vret hx hb hr (fun t ht hW => ⟨⟨(g_3), rfl, trivial, by rw [ht]; exact hP, va_K.moved hW.alike hK, hD⟩, hS.F ht⟩) hS.2.2 dX5_setFunction_22

set_option maxHeartbeats 4000000 in
set_option maxRecDepth 100000 in
theorem cc_70_X6_readByte (l : Launch) (dC : Nat → ClassId) (dI : Nat → Nat → Nat) (cy : Nat → ClassId) (sz : Nat) (cb : Nat) (a0 : Nat) (a1 : Nat) (a2 : Nat) (a3 : Nat) (a4 : Nat) (a5 : Nat) (a6 : Nat)  : Met l yX6_readByte wsX6_readByte ({ frames := 0, cells := 0, slots := 0, locals := 0 }) (va_Pc [.ref a0] (fun U => U.heap.size = sz ∧ va_P (dC, dI) vwCl [(a0, .inr (6, [.int 0, .int 0, .ref a1, .int 21, .int 0, .int 0, .int 1, .int 0, .ref a2])), (a1, .inr (5, [.ref cb, .int 81, .int 0, .ref a3, .int 3, .ref a4, .int 0, .ref a5, .int 1, .int 1, .ref a6, .int 6, .int 0, .int 1, .int 0]))] U.heap ∧ va_K (dC, dI) vwCl (TYS cy) U ∧ va_D (fun _ => True) [(a0, .inr (6, [.int 0, .int 0, .ref a1, .int 21, .int 0, .int 0, .int 1, .int 0, .ref a2])), (a1, .inr (5, [.ref cb, .int 81, .int 0, .ref a3, .int 3, .ref a4, .int 0, .ref a5, .int 1, .int 1, .ref a6, .int 6, .int 0, .int 1, .int 0]))] ∧ NK U ∧ SK cb (va_A [(a0, .inr (6, [.int 0, .int 0, .ref a1, .int 21, .int 0, .int 0, .int 1, .int 0, .ref a2])), (a1, .inr (5, [.ref cb, .int 81, .int 0, .ref a3, .int 3, .ref a4, .int 0, .ref a5, .int 1, .int 1, .ref a6, .int 6, .int 0, .int 1, .int 0]))] sz) U U.heap)) (va_Qi (fun (r : Int32) (u : Unit) => r = 0) (fun u t => va_P (dC, dI) vwCl [(a0, .inr (6, [.int 0, .int 0, .ref a1, .int 22, .int 0, .int 0, .int 1, .int 0, .ref a2])), (a1, .inr (5, [.ref cb, .int 81, .int 0, .ref a3, .int 3, .ref a4, .int 0, .ref a5, .int 1, .int 1, .ref a6, .int 6, .int 0, .int 1, .int 0]))] t.heap ∧ va_K (dC, dI) vwCl (TYS cy) t ∧ va_D (va_A [(a0, .inr (6, [.int 0, .int 0, .ref a1, .int 21, .int 0, .int 0, .int 1, .int 0, .ref a2])), (a1, .inr (5, [.ref cb, .int 81, .int 0, .ref a3, .int 3, .ref a4, .int 0, .ref a5, .int 1, .int 1, .ref a6, .int 6, .int 0, .int 1, .int 0]))] sz) [(a0, .inr (6, [.int 0, .int 0, .ref a1, .int 22, .int 0, .int 0, .int 1, .int 0, .ref a2])), (a1, .inr (5, [.ref cb, .int 81, .int 0, .ref a3, .int 3, .ref a4, .int 0, .ref a5, .int 1, .int 1, .ref a6, .int 6, .int 0, .int 1, .int 0]))]) (va_A [(a0, .inr (6, [.int 0, .int 0, .ref a1, .int 21, .int 0, .int 0, .int 1, .int 0, .ref a2])), (a1, .inr (5, [.ref cb, .int 81, .int 0, .ref a3, .int 3, .ref a4, .int 0, .ref a5, .int 1, .int 1, .ref a6, .int 6, .int 0, .int 1, .int 0]))] sz)) 0 0 (va_A [(a0, .inr (6, [.int 0, .int 0, .ref a1, .int 21, .int 0, .int 0, .int 1, .int 0, .ref a2])), (a1, .inr (5, [.ref cb, .int 81, .int 0, .ref a3, .int 3, .ref a4, .int 0, .ref a5, .int 1, .int 1, .ref a6, .int 6, .int 0, .int 1, .int 0]))] sz) := by
  refine Met.ofW (cc := cX6_readByte) (maxL := 1) (ret := (some .int)) (by decide) rfl ?_
  intro p e s m args below meth c s₁ B hml hv
  obtain ⟨rfl, hsz, hP, hK, hD0, hN, hSK⟩ := hv
  have hx := B.exec
  have hb := B.bytes
  have hr := B.returns
  have hts := atoms_spec (ws := wsX6_readByte) B.pre
  have hown : s.vm.findClass RX6 = some m.cls := findClass_of_methodNamed B.named
  have hlocks := B.notSynchronized
  subst hsz
  have hD := hD0.self (sz := s.heap.size)
  generalize hAe : va_A [(a0, .inr (6, [.int 0, .int 0, .ref a1, .int 21, .int 0, .int 0, .int 1, .int 0, .ref a2])), (a1, .inr (5, [.ref cb, .int 81, .int 0, .ref a3, .int 3, .ref a4, .int 0, .ref a5, .int 1, .int 1, .ref a6, .int 6, .int 0, .int 1, .int 0]))] s.heap.size = A at hD hSK ⊢
  have hA : ∀ q : Nat, s.heap.size ≤ q → A q := fun q h => by rw [← hAe]; exact Or.inr h
  have hS : va_S A s.heap s.heap [] := va_S.rf
  have hP : va_P (dC, dI) vwCl [(a0, .inr (6, [.int 0, .int 0, .ref a1, .int 21, .int 0, .int 0, .int 1, .int 0, .ref a2])), (a1, .inr (5, [.ref cb, .int 81, .int 0, .ref a3, .int 3, .ref a4, .int 0, .ref a5, .int 1, .int 1, .ref a6, .int 6, .int 0, .int 1, .int 0]))] s.heap := hP
  have hl := lv_entry ([.ref a0]) (n := 1) (Nat.le_of_ble_eq_true rfl)
  rw [lg_entry_eq]
  generalize (lg_sl ([.ref a0]) ++ List.replicate (1 - (lg_sl ([.ref a0])).length) Slot.unset).toArray = ls at hl ⊢
  replace hl : lv_has ls 1 [(0, .ref a0)] := hl
  refine lv_aload_n hx hb dX6_readByte_0 rfl (lv_at hl 0 rfl) ?_
  refine va_get (D := (dC, dI)) (ci := 6) (v := .int 0) (C := RX6) (T := TX6) (N := 9) hx hb hts iw_X6_readByte_X6 hown hK hP 0 rfl rfl 1 (by decide) (hts _ m_X6_readByte_1) (fun _ h9 => h9) rfl dX6_readByte_1 ?_
  refine lv_if_eq (tgt := 9) hx hb dX6_readByte_4 (by decide) (fun _ => ?_) (fun h => absurd (by decide) h)
  refine lv_aload_n hx hb dX6_readByte_9 rfl (lv_at hl 0 rfl) ?_
  refine va_get (D := (dC, dI)) (ci := 6) (v := .int 21) (C := RX6) (T := TX6) (N := 9) hx hb hts iw_X6_readByte_X6 hown hK hP 0 rfl rfl 3 (by decide) (hts _ m_X6_readByte_2) (fun _ h9 => h9) rfl dX6_readByte_10 ?_
  refine lv_aload_n hx hb dX6_readByte_13 rfl (lv_at hl 0 rfl) ?_
  refine va_get (D := (dC, dI)) (ci := 6) (v := .ref a1) (C := RX6) (T := TX6) (N := 9) hx hb hts iw_X6_readByte_X6 hown hK hP 0 rfl rfl 2 (by decide) (hts _ m_X6_readByte_3) (fun _ h9 => h9) rfl dX6_readByte_14 ?_
  refine va_get (D := (dC, dI)) (ci := 5) (v := .int 81) (C := RX5) (T := TX5) (N := 15) hx hb hts iw_X6_readByte_X5 hown hK hP 1 rfl rfl 1 (by decide) (hts _ m_X6_readByte_4) (fun _ h9 => h9) rfl dX6_readByte_17 ?_
  refine lv_icmp_lt (tgt := 41) hx hb dX6_readByte_20 (by decide) (fun _ => ?_) (fun h => absurd (by decide) h)
  refine lv_aload_n hx hb dX6_readByte_41 rfl (lv_at hl 0 rfl) ?_
  refine va_get (D := (dC, dI)) (ci := 6) (v := .ref a1) (C := RX6) (T := TX6) (N := 9) hx hb hts iw_X6_readByte_X6 hown hK hP 0 rfl rfl 2 (by decide) (hts _ m_X6_readByte_3) (fun _ h9 => h9) rfl dX6_readByte_42 ?_
  refine va_get (D := (dC, dI)) (ci := 5) (v := .ref cb) (C := RX5) (T := TX5) (N := 15) hx hb hts iw_X6_readByte_X5 hown hK hP 1 rfl rfl 0 (by decide) (hts _ m_X6_readByte_6) (fun _ h9 => h9) rfl dX6_readByte_45 ?_
  refine lv_aload_n hx hb dX6_readByte_48 rfl (lv_at hl 0 rfl) ?_
  refine lv_dup hx hb dX6_readByte_49 rfl ?_
  refine va_get (D := (dC, dI)) (ci := 6) (v := .int 21) (C := RX6) (T := TX6) (N := 9) hx hb hts iw_X6_readByte_X6 hown hK hP 0 rfl rfl 3 (by decide) (hts _ m_X6_readByte_2) (fun _ h9 => h9) rfl dX6_readByte_50 ?_
  refine lv_dup_x1 hx hb dX6_readByte_53 rfl rfl ?_
  refine lv_iconst (v := 1) hx hb dX6_readByte_54 (by decide) ?_
  refine lv_iadd hx hb dX6_readByte_55 ?_
  refine lv_topi (fun z_1 ez_1 => ?_)
  obtain rfl : z_1 = 22 := ez_1.trans (by decide)
  clear ez_1
  refine va_put (D := (dC, dI)) (ci := 6) (v := .int 22) (ty := .int) (C := RX6) (T := TX6) (N := 9) hx hb hts iw_X6_readByte_X6 tyX6 tyX6_ok nmX6 hown hK hP hD hS 0 rfl rfl 3 (by decide) (hts _ m_X6_readByte_2) (fun _ h9 => h9) rfl (by decide +kernel) rfl rfl (Nat.le_of_ble_eq_true rfl) dX6_readByte_56 (fun H_2 locs hP2 hD2 hS2 => ?_)
  replace hP : va_P (dC, dI) vwCl [(a0, .inr (6, [.int 0, .int 0, .ref a1, .int 22, .int 0, .int 0, .int 1, .int 0, .ref a2])), (a1, .inr (5, [.ref cb, .int 81, .int 0, .ref a3, .int 3, .ref a4, .int 0, .ref a5, .int 1, .int 1, .ref a6, .int 6, .int 0, .int 1, .int 0]))] H_2 := hP2
  replace hD : va_D A [(a0, .inr (6, [.int 0, .int 0, .ref a1, .int 22, .int 0, .int 0, .int 1, .int 0, .ref a2])), (a1, .inr (5, [.ref cb, .int 81, .int 0, .ref a3, .int 3, .ref a4, .int 0, .ref a5, .int 1, .int 1, .ref a6, .int 6, .int 0, .int 1, .int 0]))] := hD2
  replace hS := hS2
  clear hP2 hD2 hS2
  refine va_tb (v := .int 0) hx hb hSK.2 hS (by unfold vp_in; decide) rfl dX6_readByte_59 ?_
  refine lv_sipush (v := 255) hx hb dX6_readByte_60 (by decide) ?_
  refine lv_iand hx hb dX6_readByte_63 ?_
  refine lv_topi (fun z_3 ez_3 => ?_)
  obtain rfl : z_3 = 0 := ez_3.trans (by decide)
  clear ez_3
  exact W.iret hx hb hr (fun t ht hW => ⟨⟨0, (), rfl, rfl, by rw [ht]; exact hP, va_K.moved hW.alike hK, hD⟩, hS.F ht⟩) hS.2.2 dX6_readByte_64

set_option maxHeartbeats 4000000 in
set_option maxRecDepth 100000 in
theorem cc_71_X6_readByte (l : Launch) (dC : Nat → ClassId) (dI : Nat → Nat → Nat) (cy : Nat → ClassId) (sz : Nat) (cb : Nat) (a0 : Nat) (a1 : Nat) (a2 : Nat) (a3 : Nat) (a4 : Nat) (a5 : Nat) (a6 : Nat)  : Met l yX6_readByte wsX6_readByte ({ frames := 0, cells := 0, slots := 0, locals := 0 }) (va_Pc [.ref a0] (fun U => U.heap.size = sz ∧ va_P (dC, dI) vwCl [(a0, .inr (6, [.int 0, .int 0, .ref a1, .int 22, .int 0, .int 0, .int 1, .int 0, .ref a2])), (a1, .inr (5, [.ref cb, .int 81, .int 0, .ref a3, .int 3, .ref a4, .int 0, .ref a5, .int 1, .int 1, .ref a6, .int 6, .int 0, .int 1, .int 0]))] U.heap ∧ va_K (dC, dI) vwCl (TYS cy) U ∧ va_D (fun _ => True) [(a0, .inr (6, [.int 0, .int 0, .ref a1, .int 22, .int 0, .int 0, .int 1, .int 0, .ref a2])), (a1, .inr (5, [.ref cb, .int 81, .int 0, .ref a3, .int 3, .ref a4, .int 0, .ref a5, .int 1, .int 1, .ref a6, .int 6, .int 0, .int 1, .int 0]))] ∧ NK U ∧ SK cb (va_A [(a0, .inr (6, [.int 0, .int 0, .ref a1, .int 22, .int 0, .int 0, .int 1, .int 0, .ref a2])), (a1, .inr (5, [.ref cb, .int 81, .int 0, .ref a3, .int 3, .ref a4, .int 0, .ref a5, .int 1, .int 1, .ref a6, .int 6, .int 0, .int 1, .int 0]))] sz) U U.heap)) (va_Qi (fun (r : Int32) (u : Unit) => r = 1) (fun u t => va_P (dC, dI) vwCl [(a0, .inr (6, [.int 0, .int 0, .ref a1, .int 23, .int 0, .int 0, .int 1, .int 0, .ref a2])), (a1, .inr (5, [.ref cb, .int 81, .int 0, .ref a3, .int 3, .ref a4, .int 0, .ref a5, .int 1, .int 1, .ref a6, .int 6, .int 0, .int 1, .int 0]))] t.heap ∧ va_K (dC, dI) vwCl (TYS cy) t ∧ va_D (va_A [(a0, .inr (6, [.int 0, .int 0, .ref a1, .int 22, .int 0, .int 0, .int 1, .int 0, .ref a2])), (a1, .inr (5, [.ref cb, .int 81, .int 0, .ref a3, .int 3, .ref a4, .int 0, .ref a5, .int 1, .int 1, .ref a6, .int 6, .int 0, .int 1, .int 0]))] sz) [(a0, .inr (6, [.int 0, .int 0, .ref a1, .int 23, .int 0, .int 0, .int 1, .int 0, .ref a2])), (a1, .inr (5, [.ref cb, .int 81, .int 0, .ref a3, .int 3, .ref a4, .int 0, .ref a5, .int 1, .int 1, .ref a6, .int 6, .int 0, .int 1, .int 0]))]) (va_A [(a0, .inr (6, [.int 0, .int 0, .ref a1, .int 22, .int 0, .int 0, .int 1, .int 0, .ref a2])), (a1, .inr (5, [.ref cb, .int 81, .int 0, .ref a3, .int 3, .ref a4, .int 0, .ref a5, .int 1, .int 1, .ref a6, .int 6, .int 0, .int 1, .int 0]))] sz)) 0 0 (va_A [(a0, .inr (6, [.int 0, .int 0, .ref a1, .int 22, .int 0, .int 0, .int 1, .int 0, .ref a2])), (a1, .inr (5, [.ref cb, .int 81, .int 0, .ref a3, .int 3, .ref a4, .int 0, .ref a5, .int 1, .int 1, .ref a6, .int 6, .int 0, .int 1, .int 0]))] sz) := by
  refine Met.ofW (cc := cX6_readByte) (maxL := 1) (ret := (some .int)) (by decide) rfl ?_
  intro p e s m args below meth c s₁ B hml hv
  obtain ⟨rfl, hsz, hP, hK, hD0, hN, hSK⟩ := hv
  have hx := B.exec
  have hb := B.bytes
  have hr := B.returns
  have hts := atoms_spec (ws := wsX6_readByte) B.pre
  have hown : s.vm.findClass RX6 = some m.cls := findClass_of_methodNamed B.named
  have hlocks := B.notSynchronized
  subst hsz
  have hD := hD0.self (sz := s.heap.size)
  generalize hAe : va_A [(a0, .inr (6, [.int 0, .int 0, .ref a1, .int 22, .int 0, .int 0, .int 1, .int 0, .ref a2])), (a1, .inr (5, [.ref cb, .int 81, .int 0, .ref a3, .int 3, .ref a4, .int 0, .ref a5, .int 1, .int 1, .ref a6, .int 6, .int 0, .int 1, .int 0]))] s.heap.size = A at hD hSK ⊢
  have hA : ∀ q : Nat, s.heap.size ≤ q → A q := fun q h => by rw [← hAe]; exact Or.inr h
  have hS : va_S A s.heap s.heap [] := va_S.rf
  have hP : va_P (dC, dI) vwCl [(a0, .inr (6, [.int 0, .int 0, .ref a1, .int 22, .int 0, .int 0, .int 1, .int 0, .ref a2])), (a1, .inr (5, [.ref cb, .int 81, .int 0, .ref a3, .int 3, .ref a4, .int 0, .ref a5, .int 1, .int 1, .ref a6, .int 6, .int 0, .int 1, .int 0]))] s.heap := hP
  have hl := lv_entry ([.ref a0]) (n := 1) (Nat.le_of_ble_eq_true rfl)
  rw [lg_entry_eq]
  generalize (lg_sl ([.ref a0]) ++ List.replicate (1 - (lg_sl ([.ref a0])).length) Slot.unset).toArray = ls at hl ⊢
  replace hl : lv_has ls 1 [(0, .ref a0)] := hl
  refine lv_aload_n hx hb dX6_readByte_0 rfl (lv_at hl 0 rfl) ?_
  refine va_get (D := (dC, dI)) (ci := 6) (v := .int 0) (C := RX6) (T := TX6) (N := 9) hx hb hts iw_X6_readByte_X6 hown hK hP 0 rfl rfl 1 (by decide) (hts _ m_X6_readByte_1) (fun _ h9 => h9) rfl dX6_readByte_1 ?_
  refine lv_if_eq (tgt := 9) hx hb dX6_readByte_4 (by decide) (fun _ => ?_) (fun h => absurd (by decide) h)
  refine lv_aload_n hx hb dX6_readByte_9 rfl (lv_at hl 0 rfl) ?_
  refine va_get (D := (dC, dI)) (ci := 6) (v := .int 22) (C := RX6) (T := TX6) (N := 9) hx hb hts iw_X6_readByte_X6 hown hK hP 0 rfl rfl 3 (by decide) (hts _ m_X6_readByte_2) (fun _ h9 => h9) rfl dX6_readByte_10 ?_
  refine lv_aload_n hx hb dX6_readByte_13 rfl (lv_at hl 0 rfl) ?_
  refine va_get (D := (dC, dI)) (ci := 6) (v := .ref a1) (C := RX6) (T := TX6) (N := 9) hx hb hts iw_X6_readByte_X6 hown hK hP 0 rfl rfl 2 (by decide) (hts _ m_X6_readByte_3) (fun _ h9 => h9) rfl dX6_readByte_14 ?_
  refine va_get (D := (dC, dI)) (ci := 5) (v := .int 81) (C := RX5) (T := TX5) (N := 15) hx hb hts iw_X6_readByte_X5 hown hK hP 1 rfl rfl 1 (by decide) (hts _ m_X6_readByte_4) (fun _ h9 => h9) rfl dX6_readByte_17 ?_
  refine lv_icmp_lt (tgt := 41) hx hb dX6_readByte_20 (by decide) (fun _ => ?_) (fun h => absurd (by decide) h)
  refine lv_aload_n hx hb dX6_readByte_41 rfl (lv_at hl 0 rfl) ?_
  refine va_get (D := (dC, dI)) (ci := 6) (v := .ref a1) (C := RX6) (T := TX6) (N := 9) hx hb hts iw_X6_readByte_X6 hown hK hP 0 rfl rfl 2 (by decide) (hts _ m_X6_readByte_3) (fun _ h9 => h9) rfl dX6_readByte_42 ?_
  refine va_get (D := (dC, dI)) (ci := 5) (v := .ref cb) (C := RX5) (T := TX5) (N := 15) hx hb hts iw_X6_readByte_X5 hown hK hP 1 rfl rfl 0 (by decide) (hts _ m_X6_readByte_6) (fun _ h9 => h9) rfl dX6_readByte_45 ?_
  refine lv_aload_n hx hb dX6_readByte_48 rfl (lv_at hl 0 rfl) ?_
  refine lv_dup hx hb dX6_readByte_49 rfl ?_
  refine va_get (D := (dC, dI)) (ci := 6) (v := .int 22) (C := RX6) (T := TX6) (N := 9) hx hb hts iw_X6_readByte_X6 hown hK hP 0 rfl rfl 3 (by decide) (hts _ m_X6_readByte_2) (fun _ h9 => h9) rfl dX6_readByte_50 ?_
  refine lv_dup_x1 hx hb dX6_readByte_53 rfl rfl ?_
  refine lv_iconst (v := 1) hx hb dX6_readByte_54 (by decide) ?_
  refine lv_iadd hx hb dX6_readByte_55 ?_
  refine lv_topi (fun z_1 ez_1 => ?_)
  obtain rfl : z_1 = 23 := ez_1.trans (by decide)
  clear ez_1
  refine va_put (D := (dC, dI)) (ci := 6) (v := .int 23) (ty := .int) (C := RX6) (T := TX6) (N := 9) hx hb hts iw_X6_readByte_X6 tyX6 tyX6_ok nmX6 hown hK hP hD hS 0 rfl rfl 3 (by decide) (hts _ m_X6_readByte_2) (fun _ h9 => h9) rfl (by decide +kernel) rfl rfl (Nat.le_of_ble_eq_true rfl) dX6_readByte_56 (fun H_2 locs hP2 hD2 hS2 => ?_)
  replace hP : va_P (dC, dI) vwCl [(a0, .inr (6, [.int 0, .int 0, .ref a1, .int 23, .int 0, .int 0, .int 1, .int 0, .ref a2])), (a1, .inr (5, [.ref cb, .int 81, .int 0, .ref a3, .int 3, .ref a4, .int 0, .ref a5, .int 1, .int 1, .ref a6, .int 6, .int 0, .int 1, .int 0]))] H_2 := hP2
  replace hD : va_D A [(a0, .inr (6, [.int 0, .int 0, .ref a1, .int 23, .int 0, .int 0, .int 1, .int 0, .ref a2])), (a1, .inr (5, [.ref cb, .int 81, .int 0, .ref a3, .int 3, .ref a4, .int 0, .ref a5, .int 1, .int 1, .ref a6, .int 6, .int 0, .int 1, .int 0]))] := hD2
  replace hS := hS2
  clear hP2 hD2 hS2
  refine va_tb (v := .int 1) hx hb hSK.2 hS (by unfold vp_in; decide) rfl dX6_readByte_59 ?_
  refine lv_sipush (v := 255) hx hb dX6_readByte_60 (by decide) ?_
  refine lv_iand hx hb dX6_readByte_63 ?_
  refine lv_topi (fun z_3 ez_3 => ?_)
  obtain rfl : z_3 = 1 := ez_3.trans (by decide)
  clear ez_3
  exact W.iret hx hb hr (fun t ht hW => ⟨⟨1, (), rfl, rfl, by rw [ht]; exact hP, va_K.moved hW.alike hK, hD⟩, hS.F ht⟩) hS.2.2 dX6_readByte_64

set_option maxHeartbeats 4000000 in
set_option maxRecDepth 100000 in
theorem cc_69_X6_readShort (l : Launch) (dC : Nat → ClassId) (dI : Nat → Nat → Nat) (cy : Nat → ClassId) (sz : Nat) (cb : Nat) (a0 : Nat) (a1 : Nat) (a2 : Nat) (a3 : Nat) (a4 : Nat) (a5 : Nat) (a6 : Nat)  : Met l yX6_readShort wsX6_readShort ({ frames := 1, cells := 0, slots := 0, locals := 20 }) (va_Pc [.ref a0] (fun U => U.heap.size = sz ∧ va_P (dC, dI) vwCl [(a0, .inr (6, [.int 0, .int 0, .ref a1, .int 21, .int 0, .int 0, .int 1, .int 0, .ref a2])), (a1, .inr (5, [.ref cb, .int 81, .int 0, .ref a3, .int 3, .ref a4, .int 0, .ref a5, .int 1, .int 1, .ref a6, .int 6, .int 0, .int 1, .int 0]))] U.heap ∧ va_K (dC, dI) vwCl (TYS cy) U ∧ va_D (fun _ => True) [(a0, .inr (6, [.int 0, .int 0, .ref a1, .int 21, .int 0, .int 0, .int 1, .int 0, .ref a2])), (a1, .inr (5, [.ref cb, .int 81, .int 0, .ref a3, .int 3, .ref a4, .int 0, .ref a5, .int 1, .int 1, .ref a6, .int 6, .int 0, .int 1, .int 0]))] ∧ NK U ∧ SK cb (va_A [(a0, .inr (6, [.int 0, .int 0, .ref a1, .int 21, .int 0, .int 0, .int 1, .int 0, .ref a2])), (a1, .inr (5, [.ref cb, .int 81, .int 0, .ref a3, .int 3, .ref a4, .int 0, .ref a5, .int 1, .int 1, .ref a6, .int 6, .int 0, .int 1, .int 0]))] sz) U U.heap)) (va_Qi (fun (r : Int32) (u : Unit) => r = 1) (fun u t => va_P (dC, dI) vwCl [(a0, .inr (6, [.int 0, .int 0, .ref a1, .int 23, .int 0, .int 0, .int 1, .int 0, .ref a2])), (a1, .inr (5, [.ref cb, .int 81, .int 0, .ref a3, .int 3, .ref a4, .int 0, .ref a5, .int 1, .int 1, .ref a6, .int 6, .int 0, .int 1, .int 0]))] t.heap ∧ va_K (dC, dI) vwCl (TYS cy) t ∧ va_D (va_A [(a0, .inr (6, [.int 0, .int 0, .ref a1, .int 21, .int 0, .int 0, .int 1, .int 0, .ref a2])), (a1, .inr (5, [.ref cb, .int 81, .int 0, .ref a3, .int 3, .ref a4, .int 0, .ref a5, .int 1, .int 1, .ref a6, .int 6, .int 0, .int 1, .int 0]))] sz) [(a0, .inr (6, [.int 0, .int 0, .ref a1, .int 23, .int 0, .int 0, .int 1, .int 0, .ref a2])), (a1, .inr (5, [.ref cb, .int 81, .int 0, .ref a3, .int 3, .ref a4, .int 0, .ref a5, .int 1, .int 1, .ref a6, .int 6, .int 0, .int 1, .int 0]))]) (va_A [(a0, .inr (6, [.int 0, .int 0, .ref a1, .int 21, .int 0, .int 0, .int 1, .int 0, .ref a2])), (a1, .inr (5, [.ref cb, .int 81, .int 0, .ref a3, .int 3, .ref a4, .int 0, .ref a5, .int 1, .int 1, .ref a6, .int 6, .int 0, .int 1, .int 0]))] sz)) 0 0 (va_A [(a0, .inr (6, [.int 0, .int 0, .ref a1, .int 21, .int 0, .int 0, .int 1, .int 0, .ref a2])), (a1, .inr (5, [.ref cb, .int 81, .int 0, .ref a3, .int 3, .ref a4, .int 0, .ref a5, .int 1, .int 1, .ref a6, .int 6, .int 0, .int 1, .int 0]))] sz) := by
  refine Met.ofW (cc := cX6_readShort) (maxL := 2) (ret := (some .int)) (by decide) rfl ?_
  intro p e s m args below meth c s₁ B hml hv
  obtain ⟨rfl, hsz, hP, hK, hD0, hN, hSK⟩ := hv
  have hx := B.exec
  have hb := B.bytes
  have hr := B.returns
  have hts := atoms_spec (ws := wsX6_readShort) B.pre
  have hown : s.vm.findClass RX6 = some m.cls := findClass_of_methodNamed B.named
  have hlocks := B.notSynchronized
  subst hsz
  have hD := hD0.self (sz := s.heap.size)
  generalize hAe : va_A [(a0, .inr (6, [.int 0, .int 0, .ref a1, .int 21, .int 0, .int 0, .int 1, .int 0, .ref a2])), (a1, .inr (5, [.ref cb, .int 81, .int 0, .ref a3, .int 3, .ref a4, .int 0, .ref a5, .int 1, .int 1, .ref a6, .int 6, .int 0, .int 1, .int 0]))] s.heap.size = A at hD hSK ⊢
  have hA : ∀ q : Nat, s.heap.size ≤ q → A q := fun q h => by rw [← hAe]; exact Or.inr h
  have hS : va_S A s.heap s.heap [] := va_S.rf
  have hP : va_P (dC, dI) vwCl [(a0, .inr (6, [.int 0, .int 0, .ref a1, .int 21, .int 0, .int 0, .int 1, .int 0, .ref a2])), (a1, .inr (5, [.ref cb, .int 81, .int 0, .ref a3, .int 3, .ref a4, .int 0, .ref a5, .int 1, .int 1, .ref a6, .int 6, .int 0, .int 1, .int 0]))] s.heap := hP
  have hl := lv_entry ([.ref a0]) (n := 2) (Nat.le_of_ble_eq_true rfl)
  rw [lg_entry_eq]
  generalize (lg_sl ([.ref a0]) ++ List.replicate (2 - (lg_sl ([.ref a0])).length) Slot.unset).toArray = ls at hl ⊢
  replace hl : lv_has ls 2 [(0, .ref a0)] := hl
  refine lv_aload_n hx hb dX6_readShort_0 rfl (lv_at hl 0 rfl) ?_
  have hPc := hP.sub (ws' := [(a0, .inr (6, [.int 0, .int 0, .ref a1, .int 21, .int 0, .int 0, .int 1, .int 0, .ref a2])), (a1, .inr (5, [.ref cb, .int 81, .int 0, .ref a3, .int 3, .ref a4, .int 0, .ref a5, .int 1, .int 1, .ref a6, .int 6, .int 0, .int 1, .int 0]))]) [0, 1] rfl
  have hDc := hD.sub (ws' := [(a0, .inr (6, [.int 0, .int 0, .ref a1, .int 21, .int 0, .int 0, .int 1, .int 0, .ref a2])), (a1, .inr (5, [.ref cb, .int 81, .int 0, .ref a3, .int 3, .ref a4, .int 0, .ref a5, .int 1, .int 1, .ref a6, .int 6, .int 0, .int 1, .int 0]))]) [0, 1] (by decide) rfl
  have hFc := va_free (wc := [(a0, .inr (6, [.int 0, .int 0, .ref a1, .int 21, .int 0, .int 0, .int 1, .int 0, .ref a2])), (a1, .inr (5, [.ref cb, .int 81, .int 0, .ref a3, .int 3, .ref a4, .int 0, .ref a5, .int 1, .int 1, .ref a6, .int 6, .int 0, .int 1, .int 0]))]) hD hS hA [0, 1] rfl
  refine va_calli (va_runV (As := []) (rest := []) ⟨hx, hb, hml, hown, hts⟩ (cc_70_X6_readByte l dC dI cy s.heap.size cb a0 a1 a2 a3 a4 a5 a6) (cwV 0 hts gX6_readShort_X6_readByte rfl rfl rfl (by decide +kernel) ⟨Nat.le_of_ble_eq_true rfl, Nat.le_of_ble_eq_true rfl⟩) ⟨fun a U g mk q => by obtain ⟨q0, q1, qP, qK, qD, qN, qS⟩ := q; exact ⟨q0, q1, qP, va_K.moved (u := U) (U := U.calling g mk a) (Vm.Alike.refl U.vm) qK, qD, qN.same rfl, SK.moved (u := U) (U := U.calling g mk a) (Vm.Alike.refl U.vm) qS⟩, va_recv hK hPc (ci := 6) (q0 := 0) rfl rfl, fun U hU hW => ⟨rfl, by rw [hU], by rw [hU]; exact hPc, va_K.moved hW.alike hK, hDc.weaken (fun _ _ _ _ => trivial), hN.warm hW, by rw [hU]; exact ((hSK.kept hS.2.1).narrow hFc).moved hW.alike⟩⟩ rfl rfl hl.1 rfl (lv_room (Nat.le_of_ble_eq_true rfl)) dX6_readShort_1 ⟨Nat.le_of_ble_eq_true rfl, Nat.le_of_ble_eq_true rfl⟩) hS (fun q _ h => hFc q h) hFc (fun r_1 u t H_2 locs ht hvm hw hB hz1 hk1 hS2 => ?_)
  obtain ⟨hP1, hK1, hD1⟩ := hB
  rw [ht] at hP1
  obtain rfl := hw
  obtain ⟨hP2, hD2⟩ := va_join (wr := []) (w1 := [(a0, .inr (6, [.int 0, .int 0, .ref a1, .int 22, .int 0, .int 0, .int 1, .int 0, .ref a2])), (a1, .inr (5, [.ref cb, .int 81, .int 0, .ref a3, .int 3, .ref a4, .int 0, .ref a5, .int 1, .int 1, .ref a6, .int 6, .int 0, .int 1, .int 0]))]) hP hD [0, 1] [] rfl rfl (by decide) (by decide) hk1 hFc hP1 hD1
  replace hP : va_P (dC, dI) vwCl [(a0, .inr (6, [.int 0, .int 0, .ref a1, .int 22, .int 0, .int 0, .int 1, .int 0, .ref a2])), (a1, .inr (5, [.ref cb, .int 81, .int 0, .ref a3, .int 3, .ref a4, .int 0, .ref a5, .int 1, .int 1, .ref a6, .int 6, .int 0, .int 1, .int 0]))] H_2 := hP2
  replace hD : va_D A [(a0, .inr (6, [.int 0, .int 0, .ref a1, .int 22, .int 0, .int 0, .int 1, .int 0, .ref a2])), (a1, .inr (5, [.ref cb, .int 81, .int 0, .ref a3, .int 3, .ref a4, .int 0, .ref a5, .int 1, .int 1, .ref a6, .int 6, .int 0, .int 1, .int 0]))] := hD2
  replace hS := hS2
  clear hP2 hD2 hS2
  clear hPc hDc hFc hP1 hD1 hK1 hk1 hz1 hvm ht
  refine W.widen (k := 0) (n := 0) (Nat.le_of_ble_eq_true rfl) (Nat.le_of_ble_eq_true rfl) ?_
  refine lv_istore_n (lv' := [(1, .int 0), (0, .ref a0)]) hx hb dX6_readShort_4 rfl hl (by decide) rfl (fun ls hl2 => ?_)
  replace hl := hl2
  clear hl2
  refine lv_iload_n hx hb dX6_readShort_5 rfl (lv_at hl 0 rfl) ?_
  refine lv_bipush (v := 8) hx hb dX6_readShort_6 (by decide) ?_
  refine lv_ishl hx hb dX6_readShort_8 ?_
  refine lv_topi (fun z_3 ez_3 => ?_)
  obtain rfl : z_3 = 0 := ez_3.trans (by decide)
  clear ez_3
  refine lv_aload_n hx hb dX6_readShort_9 rfl (lv_at hl 1 rfl) ?_
  have hPc := hP.sub (ws' := [(a0, .inr (6, [.int 0, .int 0, .ref a1, .int 22, .int 0, .int 0, .int 1, .int 0, .ref a2])), (a1, .inr (5, [.ref cb, .int 81, .int 0, .ref a3, .int 3, .ref a4, .int 0, .ref a5, .int 1, .int 1, .ref a6, .int 6, .int 0, .int 1, .int 0]))]) [0, 1] rfl
  have hDc := hD.sub (ws' := [(a0, .inr (6, [.int 0, .int 0, .ref a1, .int 22, .int 0, .int 0, .int 1, .int 0, .ref a2])), (a1, .inr (5, [.ref cb, .int 81, .int 0, .ref a3, .int 3, .ref a4, .int 0, .ref a5, .int 1, .int 1, .ref a6, .int 6, .int 0, .int 1, .int 0]))]) [0, 1] (by decide) rfl
  have hFc := va_free (wc := [(a0, .inr (6, [.int 0, .int 0, .ref a1, .int 22, .int 0, .int 0, .int 1, .int 0, .ref a2])), (a1, .inr (5, [.ref cb, .int 81, .int 0, .ref a3, .int 3, .ref a4, .int 0, .ref a5, .int 1, .int 1, .ref a6, .int 6, .int 0, .int 1, .int 0]))]) hD hS hA [0, 1] rfl
  refine va_calli (va_runV (As := []) (rest := [.int 0]) ⟨hx, hb, hml, hown, hts⟩ (cc_71_X6_readByte l dC dI cy H_2.size cb a0 a1 a2 a3 a4 a5 a6) (cwV 0 hts gX6_readShort_X6_readByte rfl rfl rfl (by decide +kernel) ⟨Nat.le_of_ble_eq_true rfl, Nat.le_of_ble_eq_true rfl⟩) ⟨fun a U g mk q => by obtain ⟨q0, q1, qP, qK, qD, qN, qS⟩ := q; exact ⟨q0, q1, qP, va_K.moved (u := U) (U := U.calling g mk a) (Vm.Alike.refl U.vm) qK, qD, qN.same rfl, SK.moved (u := U) (U := U.calling g mk a) (Vm.Alike.refl U.vm) qS⟩, va_recv hK hPc (ci := 6) (q0 := 0) rfl rfl, fun U hU hW => ⟨rfl, by rw [hU], by rw [hU]; exact hPc, va_K.moved hW.alike hK, hDc.weaken (fun _ _ _ _ => trivial), hN.warm hW, by rw [hU]; exact ((hSK.kept hS.2.1).narrow hFc).moved hW.alike⟩⟩ rfl rfl hl.1 rfl (lv_room (Nat.le_of_ble_eq_true rfl)) dX6_readShort_10 ⟨Nat.le_of_ble_eq_true rfl, Nat.le_of_ble_eq_true rfl⟩) hS (fun q _ h => hFc q h) hFc (fun r_4 u t H_5 locs ht hvm hw hB hz1 hk1 hS2 => ?_)
  obtain ⟨hP1, hK1, hD1⟩ := hB
  rw [ht] at hP1
  obtain rfl := hw
  obtain ⟨hP2, hD2⟩ := va_join (wr := []) (w1 := [(a0, .inr (6, [.int 0, .int 0, .ref a1, .int 23, .int 0, .int 0, .int 1, .int 0, .ref a2])), (a1, .inr (5, [.ref cb, .int 81, .int 0, .ref a3, .int 3, .ref a4, .int 0, .ref a5, .int 1, .int 1, .ref a6, .int 6, .int 0, .int 1, .int 0]))]) hP hD [0, 1] [] rfl rfl (by decide) (by decide) hk1 hFc hP1 hD1
  replace hP : va_P (dC, dI) vwCl [(a0, .inr (6, [.int 0, .int 0, .ref a1, .int 23, .int 0, .int 0, .int 1, .int 0, .ref a2])), (a1, .inr (5, [.ref cb, .int 81, .int 0, .ref a3, .int 3, .ref a4, .int 0, .ref a5, .int 1, .int 1, .ref a6, .int 6, .int 0, .int 1, .int 0]))] H_5 := hP2
  replace hD : va_D A [(a0, .inr (6, [.int 0, .int 0, .ref a1, .int 23, .int 0, .int 0, .int 1, .int 0, .ref a2])), (a1, .inr (5, [.ref cb, .int 81, .int 0, .ref a3, .int 3, .ref a4, .int 0, .ref a5, .int 1, .int 1, .ref a6, .int 6, .int 0, .int 1, .int 0]))] := hD2
  replace hS := hS2
  clear hP2 hD2 hS2
  clear hPc hDc hFc hP1 hD1 hK1 hk1 hz1 hvm ht
  refine W.widen (k := 0) (n := 0) (Nat.le_of_ble_eq_true rfl) (Nat.le_of_ble_eq_true rfl) ?_
  refine lv_ior hx hb dX6_readShort_13 ?_
  refine lv_topi (fun z_6 ez_6 => ?_)
  obtain rfl : z_6 = 1 := ez_6.trans (by decide)
  clear ez_6
  exact W.iret hx hb hr (fun t ht hW => ⟨⟨1, (), rfl, rfl, by rw [ht]; exact hP, va_K.moved hW.alike hK, hD⟩, hS.F ht⟩) hS.2.2 dX6_readShort_14

set_option maxHeartbeats 4000000 in
set_option maxRecDepth 100000 in
theorem cc_72_X5_setFunction (l : Launch) (dC : Nat → ClassId) (dI : Nat → Nat → Nat) (cy : Nat → ClassId) (sz : Nat) (cb : Nat) (a0 : Nat) (a1 : Nat) (a2 : Nat) (a3 : Nat) (a4 : Nat) (f0 : Nat → Int32)  : Met l yX5_setFunction wsX5_setFunction ({ frames := 0, cells := 0, slots := 0, locals := 0 }) (va_Pc [.ref a0, .int 0, .int 5, .int 0] (fun U => U.heap.size = sz ∧ va_P (dC, dI) vwCl [(a0, .inr (5, [.ref cb, .int 81, .int 0, .ref a2, .int 3, .ref a3, .int 0, .ref a4, .int 1, .int 1, .ref a1, .int 6, .int 0, .int 1, .int 0])), (a1, .inl (cy 1, 864, .inl f0))] U.heap ∧ va_K (dC, dI) vwCl (TYS cy) U ∧ va_D (fun _ => True) [(a0, .inr (5, [.ref cb, .int 81, .int 0, .ref a2, .int 3, .ref a3, .int 0, .ref a4, .int 1, .int 1, .ref a1, .int 6, .int 0, .int 1, .int 0])), (a1, .inl (cy 1, 864, .inl f0))] ∧ NK U ∧ SK cb (va_A [(a0, .inr (5, [.ref cb, .int 81, .int 0, .ref a2, .int 3, .ref a3, .int 0, .ref a4, .int 1, .int 1, .ref a1, .int 6, .int 0, .int 1, .int 0])), (a1, .inl (cy 1, 864, .inl f0))] sz) U U.heap)) (va_Qv (fun u : (Nat → Int32) => True) (fun u t => match u with | (u0) => va_P (dC, dI) vwCl [(a0, .inr (5, [.ref cb, .int 81, .int 0, .ref a2, .int 3, .ref a3, .int 0, .ref a4, .int 1, .int 1, .ref a1, .int 6, .int 0, .int 1, .int 0])), (a1, .inl (cy 1, 864, .inl u0))] t.heap ∧ va_K (dC, dI) vwCl (TYS cy) t ∧ va_D (va_A [(a0, .inr (5, [.ref cb, .int 81, .int 0, .ref a2, .int 3, .ref a3, .int 0, .ref a4, .int 1, .int 1, .ref a1, .int 6, .int 0, .int 1, .int 0])), (a1, .inl (cy 1, 864, .inl f0))] sz) [(a0, .inr (5, [.ref cb, .int 81, .int 0, .ref a2, .int 3, .ref a3, .int 0, .ref a4, .int 1, .int 1, .ref a1, .int 6, .int 0, .int 1, .int 0])), (a1, .inl (cy 1, 864, .inl u0))]) (va_A [(a0, .inr (5, [.ref cb, .int 81, .int 0, .ref a2, .int 3, .ref a3, .int 0, .ref a4, .int 1, .int 1, .ref a1, .int 6, .int 0, .int 1, .int 0])), (a1, .inl (cy 1, 864, .inl f0))] sz)) 0 0 (va_A [(a0, .inr (5, [.ref cb, .int 81, .int 0, .ref a2, .int 3, .ref a3, .int 0, .ref a4, .int 1, .int 1, .ref a1, .int 6, .int 0, .int 1, .int 0])), (a1, .inl (cy 1, 864, .inl f0))] sz) := by
  refine Met.ofW (cc := cX5_setFunction) (maxL := 4) (ret := none) (by decide) rfl ?_
  intro p e s m args below meth c s₁ B hml hv
  obtain ⟨rfl, hsz, hP, hK, hD0, hN, hSK⟩ := hv
  have hx := B.exec
  have hb := B.bytes
  have hr := B.returns
  have hts := atoms_spec (ws := wsX5_setFunction) B.pre
  have hown : s.vm.findClass RX5 = some m.cls := findClass_of_methodNamed B.named
  have hlocks := B.notSynchronized
  subst hsz
  have hD := hD0.self (sz := s.heap.size)
  generalize hAe : va_A [(a0, .inr (5, [.ref cb, .int 81, .int 0, .ref a2, .int 3, .ref a3, .int 0, .ref a4, .int 1, .int 1, .ref a1, .int 6, .int 0, .int 1, .int 0])), (a1, .inl (cy 1, 864, .inl f0))] s.heap.size = A at hD hSK ⊢
  have hA : ∀ q : Nat, s.heap.size ≤ q → A q := fun q h => by rw [← hAe]; exact Or.inr h
  have hS : va_S A s.heap s.heap [] := va_S.rf
  have hP : va_P (dC, dI) vwCl [(a0, .inr (5, [.ref cb, .int 81, .int 0, .ref a2, .int 3, .ref a3, .int 0, .ref a4, .int 1, .int 1, .ref a1, .int 6, .int 0, .int 1, .int 0])), (a1, .inl (cy 1, 864, .inl f0))] s.heap := hP
  have hl := lv_entry ([.ref a0, .int 0, .int 5, .int 0]) (n := 4) (Nat.le_of_ble_eq_true rfl)
  rw [lg_entry_eq]
  generalize (lg_sl ([.ref a0, .int 0, .int 5, .int 0]) ++ List.replicate (4 - (lg_sl ([.ref a0, .int 0, .int 5, .int 0])).length) Slot.unset).toArray = ls at hl ⊢
  replace hl : lv_has ls 4 [(0, .ref a0), (1, .int 0), (2, .int 5), (3, .int 0)] := hl
  refine lv_iload_n hx hb dX5_setFunction_0 rfl (lv_at hl 1 rfl) ?_
  refine lv_if_lt (tgt := 22) hx hb dX5_setFunction_1 (by decide) (fun h => absurd h (by decide)) (fun _ => ?_)
  refine lv_iload_n hx hb dX5_setFunction_4 rfl (lv_at hl 1 rfl) ?_
  refine lv_bipush (v := 96) hx hb dX5_setFunction_5 (by decide) ?_
  refine lv_icmp_ge (tgt := 22) hx hb dX5_setFunction_7 (by decide) (fun h => absurd h (by decide)) (fun _ => ?_)
  refine lv_aload_n hx hb dX5_setFunction_10 rfl (lv_at hl 0 rfl) ?_
  refine va_get (D := (dC, dI)) (ci := 5) (v := .ref a1) (C := RX5) (T := TX5) (N := 15) hx hb hts iw_X5_setFunction_X5 hown hK hP 0 rfl rfl 10 (by decide) (hts _ m_X5_setFunction_1) (fun _ h9 => h9) rfl dX5_setFunction_11 ?_
  refine lv_iload_n hx hb dX5_setFunction_14 rfl (lv_at hl 1 rfl) ?_
  refine lv_bipush (v := 9) hx hb dX5_setFunction_15 (by decide) ?_
  refine lv_imul hx hb dX5_setFunction_17 ?_
  refine lv_topi (fun z_1 ez_1 => ?_)
  obtain rfl : z_1 = 0 := ez_1.trans (by decide)
  clear ez_1
  refine lv_iload_n hx hb dX5_setFunction_18 rfl (lv_at hl 2 rfl) ?_
  refine lv_iadd hx hb dX5_setFunction_19 ?_
  refine lv_topi (fun z_2 ez_2 => ?_)
  obtain rfl : z_2 = 5 := ez_2.trans (by decide)
  clear ez_2
  refine lv_iload_n hx hb dX5_setFunction_20 rfl (lv_at hl 3 rfl) ?_
  refine va_iast hx hb hK hP hD hS 1 1 rfl rfl (by unfold vp_in; decide) dX5_setFunction_21 (fun H_4 locs hP2 hD2 hS2 => ?_)
  replace hP : va_P (dC, dI) vwCl [(a0, .inr (5, [.ref cb, .int 81, .int 0, .ref a2, .int 3, .ref a3, .int 0, .ref a4, .int 1, .int 1, .ref a1, .int 6, .int 0, .int 1, .int 0])), (a1, .inl (cy 1, 864, .inl (upd f0 5 0)))] H_4 := hP2
  replace hD : va_D A [(a0, .inr (5, [.ref cb, .int 81, .int 0, .ref a2, .int 3, .ref a3, .int 0, .ref a4, .int 1, .int 1, .ref a1, .int 6, .int 0, .int 1, .int 0])), (a1, .inl (cy 1, 864, .inl (upd f0 5 0)))] := hD2
  replace hS := hS2
  clear hP2 hD2 hS2
  obtain ⟨g_3, eg_3⟩ : ∃ z, upd f0 5 0 = z := ⟨_, rfl⟩
  rw [eg_3] at hP hD
  exact W.vret hx hb hr (fun t ht hW => ⟨⟨(g_3), rfl, trivial, by rw [ht]; exact hP, va_K.moved hW.alike hK, hD⟩, hS.F ht⟩) hS.2.2 dX5_setFunction_22

set_option maxHeartbeats 4000000 in
set_option maxRecDepth 100000 in
theorem cc_73_X5_setFunction (l : Launch) (dC : Nat → ClassId) (dI : Nat → Nat → Nat) (cy : Nat → ClassId) (sz : Nat) (cb : Nat) (a0 : Nat) (a1 : Nat) (a2 : Nat) (a3 : Nat) (a4 : Nat) (f0 : Nat → Int32)  : Met l yX5_setFunction wsX5_setFunction ({ frames := 0, cells := 0, slots := 0, locals := 0 }) (va_Pc [.ref a0, .int 0, .int 6, .int 1] (fun U => U.heap.size = sz ∧ va_P (dC, dI) vwCl [(a0, .inr (5, [.ref cb, .int 81, .int 0, .ref a2, .int 3, .ref a3, .int 0, .ref a4, .int 1, .int 1, .ref a1, .int 6, .int 0, .int 1, .int 0])), (a1, .inl (cy 1, 864, .inl f0))] U.heap ∧ va_K (dC, dI) vwCl (TYS cy) U ∧ va_D (fun _ => True) [(a0, .inr (5, [.ref cb, .int 81, .int 0, .ref a2, .int 3, .ref a3, .int 0, .ref a4, .int 1, .int 1, .ref a1, .int 6, .int 0, .int 1, .int 0])), (a1, .inl (cy 1, 864, .inl f0))] ∧ NK U ∧ SK cb (va_A [(a0, .inr (5, [.ref cb, .int 81, .int 0, .ref a2, .int 3, .ref a3, .int 0, .ref a4, .int 1, .int 1, .ref a1, .int 6, .int 0, .int 1, .int 0])), (a1, .inl (cy 1, 864, .inl f0))] sz) U U.heap)) (va_Qv (fun u : (Nat → Int32) => True) (fun u t => match u with | (u0) => va_P (dC, dI) vwCl [(a0, .inr (5, [.ref cb, .int 81, .int 0, .ref a2, .int 3, .ref a3, .int 0, .ref a4, .int 1, .int 1, .ref a1, .int 6, .int 0, .int 1, .int 0])), (a1, .inl (cy 1, 864, .inl u0))] t.heap ∧ va_K (dC, dI) vwCl (TYS cy) t ∧ va_D (va_A [(a0, .inr (5, [.ref cb, .int 81, .int 0, .ref a2, .int 3, .ref a3, .int 0, .ref a4, .int 1, .int 1, .ref a1, .int 6, .int 0, .int 1, .int 0])), (a1, .inl (cy 1, 864, .inl f0))] sz) [(a0, .inr (5, [.ref cb, .int 81, .int 0, .ref a2, .int 3, .ref a3, .int 0, .ref a4, .int 1, .int 1, .ref a1, .int 6, .int 0, .int 1, .int 0])), (a1, .inl (cy 1, 864, .inl u0))]) (va_A [(a0, .inr (5, [.ref cb, .int 81, .int 0, .ref a2, .int 3, .ref a3, .int 0, .ref a4, .int 1, .int 1, .ref a1, .int 6, .int 0, .int 1, .int 0])), (a1, .inl (cy 1, 864, .inl f0))] sz)) 0 0 (va_A [(a0, .inr (5, [.ref cb, .int 81, .int 0, .ref a2, .int 3, .ref a3, .int 0, .ref a4, .int 1, .int 1, .ref a1, .int 6, .int 0, .int 1, .int 0])), (a1, .inl (cy 1, 864, .inl f0))] sz) := by
  refine Met.ofW (cc := cX5_setFunction) (maxL := 4) (ret := none) (by decide) rfl ?_
  intro p e s m args below meth c s₁ B hml hv
  obtain ⟨rfl, hsz, hP, hK, hD0, hN, hSK⟩ := hv
  have hx := B.exec
  have hb := B.bytes
  have hr := B.returns
  have hts := atoms_spec (ws := wsX5_setFunction) B.pre
  have hown : s.vm.findClass RX5 = some m.cls := findClass_of_methodNamed B.named
  have hlocks := B.notSynchronized
  subst hsz
  have hD := hD0.self (sz := s.heap.size)
  generalize hAe : va_A [(a0, .inr (5, [.ref cb, .int 81, .int 0, .ref a2, .int 3, .ref a3, .int 0, .ref a4, .int 1, .int 1, .ref a1, .int 6, .int 0, .int 1, .int 0])), (a1, .inl (cy 1, 864, .inl f0))] s.heap.size = A at hD hSK ⊢
  have hA : ∀ q : Nat, s.heap.size ≤ q → A q := fun q h => by rw [← hAe]; exact Or.inr h
  have hS : va_S A s.heap s.heap [] := va_S.rf
  have hP : va_P (dC, dI) vwCl [(a0, .inr (5, [.ref cb, .int 81, .int 0, .ref a2, .int 3, .ref a3, .int 0, .ref a4, .int 1, .int 1, .ref a1, .int 6, .int 0, .int 1, .int 0])), (a1, .inl (cy 1, 864, .inl f0))] s.heap := hP
  have hl := lv_entry ([.ref a0, .int 0, .int 6, .int 1]) (n := 4) (Nat.le_of_ble_eq_true rfl)
  rw [lg_entry_eq]
  generalize (lg_sl ([.ref a0, .int 0, .int 6, .int 1]) ++ List.replicate (4 - (lg_sl ([.ref a0, .int 0, .int 6, .int 1])).length) Slot.unset).toArray = ls at hl ⊢
  replace hl : lv_has ls 4 [(0, .ref a0), (1, .int 0), (2, .int 6), (3, .int 1)] := hl
  refine lv_iload_n hx hb dX5_setFunction_0 rfl (lv_at hl 1 rfl) ?_
  refine lv_if_lt (tgt := 22) hx hb dX5_setFunction_1 (by decide) (fun h => absurd h (by decide)) (fun _ => ?_)
  refine lv_iload_n hx hb dX5_setFunction_4 rfl (lv_at hl 1 rfl) ?_
  refine lv_bipush (v := 96) hx hb dX5_setFunction_5 (by decide) ?_
  refine lv_icmp_ge (tgt := 22) hx hb dX5_setFunction_7 (by decide) (fun h => absurd h (by decide)) (fun _ => ?_)
  refine lv_aload_n hx hb dX5_setFunction_10 rfl (lv_at hl 0 rfl) ?_
  refine va_get (D := (dC, dI)) (ci := 5) (v := .ref a1) (C := RX5) (T := TX5) (N := 15) hx hb hts iw_X5_setFunction_X5 hown hK hP 0 rfl rfl 10 (by decide) (hts _ m_X5_setFunction_1) (fun _ h9 => h9) rfl dX5_setFunction_11 ?_
  refine lv_iload_n hx hb dX5_setFunction_14 rfl (lv_at hl 1 rfl) ?_
  refine lv_bipush (v := 9) hx hb dX5_setFunction_15 (by decide) ?_
  refine lv_imul hx hb dX5_setFunction_17 ?_
  refine lv_topi (fun z_1 ez_1 => ?_)
  obtain rfl : z_1 = 0 := ez_1.trans (by decide)
  clear ez_1
  refine lv_iload_n hx hb dX5_setFunction_18 rfl (lv_at hl 2 rfl) ?_
  refine lv_iadd hx hb dX5_setFunction_19 ?_
  refine lv_topi (fun z_2 ez_2 => ?_)
  obtain rfl : z_2 = 6 := ez_2.trans (by decide)
  clear ez_2
  refine lv_iload_n hx hb dX5_setFunction_20 rfl (lv_at hl 3 rfl) ?_
  refine va_iast hx hb hK hP hD hS 1 1 rfl rfl (by unfold vp_in; decide) dX5_setFunction_21 (fun H_4 locs hP2 hD2 hS2 => ?_)
  replace hP : va_P (dC, dI) vwCl [(a0, .inr (5, [.ref cb, .int 81, .int 0, .ref a2, .int 3, .ref a3, .int 0, .ref a4, .int 1, .int 1, .ref a1, .int 6, .int 0, .int 1, .int 0])), (a1, .inl (cy 1, 864, .inl (upd f0 6 1)))] H_4 := hP2
  replace hD : va_D A [(a0, .inr (5, [.ref cb, .int 81, .int 0, .ref a2, .int 3, .ref a3, .int 0, .ref a4, .int 1, .int 1, .ref a1, .int 6, .int 0, .int 1, .int 0])), (a1, .inl (cy 1, 864, .inl (upd f0 6 1)))] := hD2
  replace hS := hS2
  clear hP2 hD2 hS2
  obtain ⟨g_3, eg_3⟩ : ∃ z, upd f0 6 1 = z := ⟨_, rfl⟩
  rw [eg_3] at hP hD
  exact W.vret hx hb hr (fun t ht hW => ⟨⟨(g_3), rfl, trivial, by rw [ht]; exact hP, va_K.moved hW.alike hK, hD⟩, hS.F ht⟩) hS.2.2 dX5_setFunction_22

set_option maxHeartbeats 4000000 in
set_option maxRecDepth 100000 in
theorem cc_75_X5_addStart (l : Launch) (dC : Nat → ClassId) (dI : Nat → Nat → Nat) (cy : Nat → ClassId) (sz : Nat) (cb : Nat) (a0 : Nat) (a1 : Nat) (a2 : Nat) (a3 : Nat) (a4 : Nat) (f0 : Nat → Int32)  : Met l yX5_addStart wsX5_addStart ({ frames := 0, cells := 0, slots := 0, locals := 0 }) (va_Pc [.ref a0, .int 23] (fun U => U.heap.size = sz ∧ va_P (dC, dI) vwCl [(a0, .inr (5, [.ref cb, .int 81, .int 0, .ref a2, .int 3, .ref a1, .int 0, .ref a3, .int 1, .int 1, .ref a4, .int 6, .int 0, .int 1, .int 0])), (a1, .inl (cy 1, 2048, .inl f0))] U.heap ∧ va_K (dC, dI) vwCl (TYS cy) U ∧ va_D (fun _ => True) [(a0, .inr (5, [.ref cb, .int 81, .int 0, .ref a2, .int 3, .ref a1, .int 0, .ref a3, .int 1, .int 1, .ref a4, .int 6, .int 0, .int 1, .int 0])), (a1, .inl (cy 1, 2048, .inl f0))] ∧ NK U ∧ SK cb (va_A [(a0, .inr (5, [.ref cb, .int 81, .int 0, .ref a2, .int 3, .ref a1, .int 0, .ref a3, .int 1, .int 1, .ref a4, .int 6, .int 0, .int 1, .int 0])), (a1, .inl (cy 1, 2048, .inl f0))] sz) U U.heap)) (va_Qv (fun u : (Nat → Int32) => True) (fun u t => match u with | (u0) => va_P (dC, dI) vwCl [(a0, .inr (5, [.ref cb, .int 81, .int 0, .ref a2, .int 3, .ref a1, .int 1, .ref a3, .int 1, .int 1, .ref a4, .int 6, .int 0, .int 1, .int 0])), (a1, .inl (cy 1, 2048, .inl u0))] t.heap ∧ va_K (dC, dI) vwCl (TYS cy) t ∧ va_D (va_A [(a0, .inr (5, [.ref cb, .int 81, .int 0, .ref a2, .int 3, .ref a1, .int 0, .ref a3, .int 1, .int 1, .ref a4, .int 6, .int 0, .int 1, .int 0])), (a1, .inl (cy 1, 2048, .inl f0))] sz) [(a0, .inr (5, [.ref cb, .int 81, .int 0, .ref a2, .int 3, .ref a1, .int 1, .ref a3, .int 1, .int 1, .ref a4, .int 6, .int 0, .int 1, .int 0])), (a1, .inl (cy 1, 2048, .inl u0))]) (va_A [(a0, .inr (5, [.ref cb, .int 81, .int 0, .ref a2, .int 3, .ref a1, .int 0, .ref a3, .int 1, .int 1, .ref a4, .int 6, .int 0, .int 1, .int 0])), (a1, .inl (cy 1, 2048, .inl f0))] sz)) 0 0 (va_A [(a0, .inr (5, [.ref cb, .int 81, .int 0, .ref a2, .int 3, .ref a1, .int 0, .ref a3, .int 1, .int 1, .ref a4, .int 6, .int 0, .int 1, .int 0])), (a1, .inl (cy 1, 2048, .inl f0))] sz) := by
  refine Met.ofW (cc := cX5_addStart) (maxL := 2) (ret := none) (by decide) rfl ?_
  intro p e s m args below meth c s₁ B hml hv
  obtain ⟨rfl, hsz, hP, hK, hD0, hN, hSK⟩ := hv
  have hx := B.exec
  have hb := B.bytes
  have hr := B.returns
  have hts := atoms_spec (ws := wsX5_addStart) B.pre
  have hown : s.vm.findClass RX5 = some m.cls := findClass_of_methodNamed B.named
  have hlocks := B.notSynchronized
  subst hsz
  have hD := hD0.self (sz := s.heap.size)
  generalize hAe : va_A [(a0, .inr (5, [.ref cb, .int 81, .int 0, .ref a2, .int 3, .ref a1, .int 0, .ref a3, .int 1, .int 1, .ref a4, .int 6, .int 0, .int 1, .int 0])), (a1, .inl (cy 1, 2048, .inl f0))] s.heap.size = A at hD hSK ⊢
  have hA : ∀ q : Nat, s.heap.size ≤ q → A q := fun q h => by rw [← hAe]; exact Or.inr h
  have hS : va_S A s.heap s.heap [] := va_S.rf
  have hP : va_P (dC, dI) vwCl [(a0, .inr (5, [.ref cb, .int 81, .int 0, .ref a2, .int 3, .ref a1, .int 0, .ref a3, .int 1, .int 1, .ref a4, .int 6, .int 0, .int 1, .int 0])), (a1, .inl (cy 1, 2048, .inl f0))] s.heap := hP
  have hl := lv_entry ([.ref a0, .int 23]) (n := 2) (Nat.le_of_ble_eq_true rfl)
  rw [lg_entry_eq]
  generalize (lg_sl ([.ref a0, .int 23]) ++ List.replicate (2 - (lg_sl ([.ref a0, .int 23])).length) Slot.unset).toArray = ls at hl ⊢
  replace hl : lv_has ls 2 [(0, .ref a0), (1, .int 23)] := hl
  refine lv_aload_n hx hb dX5_addStart_0 rfl (lv_at hl 0 rfl) ?_
  refine va_get (D := (dC, dI)) (ci := 5) (v := .int 0) (C := RX5) (T := TX5) (N := 15) hx hb hts iw_X5_addStart_X5 hown hK hP 0 rfl rfl 6 (by decide) (hts _ m_X5_addStart_1) (fun _ h9 => h9) rfl dX5_addStart_1 ?_
  refine lv_aload_n hx hb dX5_addStart_4 rfl (lv_at hl 0 rfl) ?_
  refine va_get (D := (dC, dI)) (ci := 5) (v := .ref a1) (C := RX5) (T := TX5) (N := 15) hx hb hts iw_X5_addStart_X5 hown hK hP 0 rfl rfl 5 (by decide) (hts _ m_X5_addStart_2) (fun _ h9 => h9) rfl dX5_addStart_5 ?_
  refine va_alen (v := 2048) hx hb hK hP 1 1 rfl rfl rfl dX5_addStart_8 ?_
  refine lv_icmp_ge (tgt := 29) hx hb dX5_addStart_9 (by decide) (fun h => absurd h (by decide)) (fun _ => ?_)
  refine lv_aload_n hx hb dX5_addStart_12 rfl (lv_at hl 0 rfl) ?_
  refine va_get (D := (dC, dI)) (ci := 5) (v := .ref a1) (C := RX5) (T := TX5) (N := 15) hx hb hts iw_X5_addStart_X5 hown hK hP 0 rfl rfl 5 (by decide) (hts _ m_X5_addStart_2) (fun _ h9 => h9) rfl dX5_addStart_13 ?_
  refine lv_aload_n hx hb dX5_addStart_16 rfl (lv_at hl 0 rfl) ?_
  refine lv_dup hx hb dX5_addStart_17 rfl ?_
  refine va_get (D := (dC, dI)) (ci := 5) (v := .int 0) (C := RX5) (T := TX5) (N := 15) hx hb hts iw_X5_addStart_X5 hown hK hP 0 rfl rfl 6 (by decide) (hts _ m_X5_addStart_1) (fun _ h9 => h9) rfl dX5_addStart_18 ?_
  refine lv_dup_x1 hx hb dX5_addStart_21 rfl rfl ?_
  refine lv_iconst (v := 1) hx hb dX5_addStart_22 (by decide) ?_
  refine lv_iadd hx hb dX5_addStart_23 ?_
  refine lv_topi (fun z_1 ez_1 => ?_)
  obtain rfl : z_1 = 1 := ez_1.trans (by decide)
  clear ez_1
  refine va_put (D := (dC, dI)) (ci := 5) (v := .int 1) (ty := .int) (C := RX5) (T := TX5) (N := 15) hx hb hts iw_X5_addStart_X5 tyX5 tyX5_ok nmX5 hown hK hP hD hS 0 rfl rfl 6 (by decide) (hts _ m_X5_addStart_1) (fun _ h9 => h9) rfl (by decide +kernel) rfl rfl (Nat.le_of_ble_eq_true rfl) dX5_addStart_24 (fun H_2 locs hP2 hD2 hS2 => ?_)
  replace hP : va_P (dC, dI) vwCl [(a0, .inr (5, [.ref cb, .int 81, .int 0, .ref a2, .int 3, .ref a1, .int 1, .ref a3, .int 1, .int 1, .ref a4, .int 6, .int 0, .int 1, .int 0])), (a1, .inl (cy 1, 2048, .inl f0))] H_2 := hP2
  replace hD : va_D A [(a0, .inr (5, [.ref cb, .int 81, .int 0, .ref a2, .int 3, .ref a1, .int 1, .ref a3, .int 1, .int 1, .ref a4, .int 6, .int 0, .int 1, .int 0])), (a1, .inl (cy 1, 2048, .inl f0))] := hD2
  replace hS := hS2
  clear hP2 hD2 hS2
  refine lv_iload_n hx hb dX5_addStart_27 rfl (lv_at hl 1 rfl) ?_
  refine va_iast hx hb hK hP hD hS 1 1 rfl rfl (by unfold vp_in; decide) dX5_addStart_28 (fun H_4 locs hP2 hD2 hS2 => ?_)
  replace hP : va_P (dC, dI) vwCl [(a0, .inr (5, [.ref cb, .int 81, .int 0, .ref a2, .int 3, .ref a1, .int 1, .ref a3, .int 1, .int 1, .ref a4, .int 6, .int 0, .int 1, .int 0])), (a1, .inl (cy 1, 2048, .inl (upd f0 0 23)))] H_4 := hP2
  replace hD : va_D A [(a0, .inr (5, [.ref cb, .int 81, .int 0, .ref a2, .int 3, .ref a1, .int 1, .ref a3, .int 1, .int 1, .ref a4, .int 6, .int 0, .int 1, .int 0])), (a1, .inl (cy 1, 2048, .inl (upd f0 0 23)))] := hD2
  replace hS := hS2
  clear hP2 hD2 hS2
  obtain ⟨g_3, eg_3⟩ : ∃ z, upd f0 0 23 = z := ⟨_, rfl⟩
  rw [eg_3] at hP hD
  exact W.vret hx hb hr (fun t ht hW => ⟨⟨(g_3), rfl, trivial, by rw [ht]; exact hP, va_K.moved hW.alike hK, hD⟩, hS.F ht⟩) hS.2.2 dX5_addStart_29

set_option maxHeartbeats 4000000 in
set_option maxRecDepth 100000 in
theorem cc_76_X6_readByte (l : Launch) (dC : Nat → ClassId) (dI : Nat → Nat → Nat) (cy : Nat → ClassId) (sz : Nat) (cb : Nat) (a0 : Nat) (a1 : Nat) (a2 : Nat) (a3 : Nat) (a4 : Nat) (a5 : Nat) (a6 : Nat)  : Met l yX6_readByte wsX6_readByte ({ frames := 0, cells := 0, slots := 0, locals := 0 }) (va_Pc [.ref a0] (fun U => U.heap.size = sz ∧ va_P (dC, dI) vwCl [(a0, .inr (6, [.int 0, .int 0, .ref a1, .int 23, .int 0, .int 1, .int 1, .int 1, .ref a2])), (a1, .inr (5, [.ref cb, .int 81, .int 0, .ref a3, .int 3, .ref a4, .int 1, .ref a5, .int 1, .int 1, .ref a6, .int 6, .int 0, .int 1, .int 0]))] U.heap ∧ va_K (dC, dI) vwCl (TYS cy) U ∧ va_D (fun _ => True) [(a0, .inr (6, [.int 0, .int 0, .ref a1, .int 23, .int 0, .int 1, .int 1, .int 1, .ref a2])), (a1, .inr (5, [.ref cb, .int 81, .int 0, .ref a3, .int 3, .ref a4, .int 1, .ref a5, .int 1, .int 1, .ref a6, .int 6, .int 0, .int 1, .int 0]))] ∧ NK U ∧ SK cb (va_A [(a0, .inr (6, [.int 0, .int 0, .ref a1, .int 23, .int 0, .int 1, .int 1, .int 1, .ref a2])), (a1, .inr (5, [.ref cb, .int 81, .int 0, .ref a3, .int 3, .ref a4, .int 1, .ref a5, .int 1, .int 1, .ref a6, .int 6, .int 0, .int 1, .int 0]))] sz) U U.heap)) (va_Qi (fun (r : Int32) (u : Unit) => r = 35) (fun u t => va_P (dC, dI) vwCl [(a0, .inr (6, [.int 0, .int 0, .ref a1, .int 24, .int 0, .int 1, .int 1, .int 1, .ref a2])), (a1, .inr (5, [.ref cb, .int 81, .int 0, .ref a3, .int 3, .ref a4, .int 1, .ref a5, .int 1, .int 1, .ref a6, .int 6, .int 0, .int 1, .int 0]))] t.heap ∧ va_K (dC, dI) vwCl (TYS cy) t ∧ va_D (va_A [(a0, .inr (6, [.int 0, .int 0, .ref a1, .int 23, .int 0, .int 1, .int 1, .int 1, .ref a2])), (a1, .inr (5, [.ref cb, .int 81, .int 0, .ref a3, .int 3, .ref a4, .int 1, .ref a5, .int 1, .int 1, .ref a6, .int 6, .int 0, .int 1, .int 0]))] sz) [(a0, .inr (6, [.int 0, .int 0, .ref a1, .int 24, .int 0, .int 1, .int 1, .int 1, .ref a2])), (a1, .inr (5, [.ref cb, .int 81, .int 0, .ref a3, .int 3, .ref a4, .int 1, .ref a5, .int 1, .int 1, .ref a6, .int 6, .int 0, .int 1, .int 0]))]) (va_A [(a0, .inr (6, [.int 0, .int 0, .ref a1, .int 23, .int 0, .int 1, .int 1, .int 1, .ref a2])), (a1, .inr (5, [.ref cb, .int 81, .int 0, .ref a3, .int 3, .ref a4, .int 1, .ref a5, .int 1, .int 1, .ref a6, .int 6, .int 0, .int 1, .int 0]))] sz)) 0 0 (va_A [(a0, .inr (6, [.int 0, .int 0, .ref a1, .int 23, .int 0, .int 1, .int 1, .int 1, .ref a2])), (a1, .inr (5, [.ref cb, .int 81, .int 0, .ref a3, .int 3, .ref a4, .int 1, .ref a5, .int 1, .int 1, .ref a6, .int 6, .int 0, .int 1, .int 0]))] sz) := by
  refine Met.ofW (cc := cX6_readByte) (maxL := 1) (ret := (some .int)) (by decide) rfl ?_
  intro p e s m args below meth c s₁ B hml hv
  obtain ⟨rfl, hsz, hP, hK, hD0, hN, hSK⟩ := hv
  have hx := B.exec
  have hb := B.bytes
  have hr := B.returns
  have hts := atoms_spec (ws := wsX6_readByte) B.pre
  have hown : s.vm.findClass RX6 = some m.cls := findClass_of_methodNamed B.named
  have hlocks := B.notSynchronized
  subst hsz
  have hD := hD0.self (sz := s.heap.size)
  generalize hAe : va_A [(a0, .inr (6, [.int 0, .int 0, .ref a1, .int 23, .int 0, .int 1, .int 1, .int 1, .ref a2])), (a1, .inr (5, [.ref cb, .int 81, .int 0, .ref a3, .int 3, .ref a4, .int 1, .ref a5, .int 1, .int 1, .ref a6, .int 6, .int 0, .int 1, .int 0]))] s.heap.size = A at hD hSK ⊢
  have hA : ∀ q : Nat, s.heap.size ≤ q → A q := fun q h => by rw [← hAe]; exact Or.inr h
  have hS : va_S A s.heap s.heap [] := va_S.rf
  have hP : va_P (dC, dI) vwCl [(a0, .inr (6, [.int 0, .int 0, .ref a1, .int 23, .int 0, .int 1, .int 1, .int 1, .ref a2])), (a1, .inr (5, [.ref cb, .int 81, .int 0, .ref a3, .int 3, .ref a4, .int 1, .ref a5, .int 1, .int 1, .ref a6, .int 6, .int 0, .int 1, .int 0]))] s.heap := hP
  have hl := lv_entry ([.ref a0]) (n := 1) (Nat.le_of_ble_eq_true rfl)
  rw [lg_entry_eq]
  generalize (lg_sl ([.ref a0]) ++ List.replicate (1 - (lg_sl ([.ref a0])).length) Slot.unset).toArray = ls at hl ⊢
  replace hl : lv_has ls 1 [(0, .ref a0)] := hl
  refine lv_aload_n hx hb dX6_readByte_0 rfl (lv_at hl 0 rfl) ?_
  refine va_get (D := (dC, dI)) (ci := 6) (v := .int 0) (C := RX6) (T := TX6) (N := 9) hx hb hts iw_X6_readByte_X6 hown hK hP 0 rfl rfl 1 (by decide) (hts _ m_X6_readByte_1) (fun _ h9 => h9) rfl dX6_readByte_1 ?_
  refine lv_if_eq (tgt := 9) hx hb dX6_readByte_4 (by decide) (fun _ => ?_) (fun h => absurd (by decide) h)
  refine lv_aload_n hx hb dX6_readByte_9 rfl (lv_at hl 0 rfl) ?_
  refine va_get (D := (dC, dI)) (ci := 6) (v := .int 23) (C := RX6) (T := TX6) (N := 9) hx hb hts iw_X6_readByte_X6 hown hK hP 0 rfl rfl 3 (by decide) (hts _ m_X6_readByte_2) (fun _ h9 => h9) rfl dX6_readByte_10 ?_
  refine lv_aload_n hx hb dX6_readByte_13 rfl (lv_at hl 0 rfl) ?_
  refine va_get (D := (dC, dI)) (ci := 6) (v := .ref a1) (C := RX6) (T := TX6) (N := 9) hx hb hts iw_X6_readByte_X6 hown hK hP 0 rfl rfl 2 (by decide) (hts _ m_X6_readByte_3) (fun _ h9 => h9) rfl dX6_readByte_14 ?_
  refine va_get (D := (dC, dI)) (ci := 5) (v := .int 81) (C := RX5) (T := TX5) (N := 15) hx hb hts iw_X6_readByte_X5 hown hK hP 1 rfl rfl 1 (by decide) (hts _ m_X6_readByte_4) (fun _ h9 => h9) rfl dX6_readByte_17 ?_
  refine lv_icmp_lt (tgt := 41) hx hb dX6_readByte_20 (by decide) (fun _ => ?_) (fun h => absurd (by decide) h)
  refine lv_aload_n hx hb dX6_readByte_41 rfl (lv_at hl 0 rfl) ?_
  refine va_get (D := (dC, dI)) (ci := 6) (v := .ref a1) (C := RX6) (T := TX6) (N := 9) hx hb hts iw_X6_readByte_X6 hown hK hP 0 rfl rfl 2 (by decide) (hts _ m_X6_readByte_3) (fun _ h9 => h9) rfl dX6_readByte_42 ?_
  refine va_get (D := (dC, dI)) (ci := 5) (v := .ref cb) (C := RX5) (T := TX5) (N := 15) hx hb hts iw_X6_readByte_X5 hown hK hP 1 rfl rfl 0 (by decide) (hts _ m_X6_readByte_6) (fun _ h9 => h9) rfl dX6_readByte_45 ?_
  refine lv_aload_n hx hb dX6_readByte_48 rfl (lv_at hl 0 rfl) ?_
  refine lv_dup hx hb dX6_readByte_49 rfl ?_
  refine va_get (D := (dC, dI)) (ci := 6) (v := .int 23) (C := RX6) (T := TX6) (N := 9) hx hb hts iw_X6_readByte_X6 hown hK hP 0 rfl rfl 3 (by decide) (hts _ m_X6_readByte_2) (fun _ h9 => h9) rfl dX6_readByte_50 ?_
  refine lv_dup_x1 hx hb dX6_readByte_53 rfl rfl ?_
  refine lv_iconst (v := 1) hx hb dX6_readByte_54 (by decide) ?_
  refine lv_iadd hx hb dX6_readByte_55 ?_
  refine lv_topi (fun z_1 ez_1 => ?_)
  obtain rfl : z_1 = 24 := ez_1.trans (by decide)
  clear ez_1
  refine va_put (D := (dC, dI)) (ci := 6) (v := .int 24) (ty := .int) (C := RX6) (T := TX6) (N := 9) hx hb hts iw_X6_readByte_X6 tyX6 tyX6_ok nmX6 hown hK hP hD hS 0 rfl rfl 3 (by decide) (hts _ m_X6_readByte_2) (fun _ h9 => h9) rfl (by decide +kernel) rfl rfl (Nat.le_of_ble_eq_true rfl) dX6_readByte_56 (fun H_2 locs hP2 hD2 hS2 => ?_)
  replace hP : va_P (dC, dI) vwCl [(a0, .inr (6, [.int 0, .int 0, .ref a1, .int 24, .int 0, .int 1, .int 1, .int 1, .ref a2])), (a1, .inr (5, [.ref cb, .int 81, .int 0, .ref a3, .int 3, .ref a4, .int 1, .ref a5, .int 1, .int 1, .ref a6, .int 6, .int 0, .int 1, .int 0]))] H_2 := hP2
  replace hD : va_D A [(a0, .inr (6, [.int 0, .int 0, .ref a1, .int 24, .int 0, .int 1, .int 1, .int 1, .ref a2])), (a1, .inr (5, [.ref cb, .int 81, .int 0, .ref a3, .int 3, .ref a4, .int 1, .ref a5, .int 1, .int 1, .ref a6, .int 6, .int 0, .int 1, .int 0]))] := hD2
  replace hS := hS2
  clear hP2 hD2 hS2
  refine va_tb (v := .int 35) hx hb hSK.2 hS (by unfold vp_in; decide) rfl dX6_readByte_59 ?_
  refine lv_sipush (v := 255) hx hb dX6_readByte_60 (by decide) ?_
  refine lv_iand hx hb dX6_readByte_63 ?_
  refine lv_topi (fun z_3 ez_3 => ?_)
  obtain rfl : z_3 = 35 := ez_3.trans (by decide)
  clear ez_3
  exact W.iret hx hb hr (fun t ht hW => ⟨⟨35, (), rfl, rfl, by rw [ht]; exact hP, va_K.moved hW.alike hK, hD⟩, hS.F ht⟩) hS.2.2 dX6_readByte_64

set_option maxHeartbeats 4000000 in
set_option maxRecDepth 100000 in
theorem cc_74_X6_readInstruction (l : Launch) (dC : Nat → ClassId) (dI : Nat → Nat → Nat) (cy : Nat → ClassId) (sz : Nat) (cb : Nat) (a0 : Nat) (a1 : Nat) (a2 : Nat) (a3 : Nat) (a4 : Nat) (a5 : Nat) (a6 : Nat) (f0 : Nat → Int32)  : Met l yX6_readInstruction wsX6_readInstruction ({ frames := 1, cells := 0, slots := 0, locals := 21 }) (va_Pc [.ref a0] (fun U => U.heap.size = sz ∧ va_P (dC, dI) vwCl [(a0, .inr (6, [.int 0, .int 0, .ref a1, .int 23, .int 0, .int 1, .int 1, .int 1, .ref a3])), (a1, .inr (5, [.ref cb, .int 81, .int 0, .ref a4, .int 3, .ref a2, .int 0, .ref a5, .int 1, .int 1, .ref a6, .int 6, .int 0, .int 1, .int 0])), (a2, .inl (cy 1, 2048, .inl f0))] U.heap ∧ va_K (dC, dI) vwCl (TYS cy) U ∧ va_D (fun _ => True) [(a0, .inr (6, [.int 0, .int 0, .ref a1, .int 23, .int 0, .int 1, .int 1, .int 1, .ref a3])), (a1, .inr (5, [.ref cb, .int 81, .int 0, .ref a4, .int 3, .ref a2, .int 0, .ref a5, .int 1, .int 1, .ref a6, .int 6, .int 0, .int 1, .int 0])), (a2, .inl (cy 1, 2048, .inl f0))] ∧ NK U ∧ SK cb (va_A [(a0, .inr (6, [.int 0, .int 0, .ref a1, .int 23, .int 0, .int 1, .int 1, .int 1, .ref a3])), (a1, .inr (5, [.ref cb, .int 81, .int 0, .ref a4, .int 3, .ref a2, .int 0, .ref a5, .int 1, .int 1, .ref a6, .int 6, .int 0, .int 1, .int 0])), (a2, .inl (cy 1, 2048, .inl f0))] sz) U U.heap)) (va_Qv (fun u : (Nat → Int32) => True) (fun u t => match u with | (u0) => va_P (dC, dI) vwCl [(a0, .inr (6, [.int 0, .int 0, .ref a1, .int 24, .int 0, .int 1, .int 1, .int 1, .ref a3])), (a1, .inr (5, [.ref cb, .int 81, .int 0, .ref a4, .int 3, .ref a2, .int 1, .ref a5, .int 1, .int 1, .ref a6, .int 6, .int 0, .int 1, .int 0])), (a2, .inl (cy 1, 2048, .inl u0))] t.heap ∧ va_K (dC, dI) vwCl (TYS cy) t ∧ va_D (va_A [(a0, .inr (6, [.int 0, .int 0, .ref a1, .int 23, .int 0, .int 1, .int 1, .int 1, .ref a3])), (a1, .inr (5, [.ref cb, .int 81, .int 0, .ref a4, .int 3, .ref a2, .int 0, .ref a5, .int 1, .int 1, .ref a6, .int 6, .int 0, .int 1, .int 0])), (a2, .inl (cy 1, 2048, .inl f0))] sz) [(a0, .inr (6, [.int 0, .int 0, .ref a1, .int 24, .int 0, .int 1, .int 1, .int 1, .ref a3])), (a1, .inr (5, [.ref cb, .int 81, .int 0, .ref a4, .int 3, .ref a2, .int 1, .ref a5, .int 1, .int 1, .ref a6, .int 6, .int 0, .int 1, .int 0])), (a2, .inl (cy 1, 2048, .inl u0))]) (va_A [(a0, .inr (6, [.int 0, .int 0, .ref a1, .int 23, .int 0, .int 1, .int 1, .int 1, .ref a3])), (a1, .inr (5, [.ref cb, .int 81, .int 0, .ref a4, .int 3, .ref a2, .int 0, .ref a5, .int 1, .int 1, .ref a6, .int 6, .int 0, .int 1, .int 0])), (a2, .inl (cy 1, 2048, .inl f0))] sz)) 0 0 (va_A [(a0, .inr (6, [.int 0, .int 0, .ref a1, .int 23, .int 0, .int 1, .int 1, .int 1, .ref a3])), (a1, .inr (5, [.ref cb, .int 81, .int 0, .ref a4, .int 3, .ref a2, .int 0, .ref a5, .int 1, .int 1, .ref a6, .int 6, .int 0, .int 1, .int 0])), (a2, .inl (cy 1, 2048, .inl f0))] sz) := by
  refine Met.ofW (cc := cX6_readInstruction) (maxL := 4) (ret := none) (by decide) rfl ?_
  intro p e s m args below meth c s₁ B hml hv
  obtain ⟨rfl, hsz, hP, hK, hD0, hN, hSK⟩ := hv
  have hx := B.exec
  have hb := B.bytes
  have hr := B.returns
  have hts := atoms_spec (ws := wsX6_readInstruction) B.pre
  have hown : s.vm.findClass RX6 = some m.cls := findClass_of_methodNamed B.named
  have hlocks := B.notSynchronized
  subst hsz
  have hD := hD0.self (sz := s.heap.size)
  generalize hAe : va_A [(a0, .inr (6, [.int 0, .int 0, .ref a1, .int 23, .int 0, .int 1, .int 1, .int 1, .ref a3])), (a1, .inr (5, [.ref cb, .int 81, .int 0, .ref a4, .int 3, .ref a2, .int 0, .ref a5, .int 1, .int 1, .ref a6, .int 6, .int 0, .int 1, .int 0])), (a2, .inl (cy 1, 2048, .inl f0))] s.heap.size = A at hD hSK ⊢
  have hA : ∀ q : Nat, s.heap.size ≤ q → A q := fun q h => by rw [← hAe]; exact Or.inr h
  have hS : va_S A s.heap s.heap [] := va_S.rf
  have hP : va_P (dC, dI) vwCl [(a0, .inr (6, [.int 0, .int 0, .ref a1, .int 23, .int 0, .int 1, .int 1, .int 1, .ref a3])), (a1, .inr (5, [.ref cb, .int 81, .int 0, .ref a4, .int 3, .ref a2, .int 0, .ref a5, .int 1, .int 1, .ref a6, .int 6, .int 0, .int 1, .int 0])), (a2, .inl (cy 1, 2048, .inl f0))] s.heap := hP
  have hl := lv_entry ([.ref a0]) (n := 4) (Nat.le_of_ble_eq_true rfl)
  rw [lg_entry_eq]
  generalize (lg_sl ([.ref a0]) ++ List.replicate (4 - (lg_sl ([.ref a0])).length) Slot.unset).toArray = ls at hl ⊢
  replace hl : lv_has ls 4 [(0, .ref a0)] := hl
  refine lv_aload_n hx hb dX6_readInstruction_0 rfl (lv_at hl 0 rfl) ?_
  refine va_get (D := (dC, dI)) (ci := 6) (v := .ref a1) (C := RX6) (T := TX6) (N := 9) hx hb hts iw_X6_readInstruction_X6 hown hK hP 0 rfl rfl 2 (by decide) (hts _ m_X6_readInstruction_1) (fun _ h9 => h9) rfl dX6_readInstruction_1 ?_
  refine lv_aload_n hx hb dX6_readInstruction_4 rfl (lv_at hl 0 rfl) ?_
  refine va_get (D := (dC, dI)) (ci := 6) (v := .int 23) (C := RX6) (T := TX6) (N := 9) hx hb hts iw_X6_readInstruction_X6 hown hK hP 0 rfl rfl 3 (by decide) (hts _ m_X6_readInstruction_2) (fun _ h9 => h9) rfl dX6_readInstruction_5 ?_
  have hPc := hP.sub (ws' := [(a1, .inr (5, [.ref cb, .int 81, .int 0, .ref a4, .int 3, .ref a2, .int 0, .ref a5, .int 1, .int 1, .ref a6, .int 6, .int 0, .int 1, .int 0])), (a2, .inl (cy 1, 2048, .inl f0))]) [1, 2] rfl
  have hDc := hD.sub (ws' := [(a1, .inr (5, [.ref cb, .int 81, .int 0, .ref a4, .int 3, .ref a2, .int 0, .ref a5, .int 1, .int 1, .ref a6, .int 6, .int 0, .int 1, .int 0])), (a2, .inl (cy 1, 2048, .inl f0))]) [1, 2] (by decide) rfl
  have hFc := va_free (wc := [(a1, .inr (5, [.ref cb, .int 81, .int 0, .ref a4, .int 3, .ref a2, .int 0, .ref a5, .int 1, .int 1, .ref a6, .int 6, .int 0, .int 1, .int 0])), (a2, .inl (cy 1, 2048, .inl f0))]) hD hS hA [1, 2] rfl
  refine va_callv (va_runV (As := [.int 23]) (rest := []) ⟨hx, hb, hml, hown, hts⟩ (cc_75_X5_addStart l dC dI cy s.heap.size cb a1 a2 a4 a5 a6 f0) (cwV 1 hts gX6_readInstruction_X5_addStart rfl rfl rfl (by decide +kernel) ⟨Nat.le_of_ble_eq_true rfl, Nat.le_of_ble_eq_true rfl⟩) ⟨fun a U g mk q => by obtain ⟨q0, q1, qP, qK, qD, qN, qS⟩ := q; exact ⟨q0, q1, qP, va_K.moved (u := U) (U := U.calling g mk a) (Vm.Alike.refl U.vm) qK, qD, qN.same rfl, SK.moved (u := U) (U := U.calling g mk a) (Vm.Alike.refl U.vm) qS⟩, va_recv hK hPc (ci := 5) (q0 := 0) rfl rfl, fun U hU hW => ⟨rfl, by rw [hU], by rw [hU]; exact hPc, va_K.moved hW.alike hK, hDc.weaken (fun _ _ _ _ => trivial), hN.warm hW, by rw [hU]; exact ((hSK.kept hS.2.1).narrow hFc).moved hW.alike⟩⟩ rfl rfl hl.1 rfl (lv_room (Nat.le_of_ble_eq_true rfl)) dX6_readInstruction_8 ⟨Nat.le_of_ble_eq_true rfl, Nat.le_of_ble_eq_true rfl⟩) hS (fun q _ h => hFc q h) hFc (fun u t H_1 locs ht hvm hw hB hz1 hk1 hS2 => ?_)
  obtain ⟨g_2, rfl⟩ : ∃ z, z = u := ⟨_, rfl⟩
  obtain ⟨hP1, hK1, hD1⟩ := hB
  rw [ht] at hP1
  obtain ⟨hP2, hD2⟩ := va_join (wr := [(a0, .inr (6, [.int 0, .int 0, .ref a1, .int 23, .int 0, .int 1, .int 1, .int 1, .ref a3]))]) (w1 := [(a1, .inr (5, [.ref cb, .int 81, .int 0, .ref a4, .int 3, .ref a2, .int 1, .ref a5, .int 1, .int 1, .ref a6, .int 6, .int 0, .int 1, .int 0])), (a2, .inl (cy 1, 2048, .inl g_2))]) hP hD [1, 2] [0] rfl rfl (by decide) (by decide) hk1 hFc hP1 hD1
  replace hP : va_P (dC, dI) vwCl [(a0, .inr (6, [.int 0, .int 0, .ref a1, .int 23, .int 0, .int 1, .int 1, .int 1, .ref a3])), (a1, .inr (5, [.ref cb, .int 81, .int 0, .ref a4, .int 3, .ref a2, .int 1, .ref a5, .int 1, .int 1, .ref a6, .int 6, .int 0, .int 1, .int 0])), (a2, .inl (cy 1, 2048, .inl g_2))] H_1 := hP2
  replace hD : va_D A [(a0, .inr (6, [.int 0, .int 0, .ref a1, .int 23, .int 0, .int 1, .int 1, .int 1, .ref a3])), (a1, .inr (5, [.ref cb, .int 81, .int 0, .ref a4, .int 3, .ref a2, .int 1, .ref a5, .int 1, .int 1, .ref a6, .int 6, .int 0, .int 1, .int 0])), (a2, .inl (cy 1, 2048, .inl g_2))] := hD2
  replace hS := hS2
  clear hP2 hD2 hS2
  clear hPc hDc hFc hP1 hD1 hK1 hk1 hz1 hvm ht
  refine W.widen (k := 0) (n := 0) (Nat.le_of_ble_eq_true rfl) (Nat.le_of_ble_eq_true rfl) ?_
  refine lv_aload_n hx hb dX6_readInstruction_11 rfl (lv_at hl 0 rfl) ?_
  refine va_get (D := (dC, dI)) (ci := 6) (v := .int 23) (C := RX6) (T := TX6) (N := 9) hx hb hts iw_X6_readInstruction_X6 hown hK hP 0 rfl rfl 3 (by decide) (hts _ m_X6_readInstruction_2) (fun _ h9 => h9) rfl dX6_readInstruction_12 ?_
  refine lv_istore_n (lv' := [(1, .int 23), (0, .ref a0)]) hx hb dX6_readInstruction_15 rfl hl (by decide) rfl (fun ls hl2 => ?_)
  replace hl := hl2
  clear hl2
  refine lv_aload_n hx hb dX6_readInstruction_16 rfl (lv_at hl 1 rfl) ?_
  have hPc := hP.sub (ws' := [(a0, .inr (6, [.int 0, .int 0, .ref a1, .int 23, .int 0, .int 1, .int 1, .int 1, .ref a3])), (a1, .inr (5, [.ref cb, .int 81, .int 0, .ref a4, .int 3, .ref a2, .int 1, .ref a5, .int 1, .int 1, .ref a6, .int 6, .int 0, .int 1, .int 0]))]) [0, 1] rfl
  have hDc := hD.sub (ws' := [(a0, .inr (6, [.int 0, .int 0, .ref a1, .int 23, .int 0, .int 1, .int 1, .int 1, .ref a3])), (a1, .inr (5, [.ref cb, .int 81, .int 0, .ref a4, .int 3, .ref a2, .int 1, .ref a5, .int 1, .int 1, .ref a6, .int 6, .int 0, .int 1, .int 0]))]) [0, 1] (by decide) rfl
  have hFc := va_free (wc := [(a0, .inr (6, [.int 0, .int 0, .ref a1, .int 23, .int 0, .int 1, .int 1, .int 1, .ref a3])), (a1, .inr (5, [.ref cb, .int 81, .int 0, .ref a4, .int 3, .ref a2, .int 1, .ref a5, .int 1, .int 1, .ref a6, .int 6, .int 0, .int 1, .int 0]))]) hD hS hA [0, 1] rfl
  refine va_calli (va_runV (As := []) (rest := []) ⟨hx, hb, hml, hown, hts⟩ (cc_76_X6_readByte l dC dI cy H_1.size cb a0 a1 a3 a4 a2 a5 a6) (cwV 0 hts gX6_readInstruction_X6_readByte rfl rfl rfl (by decide +kernel) ⟨Nat.le_of_ble_eq_true rfl, Nat.le_of_ble_eq_true rfl⟩) ⟨fun a U g mk q => by obtain ⟨q0, q1, qP, qK, qD, qN, qS⟩ := q; exact ⟨q0, q1, qP, va_K.moved (u := U) (U := U.calling g mk a) (Vm.Alike.refl U.vm) qK, qD, qN.same rfl, SK.moved (u := U) (U := U.calling g mk a) (Vm.Alike.refl U.vm) qS⟩, va_recv hK hPc (ci := 6) (q0 := 0) rfl rfl, fun U hU hW => ⟨rfl, by rw [hU], by rw [hU]; exact hPc, va_K.moved hW.alike hK, hDc.weaken (fun _ _ _ _ => trivial), hN.warm hW, by rw [hU]; exact ((hSK.kept hS.2.1).narrow hFc).moved hW.alike⟩⟩ rfl rfl hl.1 rfl (lv_room (Nat.le_of_ble_eq_true rfl)) dX6_readInstruction_17 ⟨Nat.le_of_ble_eq_true rfl, Nat.le_of_ble_eq_true rfl⟩) hS (fun q _ h => hFc q h) hFc (fun r_3 u t H_4 locs ht hvm hw hB hz1 hk1 hS2 => ?_)
  obtain ⟨hP1, hK1, hD1⟩ := hB
  rw [ht] at hP1
  obtain rfl := hw
  obtain ⟨hP2, hD2⟩ := va_join (wr := [(a2, .inl (cy 1, 2048, .inl g_2))]) (w1 := [(a0, .inr (6, [.int 0, .int 0, .ref a1, .int 24, .int 0, .int 1, .int 1, .int 1, .ref a3])), (a1, .inr (5, [.ref cb, .int 81, .int 0, .ref a4, .int 3, .ref a2, .int 1, .ref a5, .int 1, .int 1, .ref a6, .int 6, .int 0, .int 1, .int 0]))]) hP hD [0, 1] [2] rfl rfl (by decide) (by decide) hk1 hFc hP1 hD1
  replace hP : va_P (dC, dI) vwCl [(a2, .inl (cy 1, 2048, .inl g_2)), (a0, .inr (6, [.int 0, .int 0, .ref a1, .int 24, .int 0, .int 1, .int 1, .int 1, .ref a3])), (a1, .inr (5, [.ref cb, .int 81, .int 0, .ref a4, .int 3, .ref a2, .int 1, .ref a5, .int 1, .int 1, .ref a6, .int 6, .int 0, .int 1, .int 0]))] H_4 := hP2
  replace hD : va_D A [(a2, .inl (cy 1, 2048, .inl g_2)), (a0, .inr (6, [.int 0, .int 0, .ref a1, .int 24, .int 0, .int 1, .int 1, .int 1, .ref a3])), (a1, .inr (5, [.ref cb, .int 81, .int 0, .ref a4, .int 3, .ref a2, .int 1, .ref a5, .int 1, .int 1, .ref a6, .int 6, .int 0, .int 1, .int 0]))] := hD2
  replace hS := hS2
  clear hP2 hD2 hS2
  clear hPc hDc hFc hP1 hD1 hK1 hk1 hz1 hvm ht
  refine W.widen (k := 0) (n := 0) (Nat.le_of_ble_eq_true rfl) (Nat.le_of_ble_eq_true rfl) ?_
  refine lv_istore_n (lv' := [(2, .int 35), (1, .int 23), (0, .ref a0)]) hx hb dX6_readInstruction_20 rfl hl (by decide) rfl (fun ls hl2 => ?_)
  replace hl := hl2
  clear hl2
  refine lv_iload_n hx hb dX6_readInstruction_21 rfl (lv_at hl 0 rfl) ?_
  refine lv_bipush (v := 59) hx hb dX6_readInstruction_22 (by decide) ?_
  refine lv_icmp_le (tgt := 36) hx hb dX6_readInstruction_24 (by decide) (fun _ => ?_) (fun h => absurd (by decide) h)
  refine lv_iload_n hx hb dX6_readInstruction_36 rfl (lv_at hl 0 rfl) ?_
  refine lv_iconst (v := 2) hx hb dX6_readInstruction_37 (by decide) ?_
  refine lv_icmp_lt (tgt := 79) hx hb dX6_readInstruction_38 (by decide) (fun h => absurd h (by decide)) (fun _ => ?_)
  refine lv_iload_n hx hb dX6_readInstruction_41 rfl (lv_at hl 0 rfl) ?_
  refine lv_iconst (v := 4) hx hb dX6_readInstruction_42 (by decide) ?_
  refine lv_icmp_gt (tgt := 79) hx hb dX6_readInstruction_43 (by decide) (fun _ => ?_) (fun h => absurd (by decide) h)
  refine lv_iload_n hx hb dX6_readInstruction_79 rfl (lv_at hl 0 rfl) ?_
  refine lv_iconst (v := 5) hx hb dX6_readInstruction_80 (by decide) ?_
  refine lv_icmp_lt (tgt := 135) hx hb dX6_readInstruction_81 (by decide) (fun h => absurd h (by decide)) (fun _ => ?_)
  refine lv_iload_n hx hb dX6_readInstruction_84 rfl (lv_at hl 0 rfl) ?_
  refine lv_bipush (v := 10) hx hb dX6_readInstruction_85 (by decide) ?_
  refine lv_icmp_gt (tgt := 135) hx hb dX6_readInstruction_87 (by decide) (fun _ => ?_) (fun h => absurd (by decide) h)
  refine lv_iload_n hx hb dX6_readInstruction_135 rfl (lv_at hl 0 rfl) ?_
  refine lv_bipush (v := 11) hx hb dX6_readInstruction_136 (by decide) ?_
  refine lv_icmp_lt (tgt := 161) hx hb dX6_readInstruction_138 (by decide) (fun h => absurd h (by decide)) (fun _ => ?_)
  refine lv_iload_n hx hb dX6_readInstruction_141 rfl (lv_at hl 0 rfl) ?_
  refine lv_bipush (v := 15) hx hb dX6_readInstruction_142 (by decide) ?_
  refine lv_icmp_gt (tgt := 161) hx hb dX6_readInstruction_144 (by decide) (fun _ => ?_) (fun h => absurd (by decide) h)
  refine lv_iload_n hx hb dX6_readInstruction_161 rfl (lv_at hl 0 rfl) ?_
  refine lv_bipush (v := 16) hx hb dX6_readInstruction_162 (by decide) ?_
  refine lv_icmp_eq (tgt := 173) hx hb dX6_readInstruction_164 (by decide) (fun h => absurd h (by decide)) (fun _ => ?_)
  refine lv_iload_n hx hb dX6_readInstruction_167 rfl (lv_at hl 0 rfl) ?_
  refine lv_bipush (v := 17) hx hb dX6_readInstruction_168 (by decide) ?_
  refine lv_icmp_ne (tgt := 196) hx hb dX6_readInstruction_170 (by decide) (fun _ => ?_) (fun h => absurd h (by decide))
  refine lv_iload_n hx hb dX6_readInstruction_196 rfl (lv_at hl 0 rfl) ?_
  refine lv_bipush (v := 21) hx hb dX6_readInstruction_197 (by decide) ?_
  refine lv_icmp_eq (tgt := 220) hx hb dX6_readInstruction_199 (by decide) (fun h => absurd h (by decide)) (fun _ => ?_)
  refine lv_iload_n hx hb dX6_readInstruction_202 rfl (lv_at hl 0 rfl) ?_
  refine lv_bipush (v := 22) hx hb dX6_readInstruction_203 (by decide) ?_
  refine lv_icmp_eq (tgt := 220) hx hb dX6_readInstruction_205 (by decide) (fun h => absurd h (by decide)) (fun _ => ?_)
  refine lv_iload_n hx hb dX6_readInstruction_208 rfl (lv_at hl 0 rfl) ?_
  refine lv_bipush (v := 47) hx hb dX6_readInstruction_209 (by decide) ?_
  refine lv_icmp_lt (tgt := 228) hx hb dX6_readInstruction_211 (by decide) (fun _ => ?_) (fun h => absurd (by decide) h)
  refine lv_iload_n hx hb dX6_readInstruction_228 rfl (lv_at hl 0 rfl) ?_
  refine lv_bipush (v := 23) hx hb dX6_readInstruction_229 (by decide) ?_
  refine lv_icmp_ne (tgt := 259) hx hb dX6_readInstruction_231 (by decide) (fun _ => ?_) (fun h => absurd h (by decide))
  refine lv_iload_n hx hb dX6_readInstruction_259 rfl (lv_at hl 0 rfl) ?_
  refine lv_bipush (v := 52) hx hb dX6_readInstruction_260 (by decide) ?_
  refine lv_icmp_lt (tgt := 299) hx hb dX6_readInstruction_262 (by decide) (fun _ => ?_) (fun h => absurd (by decide) h)
  have hP := hP.sub (ws' := [(a0, .inr (6, [.int 0, .int 0, .ref a1, .int 24, .int 0, .int 1, .int 1, .int 1, .ref a3])), (a1, .inr (5, [.ref cb, .int 81, .int 0, .ref a4, .int 3, .ref a2, .int 1, .ref a5, .int 1, .int 1, .ref a6, .int 6, .int 0, .int 1, .int 0])), (a2, .inl (cy 1, 2048, .inl g_2))]) [1, 2, 0] rfl
  have hD := hD.sub (ws' := [(a0, .inr (6, [.int 0, .int 0, .ref a1, .int 24, .int 0, .int 1, .int 1, .int 1, .ref a3])), (a1, .inr (5, [.ref cb, .int 81, .int 0, .ref a4, .int 3, .ref a2, .int 1, .ref a5, .int 1, .int 1, .ref a6, .int 6, .int 0, .int 1, .int 0])), (a2, .inl (cy 1, 2048, .inl g_2))]) [1, 2, 0] (by decide) rfl
  exact W.vret hx hb hr (fun t ht hW => ⟨⟨(g_2), rfl, trivial, by rw [ht]; exact hP, va_K.moved hW.alike hK, hD⟩, hS.F ht⟩) hS.2.2 dX6_readInstruction_299

set_option maxHeartbeats 4000000 in
set_option maxRecDepth 100000 in
theorem cc_77_X5_setFunction (l : Launch) (dC : Nat → ClassId) (dI : Nat → Nat → Nat) (cy : Nat → ClassId) (sz : Nat) (cb : Nat) (a0 : Nat) (a1 : Nat) (a2 : Nat) (a3 : Nat) (a4 : Nat) (f0 : Nat → Int32)  : Met l yX5_setFunction wsX5_setFunction ({ frames := 0, cells := 0, slots := 0, locals := 0 }) (va_Pc [.ref a0, .int 1, .int 7, .int 0] (fun U => U.heap.size = sz ∧ va_P (dC, dI) vwCl [(a0, .inr (5, [.ref cb, .int 81, .int 0, .ref a2, .int 3, .ref a3, .int 1, .ref a4, .int 1, .int 1, .ref a1, .int 6, .int 0, .int 1, .int 0])), (a1, .inl (cy 1, 864, .inl f0))] U.heap ∧ va_K (dC, dI) vwCl (TYS cy) U ∧ va_D (fun _ => True) [(a0, .inr (5, [.ref cb, .int 81, .int 0, .ref a2, .int 3, .ref a3, .int 1, .ref a4, .int 1, .int 1, .ref a1, .int 6, .int 0, .int 1, .int 0])), (a1, .inl (cy 1, 864, .inl f0))] ∧ NK U ∧ SK cb (va_A [(a0, .inr (5, [.ref cb, .int 81, .int 0, .ref a2, .int 3, .ref a3, .int 1, .ref a4, .int 1, .int 1, .ref a1, .int 6, .int 0, .int 1, .int 0])), (a1, .inl (cy 1, 864, .inl f0))] sz) U U.heap)) (va_Qv (fun u : (Nat → Int32) => True) (fun u t => match u with | (u0) => va_P (dC, dI) vwCl [(a0, .inr (5, [.ref cb, .int 81, .int 0, .ref a2, .int 3, .ref a3, .int 1, .ref a4, .int 1, .int 1, .ref a1, .int 6, .int 0, .int 1, .int 0])), (a1, .inl (cy 1, 864, .inl u0))] t.heap ∧ va_K (dC, dI) vwCl (TYS cy) t ∧ va_D (va_A [(a0, .inr (5, [.ref cb, .int 81, .int 0, .ref a2, .int 3, .ref a3, .int 1, .ref a4, .int 1, .int 1, .ref a1, .int 6, .int 0, .int 1, .int 0])), (a1, .inl (cy 1, 864, .inl f0))] sz) [(a0, .inr (5, [.ref cb, .int 81, .int 0, .ref a2, .int 3, .ref a3, .int 1, .ref a4, .int 1, .int 1, .ref a1, .int 6, .int 0, .int 1, .int 0])), (a1, .inl (cy 1, 864, .inl u0))]) (va_A [(a0, .inr (5, [.ref cb, .int 81, .int 0, .ref a2, .int 3, .ref a3, .int 1, .ref a4, .int 1, .int 1, .ref a1, .int 6, .int 0, .int 1, .int 0])), (a1, .inl (cy 1, 864, .inl f0))] sz)) 0 0 (va_A [(a0, .inr (5, [.ref cb, .int 81, .int 0, .ref a2, .int 3, .ref a3, .int 1, .ref a4, .int 1, .int 1, .ref a1, .int 6, .int 0, .int 1, .int 0])), (a1, .inl (cy 1, 864, .inl f0))] sz) := by
  refine Met.ofW (cc := cX5_setFunction) (maxL := 4) (ret := none) (by decide) rfl ?_
  intro p e s m args below meth c s₁ B hml hv
  obtain ⟨rfl, hsz, hP, hK, hD0, hN, hSK⟩ := hv
  have hx := B.exec
  have hb := B.bytes
  have hr := B.returns
  have hts := atoms_spec (ws := wsX5_setFunction) B.pre
  have hown : s.vm.findClass RX5 = some m.cls := findClass_of_methodNamed B.named
  have hlocks := B.notSynchronized
  subst hsz
  have hD := hD0.self (sz := s.heap.size)
  generalize hAe : va_A [(a0, .inr (5, [.ref cb, .int 81, .int 0, .ref a2, .int 3, .ref a3, .int 1, .ref a4, .int 1, .int 1, .ref a1, .int 6, .int 0, .int 1, .int 0])), (a1, .inl (cy 1, 864, .inl f0))] s.heap.size = A at hD hSK ⊢
  have hA : ∀ q : Nat, s.heap.size ≤ q → A q := fun q h => by rw [← hAe]; exact Or.inr h
  have hS : va_S A s.heap s.heap [] := va_S.rf
  have hP : va_P (dC, dI) vwCl [(a0, .inr (5, [.ref cb, .int 81, .int 0, .ref a2, .int 3, .ref a3, .int 1, .ref a4, .int 1, .int 1, .ref a1, .int 6, .int 0, .int 1, .int 0])), (a1, .inl (cy 1, 864, .inl f0))] s.heap := hP
  have hl := lv_entry ([.ref a0, .int 1, .int 7, .int 0]) (n := 4) (Nat.le_of_ble_eq_true rfl)
  rw [lg_entry_eq]
  generalize (lg_sl ([.ref a0, .int 1, .int 7, .int 0]) ++ List.replicate (4 - (lg_sl ([.ref a0, .int 1, .int 7, .int 0])).length) Slot.unset).toArray = ls at hl ⊢
  replace hl : lv_has ls 4 [(0, .ref a0), (1, .int 1), (2, .int 7), (3, .int 0)] := hl
  refine lv_iload_n hx hb dX5_setFunction_0 rfl (lv_at hl 1 rfl) ?_
  refine lv_if_lt (tgt := 22) hx hb dX5_setFunction_1 (by decide) (fun h => absurd h (by decide)) (fun _ => ?_)
  refine lv_iload_n hx hb dX5_setFunction_4 rfl (lv_at hl 1 rfl) ?_
  refine lv_bipush (v := 96) hx hb dX5_setFunction_5 (by decide) ?_
  refine lv_icmp_ge (tgt := 22) hx hb dX5_setFunction_7 (by decide) (fun h => absurd h (by decide)) (fun _ => ?_)
  refine lv_aload_n hx hb dX5_setFunction_10 rfl (lv_at hl 0 rfl) ?_
  refine va_get (D := (dC, dI)) (ci := 5) (v := .ref a1) (C := RX5) (T := TX5) (N := 15) hx hb hts iw_X5_setFunction_X5 hown hK hP 0 rfl rfl 10 (by decide) (hts _ m_X5_setFunction_1) (fun _ h9 => h9) rfl dX5_setFunction_11 ?_
  refine lv_iload_n hx hb dX5_setFunction_14 rfl (lv_at hl 1 rfl) ?_
  refine lv_bipush (v := 9) hx hb dX5_setFunction_15 (by decide) ?_
  refine lv_imul hx hb dX5_setFunction_17 ?_
  refine lv_topi (fun z_1 ez_1 => ?_)
  obtain rfl : z_1 = 9 := ez_1.trans (by decide)
  clear ez_1
  refine lv_iload_n hx hb dX5_setFunction_18 rfl (lv_at hl 2 rfl) ?_
  refine lv_iadd hx hb dX5_setFunction_19 ?_
  refine lv_topi (fun z_2 ez_2 => ?_)
  obtain rfl : z_2 = 16 := ez_2.trans (by decide)
  clear ez_2
  refine lv_iload_n hx hb dX5_setFunction_20 rfl (lv_at hl 3 rfl) ?_
  refine va_iast hx hb hK hP hD hS 1 1 rfl rfl (by unfold vp_in; decide) dX5_setFunction_21 (fun H_4 locs hP2 hD2 hS2 => ?_)
  replace hP : va_P (dC, dI) vwCl [(a0, .inr (5, [.ref cb, .int 81, .int 0, .ref a2, .int 3, .ref a3, .int 1, .ref a4, .int 1, .int 1, .ref a1, .int 6, .int 0, .int 1, .int 0])), (a1, .inl (cy 1, 864, .inl (upd f0 16 0)))] H_4 := hP2
  replace hD : va_D A [(a0, .inr (5, [.ref cb, .int 81, .int 0, .ref a2, .int 3, .ref a3, .int 1, .ref a4, .int 1, .int 1, .ref a1, .int 6, .int 0, .int 1, .int 0])), (a1, .inl (cy 1, 864, .inl (upd f0 16 0)))] := hD2
  replace hS := hS2
  clear hP2 hD2 hS2
  obtain ⟨g_3, eg_3⟩ : ∃ z, upd f0 16 0 = z := ⟨_, rfl⟩
  rw [eg_3] at hP hD
  exact W.vret hx hb hr (fun t ht hW => ⟨⟨(g_3), rfl, trivial, by rw [ht]; exact hP, va_K.moved hW.alike hK, hD⟩, hS.F ht⟩) hS.2.2 dX5_setFunction_22

set_option maxHeartbeats 4000000 in
set_option maxRecDepth 100000 in
theorem cc_78_X5_setFunction (l : Launch) (dC : Nat → ClassId) (dI : Nat → Nat → Nat) (cy : Nat → ClassId) (sz : Nat) (cb : Nat) (a0 : Nat) (a1 : Nat) (a2 : Nat) (a3 : Nat) (a4 : Nat) (f0 : Nat → Int32)  : Met l yX5_setFunction wsX5_setFunction ({ frames := 0, cells := 0, slots := 0, locals := 0 }) (va_Pc [.ref a0, .int 1, .int 8, .int 1] (fun U => U.heap.size = sz ∧ va_P (dC, dI) vwCl [(a0, .inr (5, [.ref cb, .int 81, .int 0, .ref a2, .int 3, .ref a3, .int 1, .ref a4, .int 1, .int 1, .ref a1, .int 6, .int 0, .int 1, .int 0])), (a1, .inl (cy 1, 864, .inl f0))] U.heap ∧ va_K (dC, dI) vwCl (TYS cy) U ∧ va_D (fun _ => True) [(a0, .inr (5, [.ref cb, .int 81, .int 0, .ref a2, .int 3, .ref a3, .int 1, .ref a4, .int 1, .int 1, .ref a1, .int 6, .int 0, .int 1, .int 0])), (a1, .inl (cy 1, 864, .inl f0))] ∧ NK U ∧ SK cb (va_A [(a0, .inr (5, [.ref cb, .int 81, .int 0, .ref a2, .int 3, .ref a3, .int 1, .ref a4, .int 1, .int 1, .ref a1, .int 6, .int 0, .int 1, .int 0])), (a1, .inl (cy 1, 864, .inl f0))] sz) U U.heap)) (va_Qv (fun u : (Nat → Int32) => True) (fun u t => match u with | (u0) => va_P (dC, dI) vwCl [(a0, .inr (5, [.ref cb, .int 81, .int 0, .ref a2, .int 3, .ref a3, .int 1, .ref a4, .int 1, .int 1, .ref a1, .int 6, .int 0, .int 1, .int 0])), (a1, .inl (cy 1, 864, .inl u0))] t.heap ∧ va_K (dC, dI) vwCl (TYS cy) t ∧ va_D (va_A [(a0, .inr (5, [.ref cb, .int 81, .int 0, .ref a2, .int 3, .ref a3, .int 1, .ref a4, .int 1, .int 1, .ref a1, .int 6, .int 0, .int 1, .int 0])), (a1, .inl (cy 1, 864, .inl f0))] sz) [(a0, .inr (5, [.ref cb, .int 81, .int 0, .ref a2, .int 3, .ref a3, .int 1, .ref a4, .int 1, .int 1, .ref a1, .int 6, .int 0, .int 1, .int 0])), (a1, .inl (cy 1, 864, .inl u0))]) (va_A [(a0, .inr (5, [.ref cb, .int 81, .int 0, .ref a2, .int 3, .ref a3, .int 1, .ref a4, .int 1, .int 1, .ref a1, .int 6, .int 0, .int 1, .int 0])), (a1, .inl (cy 1, 864, .inl f0))] sz)) 0 0 (va_A [(a0, .inr (5, [.ref cb, .int 81, .int 0, .ref a2, .int 3, .ref a3, .int 1, .ref a4, .int 1, .int 1, .ref a1, .int 6, .int 0, .int 1, .int 0])), (a1, .inl (cy 1, 864, .inl f0))] sz) := by
  refine Met.ofW (cc := cX5_setFunction) (maxL := 4) (ret := none) (by decide) rfl ?_
  intro p e s m args below meth c s₁ B hml hv
  obtain ⟨rfl, hsz, hP, hK, hD0, hN, hSK⟩ := hv
  have hx := B.exec
  have hb := B.bytes
  have hr := B.returns
  have hts := atoms_spec (ws := wsX5_setFunction) B.pre
  have hown : s.vm.findClass RX5 = some m.cls := findClass_of_methodNamed B.named
  have hlocks := B.notSynchronized
  subst hsz
  have hD := hD0.self (sz := s.heap.size)
  generalize hAe : va_A [(a0, .inr (5, [.ref cb, .int 81, .int 0, .ref a2, .int 3, .ref a3, .int 1, .ref a4, .int 1, .int 1, .ref a1, .int 6, .int 0, .int 1, .int 0])), (a1, .inl (cy 1, 864, .inl f0))] s.heap.size = A at hD hSK ⊢
  have hA : ∀ q : Nat, s.heap.size ≤ q → A q := fun q h => by rw [← hAe]; exact Or.inr h
  have hS : va_S A s.heap s.heap [] := va_S.rf
  have hP : va_P (dC, dI) vwCl [(a0, .inr (5, [.ref cb, .int 81, .int 0, .ref a2, .int 3, .ref a3, .int 1, .ref a4, .int 1, .int 1, .ref a1, .int 6, .int 0, .int 1, .int 0])), (a1, .inl (cy 1, 864, .inl f0))] s.heap := hP
  have hl := lv_entry ([.ref a0, .int 1, .int 8, .int 1]) (n := 4) (Nat.le_of_ble_eq_true rfl)
  rw [lg_entry_eq]
  generalize (lg_sl ([.ref a0, .int 1, .int 8, .int 1]) ++ List.replicate (4 - (lg_sl ([.ref a0, .int 1, .int 8, .int 1])).length) Slot.unset).toArray = ls at hl ⊢
  replace hl : lv_has ls 4 [(0, .ref a0), (1, .int 1), (2, .int 8), (3, .int 1)] := hl
  refine lv_iload_n hx hb dX5_setFunction_0 rfl (lv_at hl 1 rfl) ?_
  refine lv_if_lt (tgt := 22) hx hb dX5_setFunction_1 (by decide) (fun h => absurd h (by decide)) (fun _ => ?_)
  refine lv_iload_n hx hb dX5_setFunction_4 rfl (lv_at hl 1 rfl) ?_
  refine lv_bipush (v := 96) hx hb dX5_setFunction_5 (by decide) ?_
  refine lv_icmp_ge (tgt := 22) hx hb dX5_setFunction_7 (by decide) (fun h => absurd h (by decide)) (fun _ => ?_)
  refine lv_aload_n hx hb dX5_setFunction_10 rfl (lv_at hl 0 rfl) ?_
  refine va_get (D := (dC, dI)) (ci := 5) (v := .ref a1) (C := RX5) (T := TX5) (N := 15) hx hb hts iw_X5_setFunction_X5 hown hK hP 0 rfl rfl 10 (by decide) (hts _ m_X5_setFunction_1) (fun _ h9 => h9) rfl dX5_setFunction_11 ?_
  refine lv_iload_n hx hb dX5_setFunction_14 rfl (lv_at hl 1 rfl) ?_
  refine lv_bipush (v := 9) hx hb dX5_setFunction_15 (by decide) ?_
  refine lv_imul hx hb dX5_setFunction_17 ?_
  refine lv_topi (fun z_1 ez_1 => ?_)
  obtain rfl : z_1 = 9 := ez_1.trans (by decide)
  clear ez_1
  refine lv_iload_n hx hb dX5_setFunction_18 rfl (lv_at hl 2 rfl) ?_
  refine lv_iadd hx hb dX5_setFunction_19 ?_
  refine lv_topi (fun z_2 ez_2 => ?_)
  obtain rfl : z_2 = 17 := ez_2.trans (by decide)
  clear ez_2
  refine lv_iload_n hx hb dX5_setFunction_20 rfl (lv_at hl 3 rfl) ?_
  refine va_iast hx hb hK hP hD hS 1 1 rfl rfl (by unfold vp_in; decide) dX5_setFunction_21 (fun H_4 locs hP2 hD2 hS2 => ?_)
  replace hP : va_P (dC, dI) vwCl [(a0, .inr (5, [.ref cb, .int 81, .int 0, .ref a2, .int 3, .ref a3, .int 1, .ref a4, .int 1, .int 1, .ref a1, .int 6, .int 0, .int 1, .int 0])), (a1, .inl (cy 1, 864, .inl (upd f0 17 1)))] H_4 := hP2
  replace hD : va_D A [(a0, .inr (5, [.ref cb, .int 81, .int 0, .ref a2, .int 3, .ref a3, .int 1, .ref a4, .int 1, .int 1, .ref a1, .int 6, .int 0, .int 1, .int 0])), (a1, .inl (cy 1, 864, .inl (upd f0 17 1)))] := hD2
  replace hS := hS2
  clear hP2 hD2 hS2
  obtain ⟨g_3, eg_3⟩ : ∃ z, upd f0 17 1 = z := ⟨_, rfl⟩
  rw [eg_3] at hP hD
  exact W.vret hx hb hr (fun t ht hW => ⟨⟨(g_3), rfl, trivial, by rw [ht]; exact hP, va_K.moved hW.alike hK, hD⟩, hS.F ht⟩) hS.2.2 dX5_setFunction_22

set_option maxHeartbeats 4000000 in
set_option maxRecDepth 100000 in
theorem cc_80_X6_readByte (l : Launch) (dC : Nat → ClassId) (dI : Nat → Nat → Nat) (cy : Nat → ClassId) (sz : Nat) (cb : Nat) (a0 : Nat) (a1 : Nat) (a2 : Nat) (a3 : Nat) (a4 : Nat) (a5 : Nat) (a6 : Nat)  : Met l yX6_readByte wsX6_readByte ({ frames := 0, cells := 0, slots := 0, locals := 0 }) (va_Pc [.ref a0] (fun U => U.heap.size = sz ∧ va_P (dC, dI) vwCl [(a0, .inr (6, [.int 0, .int 0, .ref a1, .int 24, .int 0, .int 1, .int 1, .int 1, .ref a2])), (a1, .inr (5, [.ref cb, .int 81, .int 0, .ref a3, .int 3, .ref a4, .int 1, .ref a5, .int 1, .int 1, .ref a6, .int 6, .int 0, .int 1, .int 0]))] U.heap ∧ va_K (dC, dI) vwCl (TYS cy) U ∧ va_D (fun _ => True) [(a0, .inr (6, [.int 0, .int 0, .ref a1, .int 24, .int 0, .int 1, .int 1, .int 1, .ref a2])), (a1, .inr (5, [.ref cb, .int 81, .int 0, .ref a3, .int 3, .ref a4, .int 1, .ref a5, .int 1, .int 1, .ref a6, .int 6, .int 0, .int 1, .int 0]))] ∧ NK U ∧ SK cb (va_A [(a0, .inr (6, [.int 0, .int 0, .ref a1, .int 24, .int 0, .int 1, .int 1, .int 1, .ref a2])), (a1, .inr (5, [.ref cb, .int 81, .int 0, .ref a3, .int 3, .ref a4, .int 1, .ref a5, .int 1, .int 1, .ref a6, .int 6, .int 0, .int 1, .int 0]))] sz) U U.heap)) (va_Qi (fun (r : Int32) (u : Unit) => r = 1) (fun u t => va_P (dC, dI) vwCl [(a0, .inr (6, [.int 0, .int 0, .ref a1, .int 25, .int 0, .int 1, .int 1, .int 1, .ref a2])), (a1, .inr (5, [.ref cb, .int 81, .int 0, .ref a3, .int 3, .ref a4, .int 1, .ref a5, .int 1, .int 1, .ref a6, .int 6, .int 0, .int 1, .int 0]))] t.heap ∧ va_K (dC, dI) vwCl (TYS cy) t ∧ va_D (va_A [(a0, .inr (6, [.int 0, .int 0, .ref a1, .int 24, .int 0, .int 1, .int 1, .int 1, .ref a2])), (a1, .inr (5, [.ref cb, .int 81, .int 0, .ref a3, .int 3, .ref a4, .int 1, .ref a5, .int 1, .int 1, .ref a6, .int 6, .int 0, .int 1, .int 0]))] sz) [(a0, .inr (6, [.int 0, .int 0, .ref a1, .int 25, .int 0, .int 1, .int 1, .int 1, .ref a2])), (a1, .inr (5, [.ref cb, .int 81, .int 0, .ref a3, .int 3, .ref a4, .int 1, .ref a5, .int 1, .int 1, .ref a6, .int 6, .int 0, .int 1, .int 0]))]) (va_A [(a0, .inr (6, [.int 0, .int 0, .ref a1, .int 24, .int 0, .int 1, .int 1, .int 1, .ref a2])), (a1, .inr (5, [.ref cb, .int 81, .int 0, .ref a3, .int 3, .ref a4, .int 1, .ref a5, .int 1, .int 1, .ref a6, .int 6, .int 0, .int 1, .int 0]))] sz)) 0 0 (va_A [(a0, .inr (6, [.int 0, .int 0, .ref a1, .int 24, .int 0, .int 1, .int 1, .int 1, .ref a2])), (a1, .inr (5, [.ref cb, .int 81, .int 0, .ref a3, .int 3, .ref a4, .int 1, .ref a5, .int 1, .int 1, .ref a6, .int 6, .int 0, .int 1, .int 0]))] sz) := by
  refine Met.ofW (cc := cX6_readByte) (maxL := 1) (ret := (some .int)) (by decide) rfl ?_
  intro p e s m args below meth c s₁ B hml hv
  obtain ⟨rfl, hsz, hP, hK, hD0, hN, hSK⟩ := hv
  have hx := B.exec
  have hb := B.bytes
  have hr := B.returns
  have hts := atoms_spec (ws := wsX6_readByte) B.pre
  have hown : s.vm.findClass RX6 = some m.cls := findClass_of_methodNamed B.named
  have hlocks := B.notSynchronized
  subst hsz
  have hD := hD0.self (sz := s.heap.size)
  generalize hAe : va_A [(a0, .inr (6, [.int 0, .int 0, .ref a1, .int 24, .int 0, .int 1, .int 1, .int 1, .ref a2])), (a1, .inr (5, [.ref cb, .int 81, .int 0, .ref a3, .int 3, .ref a4, .int 1, .ref a5, .int 1, .int 1, .ref a6, .int 6, .int 0, .int 1, .int 0]))] s.heap.size = A at hD hSK ⊢
  have hA : ∀ q : Nat, s.heap.size ≤ q → A q := fun q h => by rw [← hAe]; exact Or.inr h
  have hS : va_S A s.heap s.heap [] := va_S.rf
  have hP : va_P (dC, dI) vwCl [(a0, .inr (6, [.int 0, .int 0, .ref a1, .int 24, .int 0, .int 1, .int 1, .int 1, .ref a2])), (a1, .inr (5, [.ref cb, .int 81, .int 0, .ref a3, .int 3, .ref a4, .int 1, .ref a5, .int 1, .int 1, .ref a6, .int 6, .int 0, .int 1, .int 0]))] s.heap := hP
  have hl := lv_entry ([.ref a0]) (n := 1) (Nat.le_of_ble_eq_true rfl)
  rw [lg_entry_eq]
  generalize (lg_sl ([.ref a0]) ++ List.replicate (1 - (lg_sl ([.ref a0])).length) Slot.unset).toArray = ls at hl ⊢
  replace hl : lv_has ls 1 [(0, .ref a0)] := hl
  refine lv_aload_n hx hb dX6_readByte_0 rfl (lv_at hl 0 rfl) ?_
  refine va_get (D := (dC, dI)) (ci := 6) (v := .int 0) (C := RX6) (T := TX6) (N := 9) hx hb hts iw_X6_readByte_X6 hown hK hP 0 rfl rfl 1 (by decide) (hts _ m_X6_readByte_1) (fun _ h9 => h9) rfl dX6_readByte_1 ?_
  refine lv_if_eq (tgt := 9) hx hb dX6_readByte_4 (by decide) (fun _ => ?_) (fun h => absurd (by decide) h)
  refine lv_aload_n hx hb dX6_readByte_9 rfl (lv_at hl 0 rfl) ?_
  refine va_get (D := (dC, dI)) (ci := 6) (v := .int 24) (C := RX6) (T := TX6) (N := 9) hx hb hts iw_X6_readByte_X6 hown hK hP 0 rfl rfl 3 (by decide) (hts _ m_X6_readByte_2) (fun _ h9 => h9) rfl dX6_readByte_10 ?_
  refine lv_aload_n hx hb dX6_readByte_13 rfl (lv_at hl 0 rfl) ?_
  refine va_get (D := (dC, dI)) (ci := 6) (v := .ref a1) (C := RX6) (T := TX6) (N := 9) hx hb hts iw_X6_readByte_X6 hown hK hP 0 rfl rfl 2 (by decide) (hts _ m_X6_readByte_3) (fun _ h9 => h9) rfl dX6_readByte_14 ?_
  refine va_get (D := (dC, dI)) (ci := 5) (v := .int 81) (C := RX5) (T := TX5) (N := 15) hx hb hts iw_X6_readByte_X5 hown hK hP 1 rfl rfl 1 (by decide) (hts _ m_X6_readByte_4) (fun _ h9 => h9) rfl dX6_readByte_17 ?_
  refine lv_icmp_lt (tgt := 41) hx hb dX6_readByte_20 (by decide) (fun _ => ?_) (fun h => absurd (by decide) h)
  refine lv_aload_n hx hb dX6_readByte_41 rfl (lv_at hl 0 rfl) ?_
  refine va_get (D := (dC, dI)) (ci := 6) (v := .ref a1) (C := RX6) (T := TX6) (N := 9) hx hb hts iw_X6_readByte_X6 hown hK hP 0 rfl rfl 2 (by decide) (hts _ m_X6_readByte_3) (fun _ h9 => h9) rfl dX6_readByte_42 ?_
  refine va_get (D := (dC, dI)) (ci := 5) (v := .ref cb) (C := RX5) (T := TX5) (N := 15) hx hb hts iw_X6_readByte_X5 hown hK hP 1 rfl rfl 0 (by decide) (hts _ m_X6_readByte_6) (fun _ h9 => h9) rfl dX6_readByte_45 ?_
  refine lv_aload_n hx hb dX6_readByte_48 rfl (lv_at hl 0 rfl) ?_
  refine lv_dup hx hb dX6_readByte_49 rfl ?_
  refine va_get (D := (dC, dI)) (ci := 6) (v := .int 24) (C := RX6) (T := TX6) (N := 9) hx hb hts iw_X6_readByte_X6 hown hK hP 0 rfl rfl 3 (by decide) (hts _ m_X6_readByte_2) (fun _ h9 => h9) rfl dX6_readByte_50 ?_
  refine lv_dup_x1 hx hb dX6_readByte_53 rfl rfl ?_
  refine lv_iconst (v := 1) hx hb dX6_readByte_54 (by decide) ?_
  refine lv_iadd hx hb dX6_readByte_55 ?_
  refine lv_topi (fun z_1 ez_1 => ?_)
  obtain rfl : z_1 = 25 := ez_1.trans (by decide)
  clear ez_1
  refine va_put (D := (dC, dI)) (ci := 6) (v := .int 25) (ty := .int) (C := RX6) (T := TX6) (N := 9) hx hb hts iw_X6_readByte_X6 tyX6 tyX6_ok nmX6 hown hK hP hD hS 0 rfl rfl 3 (by decide) (hts _ m_X6_readByte_2) (fun _ h9 => h9) rfl (by decide +kernel) rfl rfl (Nat.le_of_ble_eq_true rfl) dX6_readByte_56 (fun H_2 locs hP2 hD2 hS2 => ?_)
  replace hP : va_P (dC, dI) vwCl [(a0, .inr (6, [.int 0, .int 0, .ref a1, .int 25, .int 0, .int 1, .int 1, .int 1, .ref a2])), (a1, .inr (5, [.ref cb, .int 81, .int 0, .ref a3, .int 3, .ref a4, .int 1, .ref a5, .int 1, .int 1, .ref a6, .int 6, .int 0, .int 1, .int 0]))] H_2 := hP2
  replace hD : va_D A [(a0, .inr (6, [.int 0, .int 0, .ref a1, .int 25, .int 0, .int 1, .int 1, .int 1, .ref a2])), (a1, .inr (5, [.ref cb, .int 81, .int 0, .ref a3, .int 3, .ref a4, .int 1, .ref a5, .int 1, .int 1, .ref a6, .int 6, .int 0, .int 1, .int 0]))] := hD2
  replace hS := hS2
  clear hP2 hD2 hS2
  refine va_tb (v := .int 1) hx hb hSK.2 hS (by unfold vp_in; decide) rfl dX6_readByte_59 ?_
  refine lv_sipush (v := 255) hx hb dX6_readByte_60 (by decide) ?_
  refine lv_iand hx hb dX6_readByte_63 ?_
  refine lv_topi (fun z_3 ez_3 => ?_)
  obtain rfl : z_3 = 1 := ez_3.trans (by decide)
  clear ez_3
  exact W.iret hx hb hr (fun t ht hW => ⟨⟨1, (), rfl, rfl, by rw [ht]; exact hP, va_K.moved hW.alike hK, hD⟩, hS.F ht⟩) hS.2.2 dX6_readByte_64

set_option maxHeartbeats 4000000 in
set_option maxRecDepth 100000 in
theorem cc_79_X6_readNumber (l : Launch) (dC : Nat → ClassId) (dI : Nat → Nat → Nat) (cy : Nat → ClassId) (sz : Nat) (cb : Nat) (a0 : Nat) (a1 : Nat) (a2 : Nat) (a3 : Nat) (a4 : Nat) (a5 : Nat) (a6 : Nat)  : Met l yX6_readNumber wsX6_readNumber ({ frames := 1, cells := 0, slots := 0, locals := 20 }) (va_Pc [.ref a0, .int 0, .int 7] (fun U => U.heap.size = sz ∧ va_P (dC, dI) vwCl [(a0, .inr (6, [.int 0, .int 0, .ref a1, .int 24, .int 0, .int 1, .int 1, .int 1, .ref a2])), (a1, .inr (5, [.ref cb, .int 81, .int 0, .ref a3, .int 3, .ref a4, .int 1, .ref a5, .int 1, .int 1, .ref a6, .int 6, .int 0, .int 1, .int 0]))] U.heap ∧ va_K (dC, dI) vwCl (TYS cy) U ∧ va_D (fun _ => True) [(a0, .inr (6, [.int 0, .int 0, .ref a1, .int 24, .int 0, .int 1, .int 1, .int 1, .ref a2])), (a1, .inr (5, [.ref cb, .int 81, .int 0, .ref a3, .int 3, .ref a4, .int 1, .ref a5, .int 1, .int 1, .ref a6, .int 6, .int 0, .int 1, .int 0]))] ∧ NK U ∧ SK cb (va_A [(a0, .inr (6, [.int 0, .int 0, .ref a1, .int 24, .int 0, .int 1, .int 1, .int 1, .ref a2])), (a1, .inr (5, [.ref cb, .int 81, .int 0, .ref a3, .int 3, .ref a4, .int 1, .ref a5, .int 1, .int 1, .ref a6, .int 6, .int 0, .int 1, .int 0]))] sz) U U.heap)) (va_Qi (fun (r : Int32) (u : Unit) => r = 1) (fun u t => va_P (dC, dI) vwCl [(a0, .inr (6, [.int 0, .int 0, .ref a1, .int 25, .int 0, .int 1, .int 1, .int 1, .ref a2])), (a1, .inr (5, [.ref cb, .int 81, .int 0, .ref a3, .int 3, .ref a4, .int 1, .ref a5, .int 1, .int 1, .ref a6, .int 6, .int 0, .int 1, .int 0]))] t.heap ∧ va_K (dC, dI) vwCl (TYS cy) t ∧ va_D (va_A [(a0, .inr (6, [.int 0, .int 0, .ref a1, .int 24, .int 0, .int 1, .int 1, .int 1, .ref a2])), (a1, .inr (5, [.ref cb, .int 81, .int 0, .ref a3, .int 3, .ref a4, .int 1, .ref a5, .int 1, .int 1, .ref a6, .int 6, .int 0, .int 1, .int 0]))] sz) [(a0, .inr (6, [.int 0, .int 0, .ref a1, .int 25, .int 0, .int 1, .int 1, .int 1, .ref a2])), (a1, .inr (5, [.ref cb, .int 81, .int 0, .ref a3, .int 3, .ref a4, .int 1, .ref a5, .int 1, .int 1, .ref a6, .int 6, .int 0, .int 1, .int 0]))]) (va_A [(a0, .inr (6, [.int 0, .int 0, .ref a1, .int 24, .int 0, .int 1, .int 1, .int 1, .ref a2])), (a1, .inr (5, [.ref cb, .int 81, .int 0, .ref a3, .int 3, .ref a4, .int 1, .ref a5, .int 1, .int 1, .ref a6, .int 6, .int 0, .int 1, .int 0]))] sz)) 0 0 (va_A [(a0, .inr (6, [.int 0, .int 0, .ref a1, .int 24, .int 0, .int 1, .int 1, .int 1, .ref a2])), (a1, .inr (5, [.ref cb, .int 81, .int 0, .ref a3, .int 3, .ref a4, .int 1, .ref a5, .int 1, .int 1, .ref a6, .int 6, .int 0, .int 1, .int 0]))] sz) := by
  refine Met.ofW (cc := cX6_readNumber) (maxL := 5) (ret := (some .int)) (by decide) rfl ?_
  intro p e s m args below meth c s₁ B hml hv
  obtain ⟨rfl, hsz, hP, hK, hD0, hN, hSK⟩ := hv
  have hx := B.exec
  have hb := B.bytes
  have hr := B.returns
  have hts := atoms_spec (ws := wsX6_readNumber) B.pre
  have hown : s.vm.findClass RX6 = some m.cls := findClass_of_methodNamed B.named
  have hlocks := B.notSynchronized
  subst hsz
  have hD := hD0.self (sz := s.heap.size)
  generalize hAe : va_A [(a0, .inr (6, [.int 0, .int 0, .ref a1, .int 24, .int 0, .int 1, .int 1, .int 1, .ref a2])), (a1, .inr (5, [.ref cb, .int 81, .int 0, .ref a3, .int 3, .ref a4, .int 1, .ref a5, .int 1, .int 1, .ref a6, .int 6, .int 0, .int 1, .int 0]))] s.heap.size = A at hD hSK ⊢
  have hA : ∀ q : Nat, s.heap.size ≤ q → A q := fun q h => by rw [← hAe]; exact Or.inr h
  have hS : va_S A s.heap s.heap [] := va_S.rf
  have hP : va_P (dC, dI) vwCl [(a0, .inr (6, [.int 0, .int 0, .ref a1, .int 24, .int 0, .int 1, .int 1, .int 1, .ref a2])), (a1, .inr (5, [.ref cb, .int 81, .int 0, .ref a3, .int 3, .ref a4, .int 1, .ref a5, .int 1, .int 1, .ref a6, .int 6, .int 0, .int 1, .int 0]))] s.heap := hP
  have hl := lv_entry ([.ref a0, .int 0, .int 7]) (n := 5) (Nat.le_of_ble_eq_true rfl)
  rw [lg_entry_eq]
  generalize (lg_sl ([.ref a0, .int 0, .int 7]) ++ List.replicate (5 - (lg_sl ([.ref a0, .int 0, .int 7])).length) Slot.unset).toArray = ls at hl ⊢
  replace hl : lv_has ls 5 [(0, .ref a0), (1, .int 0), (2, .int 7)] := hl
  refine lv_aload_n hx hb dX6_readNumber_0 rfl (lv_at hl 0 rfl) ?_
  refine va_get (D := (dC, dI)) (ci := 6) (v := .int 24) (C := RX6) (T := TX6) (N := 9) hx hb hts iw_X6_readNumber_X6 hown hK hP 0 rfl rfl 3 (by decide) (hts _ m_X6_readNumber_1) (fun _ h9 => h9) rfl dX6_readNumber_1 ?_
  refine lv_istore_n (lv' := [(3, .int 24), (0, .ref a0), (1, .int 0), (2, .int 7)]) hx hb dX6_readNumber_4 rfl hl (by decide) rfl (fun ls hl2 => ?_)
  replace hl := hl2
  clear hl2
  refine lv_aload_n hx hb dX6_readNumber_5 rfl (lv_at hl 1 rfl) ?_
  have hPc := hP.sub (ws' := [(a0, .inr (6, [.int 0, .int 0, .ref a1, .int 24, .int 0, .int 1, .int 1, .int 1, .ref a2])), (a1, .inr (5, [.ref cb, .int 81, .int 0, .ref a3, .int 3, .ref a4, .int 1, .ref a5, .int 1, .int 1, .ref a6, .int 6, .int 0, .int 1, .int 0]))]) [0, 1] rfl
  have hDc := hD.sub (ws' := [(a0, .inr (6, [.int 0, .int 0, .ref a1, .int 24, .int 0, .int 1, .int 1, .int 1, .ref a2])), (a1, .inr (5, [.ref cb, .int 81, .int 0, .ref a3, .int 3, .ref a4, .int 1, .ref a5, .int 1, .int 1, .ref a6, .int 6, .int 0, .int 1, .int 0]))]) [0, 1] (by decide) rfl
  have hFc := va_free (wc := [(a0, .inr (6, [.int 0, .int 0, .ref a1, .int 24, .int 0, .int 1, .int 1, .int 1, .ref a2])), (a1, .inr (5, [.ref cb, .int 81, .int 0, .ref a3, .int 3, .ref a4, .int 1, .ref a5, .int 1, .int 1, .ref a6, .int 6, .int 0, .int 1, .int 0]))]) hD hS hA [0, 1] rfl
  refine va_calli (va_runV (As := []) (rest := []) ⟨hx, hb, hml, hown, hts⟩ (cc_80_X6_readByte l dC dI cy s.heap.size cb a0 a1 a2 a3 a4 a5 a6) (cwV 0 hts gX6_readNumber_X6_readByte rfl rfl rfl (by decide +kernel) ⟨Nat.le_of_ble_eq_true rfl, Nat.le_of_ble_eq_true rfl⟩) ⟨fun a U g mk q => by obtain ⟨q0, q1, qP, qK, qD, qN, qS⟩ := q; exact ⟨q0, q1, qP, va_K.moved (u := U) (U := U.calling g mk a) (Vm.Alike.refl U.vm) qK, qD, qN.same rfl, SK.moved (u := U) (U := U.calling g mk a) (Vm.Alike.refl U.vm) qS⟩, va_recv hK hPc (ci := 6) (q0 := 0) rfl rfl, fun U hU hW => ⟨rfl, by rw [hU], by rw [hU]; exact hPc, va_K.moved hW.alike hK, hDc.weaken (fun _ _ _ _ => trivial), hN.warm hW, by rw [hU]; exact ((hSK.kept hS.2.1).narrow hFc).moved hW.alike⟩⟩ rfl rfl hl.1 rfl (lv_room (Nat.le_of_ble_eq_true rfl)) dX6_readNumber_6 ⟨Nat.le_of_ble_eq_true rfl, Nat.le_of_ble_eq_true rfl⟩) hS (fun q _ h => hFc q h) hFc (fun r_1 u t H_2 locs ht hvm hw hB hz1 hk1 hS2 => ?_)
  obtain ⟨hP1, hK1, hD1⟩ := hB
  rw [ht] at hP1
  obtain rfl := hw
  obtain ⟨hP2, hD2⟩ := va_join (wr := []) (w1 := [(a0, .inr (6, [.int 0, .int 0, .ref a1, .int 25, .int 0, .int 1, .int 1, .int 1, .ref a2])), (a1, .inr (5, [.ref cb, .int 81, .int 0, .ref a3, .int 3, .ref a4, .int 1, .ref a5, .int 1, .int 1, .ref a6, .int 6, .int 0, .int 1, .int 0]))]) hP hD [0, 1] [] rfl rfl (by decide) (by decide) hk1 hFc hP1 hD1
  replace hP : va_P (dC, dI) vwCl [(a0, .inr (6, [.int 0, .int 0, .ref a1, .int 25, .int 0, .int 1, .int 1, .int 1, .ref a2])), (a1, .inr (5, [.ref cb, .int 81, .int 0, .ref a3, .int 3, .ref a4, .int 1, .ref a5, .int 1, .int 1, .ref a6, .int 6, .int 0, .int 1, .int 0]))] H_2 := hP2
  replace hD : va_D A [(a0, .inr (6, [.int 0, .int 0, .ref a1, .int 25, .int 0, .int 1, .int 1, .int 1, .ref a2])), (a1, .inr (5, [.ref cb, .int 81, .int 0, .ref a3, .int 3, .ref a4, .int 1, .ref a5, .int 1, .int 1, .ref a6, .int 6, .int 0, .int 1, .int 0]))] := hD2
  replace hS := hS2
  clear hP2 hD2 hS2
  clear hPc hDc hFc hP1 hD1 hK1 hk1 hz1 hvm ht
  refine W.widen (k := 0) (n := 0) (Nat.le_of_ble_eq_true rfl) (Nat.le_of_ble_eq_true rfl) ?_
  refine lv_istore (lv' := [(4, .int 1), (3, .int 24), (0, .ref a0), (1, .int 0), (2, .int 7)]) hx hb dX6_readNumber_9 hl (by decide) rfl (fun ls hl2 => ?_)
  replace hl := hl2
  clear hl2
  refine lv_iload hx hb dX6_readNumber_11 (lv_at hl 0 rfl) ?_
  refine lv_iload_n hx hb dX6_readNumber_13 rfl (lv_at hl 3 rfl) ?_
  refine lv_icmp_lt (tgt := 23) hx hb dX6_readNumber_14 (by decide) (fun h => absurd h (by decide)) (fun _ => ?_)
  refine lv_iload hx hb dX6_readNumber_17 (lv_at hl 0 rfl) ?_
  refine lv_iload_n hx hb dX6_readNumber_19 rfl (lv_at hl 4 rfl) ?_
  refine lv_icmp_le (tgt := 29) hx hb dX6_readNumber_20 (by decide) (fun _ => ?_) (fun h => absurd (by decide) h)
  refine lv_aload_n hx hb dX6_readNumber_29 rfl (lv_at hl 2 rfl) ?_
  refine va_get (D := (dC, dI)) (ci := 6) (v := .int 0) (C := RX6) (T := TX6) (N := 9) hx hb hts iw_X6_readNumber_X6 hown hK hP 0 rfl rfl 1 (by decide) (hts _ m_X6_readNumber_2) (fun _ h9 => h9) rfl dX6_readNumber_30 ?_
  refine lv_if_ne (tgt := 41) hx hb dX6_readNumber_33 (by decide) (fun h => absurd (by decide) h) (fun _ => ?_)
  refine lv_iload hx hb dX6_readNumber_36 (lv_at hl 0 rfl) ?_
  refine lv_goto (tgt := 42) hx hb dX6_readNumber_38 (by decide) ?_
  exact W.iret hx hb hr (fun t ht hW => ⟨⟨1, (), rfl, rfl, by rw [ht]; exact hP, va_K.moved hW.alike hK, hD⟩, hS.F ht⟩) hS.2.2 dX6_readNumber_42

set_option maxHeartbeats 4000000 in
set_option maxRecDepth 100000 in
theorem cc_81_X5_setFunction (l : Launch) (dC : Nat → ClassId) (dI : Nat → Nat → Nat) (cy : Nat → ClassId) (sz : Nat) (cb : Nat) (a0 : Nat) (a1 : Nat) (a2 : Nat) (a3 : Nat) (a4 : Nat) (f0 : Nat → Int32)  : Met l yX5_setFunction wsX5_setFunction ({ frames := 0, cells := 0, slots := 0, locals := 0 }) (va_Pc [.ref a0, .int 1, .int 0, .int 1] (fun U => U.heap.size = sz ∧ va_P (dC, dI) vwCl [(a0, .inr (5, [.ref cb, .int 81, .int 0, .ref a2, .int 3, .ref a3, .int 1, .ref a4, .int 1, .int 1, .ref a1, .int 6, .int 0, .int 1, .int 0])), (a1, .inl (cy 1, 864, .inl f0))] U.heap ∧ va_K (dC, dI) vwCl (TYS cy) U ∧ va_D (fun _ => True) [(a0, .inr (5, [.ref cb, .int 81, .int 0, .ref a2, .int 3, .ref a3, .int 1, .ref a4, .int 1, .int 1, .ref a1, .int 6, .int 0, .int 1, .int 0])), (a1, .inl (cy 1, 864, .inl f0))] ∧ NK U ∧ SK cb (va_A [(a0, .inr (5, [.ref cb, .int 81, .int 0, .ref a2, .int 3, .ref a3, .int 1, .ref a4, .int 1, .int 1, .ref a1, .int 6, .int 0, .int 1, .int 0])), (a1, .inl (cy 1, 864, .inl f0))] sz) U U.heap)) (va_Qv (fun u : (Nat → Int32) => True) (fun u t => match u with | (u0) => va_P (dC, dI) vwCl [(a0, .inr (5, [.ref cb, .int 81, .int 0, .ref a2, .int 3, .ref a3, .int 1, .ref a4, .int 1, .int 1, .ref a1, .int 6, .int 0, .int 1, .int 0])), (a1, .inl (cy 1, 864, .inl u0))] t.heap ∧ va_K (dC, dI) vwCl (TYS cy) t ∧ va_D (va_A [(a0, .inr (5, [.ref cb, .int 81, .int 0, .ref a2, .int 3, .ref a3, .int 1, .ref a4, .int 1, .int 1, .ref a1, .int 6, .int 0, .int 1, .int 0])), (a1, .inl (cy 1, 864, .inl f0))] sz) [(a0, .inr (5, [.ref cb, .int 81, .int 0, .ref a2, .int 3, .ref a3, .int 1, .ref a4, .int 1, .int 1, .ref a1, .int 6, .int 0, .int 1, .int 0])), (a1, .inl (cy 1, 864, .inl u0))]) (va_A [(a0, .inr (5, [.ref cb, .int 81, .int 0, .ref a2, .int 3, .ref a3, .int 1, .ref a4, .int 1, .int 1, .ref a1, .int 6, .int 0, .int 1, .int 0])), (a1, .inl (cy 1, 864, .inl f0))] sz)) 0 0 (va_A [(a0, .inr (5, [.ref cb, .int 81, .int 0, .ref a2, .int 3, .ref a3, .int 1, .ref a4, .int 1, .int 1, .ref a1, .int 6, .int 0, .int 1, .int 0])), (a1, .inl (cy 1, 864, .inl f0))] sz) := by
  refine Met.ofW (cc := cX5_setFunction) (maxL := 4) (ret := none) (by decide) rfl ?_
  intro p e s m args below meth c s₁ B hml hv
  obtain ⟨rfl, hsz, hP, hK, hD0, hN, hSK⟩ := hv
  have hx := B.exec
  have hb := B.bytes
  have hr := B.returns
  have hts := atoms_spec (ws := wsX5_setFunction) B.pre
  have hown : s.vm.findClass RX5 = some m.cls := findClass_of_methodNamed B.named
  have hlocks := B.notSynchronized
  subst hsz
  have hD := hD0.self (sz := s.heap.size)
  generalize hAe : va_A [(a0, .inr (5, [.ref cb, .int 81, .int 0, .ref a2, .int 3, .ref a3, .int 1, .ref a4, .int 1, .int 1, .ref a1, .int 6, .int 0, .int 1, .int 0])), (a1, .inl (cy 1, 864, .inl f0))] s.heap.size = A at hD hSK ⊢
  have hA : ∀ q : Nat, s.heap.size ≤ q → A q := fun q h => by rw [← hAe]; exact Or.inr h
  have hS : va_S A s.heap s.heap [] := va_S.rf
  have hP : va_P (dC, dI) vwCl [(a0, .inr (5, [.ref cb, .int 81, .int 0, .ref a2, .int 3, .ref a3, .int 1, .ref a4, .int 1, .int 1, .ref a1, .int 6, .int 0, .int 1, .int 0])), (a1, .inl (cy 1, 864, .inl f0))] s.heap := hP
  have hl := lv_entry ([.ref a0, .int 1, .int 0, .int 1]) (n := 4) (Nat.le_of_ble_eq_true rfl)
  rw [lg_entry_eq]
  generalize (lg_sl ([.ref a0, .int 1, .int 0, .int 1]) ++ List.replicate (4 - (lg_sl ([.ref a0, .int 1, .int 0, .int 1])).length) Slot.unset).toArray = ls at hl ⊢
  replace hl : lv_has ls 4 [(0, .ref a0), (1, .int 1), (2, .int 0), (3, .int 1)] := hl
  refine lv_iload_n hx hb dX5_setFunction_0 rfl (lv_at hl 1 rfl) ?_
  refine lv_if_lt (tgt := 22) hx hb dX5_setFunction_1 (by decide) (fun h => absurd h (by decide)) (fun _ => ?_)
  refine lv_iload_n hx hb dX5_setFunction_4 rfl (lv_at hl 1 rfl) ?_
  refine lv_bipush (v := 96) hx hb dX5_setFunction_5 (by decide) ?_
  refine lv_icmp_ge (tgt := 22) hx hb dX5_setFunction_7 (by decide) (fun h => absurd h (by decide)) (fun _ => ?_)
  refine lv_aload_n hx hb dX5_setFunction_10 rfl (lv_at hl 0 rfl) ?_
  refine va_get (D := (dC, dI)) (ci := 5) (v := .ref a1) (C := RX5) (T := TX5) (N := 15) hx hb hts iw_X5_setFunction_X5 hown hK hP 0 rfl rfl 10 (by decide) (hts _ m_X5_setFunction_1) (fun _ h9 => h9) rfl dX5_setFunction_11 ?_
  refine lv_iload_n hx hb dX5_setFunction_14 rfl (lv_at hl 1 rfl) ?_
  refine lv_bipush (v := 9) hx hb dX5_setFunction_15 (by decide) ?_
  refine lv_imul hx hb dX5_setFunction_17 ?_
  refine lv_topi (fun z_1 ez_1 => ?_)
  obtain rfl : z_1 = 9 := ez_1.trans (by decide)
  clear ez_1
  refine lv_iload_n hx hb dX5_setFunction_18 rfl (lv_at hl 2 rfl) ?_
  refine lv_iadd hx hb dX5_setFunction_19 ?_
  refine lv_topi (fun z_2 ez_2 => ?_)
  obtain rfl : z_2 = 9 := ez_2.trans (by decide)
  clear ez_2
  refine lv_iload_n hx hb dX5_setFunction_20 rfl (lv_at hl 3 rfl) ?_
  refine va_iast hx hb hK hP hD hS 1 1 rfl rfl (by unfold vp_in; decide) dX5_setFunction_21 (fun H_4 locs hP2 hD2 hS2 => ?_)
  replace hP : va_P (dC, dI) vwCl [(a0, .inr (5, [.ref cb, .int 81, .int 0, .ref a2, .int 3, .ref a3, .int 1, .ref a4, .int 1, .int 1, .ref a1, .int 6, .int 0, .int 1, .int 0])), (a1, .inl (cy 1, 864, .inl (upd f0 9 1)))] H_4 := hP2
  replace hD : va_D A [(a0, .inr (5, [.ref cb, .int 81, .int 0, .ref a2, .int 3, .ref a3, .int 1, .ref a4, .int 1, .int 1, .ref a1, .int 6, .int 0, .int 1, .int 0])), (a1, .inl (cy 1, 864, .inl (upd f0 9 1)))] := hD2
  replace hS := hS2
  clear hP2 hD2 hS2
  obtain ⟨g_3, eg_3⟩ : ∃ z, upd f0 9 1 = z := ⟨_, rfl⟩
  rw [eg_3] at hP hD
  exact W.vret hx hb hr (fun t ht hW => ⟨⟨(g_3), rfl, trivial, by rw [ht]; exact hP, va_K.moved hW.alike hK, hD⟩, hS.F ht⟩) hS.2.2 dX5_setFunction_22

set_option maxHeartbeats 4000000 in
set_option maxRecDepth 100000 in
theorem cc_82_X5_setFunction (l : Launch) (dC : Nat → ClassId) (dI : Nat → Nat → Nat) (cy : Nat → ClassId) (sz : Nat) (cb : Nat) (a0 : Nat) (a1 : Nat) (a2 : Nat) (a3 : Nat) (a4 : Nat) (f0 : Nat → Int32)  : Met l yX5_setFunction wsX5_setFunction ({ frames := 0, cells := 0, slots := 0, locals := 0 }) (va_Pc [.ref a0, .int 1, .int 1, .int 3] (fun U => U.heap.size = sz ∧ va_P (dC, dI) vwCl [(a0, .inr (5, [.ref cb, .int 81, .int 0, .ref a2, .int 3, .ref a3, .int 1, .ref a4, .int 1, .int 1, .ref a1, .int 6, .int 0, .int 1, .int 0])), (a1, .inl (cy 1, 864, .inl f0))] U.heap ∧ va_K (dC, dI) vwCl (TYS cy) U ∧ va_D (fun _ => True) [(a0, .inr (5, [.ref cb, .int 81, .int 0, .ref a2, .int 3, .ref a3, .int 1, .ref a4, .int 1, .int 1, .ref a1, .int 6, .int 0, .int 1, .int 0])), (a1, .inl (cy 1, 864, .inl f0))] ∧ NK U ∧ SK cb (va_A [(a0, .inr (5, [.ref cb, .int 81, .int 0, .ref a2, .int 3, .ref a3, .int 1, .ref a4, .int 1, .int 1, .ref a1, .int 6, .int 0, .int 1, .int 0])), (a1, .inl (cy 1, 864, .inl f0))] sz) U U.heap)) (va_Qv (fun u : (Nat → Int32) => True) (fun u t => match u with | (u0) => va_P (dC, dI) vwCl [(a0, .inr (5, [.ref cb, .int 81, .int 0, .ref a2, .int 3, .ref a3, .int 1, .ref a4, .int 1, .int 1, .ref a1, .int 6, .int 0, .int 1, .int 0])), (a1, .inl (cy 1, 864, .inl u0))] t.heap ∧ va_K (dC, dI) vwCl (TYS cy) t ∧ va_D (va_A [(a0, .inr (5, [.ref cb, .int 81, .int 0, .ref a2, .int 3, .ref a3, .int 1, .ref a4, .int 1, .int 1, .ref a1, .int 6, .int 0, .int 1, .int 0])), (a1, .inl (cy 1, 864, .inl f0))] sz) [(a0, .inr (5, [.ref cb, .int 81, .int 0, .ref a2, .int 3, .ref a3, .int 1, .ref a4, .int 1, .int 1, .ref a1, .int 6, .int 0, .int 1, .int 0])), (a1, .inl (cy 1, 864, .inl u0))]) (va_A [(a0, .inr (5, [.ref cb, .int 81, .int 0, .ref a2, .int 3, .ref a3, .int 1, .ref a4, .int 1, .int 1, .ref a1, .int 6, .int 0, .int 1, .int 0])), (a1, .inl (cy 1, 864, .inl f0))] sz)) 0 0 (va_A [(a0, .inr (5, [.ref cb, .int 81, .int 0, .ref a2, .int 3, .ref a3, .int 1, .ref a4, .int 1, .int 1, .ref a1, .int 6, .int 0, .int 1, .int 0])), (a1, .inl (cy 1, 864, .inl f0))] sz) := by
  refine Met.ofW (cc := cX5_setFunction) (maxL := 4) (ret := none) (by decide) rfl ?_
  intro p e s m args below meth c s₁ B hml hv
  obtain ⟨rfl, hsz, hP, hK, hD0, hN, hSK⟩ := hv
  have hx := B.exec
  have hb := B.bytes
  have hr := B.returns
  have hts := atoms_spec (ws := wsX5_setFunction) B.pre
  have hown : s.vm.findClass RX5 = some m.cls := findClass_of_methodNamed B.named
  have hlocks := B.notSynchronized
  subst hsz
  have hD := hD0.self (sz := s.heap.size)
  generalize hAe : va_A [(a0, .inr (5, [.ref cb, .int 81, .int 0, .ref a2, .int 3, .ref a3, .int 1, .ref a4, .int 1, .int 1, .ref a1, .int 6, .int 0, .int 1, .int 0])), (a1, .inl (cy 1, 864, .inl f0))] s.heap.size = A at hD hSK ⊢
  have hA : ∀ q : Nat, s.heap.size ≤ q → A q := fun q h => by rw [← hAe]; exact Or.inr h
  have hS : va_S A s.heap s.heap [] := va_S.rf
  have hP : va_P (dC, dI) vwCl [(a0, .inr (5, [.ref cb, .int 81, .int 0, .ref a2, .int 3, .ref a3, .int 1, .ref a4, .int 1, .int 1, .ref a1, .int 6, .int 0, .int 1, .int 0])), (a1, .inl (cy 1, 864, .inl f0))] s.heap := hP
  have hl := lv_entry ([.ref a0, .int 1, .int 1, .int 3]) (n := 4) (Nat.le_of_ble_eq_true rfl)
  rw [lg_entry_eq]
  generalize (lg_sl ([.ref a0, .int 1, .int 1, .int 3]) ++ List.replicate (4 - (lg_sl ([.ref a0, .int 1, .int 1, .int 3])).length) Slot.unset).toArray = ls at hl ⊢
  replace hl : lv_has ls 4 [(0, .ref a0), (1, .int 1), (2, .int 1), (3, .int 3)] := hl
  refine lv_iload_n hx hb dX5_setFunction_0 rfl (lv_at hl 1 rfl) ?_
  refine lv_if_lt (tgt := 22) hx hb dX5_setFunction_1 (by decide) (fun h => absurd h (by decide)) (fun _ => ?_)
  refine lv_iload_n hx hb dX5_setFunction_4 rfl (lv_at hl 1 rfl) ?_
  refine lv_bipush (v := 96) hx hb dX5_setFunction_5 (by decide) ?_
  refine lv_icmp_ge (tgt := 22) hx hb dX5_setFunction_7 (by decide) (fun h => absurd h (by decide)) (fun _ => ?_)
  refine lv_aload_n hx hb dX5_setFunction_10 rfl (lv_at hl 0 rfl) ?_
  refine va_get (D := (dC, dI)) (ci := 5) (v := .ref a1) (C := RX5) (T := TX5) (N := 15) hx hb hts iw_X5_setFunction_X5 hown hK hP 0 rfl rfl 10 (by decide) (hts _ m_X5_setFunction_1) (fun _ h9 => h9) rfl dX5_setFunction_11 ?_
  refine lv_iload_n hx hb dX5_setFunction_14 rfl (lv_at hl 1 rfl) ?_
  refine lv_bipush (v := 9) hx hb dX5_setFunction_15 (by decide) ?_
  refine lv_imul hx hb dX5_setFunction_17 ?_
  refine lv_topi (fun z_1 ez_1 => ?_)
  obtain rfl : z_1 = 9 := ez_1.trans (by decide)
  clear ez_1
  refine lv_iload_n hx hb dX5_setFunction_18 rfl (lv_at hl 2 rfl) ?_
  refine lv_iadd hx hb dX5_setFunction_19 ?_
  refine lv_topi (fun z_2 ez_2 => ?_)
  obtain rfl : z_2 = 10 := ez_2.trans (by decide)
  clear ez_2
  refine lv_iload_n hx hb dX5_setFunction_20 rfl (lv_at hl 3 rfl) ?_
  refine va_iast hx hb hK hP hD hS 1 1 rfl rfl (by unfold vp_in; decide) dX5_setFunction_21 (fun H_4 locs hP2 hD2 hS2 => ?_)
  replace hP : va_P (dC, dI) vwCl [(a0, .inr (5, [.ref cb, .int 81, .int 0, .ref a2, .int 3, .ref a3, .int 1, .ref a4, .int 1, .int 1, .ref a1, .int 6, .int 0, .int 1, .int 0])), (a1, .inl (cy 1, 864, .inl (upd f0 10 3)))] H_4 := hP2
  replace hD : va_D A [(a0, .inr (5, [.ref cb, .int 81, .int 0, .ref a2, .int 3, .ref a3, .int 1, .ref a4, .int 1, .int 1, .ref a1, .int 6, .int 0, .int 1, .int 0])), (a1, .inl (cy 1, 864, .inl (upd f0 10 3)))] := hD2
  replace hS := hS2
  clear hP2 hD2 hS2
  obtain ⟨g_3, eg_3⟩ : ∃ z, upd f0 10 3 = z := ⟨_, rfl⟩
  rw [eg_3] at hP hD
  exact W.vret hx hb hr (fun t ht hW => ⟨⟨(g_3), rfl, trivial, by rw [ht]; exact hP, va_K.moved hW.alike hK, hD⟩, hS.F ht⟩) hS.2.2 dX5_setFunction_22
