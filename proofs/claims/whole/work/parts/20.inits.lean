theorem m_X0_init_1 : (.methodLink RX0 1 objectInit : Cond) ∈ wsX0_init := List.mem_of_getElem? (i := 1) rfl
theorem m_X0_init_2 : (.instanceMethod objectInit : Cond) ∈ wsX0_init := List.mem_of_getElem? (i := 2) rfl
theorem m_X0_init_3 : (.code objectInit ⟨#[0xb1]⟩ 1 none : Cond) ∈ wsX0_init := List.mem_of_getElem? (i := 3) rfl
theorem m_X0_init_4 : (.arrayClass .int : Cond) ∈ wsX0_init := List.mem_of_getElem? (i := 4) rfl
theorem m_X0_init_5 : (.fieldLink RX0 7 "ResourceLedger$Digest" "words" "[I" : Cond) ∈ wsX0_init := List.mem_of_getElem? (i := 5) rfl
theorem iw_X0_init_X0 : ∀ w ∈ wsX00, w ∈ wsX0_init := fun _ h => List.mem_cons_of_mem _ (List.mem_append_right _ h)
theorem m_X0_init_6 : (.fieldLink RX0 13 "ResourceLedger$Digest" "w" "[I" : Cond) ∈ wsX0_init := List.mem_of_getElem? (i := 6) rfl
set_option maxHeartbeats 4000000 in
set_option maxRecDepth 100000 in
theorem c_X0_init (l : Launch) (dC : Nat → ClassId) (dI : Nat → Nat → Nat) (cy : Nat → ClassId) (sz : Nat) (h0 : Nat) : Met l yX0_init wsX0_init ({ frames := 1, cells := 2, slots := 72, locals := 12 }) (va_Pc [.ref h0] (fun U => U.heap.size = sz ∧ va_P (dC, dI) vwCl [(h0, .inr (0, [.null, .null, .int 0, .long 0]))] U.heap ∧ va_K (dC, dI) vwCl (TYS cy) U ∧ va_D (fun _ => True) [(h0, .inr (0, [.null, .null, .int 0, .long 0]))] ∧ NK U)) (va_Qv (fun u : Nat × Nat => True) (fun u t => match u with | (q0, q1) => va_P (dC, dI) vwCl [(h0, .inr (0, [.ref q0, .ref q1, .int 0, .long 0])), (q0, .inl (cy 1, 8, .inl (fun _ => 0))), (q1, .inl (cy 1, 64, .inl (fun _ => 0)))] t.heap ∧ va_K (dC, dI) vwCl (TYS cy) t ∧ va_D (va_A [(h0, .inr (0, [.null, .null, .int 0, .long 0]))] sz) [(h0, .inr (0, [.ref q0, .ref q1, .int 0, .long 0])), (q0, .inl (cy 1, 8, .inl (fun _ => 0))), (q1, .inl (cy 1, 64, .inl (fun _ => 0)))]) (va_A [(h0, .inr (0, [.null, .null, .int 0, .long 0]))] sz)) 2 72 (va_A [(h0, .inr (0, [.null, .null, .int 0, .long 0]))] sz) := by
  refine Met.ofW (cc := cX0_init) (maxL := 1) (ret := none) (by decide) rfl ?_
  intro p e s m args below meth c s₁ B hml hv
  obtain ⟨rfl, hsz, hP, hK, hD0, hN⟩ := hv
  have hx := B.exec
  have hb := B.bytes
  have hr := B.returns
  have hts := atoms_spec (ws := wsX0_init) B.pre
  have hown : s.vm.findClass RX0 = some m.cls := findClass_of_methodNamed B.named
  have hlocks := B.notSynchronized
  have hin : meth.name = "<init>" := (name_of_methodNamed B.named B.method).1
  subst hsz
  have hD := hD0.self (sz := s.heap.size)
  generalize hAe : va_A [(h0, .inr (0, [.null, .null, .int 0, .long 0]))] s.heap.size = A at hD ⊢
  have hA : ∀ q : Nat, s.heap.size ≤ q → A q := fun q h => by rw [← hAe]; exact Or.inr h
  have hS : va_S A s.heap s.heap [] := va_S.rf
  have hP : va_P (dC, dI) vwCl [(h0, .inr (0, [.null, .null, .int 0, .long 0]))] s.heap := hP
  have hl := lv_entry ([.ref h0]) (n := 1) (Nat.le_of_ble_eq_true rfl)
  rw [lg_entry_eq]
  generalize (lg_sl ([.ref h0]) ++ List.replicate (1 - (lg_sl ([.ref h0])).length) Slot.unset).toArray = ls at hl ⊢
  replace hl : lv_has ls 1 [(0, .ref h0)] := hl
  refine lv_aload_n hx hb dX0_init_0 rfl (lv_at hl 0 rfl) ?_
  refine W.objInit hx hb hown (hts _ m_X0_init_1) (hts _ m_X0_init_2) (hts _ m_X0_init_3) rfl (by rw [hml]; exact hl.1) rfl dX0_init_1 (Nat.le_of_ble_eq_true rfl) (Nat.le_of_ble_eq_true rfl) ?_
  refine W.eq (g2 := F0 m 4 ls []) rfl ?_
  refine lv_aload_n hx hb dX0_init_4 rfl (lv_at hl 0 rfl) ?_
  refine lv_bipush (v := 8) hx hb dX0_init_5 (by decide) ?_
  refine rl_newa (atype := .int) (ty := .int) (a0 := (8, .inl (fun _ => 0))) hx hb (hts _ m_X0_init_4) rfl hK hP hD hS hA 1 rfl (fun _ => rfl) (by decide) (by decide) (Nat.le_of_ble_eq_true rfl) (Nat.le_of_ble_eq_true rfl) (Nat.le_of_ble_eq_true rfl) dX0_init_7 (fun q_1 H_2 hP2 hD2 hS2 => ?_)
  replace hP : va_P (dC, dI) vwCl [(h0, .inr (0, [.null, .null, .int 0, .long 0])), (q_1, .inl (cy 1, 8, .inl (fun _ => 0)))] H_2 := hP2
  replace hD : va_D A [(h0, .inr (0, [.null, .null, .int 0, .long 0])), (q_1, .inl (cy 1, 8, .inl (fun _ => 0)))] := hD2
  replace hS := hS2
  clear hP2 hD2 hS2
  refine W.widen (k := 1) (n := 8) (Nat.le_of_ble_eq_true rfl) (Nat.le_of_ble_eq_true rfl) ?_
  refine va_putF (D := (dC, dI)) (ci := 0) (v := .ref q_1) (ty := .array .int) (C := RX0) (T := TX0) (N := 4) hx hb hts iw_X0_init_X0 tyX0 tyX0_ok nmX0 hown hK hP hD hS 0 rfl rfl 0 (by decide) (hts _ m_X0_init_5) (fun _ h9 => h9) rfl hin rfl (by decide +kernel) rfl rfl (Nat.le_of_ble_eq_true rfl) dX0_init_9 (fun H_3 locs hP2 hD2 hS2 => ?_)
  replace hP : va_P (dC, dI) vwCl [(h0, .inr (0, [.ref q_1, .null, .int 0, .long 0])), (q_1, .inl (cy 1, 8, .inl (fun _ => 0)))] H_3 := hP2
  replace hD : va_D A [(h0, .inr (0, [.ref q_1, .null, .int 0, .long 0])), (q_1, .inl (cy 1, 8, .inl (fun _ => 0)))] := hD2
  replace hS := hS2
  clear hP2 hD2 hS2
  refine lv_aload_n hx hb dX0_init_12 rfl (lv_at hl 0 rfl) ?_
  refine lv_bipush (v := 64) hx hb dX0_init_13 (by decide) ?_
  refine rl_newa (atype := .int) (ty := .int) (a0 := (64, .inl (fun _ => 0))) hx hb (hts _ m_X0_init_4) rfl hK hP hD hS hA 1 rfl (fun _ => rfl) (by decide) (by decide) (Nat.le_of_ble_eq_true rfl) (Nat.le_of_ble_eq_true rfl) (Nat.le_of_ble_eq_true rfl) dX0_init_15 (fun q_4 H_5 hP2 hD2 hS2 => ?_)
  replace hP : va_P (dC, dI) vwCl [(h0, .inr (0, [.ref q_1, .null, .int 0, .long 0])), (q_1, .inl (cy 1, 8, .inl (fun _ => 0))), (q_4, .inl (cy 1, 64, .inl (fun _ => 0)))] H_5 := hP2
  replace hD : va_D A [(h0, .inr (0, [.ref q_1, .null, .int 0, .long 0])), (q_1, .inl (cy 1, 8, .inl (fun _ => 0))), (q_4, .inl (cy 1, 64, .inl (fun _ => 0)))] := hD2
  replace hS := hS2
  clear hP2 hD2 hS2
  refine W.widen (k := 2) (n := 72) (Nat.le_of_ble_eq_true rfl) (Nat.le_of_ble_eq_true rfl) ?_
  refine va_putF (D := (dC, dI)) (ci := 0) (v := .ref q_4) (ty := .array .int) (C := RX0) (T := TX0) (N := 4) hx hb hts iw_X0_init_X0 tyX0 tyX0_ok nmX0 hown hK hP hD hS 0 rfl rfl 1 (by decide) (hts _ m_X0_init_6) (fun _ h9 => h9) rfl hin rfl (by decide +kernel) rfl rfl (Nat.le_of_ble_eq_true rfl) dX0_init_17 (fun H_6 locs hP2 hD2 hS2 => ?_)
  replace hP : va_P (dC, dI) vwCl [(h0, .inr (0, [.ref q_1, .ref q_4, .int 0, .long 0])), (q_1, .inl (cy 1, 8, .inl (fun _ => 0))), (q_4, .inl (cy 1, 64, .inl (fun _ => 0)))] H_6 := hP2
  replace hD : va_D A [(h0, .inr (0, [.ref q_1, .ref q_4, .int 0, .long 0])), (q_1, .inl (cy 1, 8, .inl (fun _ => 0))), (q_4, .inl (cy 1, 64, .inl (fun _ => 0)))] := hD2
  replace hS := hS2
  clear hP2 hD2 hS2
  have hP9 := hP.sub (ws' := [(h0, .inr (0, [.ref q_1, .ref q_4, .int 0, .long 0])), (q_1, .inl (cy 1, 8, .inl (fun _ => 0))), (q_4, .inl (cy 1, 64, .inl (fun _ => 0)))]) [0, 1, 2] rfl
  have hD9 := hD.sub (ws' := [(h0, .inr (0, [.ref q_1, .ref q_4, .int 0, .long 0])), (q_1, .inl (cy 1, 8, .inl (fun _ => 0))), (q_4, .inl (cy 1, 64, .inl (fun _ => 0)))]) [0, 1, 2] (by decide) rfl
  exact W.vret hx hb hr (fun t ht hW => ⟨⟨(q_1, q_4), rfl, trivial, by rw [ht]; exact hP9, va_K.moved hW.alike hK, hD9⟩, hS.F ht⟩) hS.2.2 dX0_init_20

theorem m_X1_init_1 : (.methodLink RX1 3 objectInit : Cond) ∈ wsX1_init := List.mem_of_getElem? (i := 1) rfl
theorem m_X1_init_2 : (.instanceMethod objectInit : Cond) ∈ wsX1_init := List.mem_of_getElem? (i := 2) rfl
theorem m_X1_init_3 : (.code objectInit ⟨#[0xb1]⟩ 1 none : Cond) ∈ wsX1_init := List.mem_of_getElem? (i := 3) rfl
theorem m_X1_init_4 : (.arrayClass .byte : Cond) ∈ wsX1_init := List.mem_of_getElem? (i := 4) rfl
theorem m_X1_init_5 : (.fieldLink RX1 11 "ResourceLedger$Heap" "kind" "[B" : Cond) ∈ wsX1_init := List.mem_of_getElem? (i := 5) rfl
theorem iw_X1_init_X1 : ∀ w ∈ wsX10, w ∈ wsX1_init := fun _ h => List.mem_cons_of_mem _ (List.mem_append_right _ h)
theorem m_X1_init_6 : (.arrayClass .long : Cond) ∈ wsX1_init := List.mem_of_getElem? (i := 6) rfl
theorem m_X1_init_7 : (.fieldLink RX1 15 "ResourceLedger$Heap" "low" "[J" : Cond) ∈ wsX1_init := List.mem_of_getElem? (i := 7) rfl
theorem m_X1_init_8 : (.fieldLink RX1 19 "ResourceLedger$Heap" "high" "[J" : Cond) ∈ wsX1_init := List.mem_of_getElem? (i := 8) rfl
theorem m_X1_init_9 : (.arrayClass .int : Cond) ∈ wsX1_init := List.mem_of_getElem? (i := 9) rfl
theorem m_X1_init_10 : (.fieldLink RX1 22 "ResourceLedger$Heap" "next" "[I" : Cond) ∈ wsX1_init := List.mem_of_getElem? (i := 10) rfl
set_option maxHeartbeats 4000000 in
set_option maxRecDepth 100000 in
theorem c_X1_init (l : Launch) (dC : Nat → ClassId) (dI : Nat → Nat → Nat) (cy : Nat → ClassId) (sz : Nat) (h0 : Nat) : Met l yX1_init wsX1_init ({ frames := 1, cells := 4, slots := 86400, locals := 12 }) (va_Pc [.ref h0] (fun U => U.heap.size = sz ∧ va_P (dC, dI) vwCl [(h0, .inr (1, [.null, .null, .null, .null, .int 0, .int 0, .int 0]))] U.heap ∧ va_K (dC, dI) vwCl (TYS cy) U ∧ va_D (fun _ => True) [(h0, .inr (1, [.null, .null, .null, .null, .int 0, .int 0, .int 0]))] ∧ NK U)) (va_Qv (fun u : Nat × Nat × Nat × Nat => True) (fun u t => match u with | (q0, q1, q2, q3) => va_P (dC, dI) vwCl [(h0, .inr (1, [.ref q0, .ref q1, .ref q2, .ref q3, .int 0, .int 0, .int 0])), (q0, .inl (cy 0, 21600, .inl (fun _ => 0))), (q1, .inl (cy 2, 21600, .inr (.inl (fun _ => 0)))), (q2, .inl (cy 2, 21600, .inr (.inl (fun _ => 0)))), (q3, .inl (cy 1, 21600, .inl (fun _ => 0)))] t.heap ∧ va_K (dC, dI) vwCl (TYS cy) t ∧ va_D (va_A [(h0, .inr (1, [.null, .null, .null, .null, .int 0, .int 0, .int 0]))] sz) [(h0, .inr (1, [.ref q0, .ref q1, .ref q2, .ref q3, .int 0, .int 0, .int 0])), (q0, .inl (cy 0, 21600, .inl (fun _ => 0))), (q1, .inl (cy 2, 21600, .inr (.inl (fun _ => 0)))), (q2, .inl (cy 2, 21600, .inr (.inl (fun _ => 0)))), (q3, .inl (cy 1, 21600, .inl (fun _ => 0)))]) (va_A [(h0, .inr (1, [.null, .null, .null, .null, .int 0, .int 0, .int 0]))] sz)) 4 86400 (va_A [(h0, .inr (1, [.null, .null, .null, .null, .int 0, .int 0, .int 0]))] sz) := by
  refine Met.ofW (cc := cX1_init) (maxL := 1) (ret := none) (by decide) rfl ?_
  intro p e s m args below meth c s₁ B hml hv
  obtain ⟨rfl, hsz, hP, hK, hD0, hN⟩ := hv
  have hx := B.exec
  have hb := B.bytes
  have hr := B.returns
  have hts := atoms_spec (ws := wsX1_init) B.pre
  have hown : s.vm.findClass RX1 = some m.cls := findClass_of_methodNamed B.named
  have hlocks := B.notSynchronized
  have hin : meth.name = "<init>" := (name_of_methodNamed B.named B.method).1
  subst hsz
  have hD := hD0.self (sz := s.heap.size)
  generalize hAe : va_A [(h0, .inr (1, [.null, .null, .null, .null, .int 0, .int 0, .int 0]))] s.heap.size = A at hD ⊢
  have hA : ∀ q : Nat, s.heap.size ≤ q → A q := fun q h => by rw [← hAe]; exact Or.inr h
  have hS : va_S A s.heap s.heap [] := va_S.rf
  have hP : va_P (dC, dI) vwCl [(h0, .inr (1, [.null, .null, .null, .null, .int 0, .int 0, .int 0]))] s.heap := hP
  have hl := lv_entry ([.ref h0]) (n := 1) (Nat.le_of_ble_eq_true rfl)
  rw [lg_entry_eq]
  generalize (lg_sl ([.ref h0]) ++ List.replicate (1 - (lg_sl ([.ref h0])).length) Slot.unset).toArray = ls at hl ⊢
  replace hl : lv_has ls 1 [(0, .ref h0)] := hl
  refine lv_aload_n hx hb dX1_init_0 rfl (lv_at hl 0 rfl) ?_
  refine W.objInit hx hb hown (hts _ m_X1_init_1) (hts _ m_X1_init_2) (hts _ m_X1_init_3) rfl (by rw [hml]; exact hl.1) rfl dX1_init_1 (Nat.le_of_ble_eq_true rfl) (Nat.le_of_ble_eq_true rfl) ?_
  refine W.eq (g2 := F0 m 4 ls []) rfl ?_
  refine lv_aload_n hx hb dX1_init_4 rfl (lv_at hl 0 rfl) ?_
  refine lv_sipush (v := 21600) hx hb dX1_init_5 (by decide) ?_
  refine rl_newa (atype := .byte) (ty := .byte) (a0 := (21600, .inl (fun _ => 0))) hx hb (hts _ m_X1_init_4) rfl hK hP hD hS hA 0 rfl (fun _ => rfl) (by decide) (by decide) (Nat.le_of_ble_eq_true rfl) (Nat.le_of_ble_eq_true rfl) (Nat.le_of_ble_eq_true rfl) dX1_init_8 (fun q_1 H_2 hP2 hD2 hS2 => ?_)
  replace hP : va_P (dC, dI) vwCl [(h0, .inr (1, [.null, .null, .null, .null, .int 0, .int 0, .int 0])), (q_1, .inl (cy 0, 21600, .inl (fun _ => 0)))] H_2 := hP2
  replace hD : va_D A [(h0, .inr (1, [.null, .null, .null, .null, .int 0, .int 0, .int 0])), (q_1, .inl (cy 0, 21600, .inl (fun _ => 0)))] := hD2
  replace hS := hS2
  clear hP2 hD2 hS2
  refine W.widen (k := 1) (n := 21600) (Nat.le_of_ble_eq_true rfl) (Nat.le_of_ble_eq_true rfl) ?_
  refine va_putF (D := (dC, dI)) (ci := 1) (v := .ref q_1) (ty := .array .byte) (C := RX1) (T := TX1) (N := 7) hx hb hts iw_X1_init_X1 tyX1 tyX1_ok nmX1 hown hK hP hD hS 0 rfl rfl 0 (by decide) (hts _ m_X1_init_5) (fun _ h9 => h9) rfl hin rfl (by decide +kernel) rfl rfl (Nat.le_of_ble_eq_true rfl) dX1_init_10 (fun H_3 locs hP2 hD2 hS2 => ?_)
  replace hP : va_P (dC, dI) vwCl [(h0, .inr (1, [.ref q_1, .null, .null, .null, .int 0, .int 0, .int 0])), (q_1, .inl (cy 0, 21600, .inl (fun _ => 0)))] H_3 := hP2
  replace hD : va_D A [(h0, .inr (1, [.ref q_1, .null, .null, .null, .int 0, .int 0, .int 0])), (q_1, .inl (cy 0, 21600, .inl (fun _ => 0)))] := hD2
  replace hS := hS2
  clear hP2 hD2 hS2
  refine lv_aload_n hx hb dX1_init_13 rfl (lv_at hl 0 rfl) ?_
  refine lv_sipush (v := 21600) hx hb dX1_init_14 (by decide) ?_
  refine rl_newa (atype := .long) (ty := .long) (a0 := (21600, .inr (.inl (fun _ => 0)))) hx hb (hts _ m_X1_init_6) rfl hK hP hD hS hA 2 rfl (fun _ => rfl) (by decide) (by decide) (Nat.le_of_ble_eq_true rfl) (Nat.le_of_ble_eq_true rfl) (Nat.le_of_ble_eq_true rfl) dX1_init_17 (fun q_4 H_5 hP2 hD2 hS2 => ?_)
  replace hP : va_P (dC, dI) vwCl [(h0, .inr (1, [.ref q_1, .null, .null, .null, .int 0, .int 0, .int 0])), (q_1, .inl (cy 0, 21600, .inl (fun _ => 0))), (q_4, .inl (cy 2, 21600, .inr (.inl (fun _ => 0))))] H_5 := hP2
  replace hD : va_D A [(h0, .inr (1, [.ref q_1, .null, .null, .null, .int 0, .int 0, .int 0])), (q_1, .inl (cy 0, 21600, .inl (fun _ => 0))), (q_4, .inl (cy 2, 21600, .inr (.inl (fun _ => 0))))] := hD2
  replace hS := hS2
  clear hP2 hD2 hS2
  refine W.widen (k := 2) (n := 43200) (Nat.le_of_ble_eq_true rfl) (Nat.le_of_ble_eq_true rfl) ?_
  refine va_putF (D := (dC, dI)) (ci := 1) (v := .ref q_4) (ty := .array .long) (C := RX1) (T := TX1) (N := 7) hx hb hts iw_X1_init_X1 tyX1 tyX1_ok nmX1 hown hK hP hD hS 0 rfl rfl 1 (by decide) (hts _ m_X1_init_7) (fun _ h9 => h9) rfl hin rfl (by decide +kernel) rfl rfl (Nat.le_of_ble_eq_true rfl) dX1_init_19 (fun H_6 locs hP2 hD2 hS2 => ?_)
  replace hP : va_P (dC, dI) vwCl [(h0, .inr (1, [.ref q_1, .ref q_4, .null, .null, .int 0, .int 0, .int 0])), (q_1, .inl (cy 0, 21600, .inl (fun _ => 0))), (q_4, .inl (cy 2, 21600, .inr (.inl (fun _ => 0))))] H_6 := hP2
  replace hD : va_D A [(h0, .inr (1, [.ref q_1, .ref q_4, .null, .null, .int 0, .int 0, .int 0])), (q_1, .inl (cy 0, 21600, .inl (fun _ => 0))), (q_4, .inl (cy 2, 21600, .inr (.inl (fun _ => 0))))] := hD2
  replace hS := hS2
  clear hP2 hD2 hS2
  refine lv_aload_n hx hb dX1_init_22 rfl (lv_at hl 0 rfl) ?_
  refine lv_sipush (v := 21600) hx hb dX1_init_23 (by decide) ?_
  refine rl_newa (atype := .long) (ty := .long) (a0 := (21600, .inr (.inl (fun _ => 0)))) hx hb (hts _ m_X1_init_6) rfl hK hP hD hS hA 2 rfl (fun _ => rfl) (by decide) (by decide) (Nat.le_of_ble_eq_true rfl) (Nat.le_of_ble_eq_true rfl) (Nat.le_of_ble_eq_true rfl) dX1_init_26 (fun q_7 H_8 hP2 hD2 hS2 => ?_)
  replace hP : va_P (dC, dI) vwCl [(h0, .inr (1, [.ref q_1, .ref q_4, .null, .null, .int 0, .int 0, .int 0])), (q_1, .inl (cy 0, 21600, .inl (fun _ => 0))), (q_4, .inl (cy 2, 21600, .inr (.inl (fun _ => 0)))), (q_7, .inl (cy 2, 21600, .inr (.inl (fun _ => 0))))] H_8 := hP2
  replace hD : va_D A [(h0, .inr (1, [.ref q_1, .ref q_4, .null, .null, .int 0, .int 0, .int 0])), (q_1, .inl (cy 0, 21600, .inl (fun _ => 0))), (q_4, .inl (cy 2, 21600, .inr (.inl (fun _ => 0)))), (q_7, .inl (cy 2, 21600, .inr (.inl (fun _ => 0))))] := hD2
  replace hS := hS2
  clear hP2 hD2 hS2
  refine W.widen (k := 3) (n := 64800) (Nat.le_of_ble_eq_true rfl) (Nat.le_of_ble_eq_true rfl) ?_
  refine va_putF (D := (dC, dI)) (ci := 1) (v := .ref q_7) (ty := .array .long) (C := RX1) (T := TX1) (N := 7) hx hb hts iw_X1_init_X1 tyX1 tyX1_ok nmX1 hown hK hP hD hS 0 rfl rfl 2 (by decide) (hts _ m_X1_init_8) (fun _ h9 => h9) rfl hin rfl (by decide +kernel) rfl rfl (Nat.le_of_ble_eq_true rfl) dX1_init_28 (fun H_9 locs hP2 hD2 hS2 => ?_)
  replace hP : va_P (dC, dI) vwCl [(h0, .inr (1, [.ref q_1, .ref q_4, .ref q_7, .null, .int 0, .int 0, .int 0])), (q_1, .inl (cy 0, 21600, .inl (fun _ => 0))), (q_4, .inl (cy 2, 21600, .inr (.inl (fun _ => 0)))), (q_7, .inl (cy 2, 21600, .inr (.inl (fun _ => 0))))] H_9 := hP2
  replace hD : va_D A [(h0, .inr (1, [.ref q_1, .ref q_4, .ref q_7, .null, .int 0, .int 0, .int 0])), (q_1, .inl (cy 0, 21600, .inl (fun _ => 0))), (q_4, .inl (cy 2, 21600, .inr (.inl (fun _ => 0)))), (q_7, .inl (cy 2, 21600, .inr (.inl (fun _ => 0))))] := hD2
  replace hS := hS2
  clear hP2 hD2 hS2
  refine lv_aload_n hx hb dX1_init_31 rfl (lv_at hl 0 rfl) ?_
  refine lv_sipush (v := 21600) hx hb dX1_init_32 (by decide) ?_
  refine rl_newa (atype := .int) (ty := .int) (a0 := (21600, .inl (fun _ => 0))) hx hb (hts _ m_X1_init_9) rfl hK hP hD hS hA 1 rfl (fun _ => rfl) (by decide) (by decide) (Nat.le_of_ble_eq_true rfl) (Nat.le_of_ble_eq_true rfl) (Nat.le_of_ble_eq_true rfl) dX1_init_35 (fun q_10 H_11 hP2 hD2 hS2 => ?_)
  replace hP : va_P (dC, dI) vwCl [(h0, .inr (1, [.ref q_1, .ref q_4, .ref q_7, .null, .int 0, .int 0, .int 0])), (q_1, .inl (cy 0, 21600, .inl (fun _ => 0))), (q_4, .inl (cy 2, 21600, .inr (.inl (fun _ => 0)))), (q_7, .inl (cy 2, 21600, .inr (.inl (fun _ => 0)))), (q_10, .inl (cy 1, 21600, .inl (fun _ => 0)))] H_11 := hP2
  replace hD : va_D A [(h0, .inr (1, [.ref q_1, .ref q_4, .ref q_7, .null, .int 0, .int 0, .int 0])), (q_1, .inl (cy 0, 21600, .inl (fun _ => 0))), (q_4, .inl (cy 2, 21600, .inr (.inl (fun _ => 0)))), (q_7, .inl (cy 2, 21600, .inr (.inl (fun _ => 0)))), (q_10, .inl (cy 1, 21600, .inl (fun _ => 0)))] := hD2
  replace hS := hS2
  clear hP2 hD2 hS2
  refine W.widen (k := 4) (n := 86400) (Nat.le_of_ble_eq_true rfl) (Nat.le_of_ble_eq_true rfl) ?_
  refine va_putF (D := (dC, dI)) (ci := 1) (v := .ref q_10) (ty := .array .int) (C := RX1) (T := TX1) (N := 7) hx hb hts iw_X1_init_X1 tyX1 tyX1_ok nmX1 hown hK hP hD hS 0 rfl rfl 3 (by decide) (hts _ m_X1_init_10) (fun _ h9 => h9) rfl hin rfl (by decide +kernel) rfl rfl (Nat.le_of_ble_eq_true rfl) dX1_init_37 (fun H_12 locs hP2 hD2 hS2 => ?_)
  replace hP : va_P (dC, dI) vwCl [(h0, .inr (1, [.ref q_1, .ref q_4, .ref q_7, .ref q_10, .int 0, .int 0, .int 0])), (q_1, .inl (cy 0, 21600, .inl (fun _ => 0))), (q_4, .inl (cy 2, 21600, .inr (.inl (fun _ => 0)))), (q_7, .inl (cy 2, 21600, .inr (.inl (fun _ => 0)))), (q_10, .inl (cy 1, 21600, .inl (fun _ => 0)))] H_12 := hP2
  replace hD : va_D A [(h0, .inr (1, [.ref q_1, .ref q_4, .ref q_7, .ref q_10, .int 0, .int 0, .int 0])), (q_1, .inl (cy 0, 21600, .inl (fun _ => 0))), (q_4, .inl (cy 2, 21600, .inr (.inl (fun _ => 0)))), (q_7, .inl (cy 2, 21600, .inr (.inl (fun _ => 0)))), (q_10, .inl (cy 1, 21600, .inl (fun _ => 0)))] := hD2
  replace hS := hS2
  clear hP2 hD2 hS2
  have hP9 := hP.sub (ws' := [(h0, .inr (1, [.ref q_1, .ref q_4, .ref q_7, .ref q_10, .int 0, .int 0, .int 0])), (q_1, .inl (cy 0, 21600, .inl (fun _ => 0))), (q_4, .inl (cy 2, 21600, .inr (.inl (fun _ => 0)))), (q_7, .inl (cy 2, 21600, .inr (.inl (fun _ => 0)))), (q_10, .inl (cy 1, 21600, .inl (fun _ => 0)))]) [0, 1, 2, 3, 4] rfl
  have hD9 := hD.sub (ws' := [(h0, .inr (1, [.ref q_1, .ref q_4, .ref q_7, .ref q_10, .int 0, .int 0, .int 0])), (q_1, .inl (cy 0, 21600, .inl (fun _ => 0))), (q_4, .inl (cy 2, 21600, .inr (.inl (fun _ => 0)))), (q_7, .inl (cy 2, 21600, .inr (.inl (fun _ => 0)))), (q_10, .inl (cy 1, 21600, .inl (fun _ => 0)))]) [0, 1, 2, 3, 4] (by decide) rfl
  exact W.vret hx hb hr (fun t ht hW => ⟨⟨(q_1, q_4, q_7, q_10), rfl, trivial, by rw [ht]; exact hP9, va_K.moved hW.alike hK, hD9⟩, hS.F ht⟩) hS.2.2 dX1_init_40

theorem m_X3_init_1 : (.methodLink RX3 3 objectInit : Cond) ∈ wsX3_init := List.mem_of_getElem? (i := 1) rfl
theorem m_X3_init_2 : (.instanceMethod objectInit : Cond) ∈ wsX3_init := List.mem_of_getElem? (i := 2) rfl
theorem m_X3_init_3 : (.code objectInit ⟨#[0xb1]⟩ 1 none : Cond) ∈ wsX3_init := List.mem_of_getElem? (i := 3) rfl
theorem m_X3_init_4 : (.arrayClass .long : Cond) ∈ wsX3_init := List.mem_of_getElem? (i := 4) rfl
theorem m_X3_init_5 : (.fieldLink RX3 11 "ResourceLedger$Looker" "stackType" "[J" : Cond) ∈ wsX3_init := List.mem_of_getElem? (i := 5) rfl
theorem iw_X3_init_X3 : ∀ w ∈ wsX30, w ∈ wsX3_init := fun _ h => List.mem_cons_of_mem _ (List.mem_append_right _ h)
theorem m_X3_init_6 : (.fieldLink RX3 15 "ResourceLedger$Looker" "stackOrigins" "[J" : Cond) ∈ wsX3_init := List.mem_of_getElem? (i := 6) rfl
theorem m_X3_init_7 : (.arrayClass .boolean : Cond) ∈ wsX3_init := List.mem_of_getElem? (i := 7) rfl
theorem m_X3_init_8 : (.fieldLink RX3 18 "ResourceLedger$Looker" "stackInside" "[Z" : Cond) ∈ wsX3_init := List.mem_of_getElem? (i := 8) rfl
theorem m_X3_init_9 : (.fieldLink RX3 22 "ResourceLedger$Looker" "localType" "[J" : Cond) ∈ wsX3_init := List.mem_of_getElem? (i := 9) rfl
theorem m_X3_init_10 : (.fieldLink RX3 25 "ResourceLedger$Looker" "localOrigins" "[J" : Cond) ∈ wsX3_init := List.mem_of_getElem? (i := 10) rfl
theorem m_X3_init_11 : (.fieldLink RX3 28 "ResourceLedger$Looker" "target" "[Z" : Cond) ∈ wsX3_init := List.mem_of_getElem? (i := 11) rfl
theorem m_X3_init_12 : (.fieldLink RX3 31 "ResourceLedger$Looker" "reached" "[Z" : Cond) ∈ wsX3_init := List.mem_of_getElem? (i := 12) rfl
theorem m_X3_init_13 : (.fieldLink RX3 34 "ResourceLedger$Looker" "keptThere" "[J" : Cond) ∈ wsX3_init := List.mem_of_getElem? (i := 13) rfl
theorem m_X3_init_14 : (.fieldLink RX3 37 "ResourceLedger$Looker" "keptInside" "[J" : Cond) ∈ wsX3_init := List.mem_of_getElem? (i := 14) rfl
theorem m_X3_init_15 : (.constant RX3 40 (40960) : Cond) ∈ wsX3_init := List.mem_of_getElem? (i := 15) rfl
theorem m_X3_init_16 : (.fieldLink RX3 41 "ResourceLedger$Looker" "keptOrigins" "[J" : Cond) ∈ wsX3_init := List.mem_of_getElem? (i := 16) rfl
set_option maxHeartbeats 4000000 in
set_option maxRecDepth 100000 in
theorem c_X3_init (l : Launch) (dC : Nat → ClassId) (dI : Nat → Nat → Nat) (cy : Nat → ClassId) (sz : Nat) (h0 : Nat) : Met l yX3_init wsX3_init ({ frames := 1, cells := 10, slots := 45328, locals := 12 }) (va_Pc [.ref h0] (fun U => U.heap.size = sz ∧ va_P (dC, dI) vwCl [(h0, .inr (3, [.int 0, .int 0, .null, .int 0, .int 0, .null, .null, .null, .int 0, .null, .null, .long 0, .long 0, .long 0, .long 0, .int 0, .int 0, .null, .null, .null, .null, .null]))] U.heap ∧ va_K (dC, dI) vwCl (TYS cy) U ∧ va_D (fun _ => True) [(h0, .inr (3, [.int 0, .int 0, .null, .int 0, .int 0, .null, .null, .null, .int 0, .null, .null, .long 0, .long 0, .long 0, .long 0, .int 0, .int 0, .null, .null, .null, .null, .null]))] ∧ NK U)) (va_Qv (fun u : Nat × Nat × Nat × Nat × Nat × Nat × Nat × Nat × Nat × Nat => True) (fun u t => match u with | (q0, q1, q2, q3, q4, q5, q6, q7, q8, q9) => va_P (dC, dI) vwCl [(h0, .inr (3, [.int 0, .int 0, .null, .int 0, .int 0, .ref q0, .ref q1, .ref q2, .int 0, .ref q3, .ref q4, .long 0, .long 0, .long 0, .long 0, .int 0, .int 0, .ref q5, .ref q6, .ref q7, .ref q8, .ref q9])), (q0, .inl (cy 2, 64, .inr (.inl (fun _ => 0)))), (q1, .inl (cy 2, 64, .inr (.inl (fun _ => 0)))), (q2, .inl (cy 3, 64, .inl (fun _ => 0))), (q3, .inl (cy 2, 40, .inr (.inl (fun _ => 0)))), (q4, .inl (cy 2, 40, .inr (.inl (fun _ => 0)))), (q5, .inl (cy 3, 1024, .inl (fun _ => 0))), (q6, .inl (cy 3, 1024, .inl (fun _ => 0))), (q7, .inl (cy 2, 1024, .inr (.inl (fun _ => 0)))), (q8, .inl (cy 2, 1024, .inr (.inl (fun _ => 0)))), (q9, .inl (cy 2, 40960, .inr (.inl (fun _ => 0))))] t.heap ∧ va_K (dC, dI) vwCl (TYS cy) t ∧ va_D (va_A [(h0, .inr (3, [.int 0, .int 0, .null, .int 0, .int 0, .null, .null, .null, .int 0, .null, .null, .long 0, .long 0, .long 0, .long 0, .int 0, .int 0, .null, .null, .null, .null, .null]))] sz) [(h0, .inr (3, [.int 0, .int 0, .null, .int 0, .int 0, .ref q0, .ref q1, .ref q2, .int 0, .ref q3, .ref q4, .long 0, .long 0, .long 0, .long 0, .int 0, .int 0, .ref q5, .ref q6, .ref q7, .ref q8, .ref q9])), (q0, .inl (cy 2, 64, .inr (.inl (fun _ => 0)))), (q1, .inl (cy 2, 64, .inr (.inl (fun _ => 0)))), (q2, .inl (cy 3, 64, .inl (fun _ => 0))), (q3, .inl (cy 2, 40, .inr (.inl (fun _ => 0)))), (q4, .inl (cy 2, 40, .inr (.inl (fun _ => 0)))), (q5, .inl (cy 3, 1024, .inl (fun _ => 0))), (q6, .inl (cy 3, 1024, .inl (fun _ => 0))), (q7, .inl (cy 2, 1024, .inr (.inl (fun _ => 0)))), (q8, .inl (cy 2, 1024, .inr (.inl (fun _ => 0)))), (q9, .inl (cy 2, 40960, .inr (.inl (fun _ => 0))))]) (va_A [(h0, .inr (3, [.int 0, .int 0, .null, .int 0, .int 0, .null, .null, .null, .int 0, .null, .null, .long 0, .long 0, .long 0, .long 0, .int 0, .int 0, .null, .null, .null, .null, .null]))] sz)) 10 45328 (va_A [(h0, .inr (3, [.int 0, .int 0, .null, .int 0, .int 0, .null, .null, .null, .int 0, .null, .null, .long 0, .long 0, .long 0, .long 0, .int 0, .int 0, .null, .null, .null, .null, .null]))] sz) := by
  refine Met.ofW (cc := cX3_init) (maxL := 1) (ret := none) (by decide) rfl ?_
  intro p e s m args below meth c s₁ B hml hv
  obtain ⟨rfl, hsz, hP, hK, hD0, hN⟩ := hv
  have hx := B.exec
  have hb := B.bytes
  have hr := B.returns
  have hts := atoms_spec (ws := wsX3_init) B.pre
  have hown : s.vm.findClass RX3 = some m.cls := findClass_of_methodNamed B.named
  have hlocks := B.notSynchronized
  have hin : meth.name = "<init>" := (name_of_methodNamed B.named B.method).1
  subst hsz
  have hD := hD0.self (sz := s.heap.size)
  generalize hAe : va_A [(h0, .inr (3, [.int 0, .int 0, .null, .int 0, .int 0, .null, .null, .null, .int 0, .null, .null, .long 0, .long 0, .long 0, .long 0, .int 0, .int 0, .null, .null, .null, .null, .null]))] s.heap.size = A at hD ⊢
  have hA : ∀ q : Nat, s.heap.size ≤ q → A q := fun q h => by rw [← hAe]; exact Or.inr h
  have hS : va_S A s.heap s.heap [] := va_S.rf
  have hP : va_P (dC, dI) vwCl [(h0, .inr (3, [.int 0, .int 0, .null, .int 0, .int 0, .null, .null, .null, .int 0, .null, .null, .long 0, .long 0, .long 0, .long 0, .int 0, .int 0, .null, .null, .null, .null, .null]))] s.heap := hP
  have hl := lv_entry ([.ref h0]) (n := 1) (Nat.le_of_ble_eq_true rfl)
  rw [lg_entry_eq]
  generalize (lg_sl ([.ref h0]) ++ List.replicate (1 - (lg_sl ([.ref h0])).length) Slot.unset).toArray = ls at hl ⊢
  replace hl : lv_has ls 1 [(0, .ref h0)] := hl
  refine lv_aload_n hx hb dX3_init_0 rfl (lv_at hl 0 rfl) ?_
  refine W.objInit hx hb hown (hts _ m_X3_init_1) (hts _ m_X3_init_2) (hts _ m_X3_init_3) rfl (by rw [hml]; exact hl.1) rfl dX3_init_1 (Nat.le_of_ble_eq_true rfl) (Nat.le_of_ble_eq_true rfl) ?_
  refine W.eq (g2 := F0 m 4 ls []) rfl ?_
  refine lv_aload_n hx hb dX3_init_4 rfl (lv_at hl 0 rfl) ?_
  refine lv_bipush (v := 64) hx hb dX3_init_5 (by decide) ?_
  refine rl_newa (atype := .long) (ty := .long) (a0 := (64, .inr (.inl (fun _ => 0)))) hx hb (hts _ m_X3_init_4) rfl hK hP hD hS hA 2 rfl (fun _ => rfl) (by decide) (by decide) (Nat.le_of_ble_eq_true rfl) (Nat.le_of_ble_eq_true rfl) (Nat.le_of_ble_eq_true rfl) dX3_init_7 (fun q_1 H_2 hP2 hD2 hS2 => ?_)
  replace hP : va_P (dC, dI) vwCl [(h0, .inr (3, [.int 0, .int 0, .null, .int 0, .int 0, .null, .null, .null, .int 0, .null, .null, .long 0, .long 0, .long 0, .long 0, .int 0, .int 0, .null, .null, .null, .null, .null])), (q_1, .inl (cy 2, 64, .inr (.inl (fun _ => 0))))] H_2 := hP2
  replace hD : va_D A [(h0, .inr (3, [.int 0, .int 0, .null, .int 0, .int 0, .null, .null, .null, .int 0, .null, .null, .long 0, .long 0, .long 0, .long 0, .int 0, .int 0, .null, .null, .null, .null, .null])), (q_1, .inl (cy 2, 64, .inr (.inl (fun _ => 0))))] := hD2
  replace hS := hS2
  clear hP2 hD2 hS2
  refine W.widen (k := 1) (n := 64) (Nat.le_of_ble_eq_true rfl) (Nat.le_of_ble_eq_true rfl) ?_
  refine va_putF (D := (dC, dI)) (ci := 3) (v := .ref q_1) (ty := .array .long) (C := RX3) (T := TX3) (N := 22) hx hb hts iw_X3_init_X3 tyX3 tyX3_ok nmX3 hown hK hP hD hS 0 rfl rfl 5 (by decide) (hts _ m_X3_init_5) (fun _ h9 => h9) rfl hin rfl (by decide +kernel) rfl rfl (Nat.le_of_ble_eq_true rfl) dX3_init_9 (fun H_3 locs hP2 hD2 hS2 => ?_)
  replace hP : va_P (dC, dI) vwCl [(h0, .inr (3, [.int 0, .int 0, .null, .int 0, .int 0, .ref q_1, .null, .null, .int 0, .null, .null, .long 0, .long 0, .long 0, .long 0, .int 0, .int 0, .null, .null, .null, .null, .null])), (q_1, .inl (cy 2, 64, .inr (.inl (fun _ => 0))))] H_3 := hP2
  replace hD : va_D A [(h0, .inr (3, [.int 0, .int 0, .null, .int 0, .int 0, .ref q_1, .null, .null, .int 0, .null, .null, .long 0, .long 0, .long 0, .long 0, .int 0, .int 0, .null, .null, .null, .null, .null])), (q_1, .inl (cy 2, 64, .inr (.inl (fun _ => 0))))] := hD2
  replace hS := hS2
  clear hP2 hD2 hS2
  refine lv_aload_n hx hb dX3_init_12 rfl (lv_at hl 0 rfl) ?_
  refine lv_bipush (v := 64) hx hb dX3_init_13 (by decide) ?_
  refine rl_newa (atype := .long) (ty := .long) (a0 := (64, .inr (.inl (fun _ => 0)))) hx hb (hts _ m_X3_init_4) rfl hK hP hD hS hA 2 rfl (fun _ => rfl) (by decide) (by decide) (Nat.le_of_ble_eq_true rfl) (Nat.le_of_ble_eq_true rfl) (Nat.le_of_ble_eq_true rfl) dX3_init_15 (fun q_4 H_5 hP2 hD2 hS2 => ?_)
  replace hP : va_P (dC, dI) vwCl [(h0, .inr (3, [.int 0, .int 0, .null, .int 0, .int 0, .ref q_1, .null, .null, .int 0, .null, .null, .long 0, .long 0, .long 0, .long 0, .int 0, .int 0, .null, .null, .null, .null, .null])), (q_1, .inl (cy 2, 64, .inr (.inl (fun _ => 0)))), (q_4, .inl (cy 2, 64, .inr (.inl (fun _ => 0))))] H_5 := hP2
  replace hD : va_D A [(h0, .inr (3, [.int 0, .int 0, .null, .int 0, .int 0, .ref q_1, .null, .null, .int 0, .null, .null, .long 0, .long 0, .long 0, .long 0, .int 0, .int 0, .null, .null, .null, .null, .null])), (q_1, .inl (cy 2, 64, .inr (.inl (fun _ => 0)))), (q_4, .inl (cy 2, 64, .inr (.inl (fun _ => 0))))] := hD2
  replace hS := hS2
  clear hP2 hD2 hS2
  refine W.widen (k := 2) (n := 128) (Nat.le_of_ble_eq_true rfl) (Nat.le_of_ble_eq_true rfl) ?_
  refine va_putF (D := (dC, dI)) (ci := 3) (v := .ref q_4) (ty := .array .long) (C := RX3) (T := TX3) (N := 22) hx hb hts iw_X3_init_X3 tyX3 tyX3_ok nmX3 hown hK hP hD hS 0 rfl rfl 6 (by decide) (hts _ m_X3_init_6) (fun _ h9 => h9) rfl hin rfl (by decide +kernel) rfl rfl (Nat.le_of_ble_eq_true rfl) dX3_init_17 (fun H_6 locs hP2 hD2 hS2 => ?_)
  replace hP : va_P (dC, dI) vwCl [(h0, .inr (3, [.int 0, .int 0, .null, .int 0, .int 0, .ref q_1, .ref q_4, .null, .int 0, .null, .null, .long 0, .long 0, .long 0, .long 0, .int 0, .int 0, .null, .null, .null, .null, .null])), (q_1, .inl (cy 2, 64, .inr (.inl (fun _ => 0)))), (q_4, .inl (cy 2, 64, .inr (.inl (fun _ => 0))))] H_6 := hP2
  replace hD : va_D A [(h0, .inr (3, [.int 0, .int 0, .null, .int 0, .int 0, .ref q_1, .ref q_4, .null, .int 0, .null, .null, .long 0, .long 0, .long 0, .long 0, .int 0, .int 0, .null, .null, .null, .null, .null])), (q_1, .inl (cy 2, 64, .inr (.inl (fun _ => 0)))), (q_4, .inl (cy 2, 64, .inr (.inl (fun _ => 0))))] := hD2
  replace hS := hS2
  clear hP2 hD2 hS2
  refine lv_aload_n hx hb dX3_init_20 rfl (lv_at hl 0 rfl) ?_
  refine lv_bipush (v := 64) hx hb dX3_init_21 (by decide) ?_
  refine rl_newa (atype := .boolean) (ty := .boolean) (a0 := (64, .inl (fun _ => 0))) hx hb (hts _ m_X3_init_7) rfl hK hP hD hS hA 3 rfl (fun _ => rfl) (by decide) (by decide) (Nat.le_of_ble_eq_true rfl) (Nat.le_of_ble_eq_true rfl) (Nat.le_of_ble_eq_true rfl) dX3_init_23 (fun q_7 H_8 hP2 hD2 hS2 => ?_)
  replace hP : va_P (dC, dI) vwCl [(h0, .inr (3, [.int 0, .int 0, .null, .int 0, .int 0, .ref q_1, .ref q_4, .null, .int 0, .null, .null, .long 0, .long 0, .long 0, .long 0, .int 0, .int 0, .null, .null, .null, .null, .null])), (q_1, .inl (cy 2, 64, .inr (.inl (fun _ => 0)))), (q_4, .inl (cy 2, 64, .inr (.inl (fun _ => 0)))), (q_7, .inl (cy 3, 64, .inl (fun _ => 0)))] H_8 := hP2
  replace hD : va_D A [(h0, .inr (3, [.int 0, .int 0, .null, .int 0, .int 0, .ref q_1, .ref q_4, .null, .int 0, .null, .null, .long 0, .long 0, .long 0, .long 0, .int 0, .int 0, .null, .null, .null, .null, .null])), (q_1, .inl (cy 2, 64, .inr (.inl (fun _ => 0)))), (q_4, .inl (cy 2, 64, .inr (.inl (fun _ => 0)))), (q_7, .inl (cy 3, 64, .inl (fun _ => 0)))] := hD2
  replace hS := hS2
  clear hP2 hD2 hS2
  refine W.widen (k := 3) (n := 192) (Nat.le_of_ble_eq_true rfl) (Nat.le_of_ble_eq_true rfl) ?_
  refine va_putF (D := (dC, dI)) (ci := 3) (v := .ref q_7) (ty := .array .boolean) (C := RX3) (T := TX3) (N := 22) hx hb hts iw_X3_init_X3 tyX3 tyX3_ok nmX3 hown hK hP hD hS 0 rfl rfl 7 (by decide) (hts _ m_X3_init_8) (fun _ h9 => h9) rfl hin rfl (by decide +kernel) rfl rfl (Nat.le_of_ble_eq_true rfl) dX3_init_25 (fun H_9 locs hP2 hD2 hS2 => ?_)
  replace hP : va_P (dC, dI) vwCl [(h0, .inr (3, [.int 0, .int 0, .null, .int 0, .int 0, .ref q_1, .ref q_4, .ref q_7, .int 0, .null, .null, .long 0, .long 0, .long 0, .long 0, .int 0, .int 0, .null, .null, .null, .null, .null])), (q_1, .inl (cy 2, 64, .inr (.inl (fun _ => 0)))), (q_4, .inl (cy 2, 64, .inr (.inl (fun _ => 0)))), (q_7, .inl (cy 3, 64, .inl (fun _ => 0)))] H_9 := hP2
  replace hD : va_D A [(h0, .inr (3, [.int 0, .int 0, .null, .int 0, .int 0, .ref q_1, .ref q_4, .ref q_7, .int 0, .null, .null, .long 0, .long 0, .long 0, .long 0, .int 0, .int 0, .null, .null, .null, .null, .null])), (q_1, .inl (cy 2, 64, .inr (.inl (fun _ => 0)))), (q_4, .inl (cy 2, 64, .inr (.inl (fun _ => 0)))), (q_7, .inl (cy 3, 64, .inl (fun _ => 0)))] := hD2
  replace hS := hS2
  clear hP2 hD2 hS2
  refine lv_aload_n hx hb dX3_init_28 rfl (lv_at hl 0 rfl) ?_
  refine lv_bipush (v := 40) hx hb dX3_init_29 (by decide) ?_
  refine rl_newa (atype := .long) (ty := .long) (a0 := (40, .inr (.inl (fun _ => 0)))) hx hb (hts _ m_X3_init_4) rfl hK hP hD hS hA 2 rfl (fun _ => rfl) (by decide) (by decide) (Nat.le_of_ble_eq_true rfl) (Nat.le_of_ble_eq_true rfl) (Nat.le_of_ble_eq_true rfl) dX3_init_31 (fun q_10 H_11 hP2 hD2 hS2 => ?_)
  replace hP : va_P (dC, dI) vwCl [(h0, .inr (3, [.int 0, .int 0, .null, .int 0, .int 0, .ref q_1, .ref q_4, .ref q_7, .int 0, .null, .null, .long 0, .long 0, .long 0, .long 0, .int 0, .int 0, .null, .null, .null, .null, .null])), (q_1, .inl (cy 2, 64, .inr (.inl (fun _ => 0)))), (q_4, .inl (cy 2, 64, .inr (.inl (fun _ => 0)))), (q_7, .inl (cy 3, 64, .inl (fun _ => 0))), (q_10, .inl (cy 2, 40, .inr (.inl (fun _ => 0))))] H_11 := hP2
  replace hD : va_D A [(h0, .inr (3, [.int 0, .int 0, .null, .int 0, .int 0, .ref q_1, .ref q_4, .ref q_7, .int 0, .null, .null, .long 0, .long 0, .long 0, .long 0, .int 0, .int 0, .null, .null, .null, .null, .null])), (q_1, .inl (cy 2, 64, .inr (.inl (fun _ => 0)))), (q_4, .inl (cy 2, 64, .inr (.inl (fun _ => 0)))), (q_7, .inl (cy 3, 64, .inl (fun _ => 0))), (q_10, .inl (cy 2, 40, .inr (.inl (fun _ => 0))))] := hD2
  replace hS := hS2
  clear hP2 hD2 hS2
  refine W.widen (k := 4) (n := 232) (Nat.le_of_ble_eq_true rfl) (Nat.le_of_ble_eq_true rfl) ?_
  refine va_putF (D := (dC, dI)) (ci := 3) (v := .ref q_10) (ty := .array .long) (C := RX3) (T := TX3) (N := 22) hx hb hts iw_X3_init_X3 tyX3 tyX3_ok nmX3 hown hK hP hD hS 0 rfl rfl 9 (by decide) (hts _ m_X3_init_9) (fun _ h9 => h9) rfl hin rfl (by decide +kernel) rfl rfl (Nat.le_of_ble_eq_true rfl) dX3_init_33 (fun H_12 locs hP2 hD2 hS2 => ?_)
  replace hP : va_P (dC, dI) vwCl [(h0, .inr (3, [.int 0, .int 0, .null, .int 0, .int 0, .ref q_1, .ref q_4, .ref q_7, .int 0, .ref q_10, .null, .long 0, .long 0, .long 0, .long 0, .int 0, .int 0, .null, .null, .null, .null, .null])), (q_1, .inl (cy 2, 64, .inr (.inl (fun _ => 0)))), (q_4, .inl (cy 2, 64, .inr (.inl (fun _ => 0)))), (q_7, .inl (cy 3, 64, .inl (fun _ => 0))), (q_10, .inl (cy 2, 40, .inr (.inl (fun _ => 0))))] H_12 := hP2
  replace hD : va_D A [(h0, .inr (3, [.int 0, .int 0, .null, .int 0, .int 0, .ref q_1, .ref q_4, .ref q_7, .int 0, .ref q_10, .null, .long 0, .long 0, .long 0, .long 0, .int 0, .int 0, .null, .null, .null, .null, .null])), (q_1, .inl (cy 2, 64, .inr (.inl (fun _ => 0)))), (q_4, .inl (cy 2, 64, .inr (.inl (fun _ => 0)))), (q_7, .inl (cy 3, 64, .inl (fun _ => 0))), (q_10, .inl (cy 2, 40, .inr (.inl (fun _ => 0))))] := hD2
  replace hS := hS2
  clear hP2 hD2 hS2
  refine lv_aload_n hx hb dX3_init_36 rfl (lv_at hl 0 rfl) ?_
  refine lv_bipush (v := 40) hx hb dX3_init_37 (by decide) ?_
  refine rl_newa (atype := .long) (ty := .long) (a0 := (40, .inr (.inl (fun _ => 0)))) hx hb (hts _ m_X3_init_4) rfl hK hP hD hS hA 2 rfl (fun _ => rfl) (by decide) (by decide) (Nat.le_of_ble_eq_true rfl) (Nat.le_of_ble_eq_true rfl) (Nat.le_of_ble_eq_true rfl) dX3_init_39 (fun q_13 H_14 hP2 hD2 hS2 => ?_)
  replace hP : va_P (dC, dI) vwCl [(h0, .inr (3, [.int 0, .int 0, .null, .int 0, .int 0, .ref q_1, .ref q_4, .ref q_7, .int 0, .ref q_10, .null, .long 0, .long 0, .long 0, .long 0, .int 0, .int 0, .null, .null, .null, .null, .null])), (q_1, .inl (cy 2, 64, .inr (.inl (fun _ => 0)))), (q_4, .inl (cy 2, 64, .inr (.inl (fun _ => 0)))), (q_7, .inl (cy 3, 64, .inl (fun _ => 0))), (q_10, .inl (cy 2, 40, .inr (.inl (fun _ => 0)))), (q_13, .inl (cy 2, 40, .inr (.inl (fun _ => 0))))] H_14 := hP2
  replace hD : va_D A [(h0, .inr (3, [.int 0, .int 0, .null, .int 0, .int 0, .ref q_1, .ref q_4, .ref q_7, .int 0, .ref q_10, .null, .long 0, .long 0, .long 0, .long 0, .int 0, .int 0, .null, .null, .null, .null, .null])), (q_1, .inl (cy 2, 64, .inr (.inl (fun _ => 0)))), (q_4, .inl (cy 2, 64, .inr (.inl (fun _ => 0)))), (q_7, .inl (cy 3, 64, .inl (fun _ => 0))), (q_10, .inl (cy 2, 40, .inr (.inl (fun _ => 0)))), (q_13, .inl (cy 2, 40, .inr (.inl (fun _ => 0))))] := hD2
  replace hS := hS2
  clear hP2 hD2 hS2
  refine W.widen (k := 5) (n := 272) (Nat.le_of_ble_eq_true rfl) (Nat.le_of_ble_eq_true rfl) ?_
  refine va_putF (D := (dC, dI)) (ci := 3) (v := .ref q_13) (ty := .array .long) (C := RX3) (T := TX3) (N := 22) hx hb hts iw_X3_init_X3 tyX3 tyX3_ok nmX3 hown hK hP hD hS 0 rfl rfl 10 (by decide) (hts _ m_X3_init_10) (fun _ h9 => h9) rfl hin rfl (by decide +kernel) rfl rfl (Nat.le_of_ble_eq_true rfl) dX3_init_41 (fun H_15 locs hP2 hD2 hS2 => ?_)
  replace hP : va_P (dC, dI) vwCl [(h0, .inr (3, [.int 0, .int 0, .null, .int 0, .int 0, .ref q_1, .ref q_4, .ref q_7, .int 0, .ref q_10, .ref q_13, .long 0, .long 0, .long 0, .long 0, .int 0, .int 0, .null, .null, .null, .null, .null])), (q_1, .inl (cy 2, 64, .inr (.inl (fun _ => 0)))), (q_4, .inl (cy 2, 64, .inr (.inl (fun _ => 0)))), (q_7, .inl (cy 3, 64, .inl (fun _ => 0))), (q_10, .inl (cy 2, 40, .inr (.inl (fun _ => 0)))), (q_13, .inl (cy 2, 40, .inr (.inl (fun _ => 0))))] H_15 := hP2
  replace hD : va_D A [(h0, .inr (3, [.int 0, .int 0, .null, .int 0, .int 0, .ref q_1, .ref q_4, .ref q_7, .int 0, .ref q_10, .ref q_13, .long 0, .long 0, .long 0, .long 0, .int 0, .int 0, .null, .null, .null, .null, .null])), (q_1, .inl (cy 2, 64, .inr (.inl (fun _ => 0)))), (q_4, .inl (cy 2, 64, .inr (.inl (fun _ => 0)))), (q_7, .inl (cy 3, 64, .inl (fun _ => 0))), (q_10, .inl (cy 2, 40, .inr (.inl (fun _ => 0)))), (q_13, .inl (cy 2, 40, .inr (.inl (fun _ => 0))))] := hD2
  replace hS := hS2
  clear hP2 hD2 hS2
  refine lv_aload_n hx hb dX3_init_44 rfl (lv_at hl 0 rfl) ?_
  refine lv_sipush (v := 1024) hx hb dX3_init_45 (by decide) ?_
  refine rl_newa (atype := .boolean) (ty := .boolean) (a0 := (1024, .inl (fun _ => 0))) hx hb (hts _ m_X3_init_7) rfl hK hP hD hS hA 3 rfl (fun _ => rfl) (by decide) (by decide) (Nat.le_of_ble_eq_true rfl) (Nat.le_of_ble_eq_true rfl) (Nat.le_of_ble_eq_true rfl) dX3_init_48 (fun q_16 H_17 hP2 hD2 hS2 => ?_)
  replace hP : va_P (dC, dI) vwCl [(h0, .inr (3, [.int 0, .int 0, .null, .int 0, .int 0, .ref q_1, .ref q_4, .ref q_7, .int 0, .ref q_10, .ref q_13, .long 0, .long 0, .long 0, .long 0, .int 0, .int 0, .null, .null, .null, .null, .null])), (q_1, .inl (cy 2, 64, .inr (.inl (fun _ => 0)))), (q_4, .inl (cy 2, 64, .inr (.inl (fun _ => 0)))), (q_7, .inl (cy 3, 64, .inl (fun _ => 0))), (q_10, .inl (cy 2, 40, .inr (.inl (fun _ => 0)))), (q_13, .inl (cy 2, 40, .inr (.inl (fun _ => 0)))), (q_16, .inl (cy 3, 1024, .inl (fun _ => 0)))] H_17 := hP2
  replace hD : va_D A [(h0, .inr (3, [.int 0, .int 0, .null, .int 0, .int 0, .ref q_1, .ref q_4, .ref q_7, .int 0, .ref q_10, .ref q_13, .long 0, .long 0, .long 0, .long 0, .int 0, .int 0, .null, .null, .null, .null, .null])), (q_1, .inl (cy 2, 64, .inr (.inl (fun _ => 0)))), (q_4, .inl (cy 2, 64, .inr (.inl (fun _ => 0)))), (q_7, .inl (cy 3, 64, .inl (fun _ => 0))), (q_10, .inl (cy 2, 40, .inr (.inl (fun _ => 0)))), (q_13, .inl (cy 2, 40, .inr (.inl (fun _ => 0)))), (q_16, .inl (cy 3, 1024, .inl (fun _ => 0)))] := hD2
  replace hS := hS2
  clear hP2 hD2 hS2
  refine W.widen (k := 6) (n := 1296) (Nat.le_of_ble_eq_true rfl) (Nat.le_of_ble_eq_true rfl) ?_
  refine va_putF (D := (dC, dI)) (ci := 3) (v := .ref q_16) (ty := .array .boolean) (C := RX3) (T := TX3) (N := 22) hx hb hts iw_X3_init_X3 tyX3 tyX3_ok nmX3 hown hK hP hD hS 0 rfl rfl 17 (by decide) (hts _ m_X3_init_11) (fun _ h9 => h9) rfl hin rfl (by decide +kernel) rfl rfl (Nat.le_of_ble_eq_true rfl) dX3_init_50 (fun H_18 locs hP2 hD2 hS2 => ?_)
  replace hP : va_P (dC, dI) vwCl [(h0, .inr (3, [.int 0, .int 0, .null, .int 0, .int 0, .ref q_1, .ref q_4, .ref q_7, .int 0, .ref q_10, .ref q_13, .long 0, .long 0, .long 0, .long 0, .int 0, .int 0, .ref q_16, .null, .null, .null, .null])), (q_1, .inl (cy 2, 64, .inr (.inl (fun _ => 0)))), (q_4, .inl (cy 2, 64, .inr (.inl (fun _ => 0)))), (q_7, .inl (cy 3, 64, .inl (fun _ => 0))), (q_10, .inl (cy 2, 40, .inr (.inl (fun _ => 0)))), (q_13, .inl (cy 2, 40, .inr (.inl (fun _ => 0)))), (q_16, .inl (cy 3, 1024, .inl (fun _ => 0)))] H_18 := hP2
  replace hD : va_D A [(h0, .inr (3, [.int 0, .int 0, .null, .int 0, .int 0, .ref q_1, .ref q_4, .ref q_7, .int 0, .ref q_10, .ref q_13, .long 0, .long 0, .long 0, .long 0, .int 0, .int 0, .ref q_16, .null, .null, .null, .null])), (q_1, .inl (cy 2, 64, .inr (.inl (fun _ => 0)))), (q_4, .inl (cy 2, 64, .inr (.inl (fun _ => 0)))), (q_7, .inl (cy 3, 64, .inl (fun _ => 0))), (q_10, .inl (cy 2, 40, .inr (.inl (fun _ => 0)))), (q_13, .inl (cy 2, 40, .inr (.inl (fun _ => 0)))), (q_16, .inl (cy 3, 1024, .inl (fun _ => 0)))] := hD2
  replace hS := hS2
  clear hP2 hD2 hS2
  refine lv_aload_n hx hb dX3_init_53 rfl (lv_at hl 0 rfl) ?_
  refine lv_sipush (v := 1024) hx hb dX3_init_54 (by decide) ?_
  refine rl_newa (atype := .boolean) (ty := .boolean) (a0 := (1024, .inl (fun _ => 0))) hx hb (hts _ m_X3_init_7) rfl hK hP hD hS hA 3 rfl (fun _ => rfl) (by decide) (by decide) (Nat.le_of_ble_eq_true rfl) (Nat.le_of_ble_eq_true rfl) (Nat.le_of_ble_eq_true rfl) dX3_init_57 (fun q_19 H_20 hP2 hD2 hS2 => ?_)
  replace hP : va_P (dC, dI) vwCl [(h0, .inr (3, [.int 0, .int 0, .null, .int 0, .int 0, .ref q_1, .ref q_4, .ref q_7, .int 0, .ref q_10, .ref q_13, .long 0, .long 0, .long 0, .long 0, .int 0, .int 0, .ref q_16, .null, .null, .null, .null])), (q_1, .inl (cy 2, 64, .inr (.inl (fun _ => 0)))), (q_4, .inl (cy 2, 64, .inr (.inl (fun _ => 0)))), (q_7, .inl (cy 3, 64, .inl (fun _ => 0))), (q_10, .inl (cy 2, 40, .inr (.inl (fun _ => 0)))), (q_13, .inl (cy 2, 40, .inr (.inl (fun _ => 0)))), (q_16, .inl (cy 3, 1024, .inl (fun _ => 0))), (q_19, .inl (cy 3, 1024, .inl (fun _ => 0)))] H_20 := hP2
  replace hD : va_D A [(h0, .inr (3, [.int 0, .int 0, .null, .int 0, .int 0, .ref q_1, .ref q_4, .ref q_7, .int 0, .ref q_10, .ref q_13, .long 0, .long 0, .long 0, .long 0, .int 0, .int 0, .ref q_16, .null, .null, .null, .null])), (q_1, .inl (cy 2, 64, .inr (.inl (fun _ => 0)))), (q_4, .inl (cy 2, 64, .inr (.inl (fun _ => 0)))), (q_7, .inl (cy 3, 64, .inl (fun _ => 0))), (q_10, .inl (cy 2, 40, .inr (.inl (fun _ => 0)))), (q_13, .inl (cy 2, 40, .inr (.inl (fun _ => 0)))), (q_16, .inl (cy 3, 1024, .inl (fun _ => 0))), (q_19, .inl (cy 3, 1024, .inl (fun _ => 0)))] := hD2
  replace hS := hS2
  clear hP2 hD2 hS2
  refine W.widen (k := 7) (n := 2320) (Nat.le_of_ble_eq_true rfl) (Nat.le_of_ble_eq_true rfl) ?_
  refine va_putF (D := (dC, dI)) (ci := 3) (v := .ref q_19) (ty := .array .boolean) (C := RX3) (T := TX3) (N := 22) hx hb hts iw_X3_init_X3 tyX3 tyX3_ok nmX3 hown hK hP hD hS 0 rfl rfl 18 (by decide) (hts _ m_X3_init_12) (fun _ h9 => h9) rfl hin rfl (by decide +kernel) rfl rfl (Nat.le_of_ble_eq_true rfl) dX3_init_59 (fun H_21 locs hP2 hD2 hS2 => ?_)
  replace hP : va_P (dC, dI) vwCl [(h0, .inr (3, [.int 0, .int 0, .null, .int 0, .int 0, .ref q_1, .ref q_4, .ref q_7, .int 0, .ref q_10, .ref q_13, .long 0, .long 0, .long 0, .long 0, .int 0, .int 0, .ref q_16, .ref q_19, .null, .null, .null])), (q_1, .inl (cy 2, 64, .inr (.inl (fun _ => 0)))), (q_4, .inl (cy 2, 64, .inr (.inl (fun _ => 0)))), (q_7, .inl (cy 3, 64, .inl (fun _ => 0))), (q_10, .inl (cy 2, 40, .inr (.inl (fun _ => 0)))), (q_13, .inl (cy 2, 40, .inr (.inl (fun _ => 0)))), (q_16, .inl (cy 3, 1024, .inl (fun _ => 0))), (q_19, .inl (cy 3, 1024, .inl (fun _ => 0)))] H_21 := hP2
  replace hD : va_D A [(h0, .inr (3, [.int 0, .int 0, .null, .int 0, .int 0, .ref q_1, .ref q_4, .ref q_7, .int 0, .ref q_10, .ref q_13, .long 0, .long 0, .long 0, .long 0, .int 0, .int 0, .ref q_16, .ref q_19, .null, .null, .null])), (q_1, .inl (cy 2, 64, .inr (.inl (fun _ => 0)))), (q_4, .inl (cy 2, 64, .inr (.inl (fun _ => 0)))), (q_7, .inl (cy 3, 64, .inl (fun _ => 0))), (q_10, .inl (cy 2, 40, .inr (.inl (fun _ => 0)))), (q_13, .inl (cy 2, 40, .inr (.inl (fun _ => 0)))), (q_16, .inl (cy 3, 1024, .inl (fun _ => 0))), (q_19, .inl (cy 3, 1024, .inl (fun _ => 0)))] := hD2
  replace hS := hS2
  clear hP2 hD2 hS2
  refine lv_aload_n hx hb dX3_init_62 rfl (lv_at hl 0 rfl) ?_
  refine lv_sipush (v := 1024) hx hb dX3_init_63 (by decide) ?_
  refine rl_newa (atype := .long) (ty := .long) (a0 := (1024, .inr (.inl (fun _ => 0)))) hx hb (hts _ m_X3_init_4) rfl hK hP hD hS hA 2 rfl (fun _ => rfl) (by decide) (by decide) (Nat.le_of_ble_eq_true rfl) (Nat.le_of_ble_eq_true rfl) (Nat.le_of_ble_eq_true rfl) dX3_init_66 (fun q_22 H_23 hP2 hD2 hS2 => ?_)
  replace hP : va_P (dC, dI) vwCl [(h0, .inr (3, [.int 0, .int 0, .null, .int 0, .int 0, .ref q_1, .ref q_4, .ref q_7, .int 0, .ref q_10, .ref q_13, .long 0, .long 0, .long 0, .long 0, .int 0, .int 0, .ref q_16, .ref q_19, .null, .null, .null])), (q_1, .inl (cy 2, 64, .inr (.inl (fun _ => 0)))), (q_4, .inl (cy 2, 64, .inr (.inl (fun _ => 0)))), (q_7, .inl (cy 3, 64, .inl (fun _ => 0))), (q_10, .inl (cy 2, 40, .inr (.inl (fun _ => 0)))), (q_13, .inl (cy 2, 40, .inr (.inl (fun _ => 0)))), (q_16, .inl (cy 3, 1024, .inl (fun _ => 0))), (q_19, .inl (cy 3, 1024, .inl (fun _ => 0))), (q_22, .inl (cy 2, 1024, .inr (.inl (fun _ => 0))))] H_23 := hP2
  replace hD : va_D A [(h0, .inr (3, [.int 0, .int 0, .null, .int 0, .int 0, .ref q_1, .ref q_4, .ref q_7, .int 0, .ref q_10, .ref q_13, .long 0, .long 0, .long 0, .long 0, .int 0, .int 0, .ref q_16, .ref q_19, .null, .null, .null])), (q_1, .inl (cy 2, 64, .inr (.inl (fun _ => 0)))), (q_4, .inl (cy 2, 64, .inr (.inl (fun _ => 0)))), (q_7, .inl (cy 3, 64, .inl (fun _ => 0))), (q_10, .inl (cy 2, 40, .inr (.inl (fun _ => 0)))), (q_13, .inl (cy 2, 40, .inr (.inl (fun _ => 0)))), (q_16, .inl (cy 3, 1024, .inl (fun _ => 0))), (q_19, .inl (cy 3, 1024, .inl (fun _ => 0))), (q_22, .inl (cy 2, 1024, .inr (.inl (fun _ => 0))))] := hD2
  replace hS := hS2
  clear hP2 hD2 hS2
  refine W.widen (k := 8) (n := 3344) (Nat.le_of_ble_eq_true rfl) (Nat.le_of_ble_eq_true rfl) ?_
  refine va_putF (D := (dC, dI)) (ci := 3) (v := .ref q_22) (ty := .array .long) (C := RX3) (T := TX3) (N := 22) hx hb hts iw_X3_init_X3 tyX3 tyX3_ok nmX3 hown hK hP hD hS 0 rfl rfl 19 (by decide) (hts _ m_X3_init_13) (fun _ h9 => h9) rfl hin rfl (by decide +kernel) rfl rfl (Nat.le_of_ble_eq_true rfl) dX3_init_68 (fun H_24 locs hP2 hD2 hS2 => ?_)
  replace hP : va_P (dC, dI) vwCl [(h0, .inr (3, [.int 0, .int 0, .null, .int 0, .int 0, .ref q_1, .ref q_4, .ref q_7, .int 0, .ref q_10, .ref q_13, .long 0, .long 0, .long 0, .long 0, .int 0, .int 0, .ref q_16, .ref q_19, .ref q_22, .null, .null])), (q_1, .inl (cy 2, 64, .inr (.inl (fun _ => 0)))), (q_4, .inl (cy 2, 64, .inr (.inl (fun _ => 0)))), (q_7, .inl (cy 3, 64, .inl (fun _ => 0))), (q_10, .inl (cy 2, 40, .inr (.inl (fun _ => 0)))), (q_13, .inl (cy 2, 40, .inr (.inl (fun _ => 0)))), (q_16, .inl (cy 3, 1024, .inl (fun _ => 0))), (q_19, .inl (cy 3, 1024, .inl (fun _ => 0))), (q_22, .inl (cy 2, 1024, .inr (.inl (fun _ => 0))))] H_24 := hP2
  replace hD : va_D A [(h0, .inr (3, [.int 0, .int 0, .null, .int 0, .int 0, .ref q_1, .ref q_4, .ref q_7, .int 0, .ref q_10, .ref q_13, .long 0, .long 0, .long 0, .long 0, .int 0, .int 0, .ref q_16, .ref q_19, .ref q_22, .null, .null])), (q_1, .inl (cy 2, 64, .inr (.inl (fun _ => 0)))), (q_4, .inl (cy 2, 64, .inr (.inl (fun _ => 0)))), (q_7, .inl (cy 3, 64, .inl (fun _ => 0))), (q_10, .inl (cy 2, 40, .inr (.inl (fun _ => 0)))), (q_13, .inl (cy 2, 40, .inr (.inl (fun _ => 0)))), (q_16, .inl (cy 3, 1024, .inl (fun _ => 0))), (q_19, .inl (cy 3, 1024, .inl (fun _ => 0))), (q_22, .inl (cy 2, 1024, .inr (.inl (fun _ => 0))))] := hD2
  replace hS := hS2
  clear hP2 hD2 hS2
  refine lv_aload_n hx hb dX3_init_71 rfl (lv_at hl 0 rfl) ?_
  refine lv_sipush (v := 1024) hx hb dX3_init_72 (by decide) ?_
  refine rl_newa (atype := .long) (ty := .long) (a0 := (1024, .inr (.inl (fun _ => 0)))) hx hb (hts _ m_X3_init_4) rfl hK hP hD hS hA 2 rfl (fun _ => rfl) (by decide) (by decide) (Nat.le_of_ble_eq_true rfl) (Nat.le_of_ble_eq_true rfl) (Nat.le_of_ble_eq_true rfl) dX3_init_75 (fun q_25 H_26 hP2 hD2 hS2 => ?_)
  replace hP : va_P (dC, dI) vwCl [(h0, .inr (3, [.int 0, .int 0, .null, .int 0, .int 0, .ref q_1, .ref q_4, .ref q_7, .int 0, .ref q_10, .ref q_13, .long 0, .long 0, .long 0, .long 0, .int 0, .int 0, .ref q_16, .ref q_19, .ref q_22, .null, .null])), (q_1, .inl (cy 2, 64, .inr (.inl (fun _ => 0)))), (q_4, .inl (cy 2, 64, .inr (.inl (fun _ => 0)))), (q_7, .inl (cy 3, 64, .inl (fun _ => 0))), (q_10, .inl (cy 2, 40, .inr (.inl (fun _ => 0)))), (q_13, .inl (cy 2, 40, .inr (.inl (fun _ => 0)))), (q_16, .inl (cy 3, 1024, .inl (fun _ => 0))), (q_19, .inl (cy 3, 1024, .inl (fun _ => 0))), (q_22, .inl (cy 2, 1024, .inr (.inl (fun _ => 0)))), (q_25, .inl (cy 2, 1024, .inr (.inl (fun _ => 0))))] H_26 := hP2
  replace hD : va_D A [(h0, .inr (3, [.int 0, .int 0, .null, .int 0, .int 0, .ref q_1, .ref q_4, .ref q_7, .int 0, .ref q_10, .ref q_13, .long 0, .long 0, .long 0, .long 0, .int 0, .int 0, .ref q_16, .ref q_19, .ref q_22, .null, .null])), (q_1, .inl (cy 2, 64, .inr (.inl (fun _ => 0)))), (q_4, .inl (cy 2, 64, .inr (.inl (fun _ => 0)))), (q_7, .inl (cy 3, 64, .inl (fun _ => 0))), (q_10, .inl (cy 2, 40, .inr (.inl (fun _ => 0)))), (q_13, .inl (cy 2, 40, .inr (.inl (fun _ => 0)))), (q_16, .inl (cy 3, 1024, .inl (fun _ => 0))), (q_19, .inl (cy 3, 1024, .inl (fun _ => 0))), (q_22, .inl (cy 2, 1024, .inr (.inl (fun _ => 0)))), (q_25, .inl (cy 2, 1024, .inr (.inl (fun _ => 0))))] := hD2
  replace hS := hS2
  clear hP2 hD2 hS2
  refine W.widen (k := 9) (n := 4368) (Nat.le_of_ble_eq_true rfl) (Nat.le_of_ble_eq_true rfl) ?_
  refine va_putF (D := (dC, dI)) (ci := 3) (v := .ref q_25) (ty := .array .long) (C := RX3) (T := TX3) (N := 22) hx hb hts iw_X3_init_X3 tyX3 tyX3_ok nmX3 hown hK hP hD hS 0 rfl rfl 20 (by decide) (hts _ m_X3_init_14) (fun _ h9 => h9) rfl hin rfl (by decide +kernel) rfl rfl (Nat.le_of_ble_eq_true rfl) dX3_init_77 (fun H_27 locs hP2 hD2 hS2 => ?_)
  replace hP : va_P (dC, dI) vwCl [(h0, .inr (3, [.int 0, .int 0, .null, .int 0, .int 0, .ref q_1, .ref q_4, .ref q_7, .int 0, .ref q_10, .ref q_13, .long 0, .long 0, .long 0, .long 0, .int 0, .int 0, .ref q_16, .ref q_19, .ref q_22, .ref q_25, .null])), (q_1, .inl (cy 2, 64, .inr (.inl (fun _ => 0)))), (q_4, .inl (cy 2, 64, .inr (.inl (fun _ => 0)))), (q_7, .inl (cy 3, 64, .inl (fun _ => 0))), (q_10, .inl (cy 2, 40, .inr (.inl (fun _ => 0)))), (q_13, .inl (cy 2, 40, .inr (.inl (fun _ => 0)))), (q_16, .inl (cy 3, 1024, .inl (fun _ => 0))), (q_19, .inl (cy 3, 1024, .inl (fun _ => 0))), (q_22, .inl (cy 2, 1024, .inr (.inl (fun _ => 0)))), (q_25, .inl (cy 2, 1024, .inr (.inl (fun _ => 0))))] H_27 := hP2
  replace hD : va_D A [(h0, .inr (3, [.int 0, .int 0, .null, .int 0, .int 0, .ref q_1, .ref q_4, .ref q_7, .int 0, .ref q_10, .ref q_13, .long 0, .long 0, .long 0, .long 0, .int 0, .int 0, .ref q_16, .ref q_19, .ref q_22, .ref q_25, .null])), (q_1, .inl (cy 2, 64, .inr (.inl (fun _ => 0)))), (q_4, .inl (cy 2, 64, .inr (.inl (fun _ => 0)))), (q_7, .inl (cy 3, 64, .inl (fun _ => 0))), (q_10, .inl (cy 2, 40, .inr (.inl (fun _ => 0)))), (q_13, .inl (cy 2, 40, .inr (.inl (fun _ => 0)))), (q_16, .inl (cy 3, 1024, .inl (fun _ => 0))), (q_19, .inl (cy 3, 1024, .inl (fun _ => 0))), (q_22, .inl (cy 2, 1024, .inr (.inl (fun _ => 0)))), (q_25, .inl (cy 2, 1024, .inr (.inl (fun _ => 0))))] := hD2
  replace hS := hS2
  clear hP2 hD2 hS2
  refine lv_aload_n hx hb dX3_init_80 rfl (lv_at hl 0 rfl) ?_
  refine lv_ldc hx hb hown (hts _ m_X3_init_15) dX3_init_81 ?_
  refine rl_newa (atype := .long) (ty := .long) (a0 := (40960, .inr (.inl (fun _ => 0)))) hx hb (hts _ m_X3_init_4) rfl hK hP hD hS hA 2 rfl (fun _ => rfl) (by decide) (by decide) (Nat.le_of_ble_eq_true rfl) (Nat.le_of_ble_eq_true rfl) (Nat.le_of_ble_eq_true rfl) dX3_init_83 (fun q_28 H_29 hP2 hD2 hS2 => ?_)
  replace hP : va_P (dC, dI) vwCl [(h0, .inr (3, [.int 0, .int 0, .null, .int 0, .int 0, .ref q_1, .ref q_4, .ref q_7, .int 0, .ref q_10, .ref q_13, .long 0, .long 0, .long 0, .long 0, .int 0, .int 0, .ref q_16, .ref q_19, .ref q_22, .ref q_25, .null])), (q_1, .inl (cy 2, 64, .inr (.inl (fun _ => 0)))), (q_4, .inl (cy 2, 64, .inr (.inl (fun _ => 0)))), (q_7, .inl (cy 3, 64, .inl (fun _ => 0))), (q_10, .inl (cy 2, 40, .inr (.inl (fun _ => 0)))), (q_13, .inl (cy 2, 40, .inr (.inl (fun _ => 0)))), (q_16, .inl (cy 3, 1024, .inl (fun _ => 0))), (q_19, .inl (cy 3, 1024, .inl (fun _ => 0))), (q_22, .inl (cy 2, 1024, .inr (.inl (fun _ => 0)))), (q_25, .inl (cy 2, 1024, .inr (.inl (fun _ => 0)))), (q_28, .inl (cy 2, 40960, .inr (.inl (fun _ => 0))))] H_29 := hP2
  replace hD : va_D A [(h0, .inr (3, [.int 0, .int 0, .null, .int 0, .int 0, .ref q_1, .ref q_4, .ref q_7, .int 0, .ref q_10, .ref q_13, .long 0, .long 0, .long 0, .long 0, .int 0, .int 0, .ref q_16, .ref q_19, .ref q_22, .ref q_25, .null])), (q_1, .inl (cy 2, 64, .inr (.inl (fun _ => 0)))), (q_4, .inl (cy 2, 64, .inr (.inl (fun _ => 0)))), (q_7, .inl (cy 3, 64, .inl (fun _ => 0))), (q_10, .inl (cy 2, 40, .inr (.inl (fun _ => 0)))), (q_13, .inl (cy 2, 40, .inr (.inl (fun _ => 0)))), (q_16, .inl (cy 3, 1024, .inl (fun _ => 0))), (q_19, .inl (cy 3, 1024, .inl (fun _ => 0))), (q_22, .inl (cy 2, 1024, .inr (.inl (fun _ => 0)))), (q_25, .inl (cy 2, 1024, .inr (.inl (fun _ => 0)))), (q_28, .inl (cy 2, 40960, .inr (.inl (fun _ => 0))))] := hD2
  replace hS := hS2
  clear hP2 hD2 hS2
  refine W.widen (k := 10) (n := 45328) (Nat.le_of_ble_eq_true rfl) (Nat.le_of_ble_eq_true rfl) ?_
  refine va_putF (D := (dC, dI)) (ci := 3) (v := .ref q_28) (ty := .array .long) (C := RX3) (T := TX3) (N := 22) hx hb hts iw_X3_init_X3 tyX3 tyX3_ok nmX3 hown hK hP hD hS 0 rfl rfl 21 (by decide) (hts _ m_X3_init_16) (fun _ h9 => h9) rfl hin rfl (by decide +kernel) rfl rfl (Nat.le_of_ble_eq_true rfl) dX3_init_85 (fun H_30 locs hP2 hD2 hS2 => ?_)
  replace hP : va_P (dC, dI) vwCl [(h0, .inr (3, [.int 0, .int 0, .null, .int 0, .int 0, .ref q_1, .ref q_4, .ref q_7, .int 0, .ref q_10, .ref q_13, .long 0, .long 0, .long 0, .long 0, .int 0, .int 0, .ref q_16, .ref q_19, .ref q_22, .ref q_25, .ref q_28])), (q_1, .inl (cy 2, 64, .inr (.inl (fun _ => 0)))), (q_4, .inl (cy 2, 64, .inr (.inl (fun _ => 0)))), (q_7, .inl (cy 3, 64, .inl (fun _ => 0))), (q_10, .inl (cy 2, 40, .inr (.inl (fun _ => 0)))), (q_13, .inl (cy 2, 40, .inr (.inl (fun _ => 0)))), (q_16, .inl (cy 3, 1024, .inl (fun _ => 0))), (q_19, .inl (cy 3, 1024, .inl (fun _ => 0))), (q_22, .inl (cy 2, 1024, .inr (.inl (fun _ => 0)))), (q_25, .inl (cy 2, 1024, .inr (.inl (fun _ => 0)))), (q_28, .inl (cy 2, 40960, .inr (.inl (fun _ => 0))))] H_30 := hP2
  replace hD : va_D A [(h0, .inr (3, [.int 0, .int 0, .null, .int 0, .int 0, .ref q_1, .ref q_4, .ref q_7, .int 0, .ref q_10, .ref q_13, .long 0, .long 0, .long 0, .long 0, .int 0, .int 0, .ref q_16, .ref q_19, .ref q_22, .ref q_25, .ref q_28])), (q_1, .inl (cy 2, 64, .inr (.inl (fun _ => 0)))), (q_4, .inl (cy 2, 64, .inr (.inl (fun _ => 0)))), (q_7, .inl (cy 3, 64, .inl (fun _ => 0))), (q_10, .inl (cy 2, 40, .inr (.inl (fun _ => 0)))), (q_13, .inl (cy 2, 40, .inr (.inl (fun _ => 0)))), (q_16, .inl (cy 3, 1024, .inl (fun _ => 0))), (q_19, .inl (cy 3, 1024, .inl (fun _ => 0))), (q_22, .inl (cy 2, 1024, .inr (.inl (fun _ => 0)))), (q_25, .inl (cy 2, 1024, .inr (.inl (fun _ => 0)))), (q_28, .inl (cy 2, 40960, .inr (.inl (fun _ => 0))))] := hD2
  replace hS := hS2
  clear hP2 hD2 hS2
  have hP9 := hP.sub (ws' := [(h0, .inr (3, [.int 0, .int 0, .null, .int 0, .int 0, .ref q_1, .ref q_4, .ref q_7, .int 0, .ref q_10, .ref q_13, .long 0, .long 0, .long 0, .long 0, .int 0, .int 0, .ref q_16, .ref q_19, .ref q_22, .ref q_25, .ref q_28])), (q_1, .inl (cy 2, 64, .inr (.inl (fun _ => 0)))), (q_4, .inl (cy 2, 64, .inr (.inl (fun _ => 0)))), (q_7, .inl (cy 3, 64, .inl (fun _ => 0))), (q_10, .inl (cy 2, 40, .inr (.inl (fun _ => 0)))), (q_13, .inl (cy 2, 40, .inr (.inl (fun _ => 0)))), (q_16, .inl (cy 3, 1024, .inl (fun _ => 0))), (q_19, .inl (cy 3, 1024, .inl (fun _ => 0))), (q_22, .inl (cy 2, 1024, .inr (.inl (fun _ => 0)))), (q_25, .inl (cy 2, 1024, .inr (.inl (fun _ => 0)))), (q_28, .inl (cy 2, 40960, .inr (.inl (fun _ => 0))))]) [0, 1, 2, 3, 4, 5, 6, 7, 8, 9, 10] rfl
  have hD9 := hD.sub (ws' := [(h0, .inr (3, [.int 0, .int 0, .null, .int 0, .int 0, .ref q_1, .ref q_4, .ref q_7, .int 0, .ref q_10, .ref q_13, .long 0, .long 0, .long 0, .long 0, .int 0, .int 0, .ref q_16, .ref q_19, .ref q_22, .ref q_25, .ref q_28])), (q_1, .inl (cy 2, 64, .inr (.inl (fun _ => 0)))), (q_4, .inl (cy 2, 64, .inr (.inl (fun _ => 0)))), (q_7, .inl (cy 3, 64, .inl (fun _ => 0))), (q_10, .inl (cy 2, 40, .inr (.inl (fun _ => 0)))), (q_13, .inl (cy 2, 40, .inr (.inl (fun _ => 0)))), (q_16, .inl (cy 3, 1024, .inl (fun _ => 0))), (q_19, .inl (cy 3, 1024, .inl (fun _ => 0))), (q_22, .inl (cy 2, 1024, .inr (.inl (fun _ => 0)))), (q_25, .inl (cy 2, 1024, .inr (.inl (fun _ => 0)))), (q_28, .inl (cy 2, 40960, .inr (.inl (fun _ => 0))))]) [0, 1, 2, 3, 4, 5, 6, 7, 8, 9, 10] (by decide) rfl
  exact W.vret hx hb hr (fun t ht hW => ⟨⟨(q_1, q_4, q_7, q_10, q_13, q_16, q_19, q_22, q_25, q_28), rfl, trivial, by rw [ht]; exact hP9, va_K.moved hW.alike hK, hD9⟩, hS.F ht⟩) hS.2.2 dX3_init_88

theorem m_X5_init_1 : (.methodLink RX5 3 objectInit : Cond) ∈ wsX5_init := List.mem_of_getElem? (i := 1) rfl
theorem m_X5_init_2 : (.instanceMethod objectInit : Cond) ∈ wsX5_init := List.mem_of_getElem? (i := 2) rfl
theorem m_X5_init_3 : (.code objectInit ⟨#[0xb1]⟩ 1 none : Cond) ∈ wsX5_init := List.mem_of_getElem? (i := 3) rfl
theorem m_X5_init_4 : (.arrayClass .long : Cond) ∈ wsX5_init := List.mem_of_getElem? (i := 4) rfl
theorem m_X5_init_5 : (.fieldLink RX5 9 "ResourceLedger$Program" "types" "[J" : Cond) ∈ wsX5_init := List.mem_of_getElem? (i := 5) rfl
theorem iw_X5_init_X5 : ∀ w ∈ wsX50, w ∈ wsX5_init := fun _ h => List.mem_cons_of_mem _ (List.mem_append_right _ h)
theorem m_X5_init_6 : (.arrayClass .int : Cond) ∈ wsX5_init := List.mem_of_getElem? (i := 6) rfl
theorem m_X5_init_7 : (.fieldLink RX5 15 "ResourceLedger$Program" "starts" "[I" : Cond) ∈ wsX5_init := List.mem_of_getElem? (i := 7) rfl
theorem m_X5_init_8 : (.fieldLink RX5 19 "ResourceLedger$Program" "structureRows" "[I" : Cond) ∈ wsX5_init := List.mem_of_getElem? (i := 8) rfl
theorem m_X5_init_9 : (.fieldLink RX5 22 "ResourceLedger$Program" "functionRows" "[I" : Cond) ∈ wsX5_init := List.mem_of_getElem? (i := 9) rfl
set_option maxHeartbeats 4000000 in
set_option maxRecDepth 100000 in
theorem c_X5_init (l : Launch) (dC : Nat → ClassId) (dI : Nat → Nat → Nat) (cy : Nat → ClassId) (sz : Nat) (h0 : Nat) : Met l yX5_init wsX5_init ({ frames := 1, cells := 4, slots := 5408, locals := 12 }) (va_Pc [.ref h0] (fun U => U.heap.size = sz ∧ va_P (dC, dI) vwCl [(h0, .inr (5, [.null, .int 0, .int 0, .null, .int 0, .null, .int 0, .null, .int 0, .int 0, .null, .int 0, .int 0, .int 0, .int 0]))] U.heap ∧ va_K (dC, dI) vwCl (TYS cy) U ∧ va_D (fun _ => True) [(h0, .inr (5, [.null, .int 0, .int 0, .null, .int 0, .null, .int 0, .null, .int 0, .int 0, .null, .int 0, .int 0, .int 0, .int 0]))] ∧ NK U)) (va_Qv (fun u : Nat × Nat × Nat × Nat => True) (fun u t => match u with | (q0, q1, q2, q3) => va_P (dC, dI) vwCl [(h0, .inr (5, [.null, .int 0, .int 0, .ref q0, .int 0, .ref q1, .int 0, .ref q2, .int 0, .int 0, .ref q3, .int 0, .int 0, .int 0, .int 0])), (q0, .inl (cy 2, 2048, .inr (.inl (fun _ => 0)))), (q1, .inl (cy 1, 2048, .inl (fun _ => 0))), (q2, .inl (cy 1, 448, .inl (fun _ => 0))), (q3, .inl (cy 1, 864, .inl (fun _ => 0)))] t.heap ∧ va_K (dC, dI) vwCl (TYS cy) t ∧ va_D (va_A [(h0, .inr (5, [.null, .int 0, .int 0, .null, .int 0, .null, .int 0, .null, .int 0, .int 0, .null, .int 0, .int 0, .int 0, .int 0]))] sz) [(h0, .inr (5, [.null, .int 0, .int 0, .ref q0, .int 0, .ref q1, .int 0, .ref q2, .int 0, .int 0, .ref q3, .int 0, .int 0, .int 0, .int 0])), (q0, .inl (cy 2, 2048, .inr (.inl (fun _ => 0)))), (q1, .inl (cy 1, 2048, .inl (fun _ => 0))), (q2, .inl (cy 1, 448, .inl (fun _ => 0))), (q3, .inl (cy 1, 864, .inl (fun _ => 0)))]) (va_A [(h0, .inr (5, [.null, .int 0, .int 0, .null, .int 0, .null, .int 0, .null, .int 0, .int 0, .null, .int 0, .int 0, .int 0, .int 0]))] sz)) 4 5408 (va_A [(h0, .inr (5, [.null, .int 0, .int 0, .null, .int 0, .null, .int 0, .null, .int 0, .int 0, .null, .int 0, .int 0, .int 0, .int 0]))] sz) := by
  refine Met.ofW (cc := cX5_init) (maxL := 1) (ret := none) (by decide) rfl ?_
  intro p e s m args below meth c s₁ B hml hv
  obtain ⟨rfl, hsz, hP, hK, hD0, hN⟩ := hv
  have hx := B.exec
  have hb := B.bytes
  have hr := B.returns
  have hts := atoms_spec (ws := wsX5_init) B.pre
  have hown : s.vm.findClass RX5 = some m.cls := findClass_of_methodNamed B.named
  have hlocks := B.notSynchronized
  have hin : meth.name = "<init>" := (name_of_methodNamed B.named B.method).1
  subst hsz
  have hD := hD0.self (sz := s.heap.size)
  generalize hAe : va_A [(h0, .inr (5, [.null, .int 0, .int 0, .null, .int 0, .null, .int 0, .null, .int 0, .int 0, .null, .int 0, .int 0, .int 0, .int 0]))] s.heap.size = A at hD ⊢
  have hA : ∀ q : Nat, s.heap.size ≤ q → A q := fun q h => by rw [← hAe]; exact Or.inr h
  have hS : va_S A s.heap s.heap [] := va_S.rf
  have hP : va_P (dC, dI) vwCl [(h0, .inr (5, [.null, .int 0, .int 0, .null, .int 0, .null, .int 0, .null, .int 0, .int 0, .null, .int 0, .int 0, .int 0, .int 0]))] s.heap := hP
  have hl := lv_entry ([.ref h0]) (n := 1) (Nat.le_of_ble_eq_true rfl)
  rw [lg_entry_eq]
  generalize (lg_sl ([.ref h0]) ++ List.replicate (1 - (lg_sl ([.ref h0])).length) Slot.unset).toArray = ls at hl ⊢
  replace hl : lv_has ls 1 [(0, .ref h0)] := hl
  refine lv_aload_n hx hb dX5_init_0 rfl (lv_at hl 0 rfl) ?_
  refine W.objInit hx hb hown (hts _ m_X5_init_1) (hts _ m_X5_init_2) (hts _ m_X5_init_3) rfl (by rw [hml]; exact hl.1) rfl dX5_init_1 (Nat.le_of_ble_eq_true rfl) (Nat.le_of_ble_eq_true rfl) ?_
  refine W.eq (g2 := F0 m 4 ls []) rfl ?_
  refine lv_aload_n hx hb dX5_init_4 rfl (lv_at hl 0 rfl) ?_
  refine lv_sipush (v := 2048) hx hb dX5_init_5 (by decide) ?_
  refine rl_newa (atype := .long) (ty := .long) (a0 := (2048, .inr (.inl (fun _ => 0)))) hx hb (hts _ m_X5_init_4) rfl hK hP hD hS hA 2 rfl (fun _ => rfl) (by decide) (by decide) (Nat.le_of_ble_eq_true rfl) (Nat.le_of_ble_eq_true rfl) (Nat.le_of_ble_eq_true rfl) dX5_init_8 (fun q_1 H_2 hP2 hD2 hS2 => ?_)
  replace hP : va_P (dC, dI) vwCl [(h0, .inr (5, [.null, .int 0, .int 0, .null, .int 0, .null, .int 0, .null, .int 0, .int 0, .null, .int 0, .int 0, .int 0, .int 0])), (q_1, .inl (cy 2, 2048, .inr (.inl (fun _ => 0))))] H_2 := hP2
  replace hD : va_D A [(h0, .inr (5, [.null, .int 0, .int 0, .null, .int 0, .null, .int 0, .null, .int 0, .int 0, .null, .int 0, .int 0, .int 0, .int 0])), (q_1, .inl (cy 2, 2048, .inr (.inl (fun _ => 0))))] := hD2
  replace hS := hS2
  clear hP2 hD2 hS2
  refine W.widen (k := 1) (n := 2048) (Nat.le_of_ble_eq_true rfl) (Nat.le_of_ble_eq_true rfl) ?_
  refine va_putF (D := (dC, dI)) (ci := 5) (v := .ref q_1) (ty := .array .long) (C := RX5) (T := TX5) (N := 15) hx hb hts iw_X5_init_X5 tyX5 tyX5_ok nmX5 hown hK hP hD hS 0 rfl rfl 3 (by decide) (hts _ m_X5_init_5) (fun _ h9 => h9) rfl hin rfl (by decide +kernel) rfl rfl (Nat.le_of_ble_eq_true rfl) dX5_init_10 (fun H_3 locs hP2 hD2 hS2 => ?_)
  replace hP : va_P (dC, dI) vwCl [(h0, .inr (5, [.null, .int 0, .int 0, .ref q_1, .int 0, .null, .int 0, .null, .int 0, .int 0, .null, .int 0, .int 0, .int 0, .int 0])), (q_1, .inl (cy 2, 2048, .inr (.inl (fun _ => 0))))] H_3 := hP2
  replace hD : va_D A [(h0, .inr (5, [.null, .int 0, .int 0, .ref q_1, .int 0, .null, .int 0, .null, .int 0, .int 0, .null, .int 0, .int 0, .int 0, .int 0])), (q_1, .inl (cy 2, 2048, .inr (.inl (fun _ => 0))))] := hD2
  replace hS := hS2
  clear hP2 hD2 hS2
  refine lv_aload_n hx hb dX5_init_13 rfl (lv_at hl 0 rfl) ?_
  refine lv_sipush (v := 2048) hx hb dX5_init_14 (by decide) ?_
  refine rl_newa (atype := .int) (ty := .int) (a0 := (2048, .inl (fun _ => 0))) hx hb (hts _ m_X5_init_6) rfl hK hP hD hS hA 1 rfl (fun _ => rfl) (by decide) (by decide) (Nat.le_of_ble_eq_true rfl) (Nat.le_of_ble_eq_true rfl) (Nat.le_of_ble_eq_true rfl) dX5_init_17 (fun q_4 H_5 hP2 hD2 hS2 => ?_)
  replace hP : va_P (dC, dI) vwCl [(h0, .inr (5, [.null, .int 0, .int 0, .ref q_1, .int 0, .null, .int 0, .null, .int 0, .int 0, .null, .int 0, .int 0, .int 0, .int 0])), (q_1, .inl (cy 2, 2048, .inr (.inl (fun _ => 0)))), (q_4, .inl (cy 1, 2048, .inl (fun _ => 0)))] H_5 := hP2
  replace hD : va_D A [(h0, .inr (5, [.null, .int 0, .int 0, .ref q_1, .int 0, .null, .int 0, .null, .int 0, .int 0, .null, .int 0, .int 0, .int 0, .int 0])), (q_1, .inl (cy 2, 2048, .inr (.inl (fun _ => 0)))), (q_4, .inl (cy 1, 2048, .inl (fun _ => 0)))] := hD2
  replace hS := hS2
  clear hP2 hD2 hS2
  refine W.widen (k := 2) (n := 4096) (Nat.le_of_ble_eq_true rfl) (Nat.le_of_ble_eq_true rfl) ?_
  refine va_putF (D := (dC, dI)) (ci := 5) (v := .ref q_4) (ty := .array .int) (C := RX5) (T := TX5) (N := 15) hx hb hts iw_X5_init_X5 tyX5 tyX5_ok nmX5 hown hK hP hD hS 0 rfl rfl 5 (by decide) (hts _ m_X5_init_7) (fun _ h9 => h9) rfl hin rfl (by decide +kernel) rfl rfl (Nat.le_of_ble_eq_true rfl) dX5_init_19 (fun H_6 locs hP2 hD2 hS2 => ?_)
  replace hP : va_P (dC, dI) vwCl [(h0, .inr (5, [.null, .int 0, .int 0, .ref q_1, .int 0, .ref q_4, .int 0, .null, .int 0, .int 0, .null, .int 0, .int 0, .int 0, .int 0])), (q_1, .inl (cy 2, 2048, .inr (.inl (fun _ => 0)))), (q_4, .inl (cy 1, 2048, .inl (fun _ => 0)))] H_6 := hP2
  replace hD : va_D A [(h0, .inr (5, [.null, .int 0, .int 0, .ref q_1, .int 0, .ref q_4, .int 0, .null, .int 0, .int 0, .null, .int 0, .int 0, .int 0, .int 0])), (q_1, .inl (cy 2, 2048, .inr (.inl (fun _ => 0)))), (q_4, .inl (cy 1, 2048, .inl (fun _ => 0)))] := hD2
  replace hS := hS2
  clear hP2 hD2 hS2
  refine lv_aload_n hx hb dX5_init_22 rfl (lv_at hl 0 rfl) ?_
  refine lv_sipush (v := 448) hx hb dX5_init_23 (by decide) ?_
  refine rl_newa (atype := .int) (ty := .int) (a0 := (448, .inl (fun _ => 0))) hx hb (hts _ m_X5_init_6) rfl hK hP hD hS hA 1 rfl (fun _ => rfl) (by decide) (by decide) (Nat.le_of_ble_eq_true rfl) (Nat.le_of_ble_eq_true rfl) (Nat.le_of_ble_eq_true rfl) dX5_init_26 (fun q_7 H_8 hP2 hD2 hS2 => ?_)
  replace hP : va_P (dC, dI) vwCl [(h0, .inr (5, [.null, .int 0, .int 0, .ref q_1, .int 0, .ref q_4, .int 0, .null, .int 0, .int 0, .null, .int 0, .int 0, .int 0, .int 0])), (q_1, .inl (cy 2, 2048, .inr (.inl (fun _ => 0)))), (q_4, .inl (cy 1, 2048, .inl (fun _ => 0))), (q_7, .inl (cy 1, 448, .inl (fun _ => 0)))] H_8 := hP2
  replace hD : va_D A [(h0, .inr (5, [.null, .int 0, .int 0, .ref q_1, .int 0, .ref q_4, .int 0, .null, .int 0, .int 0, .null, .int 0, .int 0, .int 0, .int 0])), (q_1, .inl (cy 2, 2048, .inr (.inl (fun _ => 0)))), (q_4, .inl (cy 1, 2048, .inl (fun _ => 0))), (q_7, .inl (cy 1, 448, .inl (fun _ => 0)))] := hD2
  replace hS := hS2
  clear hP2 hD2 hS2
  refine W.widen (k := 3) (n := 4544) (Nat.le_of_ble_eq_true rfl) (Nat.le_of_ble_eq_true rfl) ?_
  refine va_putF (D := (dC, dI)) (ci := 5) (v := .ref q_7) (ty := .array .int) (C := RX5) (T := TX5) (N := 15) hx hb hts iw_X5_init_X5 tyX5 tyX5_ok nmX5 hown hK hP hD hS 0 rfl rfl 7 (by decide) (hts _ m_X5_init_8) (fun _ h9 => h9) rfl hin rfl (by decide +kernel) rfl rfl (Nat.le_of_ble_eq_true rfl) dX5_init_28 (fun H_9 locs hP2 hD2 hS2 => ?_)
  replace hP : va_P (dC, dI) vwCl [(h0, .inr (5, [.null, .int 0, .int 0, .ref q_1, .int 0, .ref q_4, .int 0, .ref q_7, .int 0, .int 0, .null, .int 0, .int 0, .int 0, .int 0])), (q_1, .inl (cy 2, 2048, .inr (.inl (fun _ => 0)))), (q_4, .inl (cy 1, 2048, .inl (fun _ => 0))), (q_7, .inl (cy 1, 448, .inl (fun _ => 0)))] H_9 := hP2
  replace hD : va_D A [(h0, .inr (5, [.null, .int 0, .int 0, .ref q_1, .int 0, .ref q_4, .int 0, .ref q_7, .int 0, .int 0, .null, .int 0, .int 0, .int 0, .int 0])), (q_1, .inl (cy 2, 2048, .inr (.inl (fun _ => 0)))), (q_4, .inl (cy 1, 2048, .inl (fun _ => 0))), (q_7, .inl (cy 1, 448, .inl (fun _ => 0)))] := hD2
  replace hS := hS2
  clear hP2 hD2 hS2
  refine lv_aload_n hx hb dX5_init_31 rfl (lv_at hl 0 rfl) ?_
  refine lv_sipush (v := 864) hx hb dX5_init_32 (by decide) ?_
  refine rl_newa (atype := .int) (ty := .int) (a0 := (864, .inl (fun _ => 0))) hx hb (hts _ m_X5_init_6) rfl hK hP hD hS hA 1 rfl (fun _ => rfl) (by decide) (by decide) (Nat.le_of_ble_eq_true rfl) (Nat.le_of_ble_eq_true rfl) (Nat.le_of_ble_eq_true rfl) dX5_init_35 (fun q_10 H_11 hP2 hD2 hS2 => ?_)
  replace hP : va_P (dC, dI) vwCl [(h0, .inr (5, [.null, .int 0, .int 0, .ref q_1, .int 0, .ref q_4, .int 0, .ref q_7, .int 0, .int 0, .null, .int 0, .int 0, .int 0, .int 0])), (q_1, .inl (cy 2, 2048, .inr (.inl (fun _ => 0)))), (q_4, .inl (cy 1, 2048, .inl (fun _ => 0))), (q_7, .inl (cy 1, 448, .inl (fun _ => 0))), (q_10, .inl (cy 1, 864, .inl (fun _ => 0)))] H_11 := hP2
  replace hD : va_D A [(h0, .inr (5, [.null, .int 0, .int 0, .ref q_1, .int 0, .ref q_4, .int 0, .ref q_7, .int 0, .int 0, .null, .int 0, .int 0, .int 0, .int 0])), (q_1, .inl (cy 2, 2048, .inr (.inl (fun _ => 0)))), (q_4, .inl (cy 1, 2048, .inl (fun _ => 0))), (q_7, .inl (cy 1, 448, .inl (fun _ => 0))), (q_10, .inl (cy 1, 864, .inl (fun _ => 0)))] := hD2
  replace hS := hS2
  clear hP2 hD2 hS2
  refine W.widen (k := 4) (n := 5408) (Nat.le_of_ble_eq_true rfl) (Nat.le_of_ble_eq_true rfl) ?_
  refine va_putF (D := (dC, dI)) (ci := 5) (v := .ref q_10) (ty := .array .int) (C := RX5) (T := TX5) (N := 15) hx hb hts iw_X5_init_X5 tyX5 tyX5_ok nmX5 hown hK hP hD hS 0 rfl rfl 10 (by decide) (hts _ m_X5_init_9) (fun _ h9 => h9) rfl hin rfl (by decide +kernel) rfl rfl (Nat.le_of_ble_eq_true rfl) dX5_init_37 (fun H_12 locs hP2 hD2 hS2 => ?_)
  replace hP : va_P (dC, dI) vwCl [(h0, .inr (5, [.null, .int 0, .int 0, .ref q_1, .int 0, .ref q_4, .int 0, .ref q_7, .int 0, .int 0, .ref q_10, .int 0, .int 0, .int 0, .int 0])), (q_1, .inl (cy 2, 2048, .inr (.inl (fun _ => 0)))), (q_4, .inl (cy 1, 2048, .inl (fun _ => 0))), (q_7, .inl (cy 1, 448, .inl (fun _ => 0))), (q_10, .inl (cy 1, 864, .inl (fun _ => 0)))] H_12 := hP2
  replace hD : va_D A [(h0, .inr (5, [.null, .int 0, .int 0, .ref q_1, .int 0, .ref q_4, .int 0, .ref q_7, .int 0, .int 0, .ref q_10, .int 0, .int 0, .int 0, .int 0])), (q_1, .inl (cy 2, 2048, .inr (.inl (fun _ => 0)))), (q_4, .inl (cy 1, 2048, .inl (fun _ => 0))), (q_7, .inl (cy 1, 448, .inl (fun _ => 0))), (q_10, .inl (cy 1, 864, .inl (fun _ => 0)))] := hD2
  replace hS := hS2
  clear hP2 hD2 hS2
  have hP9 := hP.sub (ws' := [(h0, .inr (5, [.null, .int 0, .int 0, .ref q_1, .int 0, .ref q_4, .int 0, .ref q_7, .int 0, .int 0, .ref q_10, .int 0, .int 0, .int 0, .int 0])), (q_1, .inl (cy 2, 2048, .inr (.inl (fun _ => 0)))), (q_4, .inl (cy 1, 2048, .inl (fun _ => 0))), (q_7, .inl (cy 1, 448, .inl (fun _ => 0))), (q_10, .inl (cy 1, 864, .inl (fun _ => 0)))]) [0, 1, 2, 3, 4] rfl
  have hD9 := hD.sub (ws' := [(h0, .inr (5, [.null, .int 0, .int 0, .ref q_1, .int 0, .ref q_4, .int 0, .ref q_7, .int 0, .int 0, .ref q_10, .int 0, .int 0, .int 0, .int 0])), (q_1, .inl (cy 2, 2048, .inr (.inl (fun _ => 0)))), (q_4, .inl (cy 1, 2048, .inl (fun _ => 0))), (q_7, .inl (cy 1, 448, .inl (fun _ => 0))), (q_10, .inl (cy 1, 864, .inl (fun _ => 0)))]) [0, 1, 2, 3, 4] (by decide) rfl
  exact W.vret hx hb hr (fun t ht hW => ⟨⟨(q_1, q_4, q_7, q_10), rfl, trivial, by rw [ht]; exact hP9, va_K.moved hW.alike hK, hD9⟩, hS.F ht⟩) hS.2.2 dX5_init_40

theorem m_X6_init_1 : (.methodLink RX6 3 objectInit : Cond) ∈ wsX6_init := List.mem_of_getElem? (i := 1) rfl
theorem m_X6_init_2 : (.instanceMethod objectInit : Cond) ∈ wsX6_init := List.mem_of_getElem? (i := 2) rfl
theorem m_X6_init_3 : (.code objectInit ⟨#[0xb1]⟩ 1 none : Cond) ∈ wsX6_init := List.mem_of_getElem? (i := 3) rfl
theorem m_X6_init_4 : (.arrayClass .int : Cond) ∈ wsX6_init := List.mem_of_getElem? (i := 4) rfl
theorem m_X6_init_5 : (.fieldLink RX6 11 "ResourceLedger$Reader" "holds" "[I" : Cond) ∈ wsX6_init := List.mem_of_getElem? (i := 5) rfl
theorem iw_X6_init_X6 : ∀ w ∈ wsX60, w ∈ wsX6_init := fun _ h => List.mem_cons_of_mem _ (List.mem_append_right _ h)
set_option maxHeartbeats 4000000 in
set_option maxRecDepth 100000 in
theorem c_X6_init (l : Launch) (dC : Nat → ClassId) (dI : Nat → Nat → Nat) (cy : Nat → ClassId) (sz : Nat) (h0 : Nat) : Met l yX6_init wsX6_init ({ frames := 1, cells := 1, slots := 32, locals := 12 }) (va_Pc [.ref h0] (fun U => U.heap.size = sz ∧ va_P (dC, dI) vwCl [(h0, .inr (6, [.int 0, .int 0, .null, .int 0, .int 0, .int 0, .int 0, .int 0, .null]))] U.heap ∧ va_K (dC, dI) vwCl (TYS cy) U ∧ va_D (fun _ => True) [(h0, .inr (6, [.int 0, .int 0, .null, .int 0, .int 0, .int 0, .int 0, .int 0, .null]))] ∧ NK U)) (va_Qv (fun u : Nat => True) (fun u t => match u with | (q0) => va_P (dC, dI) vwCl [(h0, .inr (6, [.int 0, .int 0, .null, .int 0, .int 0, .int 0, .int 0, .int 0, .ref q0])), (q0, .inl (cy 1, 32, .inl (fun _ => 0)))] t.heap ∧ va_K (dC, dI) vwCl (TYS cy) t ∧ va_D (va_A [(h0, .inr (6, [.int 0, .int 0, .null, .int 0, .int 0, .int 0, .int 0, .int 0, .null]))] sz) [(h0, .inr (6, [.int 0, .int 0, .null, .int 0, .int 0, .int 0, .int 0, .int 0, .ref q0])), (q0, .inl (cy 1, 32, .inl (fun _ => 0)))]) (va_A [(h0, .inr (6, [.int 0, .int 0, .null, .int 0, .int 0, .int 0, .int 0, .int 0, .null]))] sz)) 1 32 (va_A [(h0, .inr (6, [.int 0, .int 0, .null, .int 0, .int 0, .int 0, .int 0, .int 0, .null]))] sz) := by
  refine Met.ofW (cc := cX6_init) (maxL := 1) (ret := none) (by decide) rfl ?_
  intro p e s m args below meth c s₁ B hml hv
  obtain ⟨rfl, hsz, hP, hK, hD0, hN⟩ := hv
  have hx := B.exec
  have hb := B.bytes
  have hr := B.returns
  have hts := atoms_spec (ws := wsX6_init) B.pre
  have hown : s.vm.findClass RX6 = some m.cls := findClass_of_methodNamed B.named
  have hlocks := B.notSynchronized
  have hin : meth.name = "<init>" := (name_of_methodNamed B.named B.method).1
  subst hsz
  have hD := hD0.self (sz := s.heap.size)
  generalize hAe : va_A [(h0, .inr (6, [.int 0, .int 0, .null, .int 0, .int 0, .int 0, .int 0, .int 0, .null]))] s.heap.size = A at hD ⊢
  have hA : ∀ q : Nat, s.heap.size ≤ q → A q := fun q h => by rw [← hAe]; exact Or.inr h
  have hS : va_S A s.heap s.heap [] := va_S.rf
  have hP : va_P (dC, dI) vwCl [(h0, .inr (6, [.int 0, .int 0, .null, .int 0, .int 0, .int 0, .int 0, .int 0, .null]))] s.heap := hP
  have hl := lv_entry ([.ref h0]) (n := 1) (Nat.le_of_ble_eq_true rfl)
  rw [lg_entry_eq]
  generalize (lg_sl ([.ref h0]) ++ List.replicate (1 - (lg_sl ([.ref h0])).length) Slot.unset).toArray = ls at hl ⊢
  replace hl : lv_has ls 1 [(0, .ref h0)] := hl
  refine lv_aload_n hx hb dX6_init_0 rfl (lv_at hl 0 rfl) ?_
  refine W.objInit hx hb hown (hts _ m_X6_init_1) (hts _ m_X6_init_2) (hts _ m_X6_init_3) rfl (by rw [hml]; exact hl.1) rfl dX6_init_1 (Nat.le_of_ble_eq_true rfl) (Nat.le_of_ble_eq_true rfl) ?_
  refine W.eq (g2 := F0 m 4 ls []) rfl ?_
  refine lv_aload_n hx hb dX6_init_4 rfl (lv_at hl 0 rfl) ?_
  refine lv_bipush (v := 32) hx hb dX6_init_5 (by decide) ?_
  refine rl_newa (atype := .int) (ty := .int) (a0 := (32, .inl (fun _ => 0))) hx hb (hts _ m_X6_init_4) rfl hK hP hD hS hA 1 rfl (fun _ => rfl) (by decide) (by decide) (Nat.le_of_ble_eq_true rfl) (Nat.le_of_ble_eq_true rfl) (Nat.le_of_ble_eq_true rfl) dX6_init_7 (fun q_1 H_2 hP2 hD2 hS2 => ?_)
  replace hP : va_P (dC, dI) vwCl [(h0, .inr (6, [.int 0, .int 0, .null, .int 0, .int 0, .int 0, .int 0, .int 0, .null])), (q_1, .inl (cy 1, 32, .inl (fun _ => 0)))] H_2 := hP2
  replace hD : va_D A [(h0, .inr (6, [.int 0, .int 0, .null, .int 0, .int 0, .int 0, .int 0, .int 0, .null])), (q_1, .inl (cy 1, 32, .inl (fun _ => 0)))] := hD2
  replace hS := hS2
  clear hP2 hD2 hS2
  refine W.widen (k := 1) (n := 32) (Nat.le_of_ble_eq_true rfl) (Nat.le_of_ble_eq_true rfl) ?_
  refine va_putF (D := (dC, dI)) (ci := 6) (v := .ref q_1) (ty := .array .int) (C := RX6) (T := TX6) (N := 9) hx hb hts iw_X6_init_X6 tyX6 tyX6_ok nmX6 hown hK hP hD hS 0 rfl rfl 8 (by decide) (hts _ m_X6_init_5) (fun _ h9 => h9) rfl hin rfl (by decide +kernel) rfl rfl (Nat.le_of_ble_eq_true rfl) dX6_init_9 (fun H_3 locs hP2 hD2 hS2 => ?_)
  replace hP : va_P (dC, dI) vwCl [(h0, .inr (6, [.int 0, .int 0, .null, .int 0, .int 0, .int 0, .int 0, .int 0, .ref q_1])), (q_1, .inl (cy 1, 32, .inl (fun _ => 0)))] H_3 := hP2
  replace hD : va_D A [(h0, .inr (6, [.int 0, .int 0, .null, .int 0, .int 0, .int 0, .int 0, .int 0, .ref q_1])), (q_1, .inl (cy 1, 32, .inl (fun _ => 0)))] := hD2
  replace hS := hS2
  clear hP2 hD2 hS2
  have hP9 := hP.sub (ws' := [(h0, .inr (6, [.int 0, .int 0, .null, .int 0, .int 0, .int 0, .int 0, .int 0, .ref q_1])), (q_1, .inl (cy 1, 32, .inl (fun _ => 0)))]) [0, 1] rfl
  have hD9 := hD.sub (ws' := [(h0, .inr (6, [.int 0, .int 0, .null, .int 0, .int 0, .int 0, .int 0, .int 0, .ref q_1])), (q_1, .inl (cy 1, 32, .inl (fun _ => 0)))]) [0, 1] (by decide) rfl
  exact W.vret hx hb hr (fun t ht hW => ⟨⟨(q_1), rfl, trivial, by rw [ht]; exact hP9, va_K.moved hW.alike hK, hD9⟩, hS.F ht⟩) hS.2.2 dX6_init_12

theorem m_X8_init_1 : (.methodLink RX8 3 objectInit : Cond) ∈ wsX8_init := List.mem_of_getElem? (i := 1) rfl
theorem m_X8_init_2 : (.instanceMethod objectInit : Cond) ∈ wsX8_init := List.mem_of_getElem? (i := 2) rfl
theorem m_X8_init_3 : (.code objectInit ⟨#[0xb1]⟩ 1 none : Cond) ∈ wsX8_init := List.mem_of_getElem? (i := 3) rfl
theorem m_X8_init_4 : (.arrayClass .int : Cond) ∈ wsX8_init := List.mem_of_getElem? (i := 4) rfl
theorem m_X8_init_5 : (.fieldLink RX8 9 "ResourceLedger$Transaction" "argumentType" "[I" : Cond) ∈ wsX8_init := List.mem_of_getElem? (i := 5) rfl
theorem iw_X8_init_X8 : ∀ w ∈ wsX80, w ∈ wsX8_init := fun _ h => List.mem_cons_of_mem _ (List.mem_append_right _ h)
theorem m_X8_init_6 : (.arrayClass .long : Cond) ∈ wsX8_init := List.mem_of_getElem? (i := 6) rfl
theorem m_X8_init_7 : (.fieldLink RX8 15 "ResourceLedger$Transaction" "argumentHigh" "[J" : Cond) ∈ wsX8_init := List.mem_of_getElem? (i := 7) rfl
theorem m_X8_init_8 : (.fieldLink RX8 19 "ResourceLedger$Transaction" "argumentLow" "[J" : Cond) ∈ wsX8_init := List.mem_of_getElem? (i := 8) rfl
theorem m_X8_init_9 : (.fieldLink RX8 22 "ResourceLedger$Transaction" "resultType" "[I" : Cond) ∈ wsX8_init := List.mem_of_getElem? (i := 9) rfl
theorem m_X8_init_10 : (.fieldLink RX8 25 "ResourceLedger$Transaction" "resultHigh" "[J" : Cond) ∈ wsX8_init := List.mem_of_getElem? (i := 10) rfl
theorem m_X8_init_11 : (.fieldLink RX8 28 "ResourceLedger$Transaction" "resultLow" "[J" : Cond) ∈ wsX8_init := List.mem_of_getElem? (i := 11) rfl
set_option maxHeartbeats 4000000 in
set_option maxRecDepth 100000 in
theorem c_X8_init (l : Launch) (dC : Nat → ClassId) (dI : Nat → Nat → Nat) (cy : Nat → ClassId) (sz : Nat) (h0 : Nat) : Met l yX8_init wsX8_init ({ frames := 1, cells := 6, slots := 48, locals := 12 }) (va_Pc [.ref h0] (fun U => U.heap.size = sz ∧ va_P (dC, dI) vwCl [(h0, .inr (8, [.int 0, .long 0, .long 0, .int 0, .int 0, .int 0, .null, .int 0, .null, .null, .null, .int 0, .long 0, .int 0, .int 0, .int 0, .null, .null, .null]))] U.heap ∧ va_K (dC, dI) vwCl (TYS cy) U ∧ va_D (fun _ => True) [(h0, .inr (8, [.int 0, .long 0, .long 0, .int 0, .int 0, .int 0, .null, .int 0, .null, .null, .null, .int 0, .long 0, .int 0, .int 0, .int 0, .null, .null, .null]))] ∧ NK U)) (va_Qv (fun u : Nat × Nat × Nat × Nat × Nat × Nat => True) (fun u t => match u with | (q0, q1, q2, q3, q4, q5) => va_P (dC, dI) vwCl [(h0, .inr (8, [.int 0, .long 0, .long 0, .int 0, .int 0, .int 0, .null, .int 0, .ref q0, .ref q1, .ref q2, .int 0, .long 0, .int 0, .int 0, .int 0, .ref q3, .ref q4, .ref q5])), (q0, .inl (cy 1, 8, .inl (fun _ => 0))), (q1, .inl (cy 2, 8, .inr (.inl (fun _ => 0)))), (q2, .inl (cy 2, 8, .inr (.inl (fun _ => 0)))), (q3, .inl (cy 1, 8, .inl (fun _ => 0))), (q4, .inl (cy 2, 8, .inr (.inl (fun _ => 0)))), (q5, .inl (cy 2, 8, .inr (.inl (fun _ => 0))))] t.heap ∧ va_K (dC, dI) vwCl (TYS cy) t ∧ va_D (va_A [(h0, .inr (8, [.int 0, .long 0, .long 0, .int 0, .int 0, .int 0, .null, .int 0, .null, .null, .null, .int 0, .long 0, .int 0, .int 0, .int 0, .null, .null, .null]))] sz) [(h0, .inr (8, [.int 0, .long 0, .long 0, .int 0, .int 0, .int 0, .null, .int 0, .ref q0, .ref q1, .ref q2, .int 0, .long 0, .int 0, .int 0, .int 0, .ref q3, .ref q4, .ref q5])), (q0, .inl (cy 1, 8, .inl (fun _ => 0))), (q1, .inl (cy 2, 8, .inr (.inl (fun _ => 0)))), (q2, .inl (cy 2, 8, .inr (.inl (fun _ => 0)))), (q3, .inl (cy 1, 8, .inl (fun _ => 0))), (q4, .inl (cy 2, 8, .inr (.inl (fun _ => 0)))), (q5, .inl (cy 2, 8, .inr (.inl (fun _ => 0))))]) (va_A [(h0, .inr (8, [.int 0, .long 0, .long 0, .int 0, .int 0, .int 0, .null, .int 0, .null, .null, .null, .int 0, .long 0, .int 0, .int 0, .int 0, .null, .null, .null]))] sz)) 6 48 (va_A [(h0, .inr (8, [.int 0, .long 0, .long 0, .int 0, .int 0, .int 0, .null, .int 0, .null, .null, .null, .int 0, .long 0, .int 0, .int 0, .int 0, .null, .null, .null]))] sz) := by
  refine Met.ofW (cc := cX8_init) (maxL := 1) (ret := none) (by decide) rfl ?_
  intro p e s m args below meth c s₁ B hml hv
  obtain ⟨rfl, hsz, hP, hK, hD0, hN⟩ := hv
  have hx := B.exec
  have hb := B.bytes
  have hr := B.returns
  have hts := atoms_spec (ws := wsX8_init) B.pre
  have hown : s.vm.findClass RX8 = some m.cls := findClass_of_methodNamed B.named
  have hlocks := B.notSynchronized
  have hin : meth.name = "<init>" := (name_of_methodNamed B.named B.method).1
  subst hsz
  have hD := hD0.self (sz := s.heap.size)
  generalize hAe : va_A [(h0, .inr (8, [.int 0, .long 0, .long 0, .int 0, .int 0, .int 0, .null, .int 0, .null, .null, .null, .int 0, .long 0, .int 0, .int 0, .int 0, .null, .null, .null]))] s.heap.size = A at hD ⊢
  have hA : ∀ q : Nat, s.heap.size ≤ q → A q := fun q h => by rw [← hAe]; exact Or.inr h
  have hS : va_S A s.heap s.heap [] := va_S.rf
  have hP : va_P (dC, dI) vwCl [(h0, .inr (8, [.int 0, .long 0, .long 0, .int 0, .int 0, .int 0, .null, .int 0, .null, .null, .null, .int 0, .long 0, .int 0, .int 0, .int 0, .null, .null, .null]))] s.heap := hP
  have hl := lv_entry ([.ref h0]) (n := 1) (Nat.le_of_ble_eq_true rfl)
  rw [lg_entry_eq]
  generalize (lg_sl ([.ref h0]) ++ List.replicate (1 - (lg_sl ([.ref h0])).length) Slot.unset).toArray = ls at hl ⊢
  replace hl : lv_has ls 1 [(0, .ref h0)] := hl
  refine lv_aload_n hx hb dX8_init_0 rfl (lv_at hl 0 rfl) ?_
  refine W.objInit hx hb hown (hts _ m_X8_init_1) (hts _ m_X8_init_2) (hts _ m_X8_init_3) rfl (by rw [hml]; exact hl.1) rfl dX8_init_1 (Nat.le_of_ble_eq_true rfl) (Nat.le_of_ble_eq_true rfl) ?_
  refine W.eq (g2 := F0 m 4 ls []) rfl ?_
  refine lv_aload_n hx hb dX8_init_4 rfl (lv_at hl 0 rfl) ?_
  refine lv_bipush (v := 8) hx hb dX8_init_5 (by decide) ?_
  refine rl_newa (atype := .int) (ty := .int) (a0 := (8, .inl (fun _ => 0))) hx hb (hts _ m_X8_init_4) rfl hK hP hD hS hA 1 rfl (fun _ => rfl) (by decide) (by decide) (Nat.le_of_ble_eq_true rfl) (Nat.le_of_ble_eq_true rfl) (Nat.le_of_ble_eq_true rfl) dX8_init_7 (fun q_1 H_2 hP2 hD2 hS2 => ?_)
  replace hP : va_P (dC, dI) vwCl [(h0, .inr (8, [.int 0, .long 0, .long 0, .int 0, .int 0, .int 0, .null, .int 0, .null, .null, .null, .int 0, .long 0, .int 0, .int 0, .int 0, .null, .null, .null])), (q_1, .inl (cy 1, 8, .inl (fun _ => 0)))] H_2 := hP2
  replace hD : va_D A [(h0, .inr (8, [.int 0, .long 0, .long 0, .int 0, .int 0, .int 0, .null, .int 0, .null, .null, .null, .int 0, .long 0, .int 0, .int 0, .int 0, .null, .null, .null])), (q_1, .inl (cy 1, 8, .inl (fun _ => 0)))] := hD2
  replace hS := hS2
  clear hP2 hD2 hS2
  refine W.widen (k := 1) (n := 8) (Nat.le_of_ble_eq_true rfl) (Nat.le_of_ble_eq_true rfl) ?_
  refine va_putF (D := (dC, dI)) (ci := 8) (v := .ref q_1) (ty := .array .int) (C := RX8) (T := TX8) (N := 19) hx hb hts iw_X8_init_X8 tyX8 tyX8_ok nmX8 hown hK hP hD hS 0 rfl rfl 8 (by decide) (hts _ m_X8_init_5) (fun _ h9 => h9) rfl hin rfl (by decide +kernel) rfl rfl (Nat.le_of_ble_eq_true rfl) dX8_init_9 (fun H_3 locs hP2 hD2 hS2 => ?_)
  replace hP : va_P (dC, dI) vwCl [(h0, .inr (8, [.int 0, .long 0, .long 0, .int 0, .int 0, .int 0, .null, .int 0, .ref q_1, .null, .null, .int 0, .long 0, .int 0, .int 0, .int 0, .null, .null, .null])), (q_1, .inl (cy 1, 8, .inl (fun _ => 0)))] H_3 := hP2
  replace hD : va_D A [(h0, .inr (8, [.int 0, .long 0, .long 0, .int 0, .int 0, .int 0, .null, .int 0, .ref q_1, .null, .null, .int 0, .long 0, .int 0, .int 0, .int 0, .null, .null, .null])), (q_1, .inl (cy 1, 8, .inl (fun _ => 0)))] := hD2
  replace hS := hS2
  clear hP2 hD2 hS2
  refine lv_aload_n hx hb dX8_init_12 rfl (lv_at hl 0 rfl) ?_
  refine lv_bipush (v := 8) hx hb dX8_init_13 (by decide) ?_
  refine rl_newa (atype := .long) (ty := .long) (a0 := (8, .inr (.inl (fun _ => 0)))) hx hb (hts _ m_X8_init_6) rfl hK hP hD hS hA 2 rfl (fun _ => rfl) (by decide) (by decide) (Nat.le_of_ble_eq_true rfl) (Nat.le_of_ble_eq_true rfl) (Nat.le_of_ble_eq_true rfl) dX8_init_15 (fun q_4 H_5 hP2 hD2 hS2 => ?_)
  replace hP : va_P (dC, dI) vwCl [(h0, .inr (8, [.int 0, .long 0, .long 0, .int 0, .int 0, .int 0, .null, .int 0, .ref q_1, .null, .null, .int 0, .long 0, .int 0, .int 0, .int 0, .null, .null, .null])), (q_1, .inl (cy 1, 8, .inl (fun _ => 0))), (q_4, .inl (cy 2, 8, .inr (.inl (fun _ => 0))))] H_5 := hP2
  replace hD : va_D A [(h0, .inr (8, [.int 0, .long 0, .long 0, .int 0, .int 0, .int 0, .null, .int 0, .ref q_1, .null, .null, .int 0, .long 0, .int 0, .int 0, .int 0, .null, .null, .null])), (q_1, .inl (cy 1, 8, .inl (fun _ => 0))), (q_4, .inl (cy 2, 8, .inr (.inl (fun _ => 0))))] := hD2
  replace hS := hS2
  clear hP2 hD2 hS2
  refine W.widen (k := 2) (n := 16) (Nat.le_of_ble_eq_true rfl) (Nat.le_of_ble_eq_true rfl) ?_
  refine va_putF (D := (dC, dI)) (ci := 8) (v := .ref q_4) (ty := .array .long) (C := RX8) (T := TX8) (N := 19) hx hb hts iw_X8_init_X8 tyX8 tyX8_ok nmX8 hown hK hP hD hS 0 rfl rfl 9 (by decide) (hts _ m_X8_init_7) (fun _ h9 => h9) rfl hin rfl (by decide +kernel) rfl rfl (Nat.le_of_ble_eq_true rfl) dX8_init_17 (fun H_6 locs hP2 hD2 hS2 => ?_)
  replace hP : va_P (dC, dI) vwCl [(h0, .inr (8, [.int 0, .long 0, .long 0, .int 0, .int 0, .int 0, .null, .int 0, .ref q_1, .ref q_4, .null, .int 0, .long 0, .int 0, .int 0, .int 0, .null, .null, .null])), (q_1, .inl (cy 1, 8, .inl (fun _ => 0))), (q_4, .inl (cy 2, 8, .inr (.inl (fun _ => 0))))] H_6 := hP2
  replace hD : va_D A [(h0, .inr (8, [.int 0, .long 0, .long 0, .int 0, .int 0, .int 0, .null, .int 0, .ref q_1, .ref q_4, .null, .int 0, .long 0, .int 0, .int 0, .int 0, .null, .null, .null])), (q_1, .inl (cy 1, 8, .inl (fun _ => 0))), (q_4, .inl (cy 2, 8, .inr (.inl (fun _ => 0))))] := hD2
  replace hS := hS2
  clear hP2 hD2 hS2
  refine lv_aload_n hx hb dX8_init_20 rfl (lv_at hl 0 rfl) ?_
  refine lv_bipush (v := 8) hx hb dX8_init_21 (by decide) ?_
  refine rl_newa (atype := .long) (ty := .long) (a0 := (8, .inr (.inl (fun _ => 0)))) hx hb (hts _ m_X8_init_6) rfl hK hP hD hS hA 2 rfl (fun _ => rfl) (by decide) (by decide) (Nat.le_of_ble_eq_true rfl) (Nat.le_of_ble_eq_true rfl) (Nat.le_of_ble_eq_true rfl) dX8_init_23 (fun q_7 H_8 hP2 hD2 hS2 => ?_)
  replace hP : va_P (dC, dI) vwCl [(h0, .inr (8, [.int 0, .long 0, .long 0, .int 0, .int 0, .int 0, .null, .int 0, .ref q_1, .ref q_4, .null, .int 0, .long 0, .int 0, .int 0, .int 0, .null, .null, .null])), (q_1, .inl (cy 1, 8, .inl (fun _ => 0))), (q_4, .inl (cy 2, 8, .inr (.inl (fun _ => 0)))), (q_7, .inl (cy 2, 8, .inr (.inl (fun _ => 0))))] H_8 := hP2
  replace hD : va_D A [(h0, .inr (8, [.int 0, .long 0, .long 0, .int 0, .int 0, .int 0, .null, .int 0, .ref q_1, .ref q_4, .null, .int 0, .long 0, .int 0, .int 0, .int 0, .null, .null, .null])), (q_1, .inl (cy 1, 8, .inl (fun _ => 0))), (q_4, .inl (cy 2, 8, .inr (.inl (fun _ => 0)))), (q_7, .inl (cy 2, 8, .inr (.inl (fun _ => 0))))] := hD2
  replace hS := hS2
  clear hP2 hD2 hS2
  refine W.widen (k := 3) (n := 24) (Nat.le_of_ble_eq_true rfl) (Nat.le_of_ble_eq_true rfl) ?_
  refine va_putF (D := (dC, dI)) (ci := 8) (v := .ref q_7) (ty := .array .long) (C := RX8) (T := TX8) (N := 19) hx hb hts iw_X8_init_X8 tyX8 tyX8_ok nmX8 hown hK hP hD hS 0 rfl rfl 10 (by decide) (hts _ m_X8_init_8) (fun _ h9 => h9) rfl hin rfl (by decide +kernel) rfl rfl (Nat.le_of_ble_eq_true rfl) dX8_init_25 (fun H_9 locs hP2 hD2 hS2 => ?_)
  replace hP : va_P (dC, dI) vwCl [(h0, .inr (8, [.int 0, .long 0, .long 0, .int 0, .int 0, .int 0, .null, .int 0, .ref q_1, .ref q_4, .ref q_7, .int 0, .long 0, .int 0, .int 0, .int 0, .null, .null, .null])), (q_1, .inl (cy 1, 8, .inl (fun _ => 0))), (q_4, .inl (cy 2, 8, .inr (.inl (fun _ => 0)))), (q_7, .inl (cy 2, 8, .inr (.inl (fun _ => 0))))] H_9 := hP2
  replace hD : va_D A [(h0, .inr (8, [.int 0, .long 0, .long 0, .int 0, .int 0, .int 0, .null, .int 0, .ref q_1, .ref q_4, .ref q_7, .int 0, .long 0, .int 0, .int 0, .int 0, .null, .null, .null])), (q_1, .inl (cy 1, 8, .inl (fun _ => 0))), (q_4, .inl (cy 2, 8, .inr (.inl (fun _ => 0)))), (q_7, .inl (cy 2, 8, .inr (.inl (fun _ => 0))))] := hD2
  replace hS := hS2
  clear hP2 hD2 hS2
  refine lv_aload_n hx hb dX8_init_28 rfl (lv_at hl 0 rfl) ?_
  refine lv_bipush (v := 8) hx hb dX8_init_29 (by decide) ?_
  refine rl_newa (atype := .int) (ty := .int) (a0 := (8, .inl (fun _ => 0))) hx hb (hts _ m_X8_init_4) rfl hK hP hD hS hA 1 rfl (fun _ => rfl) (by decide) (by decide) (Nat.le_of_ble_eq_true rfl) (Nat.le_of_ble_eq_true rfl) (Nat.le_of_ble_eq_true rfl) dX8_init_31 (fun q_10 H_11 hP2 hD2 hS2 => ?_)
  replace hP : va_P (dC, dI) vwCl [(h0, .inr (8, [.int 0, .long 0, .long 0, .int 0, .int 0, .int 0, .null, .int 0, .ref q_1, .ref q_4, .ref q_7, .int 0, .long 0, .int 0, .int 0, .int 0, .null, .null, .null])), (q_1, .inl (cy 1, 8, .inl (fun _ => 0))), (q_4, .inl (cy 2, 8, .inr (.inl (fun _ => 0)))), (q_7, .inl (cy 2, 8, .inr (.inl (fun _ => 0)))), (q_10, .inl (cy 1, 8, .inl (fun _ => 0)))] H_11 := hP2
  replace hD : va_D A [(h0, .inr (8, [.int 0, .long 0, .long 0, .int 0, .int 0, .int 0, .null, .int 0, .ref q_1, .ref q_4, .ref q_7, .int 0, .long 0, .int 0, .int 0, .int 0, .null, .null, .null])), (q_1, .inl (cy 1, 8, .inl (fun _ => 0))), (q_4, .inl (cy 2, 8, .inr (.inl (fun _ => 0)))), (q_7, .inl (cy 2, 8, .inr (.inl (fun _ => 0)))), (q_10, .inl (cy 1, 8, .inl (fun _ => 0)))] := hD2
  replace hS := hS2
  clear hP2 hD2 hS2
  refine W.widen (k := 4) (n := 32) (Nat.le_of_ble_eq_true rfl) (Nat.le_of_ble_eq_true rfl) ?_
  refine va_putF (D := (dC, dI)) (ci := 8) (v := .ref q_10) (ty := .array .int) (C := RX8) (T := TX8) (N := 19) hx hb hts iw_X8_init_X8 tyX8 tyX8_ok nmX8 hown hK hP hD hS 0 rfl rfl 16 (by decide) (hts _ m_X8_init_9) (fun _ h9 => h9) rfl hin rfl (by decide +kernel) rfl rfl (Nat.le_of_ble_eq_true rfl) dX8_init_33 (fun H_12 locs hP2 hD2 hS2 => ?_)
  replace hP : va_P (dC, dI) vwCl [(h0, .inr (8, [.int 0, .long 0, .long 0, .int 0, .int 0, .int 0, .null, .int 0, .ref q_1, .ref q_4, .ref q_7, .int 0, .long 0, .int 0, .int 0, .int 0, .ref q_10, .null, .null])), (q_1, .inl (cy 1, 8, .inl (fun _ => 0))), (q_4, .inl (cy 2, 8, .inr (.inl (fun _ => 0)))), (q_7, .inl (cy 2, 8, .inr (.inl (fun _ => 0)))), (q_10, .inl (cy 1, 8, .inl (fun _ => 0)))] H_12 := hP2
  replace hD : va_D A [(h0, .inr (8, [.int 0, .long 0, .long 0, .int 0, .int 0, .int 0, .null, .int 0, .ref q_1, .ref q_4, .ref q_7, .int 0, .long 0, .int 0, .int 0, .int 0, .ref q_10, .null, .null])), (q_1, .inl (cy 1, 8, .inl (fun _ => 0))), (q_4, .inl (cy 2, 8, .inr (.inl (fun _ => 0)))), (q_7, .inl (cy 2, 8, .inr (.inl (fun _ => 0)))), (q_10, .inl (cy 1, 8, .inl (fun _ => 0)))] := hD2
  replace hS := hS2
  clear hP2 hD2 hS2
  refine lv_aload_n hx hb dX8_init_36 rfl (lv_at hl 0 rfl) ?_
  refine lv_bipush (v := 8) hx hb dX8_init_37 (by decide) ?_
  refine rl_newa (atype := .long) (ty := .long) (a0 := (8, .inr (.inl (fun _ => 0)))) hx hb (hts _ m_X8_init_6) rfl hK hP hD hS hA 2 rfl (fun _ => rfl) (by decide) (by decide) (Nat.le_of_ble_eq_true rfl) (Nat.le_of_ble_eq_true rfl) (Nat.le_of_ble_eq_true rfl) dX8_init_39 (fun q_13 H_14 hP2 hD2 hS2 => ?_)
  replace hP : va_P (dC, dI) vwCl [(h0, .inr (8, [.int 0, .long 0, .long 0, .int 0, .int 0, .int 0, .null, .int 0, .ref q_1, .ref q_4, .ref q_7, .int 0, .long 0, .int 0, .int 0, .int 0, .ref q_10, .null, .null])), (q_1, .inl (cy 1, 8, .inl (fun _ => 0))), (q_4, .inl (cy 2, 8, .inr (.inl (fun _ => 0)))), (q_7, .inl (cy 2, 8, .inr (.inl (fun _ => 0)))), (q_10, .inl (cy 1, 8, .inl (fun _ => 0))), (q_13, .inl (cy 2, 8, .inr (.inl (fun _ => 0))))] H_14 := hP2
  replace hD : va_D A [(h0, .inr (8, [.int 0, .long 0, .long 0, .int 0, .int 0, .int 0, .null, .int 0, .ref q_1, .ref q_4, .ref q_7, .int 0, .long 0, .int 0, .int 0, .int 0, .ref q_10, .null, .null])), (q_1, .inl (cy 1, 8, .inl (fun _ => 0))), (q_4, .inl (cy 2, 8, .inr (.inl (fun _ => 0)))), (q_7, .inl (cy 2, 8, .inr (.inl (fun _ => 0)))), (q_10, .inl (cy 1, 8, .inl (fun _ => 0))), (q_13, .inl (cy 2, 8, .inr (.inl (fun _ => 0))))] := hD2
  replace hS := hS2
  clear hP2 hD2 hS2
  refine W.widen (k := 5) (n := 40) (Nat.le_of_ble_eq_true rfl) (Nat.le_of_ble_eq_true rfl) ?_
  refine va_putF (D := (dC, dI)) (ci := 8) (v := .ref q_13) (ty := .array .long) (C := RX8) (T := TX8) (N := 19) hx hb hts iw_X8_init_X8 tyX8 tyX8_ok nmX8 hown hK hP hD hS 0 rfl rfl 17 (by decide) (hts _ m_X8_init_10) (fun _ h9 => h9) rfl hin rfl (by decide +kernel) rfl rfl (Nat.le_of_ble_eq_true rfl) dX8_init_41 (fun H_15 locs hP2 hD2 hS2 => ?_)
  replace hP : va_P (dC, dI) vwCl [(h0, .inr (8, [.int 0, .long 0, .long 0, .int 0, .int 0, .int 0, .null, .int 0, .ref q_1, .ref q_4, .ref q_7, .int 0, .long 0, .int 0, .int 0, .int 0, .ref q_10, .ref q_13, .null])), (q_1, .inl (cy 1, 8, .inl (fun _ => 0))), (q_4, .inl (cy 2, 8, .inr (.inl (fun _ => 0)))), (q_7, .inl (cy 2, 8, .inr (.inl (fun _ => 0)))), (q_10, .inl (cy 1, 8, .inl (fun _ => 0))), (q_13, .inl (cy 2, 8, .inr (.inl (fun _ => 0))))] H_15 := hP2
  replace hD : va_D A [(h0, .inr (8, [.int 0, .long 0, .long 0, .int 0, .int 0, .int 0, .null, .int 0, .ref q_1, .ref q_4, .ref q_7, .int 0, .long 0, .int 0, .int 0, .int 0, .ref q_10, .ref q_13, .null])), (q_1, .inl (cy 1, 8, .inl (fun _ => 0))), (q_4, .inl (cy 2, 8, .inr (.inl (fun _ => 0)))), (q_7, .inl (cy 2, 8, .inr (.inl (fun _ => 0)))), (q_10, .inl (cy 1, 8, .inl (fun _ => 0))), (q_13, .inl (cy 2, 8, .inr (.inl (fun _ => 0))))] := hD2
  replace hS := hS2
  clear hP2 hD2 hS2
  refine lv_aload_n hx hb dX8_init_44 rfl (lv_at hl 0 rfl) ?_
  refine lv_bipush (v := 8) hx hb dX8_init_45 (by decide) ?_
  refine rl_newa (atype := .long) (ty := .long) (a0 := (8, .inr (.inl (fun _ => 0)))) hx hb (hts _ m_X8_init_6) rfl hK hP hD hS hA 2 rfl (fun _ => rfl) (by decide) (by decide) (Nat.le_of_ble_eq_true rfl) (Nat.le_of_ble_eq_true rfl) (Nat.le_of_ble_eq_true rfl) dX8_init_47 (fun q_16 H_17 hP2 hD2 hS2 => ?_)
  replace hP : va_P (dC, dI) vwCl [(h0, .inr (8, [.int 0, .long 0, .long 0, .int 0, .int 0, .int 0, .null, .int 0, .ref q_1, .ref q_4, .ref q_7, .int 0, .long 0, .int 0, .int 0, .int 0, .ref q_10, .ref q_13, .null])), (q_1, .inl (cy 1, 8, .inl (fun _ => 0))), (q_4, .inl (cy 2, 8, .inr (.inl (fun _ => 0)))), (q_7, .inl (cy 2, 8, .inr (.inl (fun _ => 0)))), (q_10, .inl (cy 1, 8, .inl (fun _ => 0))), (q_13, .inl (cy 2, 8, .inr (.inl (fun _ => 0)))), (q_16, .inl (cy 2, 8, .inr (.inl (fun _ => 0))))] H_17 := hP2
  replace hD : va_D A [(h0, .inr (8, [.int 0, .long 0, .long 0, .int 0, .int 0, .int 0, .null, .int 0, .ref q_1, .ref q_4, .ref q_7, .int 0, .long 0, .int 0, .int 0, .int 0, .ref q_10, .ref q_13, .null])), (q_1, .inl (cy 1, 8, .inl (fun _ => 0))), (q_4, .inl (cy 2, 8, .inr (.inl (fun _ => 0)))), (q_7, .inl (cy 2, 8, .inr (.inl (fun _ => 0)))), (q_10, .inl (cy 1, 8, .inl (fun _ => 0))), (q_13, .inl (cy 2, 8, .inr (.inl (fun _ => 0)))), (q_16, .inl (cy 2, 8, .inr (.inl (fun _ => 0))))] := hD2
  replace hS := hS2
  clear hP2 hD2 hS2
  refine W.widen (k := 6) (n := 48) (Nat.le_of_ble_eq_true rfl) (Nat.le_of_ble_eq_true rfl) ?_
  refine va_putF (D := (dC, dI)) (ci := 8) (v := .ref q_16) (ty := .array .long) (C := RX8) (T := TX8) (N := 19) hx hb hts iw_X8_init_X8 tyX8 tyX8_ok nmX8 hown hK hP hD hS 0 rfl rfl 18 (by decide) (hts _ m_X8_init_11) (fun _ h9 => h9) rfl hin rfl (by decide +kernel) rfl rfl (Nat.le_of_ble_eq_true rfl) dX8_init_49 (fun H_18 locs hP2 hD2 hS2 => ?_)
  replace hP : va_P (dC, dI) vwCl [(h0, .inr (8, [.int 0, .long 0, .long 0, .int 0, .int 0, .int 0, .null, .int 0, .ref q_1, .ref q_4, .ref q_7, .int 0, .long 0, .int 0, .int 0, .int 0, .ref q_10, .ref q_13, .ref q_16])), (q_1, .inl (cy 1, 8, .inl (fun _ => 0))), (q_4, .inl (cy 2, 8, .inr (.inl (fun _ => 0)))), (q_7, .inl (cy 2, 8, .inr (.inl (fun _ => 0)))), (q_10, .inl (cy 1, 8, .inl (fun _ => 0))), (q_13, .inl (cy 2, 8, .inr (.inl (fun _ => 0)))), (q_16, .inl (cy 2, 8, .inr (.inl (fun _ => 0))))] H_18 := hP2
  replace hD : va_D A [(h0, .inr (8, [.int 0, .long 0, .long 0, .int 0, .int 0, .int 0, .null, .int 0, .ref q_1, .ref q_4, .ref q_7, .int 0, .long 0, .int 0, .int 0, .int 0, .ref q_10, .ref q_13, .ref q_16])), (q_1, .inl (cy 1, 8, .inl (fun _ => 0))), (q_4, .inl (cy 2, 8, .inr (.inl (fun _ => 0)))), (q_7, .inl (cy 2, 8, .inr (.inl (fun _ => 0)))), (q_10, .inl (cy 1, 8, .inl (fun _ => 0))), (q_13, .inl (cy 2, 8, .inr (.inl (fun _ => 0)))), (q_16, .inl (cy 2, 8, .inr (.inl (fun _ => 0))))] := hD2
  replace hS := hS2
  clear hP2 hD2 hS2
  have hP9 := hP.sub (ws' := [(h0, .inr (8, [.int 0, .long 0, .long 0, .int 0, .int 0, .int 0, .null, .int 0, .ref q_1, .ref q_4, .ref q_7, .int 0, .long 0, .int 0, .int 0, .int 0, .ref q_10, .ref q_13, .ref q_16])), (q_1, .inl (cy 1, 8, .inl (fun _ => 0))), (q_4, .inl (cy 2, 8, .inr (.inl (fun _ => 0)))), (q_7, .inl (cy 2, 8, .inr (.inl (fun _ => 0)))), (q_10, .inl (cy 1, 8, .inl (fun _ => 0))), (q_13, .inl (cy 2, 8, .inr (.inl (fun _ => 0)))), (q_16, .inl (cy 2, 8, .inr (.inl (fun _ => 0))))]) [0, 1, 2, 3, 4, 5, 6] rfl
  have hD9 := hD.sub (ws' := [(h0, .inr (8, [.int 0, .long 0, .long 0, .int 0, .int 0, .int 0, .null, .int 0, .ref q_1, .ref q_4, .ref q_7, .int 0, .long 0, .int 0, .int 0, .int 0, .ref q_10, .ref q_13, .ref q_16])), (q_1, .inl (cy 1, 8, .inl (fun _ => 0))), (q_4, .inl (cy 2, 8, .inr (.inl (fun _ => 0)))), (q_7, .inl (cy 2, 8, .inr (.inl (fun _ => 0)))), (q_10, .inl (cy 1, 8, .inl (fun _ => 0))), (q_13, .inl (cy 2, 8, .inr (.inl (fun _ => 0)))), (q_16, .inl (cy 2, 8, .inr (.inl (fun _ => 0))))]) [0, 1, 2, 3, 4, 5, 6] (by decide) rfl
  exact W.vret hx hb hr (fun t ht hW => ⟨⟨(q_1, q_4, q_7, q_10, q_13, q_16), rfl, trivial, by rw [ht]; exact hP9, va_K.moved hW.alike hK, hD9⟩, hS.F ht⟩) hS.2.2 dX8_init_52

theorem m_X10_init_1 : (.methodLink RX10 3 objectInit : Cond) ∈ wsX10_init := List.mem_of_getElem? (i := 1) rfl
theorem m_X10_init_2 : (.instanceMethod objectInit : Cond) ∈ wsX10_init := List.mem_of_getElem? (i := 2) rfl
theorem m_X10_init_3 : (.code objectInit ⟨#[0xb1]⟩ 1 none : Cond) ∈ wsX10_init := List.mem_of_getElem? (i := 3) rfl
set_option maxHeartbeats 4000000 in
set_option maxRecDepth 100000 in
theorem c_X10_init (l : Launch) (dC : Nat → ClassId) (dI : Nat → Nat → Nat) (cy : Nat → ClassId) (sz : Nat) (h0 : Nat) : Met l yX10_init wsX10_init ({ frames := 1, cells := 0, slots := 0, locals := 12 }) (va_Pc [.ref h0] (fun U => U.heap.size = sz ∧ va_P (dC, dI) vwCl [(h0, .inr (10, [.long 0, .long 0, .int 0, .long 0, .long 0]))] U.heap ∧ va_K (dC, dI) vwCl (TYS cy) U ∧ va_D (fun _ => True) [(h0, .inr (10, [.long 0, .long 0, .int 0, .long 0, .long 0]))] ∧ NK U)) (va_Qv (fun u : Unit => True) (fun u t => va_P (dC, dI) vwCl [(h0, .inr (10, [.long 0, .long 0, .int 0, .long 0, .long 0]))] t.heap ∧ va_K (dC, dI) vwCl (TYS cy) t ∧ va_D (va_A [(h0, .inr (10, [.long 0, .long 0, .int 0, .long 0, .long 0]))] sz) [(h0, .inr (10, [.long 0, .long 0, .int 0, .long 0, .long 0]))]) (va_A [(h0, .inr (10, [.long 0, .long 0, .int 0, .long 0, .long 0]))] sz)) 0 0 (va_A [(h0, .inr (10, [.long 0, .long 0, .int 0, .long 0, .long 0]))] sz) := by
  refine Met.ofW (cc := cX10_init) (maxL := 1) (ret := none) (by decide) rfl ?_
  intro p e s m args below meth c s₁ B hml hv
  obtain ⟨rfl, hsz, hP, hK, hD0, hN⟩ := hv
  have hx := B.exec
  have hb := B.bytes
  have hr := B.returns
  have hts := atoms_spec (ws := wsX10_init) B.pre
  have hown : s.vm.findClass RX10 = some m.cls := findClass_of_methodNamed B.named
  have hlocks := B.notSynchronized
  have hin : meth.name = "<init>" := (name_of_methodNamed B.named B.method).1
  subst hsz
  have hD := hD0.self (sz := s.heap.size)
  generalize hAe : va_A [(h0, .inr (10, [.long 0, .long 0, .int 0, .long 0, .long 0]))] s.heap.size = A at hD ⊢
  have hA : ∀ q : Nat, s.heap.size ≤ q → A q := fun q h => by rw [← hAe]; exact Or.inr h
  have hS : va_S A s.heap s.heap [] := va_S.rf
  have hP : va_P (dC, dI) vwCl [(h0, .inr (10, [.long 0, .long 0, .int 0, .long 0, .long 0]))] s.heap := hP
  have hl := lv_entry ([.ref h0]) (n := 1) (Nat.le_of_ble_eq_true rfl)
  rw [lg_entry_eq]
  generalize (lg_sl ([.ref h0]) ++ List.replicate (1 - (lg_sl ([.ref h0])).length) Slot.unset).toArray = ls at hl ⊢
  replace hl : lv_has ls 1 [(0, .ref h0)] := hl
  refine lv_aload_n hx hb dX10_init_0 rfl (lv_at hl 0 rfl) ?_
  refine W.objInit hx hb hown (hts _ m_X10_init_1) (hts _ m_X10_init_2) (hts _ m_X10_init_3) rfl (by rw [hml]; exact hl.1) rfl dX10_init_1 (Nat.le_of_ble_eq_true rfl) (Nat.le_of_ble_eq_true rfl) ?_
  refine W.eq (g2 := F0 m 4 ls []) rfl ?_
  have hP9 := hP.sub (ws' := [(h0, .inr (10, [.long 0, .long 0, .int 0, .long 0, .long 0]))]) [0] rfl
  have hD9 := hD.sub (ws' := [(h0, .inr (10, [.long 0, .long 0, .int 0, .long 0, .long 0]))]) [0] (by decide) rfl
  exact W.vret hx hb hr (fun t ht hW => ⟨⟨(), rfl, trivial, by rw [ht]; exact hP9, va_K.moved hW.alike hK, hD9⟩, hS.F ht⟩) hS.2.2 dX10_init_4

theorem m_X12_init_1 : (.methodLink RX12 1 objectInit : Cond) ∈ wsX12_init := List.mem_of_getElem? (i := 1) rfl
theorem m_X12_init_2 : (.instanceMethod objectInit : Cond) ∈ wsX12_init := List.mem_of_getElem? (i := 2) rfl
theorem m_X12_init_3 : (.code objectInit ⟨#[0xb1]⟩ 1 none : Cond) ∈ wsX12_init := List.mem_of_getElem? (i := 3) rfl
theorem m_X12_init_4 : (.arrayClass .byte : Cond) ∈ wsX12_init := List.mem_of_getElem? (i := 4) rfl
theorem m_X12_init_5 : (.fieldLink RX12 7 "ResourceLedgerModel$Digester" "message" "[B" : Cond) ∈ wsX12_init := List.mem_of_getElem? (i := 5) rfl
theorem iw_X12_init_X12 : ∀ w ∈ wsX120, w ∈ wsX12_init := fun _ h => List.mem_cons_of_mem _ (List.mem_append_right _ h)
theorem m_X12_init_6 : (.arrayClass .long : Cond) ∈ wsX12_init := List.mem_of_getElem? (i := 6) rfl
theorem m_X12_init_7 : (.fieldLink RX12 13 "ResourceLedgerModel$Digester" "words" "[J" : Cond) ∈ wsX12_init := List.mem_of_getElem? (i := 7) rfl
theorem m_X12_init_8 : (.fieldLink RX12 17 "ResourceLedgerModel$Digester" "schedule" "[J" : Cond) ∈ wsX12_init := List.mem_of_getElem? (i := 8) rfl
set_option maxHeartbeats 4000000 in
set_option maxRecDepth 100000 in
theorem c_X12_init (l : Launch) (dC : Nat → ClassId) (dI : Nat → Nat → Nat) (cy : Nat → ClassId) (sz : Nat) (h0 : Nat) : Met l yX12_init wsX12_init ({ frames := 1, cells := 3, slots := 4168, locals := 12 }) (va_Pc [.ref h0] (fun U => U.heap.size = sz ∧ va_P (dC, dI) vwCl [(h0, .inr (12, [.null, .int 0, .null, .null]))] U.heap ∧ va_K (dC, dI) vwCl (TYS cy) U ∧ va_D (fun _ => True) [(h0, .inr (12, [.null, .int 0, .null, .null]))] ∧ NK U)) (va_Qv (fun u : Nat × Nat × Nat => True) (fun u t => match u with | (q0, q1, q2) => va_P (dC, dI) vwCl [(h0, .inr (12, [.ref q0, .int 0, .ref q1, .ref q2])), (q0, .inl (cy 0, 4096, .inl (fun _ => 0))), (q1, .inl (cy 2, 8, .inr (.inl (fun _ => 0)))), (q2, .inl (cy 2, 64, .inr (.inl (fun _ => 0))))] t.heap ∧ va_K (dC, dI) vwCl (TYS cy) t ∧ va_D (va_A [(h0, .inr (12, [.null, .int 0, .null, .null]))] sz) [(h0, .inr (12, [.ref q0, .int 0, .ref q1, .ref q2])), (q0, .inl (cy 0, 4096, .inl (fun _ => 0))), (q1, .inl (cy 2, 8, .inr (.inl (fun _ => 0)))), (q2, .inl (cy 2, 64, .inr (.inl (fun _ => 0))))]) (va_A [(h0, .inr (12, [.null, .int 0, .null, .null]))] sz)) 3 4168 (va_A [(h0, .inr (12, [.null, .int 0, .null, .null]))] sz) := by
  refine Met.ofW (cc := cX12_init) (maxL := 1) (ret := none) (by decide) rfl ?_
  intro p e s m args below meth c s₁ B hml hv
  obtain ⟨rfl, hsz, hP, hK, hD0, hN⟩ := hv
  have hx := B.exec
  have hb := B.bytes
  have hr := B.returns
  have hts := atoms_spec (ws := wsX12_init) B.pre
  have hown : s.vm.findClass RX12 = some m.cls := findClass_of_methodNamed B.named
  have hlocks := B.notSynchronized
  have hin : meth.name = "<init>" := (name_of_methodNamed B.named B.method).1
  subst hsz
  have hD := hD0.self (sz := s.heap.size)
  generalize hAe : va_A [(h0, .inr (12, [.null, .int 0, .null, .null]))] s.heap.size = A at hD ⊢
  have hA : ∀ q : Nat, s.heap.size ≤ q → A q := fun q h => by rw [← hAe]; exact Or.inr h
  have hS : va_S A s.heap s.heap [] := va_S.rf
  have hP : va_P (dC, dI) vwCl [(h0, .inr (12, [.null, .int 0, .null, .null]))] s.heap := hP
  have hl := lv_entry ([.ref h0]) (n := 1) (Nat.le_of_ble_eq_true rfl)
  rw [lg_entry_eq]
  generalize (lg_sl ([.ref h0]) ++ List.replicate (1 - (lg_sl ([.ref h0])).length) Slot.unset).toArray = ls at hl ⊢
  replace hl : lv_has ls 1 [(0, .ref h0)] := hl
  refine lv_aload_n hx hb dX12_init_0 rfl (lv_at hl 0 rfl) ?_
  refine W.objInit hx hb hown (hts _ m_X12_init_1) (hts _ m_X12_init_2) (hts _ m_X12_init_3) rfl (by rw [hml]; exact hl.1) rfl dX12_init_1 (Nat.le_of_ble_eq_true rfl) (Nat.le_of_ble_eq_true rfl) ?_
  refine W.eq (g2 := F0 m 4 ls []) rfl ?_
  refine lv_aload_n hx hb dX12_init_4 rfl (lv_at hl 0 rfl) ?_
  refine lv_sipush (v := 4096) hx hb dX12_init_5 (by decide) ?_
  refine rl_newa (atype := .byte) (ty := .byte) (a0 := (4096, .inl (fun _ => 0))) hx hb (hts _ m_X12_init_4) rfl hK hP hD hS hA 0 rfl (fun _ => rfl) (by decide) (by decide) (Nat.le_of_ble_eq_true rfl) (Nat.le_of_ble_eq_true rfl) (Nat.le_of_ble_eq_true rfl) dX12_init_8 (fun q_1 H_2 hP2 hD2 hS2 => ?_)
  replace hP : va_P (dC, dI) vwCl [(h0, .inr (12, [.null, .int 0, .null, .null])), (q_1, .inl (cy 0, 4096, .inl (fun _ => 0)))] H_2 := hP2
  replace hD : va_D A [(h0, .inr (12, [.null, .int 0, .null, .null])), (q_1, .inl (cy 0, 4096, .inl (fun _ => 0)))] := hD2
  replace hS := hS2
  clear hP2 hD2 hS2
  refine W.widen (k := 1) (n := 4096) (Nat.le_of_ble_eq_true rfl) (Nat.le_of_ble_eq_true rfl) ?_
  refine va_putF (D := (dC, dI)) (ci := 12) (v := .ref q_1) (ty := .array .byte) (C := RX12) (T := TX12) (N := 4) hx hb hts iw_X12_init_X12 tyX12 tyX12_ok nmX12 hown hK hP hD hS 0 rfl rfl 0 (by decide) (hts _ m_X12_init_5) (fun _ h9 => h9) rfl hin rfl (by decide +kernel) rfl rfl (Nat.le_of_ble_eq_true rfl) dX12_init_10 (fun H_3 locs hP2 hD2 hS2 => ?_)
  replace hP : va_P (dC, dI) vwCl [(h0, .inr (12, [.ref q_1, .int 0, .null, .null])), (q_1, .inl (cy 0, 4096, .inl (fun _ => 0)))] H_3 := hP2
  replace hD : va_D A [(h0, .inr (12, [.ref q_1, .int 0, .null, .null])), (q_1, .inl (cy 0, 4096, .inl (fun _ => 0)))] := hD2
  replace hS := hS2
  clear hP2 hD2 hS2
  refine lv_aload_n hx hb dX12_init_13 rfl (lv_at hl 0 rfl) ?_
  refine lv_bipush (v := 8) hx hb dX12_init_14 (by decide) ?_
  refine rl_newa (atype := .long) (ty := .long) (a0 := (8, .inr (.inl (fun _ => 0)))) hx hb (hts _ m_X12_init_6) rfl hK hP hD hS hA 2 rfl (fun _ => rfl) (by decide) (by decide) (Nat.le_of_ble_eq_true rfl) (Nat.le_of_ble_eq_true rfl) (Nat.le_of_ble_eq_true rfl) dX12_init_16 (fun q_4 H_5 hP2 hD2 hS2 => ?_)
  replace hP : va_P (dC, dI) vwCl [(h0, .inr (12, [.ref q_1, .int 0, .null, .null])), (q_1, .inl (cy 0, 4096, .inl (fun _ => 0))), (q_4, .inl (cy 2, 8, .inr (.inl (fun _ => 0))))] H_5 := hP2
  replace hD : va_D A [(h0, .inr (12, [.ref q_1, .int 0, .null, .null])), (q_1, .inl (cy 0, 4096, .inl (fun _ => 0))), (q_4, .inl (cy 2, 8, .inr (.inl (fun _ => 0))))] := hD2
  replace hS := hS2
  clear hP2 hD2 hS2
  refine W.widen (k := 2) (n := 4104) (Nat.le_of_ble_eq_true rfl) (Nat.le_of_ble_eq_true rfl) ?_
  refine va_putF (D := (dC, dI)) (ci := 12) (v := .ref q_4) (ty := .array .long) (C := RX12) (T := TX12) (N := 4) hx hb hts iw_X12_init_X12 tyX12 tyX12_ok nmX12 hown hK hP hD hS 0 rfl rfl 2 (by decide) (hts _ m_X12_init_7) (fun _ h9 => h9) rfl hin rfl (by decide +kernel) rfl rfl (Nat.le_of_ble_eq_true rfl) dX12_init_18 (fun H_6 locs hP2 hD2 hS2 => ?_)
  replace hP : va_P (dC, dI) vwCl [(h0, .inr (12, [.ref q_1, .int 0, .ref q_4, .null])), (q_1, .inl (cy 0, 4096, .inl (fun _ => 0))), (q_4, .inl (cy 2, 8, .inr (.inl (fun _ => 0))))] H_6 := hP2
  replace hD : va_D A [(h0, .inr (12, [.ref q_1, .int 0, .ref q_4, .null])), (q_1, .inl (cy 0, 4096, .inl (fun _ => 0))), (q_4, .inl (cy 2, 8, .inr (.inl (fun _ => 0))))] := hD2
  replace hS := hS2
  clear hP2 hD2 hS2
  refine lv_aload_n hx hb dX12_init_21 rfl (lv_at hl 0 rfl) ?_
  refine lv_bipush (v := 64) hx hb dX12_init_22 (by decide) ?_
  refine rl_newa (atype := .long) (ty := .long) (a0 := (64, .inr (.inl (fun _ => 0)))) hx hb (hts _ m_X12_init_6) rfl hK hP hD hS hA 2 rfl (fun _ => rfl) (by decide) (by decide) (Nat.le_of_ble_eq_true rfl) (Nat.le_of_ble_eq_true rfl) (Nat.le_of_ble_eq_true rfl) dX12_init_24 (fun q_7 H_8 hP2 hD2 hS2 => ?_)
  replace hP : va_P (dC, dI) vwCl [(h0, .inr (12, [.ref q_1, .int 0, .ref q_4, .null])), (q_1, .inl (cy 0, 4096, .inl (fun _ => 0))), (q_4, .inl (cy 2, 8, .inr (.inl (fun _ => 0)))), (q_7, .inl (cy 2, 64, .inr (.inl (fun _ => 0))))] H_8 := hP2
  replace hD : va_D A [(h0, .inr (12, [.ref q_1, .int 0, .ref q_4, .null])), (q_1, .inl (cy 0, 4096, .inl (fun _ => 0))), (q_4, .inl (cy 2, 8, .inr (.inl (fun _ => 0)))), (q_7, .inl (cy 2, 64, .inr (.inl (fun _ => 0))))] := hD2
  replace hS := hS2
  clear hP2 hD2 hS2
  refine W.widen (k := 3) (n := 4168) (Nat.le_of_ble_eq_true rfl) (Nat.le_of_ble_eq_true rfl) ?_
  refine va_putF (D := (dC, dI)) (ci := 12) (v := .ref q_7) (ty := .array .long) (C := RX12) (T := TX12) (N := 4) hx hb hts iw_X12_init_X12 tyX12 tyX12_ok nmX12 hown hK hP hD hS 0 rfl rfl 3 (by decide) (hts _ m_X12_init_8) (fun _ h9 => h9) rfl hin rfl (by decide +kernel) rfl rfl (Nat.le_of_ble_eq_true rfl) dX12_init_26 (fun H_9 locs hP2 hD2 hS2 => ?_)
  replace hP : va_P (dC, dI) vwCl [(h0, .inr (12, [.ref q_1, .int 0, .ref q_4, .ref q_7])), (q_1, .inl (cy 0, 4096, .inl (fun _ => 0))), (q_4, .inl (cy 2, 8, .inr (.inl (fun _ => 0)))), (q_7, .inl (cy 2, 64, .inr (.inl (fun _ => 0))))] H_9 := hP2
  replace hD : va_D A [(h0, .inr (12, [.ref q_1, .int 0, .ref q_4, .ref q_7])), (q_1, .inl (cy 0, 4096, .inl (fun _ => 0))), (q_4, .inl (cy 2, 8, .inr (.inl (fun _ => 0)))), (q_7, .inl (cy 2, 64, .inr (.inl (fun _ => 0))))] := hD2
  replace hS := hS2
  clear hP2 hD2 hS2
  have hP9 := hP.sub (ws' := [(h0, .inr (12, [.ref q_1, .int 0, .ref q_4, .ref q_7])), (q_1, .inl (cy 0, 4096, .inl (fun _ => 0))), (q_4, .inl (cy 2, 8, .inr (.inl (fun _ => 0)))), (q_7, .inl (cy 2, 64, .inr (.inl (fun _ => 0))))]) [0, 1, 2, 3] rfl
  have hD9 := hD.sub (ws' := [(h0, .inr (12, [.ref q_1, .int 0, .ref q_4, .ref q_7])), (q_1, .inl (cy 0, 4096, .inl (fun _ => 0))), (q_4, .inl (cy 2, 8, .inr (.inl (fun _ => 0)))), (q_7, .inl (cy 2, 64, .inr (.inl (fun _ => 0))))]) [0, 1, 2, 3] (by decide) rfl
  exact W.vret hx hb hr (fun t ht hW => ⟨⟨(q_1, q_4, q_7), rfl, trivial, by rw [ht]; exact hP9, va_K.moved hW.alike hK, hD9⟩, hS.F ht⟩) hS.2.2 dX12_init_29

theorem m_X13_init_1 : (.methodLink RX13 1 objectInit : Cond) ∈ wsX13_init := List.mem_of_getElem? (i := 1) rfl
theorem m_X13_init_2 : (.instanceMethod objectInit : Cond) ∈ wsX13_init := List.mem_of_getElem? (i := 2) rfl
theorem m_X13_init_3 : (.code objectInit ⟨#[0xb1]⟩ 1 none : Cond) ∈ wsX13_init := List.mem_of_getElem? (i := 3) rfl
theorem m_X13_init_4 : (.arrayClass .long : Cond) ∈ wsX13_init := List.mem_of_getElem? (i := 4) rfl
theorem m_X13_init_5 : (.fieldLink RX13 7 "ResourceLedgerModel$Looker" "localTypes" "[J" : Cond) ∈ wsX13_init := List.mem_of_getElem? (i := 5) rfl
theorem iw_X13_init_X13 : ∀ w ∈ wsX130, w ∈ wsX13_init := fun _ h => List.mem_cons_of_mem _ (List.mem_append_right _ h)
theorem m_X13_init_6 : (.arrayClass .boolean : Cond) ∈ wsX13_init := List.mem_of_getElem? (i := 6) rfl
theorem m_X13_init_7 : (.fieldLink RX13 13 "ResourceLedgerModel$Looker" "came" "[Z" : Cond) ∈ wsX13_init := List.mem_of_getElem? (i := 7) rfl
theorem m_X13_init_8 : (.fieldLink RX13 17 "ResourceLedgerModel$Looker" "led" "[Z" : Cond) ∈ wsX13_init := List.mem_of_getElem? (i := 8) rfl
theorem m_X13_init_9 : (.constant RX13 20 (41000) : Cond) ∈ wsX13_init := List.mem_of_getElem? (i := 9) rfl
theorem m_X13_init_10 : (.fieldLink RX13 21 "ResourceLedgerModel$Looker" "thereAt" "[Z" : Cond) ∈ wsX13_init := List.mem_of_getElem? (i := 10) rfl
theorem m_X13_init_11 : (.fieldLink RX13 24 "ResourceLedgerModel$Looker" "originsAt" "[J" : Cond) ∈ wsX13_init := List.mem_of_getElem? (i := 11) rfl
theorem m_X13_init_12 : (.fieldLink RX13 27 "ResourceLedgerModel$Looker" "insideAt" "[Z" : Cond) ∈ wsX13_init := List.mem_of_getElem? (i := 12) rfl
theorem m_X13_init_13 : (.fieldLink RX13 30 "ResourceLedgerModel$Looker" "types" "[J" : Cond) ∈ wsX13_init := List.mem_of_getElem? (i := 13) rfl
theorem m_X13_init_14 : (.fieldLink RX13 33 "ResourceLedgerModel$Looker" "origins" "[J" : Cond) ∈ wsX13_init := List.mem_of_getElem? (i := 14) rfl
theorem m_X13_init_15 : (.fieldLink RX13 36 "ResourceLedgerModel$Looker" "insides" "[Z" : Cond) ∈ wsX13_init := List.mem_of_getElem? (i := 15) rfl
theorem m_X13_init_16 : (.fieldLink RX13 39 "ResourceLedgerModel$Looker" "there" "[Z" : Cond) ∈ wsX13_init := List.mem_of_getElem? (i := 16) rfl
theorem m_X13_init_17 : (.fieldLink RX13 42 "ResourceLedgerModel$Looker" "points" "[J" : Cond) ∈ wsX13_init := List.mem_of_getElem? (i := 17) rfl
theorem m_X13_init_18 : (.fieldLink RX13 45 "ResourceLedgerModel$Looker" "within" "[Z" : Cond) ∈ wsX13_init := List.mem_of_getElem? (i := 18) rfl
set_option maxHeartbeats 4000000 in
set_option maxRecDepth 100000 in
theorem c_X13_init (l : Launch) (dC : Nat → ClassId) (dI : Nat → Nat → Nat) (cy : Nat → ClassId) (sz : Nat) (h0 : Nat) : Met l yX13_init wsX13_init ({ frames := 1, cells := 12, slots := 125810, locals := 12 }) (va_Pc [.ref h0] (fun U => U.heap.size = sz ∧ va_P (dC, dI) vwCl [(h0, .inr (13, [.null, .int 0, .int 0, .null, .int 0, .int 0, .null, .null, .null, .null, .null, .null, .null, .null, .int 0, .null, .null, .null, .int 0, .long 0, .long 0, .int 0]))] U.heap ∧ va_K (dC, dI) vwCl (TYS cy) U ∧ va_D (fun _ => True) [(h0, .inr (13, [.null, .int 0, .int 0, .null, .int 0, .int 0, .null, .null, .null, .null, .null, .null, .null, .null, .int 0, .null, .null, .null, .int 0, .long 0, .long 0, .int 0]))] ∧ NK U)) (va_Qv (fun u : Nat × Nat × Nat × Nat × Nat × Nat × Nat × Nat × Nat × Nat × Nat × Nat => True) (fun u t => match u with | (q0, q1, q2, q3, q4, q5, q6, q7, q8, q9, q10, q11) => va_P (dC, dI) vwCl [(h0, .inr (13, [.null, .int 0, .int 0, .ref q0, .int 0, .int 0, .ref q1, .ref q2, .ref q3, .ref q4, .ref q5, .ref q6, .ref q7, .ref q8, .int 0, .ref q9, .ref q10, .ref q11, .int 0, .long 0, .long 0, .int 0])), (q0, .inl (cy 2, 40, .inr (.inl (fun _ => 0)))), (q1, .inl (cy 3, 1025, .inl (fun _ => 0))), (q2, .inl (cy 3, 1025, .inl (fun _ => 0))), (q3, .inl (cy 3, 41000, .inl (fun _ => 0))), (q4, .inl (cy 2, 41000, .inr (.inl (fun _ => 0)))), (q5, .inl (cy 3, 41000, .inl (fun _ => 0))), (q6, .inl (cy 2, 200, .inr (.inl (fun _ => 0)))), (q7, .inl (cy 2, 200, .inr (.inl (fun _ => 0)))), (q8, .inl (cy 3, 200, .inl (fun _ => 0))), (q9, .inl (cy 3, 40, .inl (fun _ => 0))), (q10, .inl (cy 2, 40, .inr (.inl (fun _ => 0)))), (q11, .inl (cy 3, 40, .inl (fun _ => 0)))] t.heap ∧ va_K (dC, dI) vwCl (TYS cy) t ∧ va_D (va_A [(h0, .inr (13, [.null, .int 0, .int 0, .null, .int 0, .int 0, .null, .null, .null, .null, .null, .null, .null, .null, .int 0, .null, .null, .null, .int 0, .long 0, .long 0, .int 0]))] sz) [(h0, .inr (13, [.null, .int 0, .int 0, .ref q0, .int 0, .int 0, .ref q1, .ref q2, .ref q3, .ref q4, .ref q5, .ref q6, .ref q7, .ref q8, .int 0, .ref q9, .ref q10, .ref q11, .int 0, .long 0, .long 0, .int 0])), (q0, .inl (cy 2, 40, .inr (.inl (fun _ => 0)))), (q1, .inl (cy 3, 1025, .inl (fun _ => 0))), (q2, .inl (cy 3, 1025, .inl (fun _ => 0))), (q3, .inl (cy 3, 41000, .inl (fun _ => 0))), (q4, .inl (cy 2, 41000, .inr (.inl (fun _ => 0)))), (q5, .inl (cy 3, 41000, .inl (fun _ => 0))), (q6, .inl (cy 2, 200, .inr (.inl (fun _ => 0)))), (q7, .inl (cy 2, 200, .inr (.inl (fun _ => 0)))), (q8, .inl (cy 3, 200, .inl (fun _ => 0))), (q9, .inl (cy 3, 40, .inl (fun _ => 0))), (q10, .inl (cy 2, 40, .inr (.inl (fun _ => 0)))), (q11, .inl (cy 3, 40, .inl (fun _ => 0)))]) (va_A [(h0, .inr (13, [.null, .int 0, .int 0, .null, .int 0, .int 0, .null, .null, .null, .null, .null, .null, .null, .null, .int 0, .null, .null, .null, .int 0, .long 0, .long 0, .int 0]))] sz)) 12 125810 (va_A [(h0, .inr (13, [.null, .int 0, .int 0, .null, .int 0, .int 0, .null, .null, .null, .null, .null, .null, .null, .null, .int 0, .null, .null, .null, .int 0, .long 0, .long 0, .int 0]))] sz) := by
  refine Met.ofW (cc := cX13_init) (maxL := 1) (ret := none) (by decide) rfl ?_
  intro p e s m args below meth c s₁ B hml hv
  obtain ⟨rfl, hsz, hP, hK, hD0, hN⟩ := hv
  have hx := B.exec
  have hb := B.bytes
  have hr := B.returns
  have hts := atoms_spec (ws := wsX13_init) B.pre
  have hown : s.vm.findClass RX13 = some m.cls := findClass_of_methodNamed B.named
  have hlocks := B.notSynchronized
  have hin : meth.name = "<init>" := (name_of_methodNamed B.named B.method).1
  subst hsz
  have hD := hD0.self (sz := s.heap.size)
  generalize hAe : va_A [(h0, .inr (13, [.null, .int 0, .int 0, .null, .int 0, .int 0, .null, .null, .null, .null, .null, .null, .null, .null, .int 0, .null, .null, .null, .int 0, .long 0, .long 0, .int 0]))] s.heap.size = A at hD ⊢
  have hA : ∀ q : Nat, s.heap.size ≤ q → A q := fun q h => by rw [← hAe]; exact Or.inr h
  have hS : va_S A s.heap s.heap [] := va_S.rf
  have hP : va_P (dC, dI) vwCl [(h0, .inr (13, [.null, .int 0, .int 0, .null, .int 0, .int 0, .null, .null, .null, .null, .null, .null, .null, .null, .int 0, .null, .null, .null, .int 0, .long 0, .long 0, .int 0]))] s.heap := hP
  have hl := lv_entry ([.ref h0]) (n := 1) (Nat.le_of_ble_eq_true rfl)
  rw [lg_entry_eq]
  generalize (lg_sl ([.ref h0]) ++ List.replicate (1 - (lg_sl ([.ref h0])).length) Slot.unset).toArray = ls at hl ⊢
  replace hl : lv_has ls 1 [(0, .ref h0)] := hl
  refine lv_aload_n hx hb dX13_init_0 rfl (lv_at hl 0 rfl) ?_
  refine W.objInit hx hb hown (hts _ m_X13_init_1) (hts _ m_X13_init_2) (hts _ m_X13_init_3) rfl (by rw [hml]; exact hl.1) rfl dX13_init_1 (Nat.le_of_ble_eq_true rfl) (Nat.le_of_ble_eq_true rfl) ?_
  refine W.eq (g2 := F0 m 4 ls []) rfl ?_
  refine lv_aload_n hx hb dX13_init_4 rfl (lv_at hl 0 rfl) ?_
  refine lv_bipush (v := 40) hx hb dX13_init_5 (by decide) ?_
  refine rl_newa (atype := .long) (ty := .long) (a0 := (40, .inr (.inl (fun _ => 0)))) hx hb (hts _ m_X13_init_4) rfl hK hP hD hS hA 2 rfl (fun _ => rfl) (by decide) (by decide) (Nat.le_of_ble_eq_true rfl) (Nat.le_of_ble_eq_true rfl) (Nat.le_of_ble_eq_true rfl) dX13_init_7 (fun q_1 H_2 hP2 hD2 hS2 => ?_)
  replace hP : va_P (dC, dI) vwCl [(h0, .inr (13, [.null, .int 0, .int 0, .null, .int 0, .int 0, .null, .null, .null, .null, .null, .null, .null, .null, .int 0, .null, .null, .null, .int 0, .long 0, .long 0, .int 0])), (q_1, .inl (cy 2, 40, .inr (.inl (fun _ => 0))))] H_2 := hP2
  replace hD : va_D A [(h0, .inr (13, [.null, .int 0, .int 0, .null, .int 0, .int 0, .null, .null, .null, .null, .null, .null, .null, .null, .int 0, .null, .null, .null, .int 0, .long 0, .long 0, .int 0])), (q_1, .inl (cy 2, 40, .inr (.inl (fun _ => 0))))] := hD2
  replace hS := hS2
  clear hP2 hD2 hS2
  refine W.widen (k := 1) (n := 40) (Nat.le_of_ble_eq_true rfl) (Nat.le_of_ble_eq_true rfl) ?_
  refine va_putF (D := (dC, dI)) (ci := 13) (v := .ref q_1) (ty := .array .long) (C := RX13) (T := TX13) (N := 22) hx hb hts iw_X13_init_X13 tyX13 tyX13_ok nmX13 hown hK hP hD hS 0 rfl rfl 3 (by decide) (hts _ m_X13_init_5) (fun _ h9 => h9) rfl hin rfl (by decide +kernel) rfl rfl (Nat.le_of_ble_eq_true rfl) dX13_init_9 (fun H_3 locs hP2 hD2 hS2 => ?_)
  replace hP : va_P (dC, dI) vwCl [(h0, .inr (13, [.null, .int 0, .int 0, .ref q_1, .int 0, .int 0, .null, .null, .null, .null, .null, .null, .null, .null, .int 0, .null, .null, .null, .int 0, .long 0, .long 0, .int 0])), (q_1, .inl (cy 2, 40, .inr (.inl (fun _ => 0))))] H_3 := hP2
  replace hD : va_D A [(h0, .inr (13, [.null, .int 0, .int 0, .ref q_1, .int 0, .int 0, .null, .null, .null, .null, .null, .null, .null, .null, .int 0, .null, .null, .null, .int 0, .long 0, .long 0, .int 0])), (q_1, .inl (cy 2, 40, .inr (.inl (fun _ => 0))))] := hD2
  replace hS := hS2
  clear hP2 hD2 hS2
  refine lv_aload_n hx hb dX13_init_12 rfl (lv_at hl 0 rfl) ?_
  refine lv_sipush (v := 1025) hx hb dX13_init_13 (by decide) ?_
  refine rl_newa (atype := .boolean) (ty := .boolean) (a0 := (1025, .inl (fun _ => 0))) hx hb (hts _ m_X13_init_6) rfl hK hP hD hS hA 3 rfl (fun _ => rfl) (by decide) (by decide) (Nat.le_of_ble_eq_true rfl) (Nat.le_of_ble_eq_true rfl) (Nat.le_of_ble_eq_true rfl) dX13_init_16 (fun q_4 H_5 hP2 hD2 hS2 => ?_)
  replace hP : va_P (dC, dI) vwCl [(h0, .inr (13, [.null, .int 0, .int 0, .ref q_1, .int 0, .int 0, .null, .null, .null, .null, .null, .null, .null, .null, .int 0, .null, .null, .null, .int 0, .long 0, .long 0, .int 0])), (q_1, .inl (cy 2, 40, .inr (.inl (fun _ => 0)))), (q_4, .inl (cy 3, 1025, .inl (fun _ => 0)))] H_5 := hP2
  replace hD : va_D A [(h0, .inr (13, [.null, .int 0, .int 0, .ref q_1, .int 0, .int 0, .null, .null, .null, .null, .null, .null, .null, .null, .int 0, .null, .null, .null, .int 0, .long 0, .long 0, .int 0])), (q_1, .inl (cy 2, 40, .inr (.inl (fun _ => 0)))), (q_4, .inl (cy 3, 1025, .inl (fun _ => 0)))] := hD2
  replace hS := hS2
  clear hP2 hD2 hS2
  refine W.widen (k := 2) (n := 1065) (Nat.le_of_ble_eq_true rfl) (Nat.le_of_ble_eq_true rfl) ?_
  refine va_putF (D := (dC, dI)) (ci := 13) (v := .ref q_4) (ty := .array .boolean) (C := RX13) (T := TX13) (N := 22) hx hb hts iw_X13_init_X13 tyX13 tyX13_ok nmX13 hown hK hP hD hS 0 rfl rfl 6 (by decide) (hts _ m_X13_init_7) (fun _ h9 => h9) rfl hin rfl (by decide +kernel) rfl rfl (Nat.le_of_ble_eq_true rfl) dX13_init_18 (fun H_6 locs hP2 hD2 hS2 => ?_)
  replace hP : va_P (dC, dI) vwCl [(h0, .inr (13, [.null, .int 0, .int 0, .ref q_1, .int 0, .int 0, .ref q_4, .null, .null, .null, .null, .null, .null, .null, .int 0, .null, .null, .null, .int 0, .long 0, .long 0, .int 0])), (q_1, .inl (cy 2, 40, .inr (.inl (fun _ => 0)))), (q_4, .inl (cy 3, 1025, .inl (fun _ => 0)))] H_6 := hP2
  replace hD : va_D A [(h0, .inr (13, [.null, .int 0, .int 0, .ref q_1, .int 0, .int 0, .ref q_4, .null, .null, .null, .null, .null, .null, .null, .int 0, .null, .null, .null, .int 0, .long 0, .long 0, .int 0])), (q_1, .inl (cy 2, 40, .inr (.inl (fun _ => 0)))), (q_4, .inl (cy 3, 1025, .inl (fun _ => 0)))] := hD2
  replace hS := hS2
  clear hP2 hD2 hS2
  refine lv_aload_n hx hb dX13_init_21 rfl (lv_at hl 0 rfl) ?_
  refine lv_sipush (v := 1025) hx hb dX13_init_22 (by decide) ?_
  refine rl_newa (atype := .boolean) (ty := .boolean) (a0 := (1025, .inl (fun _ => 0))) hx hb (hts _ m_X13_init_6) rfl hK hP hD hS hA 3 rfl (fun _ => rfl) (by decide) (by decide) (Nat.le_of_ble_eq_true rfl) (Nat.le_of_ble_eq_true rfl) (Nat.le_of_ble_eq_true rfl) dX13_init_25 (fun q_7 H_8 hP2 hD2 hS2 => ?_)
  replace hP : va_P (dC, dI) vwCl [(h0, .inr (13, [.null, .int 0, .int 0, .ref q_1, .int 0, .int 0, .ref q_4, .null, .null, .null, .null, .null, .null, .null, .int 0, .null, .null, .null, .int 0, .long 0, .long 0, .int 0])), (q_1, .inl (cy 2, 40, .inr (.inl (fun _ => 0)))), (q_4, .inl (cy 3, 1025, .inl (fun _ => 0))), (q_7, .inl (cy 3, 1025, .inl (fun _ => 0)))] H_8 := hP2
  replace hD : va_D A [(h0, .inr (13, [.null, .int 0, .int 0, .ref q_1, .int 0, .int 0, .ref q_4, .null, .null, .null, .null, .null, .null, .null, .int 0, .null, .null, .null, .int 0, .long 0, .long 0, .int 0])), (q_1, .inl (cy 2, 40, .inr (.inl (fun _ => 0)))), (q_4, .inl (cy 3, 1025, .inl (fun _ => 0))), (q_7, .inl (cy 3, 1025, .inl (fun _ => 0)))] := hD2
  replace hS := hS2
  clear hP2 hD2 hS2
  refine W.widen (k := 3) (n := 2090) (Nat.le_of_ble_eq_true rfl) (Nat.le_of_ble_eq_true rfl) ?_
  refine va_putF (D := (dC, dI)) (ci := 13) (v := .ref q_7) (ty := .array .boolean) (C := RX13) (T := TX13) (N := 22) hx hb hts iw_X13_init_X13 tyX13 tyX13_ok nmX13 hown hK hP hD hS 0 rfl rfl 7 (by decide) (hts _ m_X13_init_8) (fun _ h9 => h9) rfl hin rfl (by decide +kernel) rfl rfl (Nat.le_of_ble_eq_true rfl) dX13_init_27 (fun H_9 locs hP2 hD2 hS2 => ?_)
  replace hP : va_P (dC, dI) vwCl [(h0, .inr (13, [.null, .int 0, .int 0, .ref q_1, .int 0, .int 0, .ref q_4, .ref q_7, .null, .null, .null, .null, .null, .null, .int 0, .null, .null, .null, .int 0, .long 0, .long 0, .int 0])), (q_1, .inl (cy 2, 40, .inr (.inl (fun _ => 0)))), (q_4, .inl (cy 3, 1025, .inl (fun _ => 0))), (q_7, .inl (cy 3, 1025, .inl (fun _ => 0)))] H_9 := hP2
  replace hD : va_D A [(h0, .inr (13, [.null, .int 0, .int 0, .ref q_1, .int 0, .int 0, .ref q_4, .ref q_7, .null, .null, .null, .null, .null, .null, .int 0, .null, .null, .null, .int 0, .long 0, .long 0, .int 0])), (q_1, .inl (cy 2, 40, .inr (.inl (fun _ => 0)))), (q_4, .inl (cy 3, 1025, .inl (fun _ => 0))), (q_7, .inl (cy 3, 1025, .inl (fun _ => 0)))] := hD2
  replace hS := hS2
  clear hP2 hD2 hS2
  refine lv_aload_n hx hb dX13_init_30 rfl (lv_at hl 0 rfl) ?_
  refine lv_ldc hx hb hown (hts _ m_X13_init_9) dX13_init_31 ?_
  refine rl_newa (atype := .boolean) (ty := .boolean) (a0 := (41000, .inl (fun _ => 0))) hx hb (hts _ m_X13_init_6) rfl hK hP hD hS hA 3 rfl (fun _ => rfl) (by decide) (by decide) (Nat.le_of_ble_eq_true rfl) (Nat.le_of_ble_eq_true rfl) (Nat.le_of_ble_eq_true rfl) dX13_init_33 (fun q_10 H_11 hP2 hD2 hS2 => ?_)
  replace hP : va_P (dC, dI) vwCl [(h0, .inr (13, [.null, .int 0, .int 0, .ref q_1, .int 0, .int 0, .ref q_4, .ref q_7, .null, .null, .null, .null, .null, .null, .int 0, .null, .null, .null, .int 0, .long 0, .long 0, .int 0])), (q_1, .inl (cy 2, 40, .inr (.inl (fun _ => 0)))), (q_4, .inl (cy 3, 1025, .inl (fun _ => 0))), (q_7, .inl (cy 3, 1025, .inl (fun _ => 0))), (q_10, .inl (cy 3, 41000, .inl (fun _ => 0)))] H_11 := hP2
  replace hD : va_D A [(h0, .inr (13, [.null, .int 0, .int 0, .ref q_1, .int 0, .int 0, .ref q_4, .ref q_7, .null, .null, .null, .null, .null, .null, .int 0, .null, .null, .null, .int 0, .long 0, .long 0, .int 0])), (q_1, .inl (cy 2, 40, .inr (.inl (fun _ => 0)))), (q_4, .inl (cy 3, 1025, .inl (fun _ => 0))), (q_7, .inl (cy 3, 1025, .inl (fun _ => 0))), (q_10, .inl (cy 3, 41000, .inl (fun _ => 0)))] := hD2
  replace hS := hS2
  clear hP2 hD2 hS2
  refine W.widen (k := 4) (n := 43090) (Nat.le_of_ble_eq_true rfl) (Nat.le_of_ble_eq_true rfl) ?_
  refine va_putF (D := (dC, dI)) (ci := 13) (v := .ref q_10) (ty := .array .boolean) (C := RX13) (T := TX13) (N := 22) hx hb hts iw_X13_init_X13 tyX13 tyX13_ok nmX13 hown hK hP hD hS 0 rfl rfl 8 (by decide) (hts _ m_X13_init_10) (fun _ h9 => h9) rfl hin rfl (by decide +kernel) rfl rfl (Nat.le_of_ble_eq_true rfl) dX13_init_35 (fun H_12 locs hP2 hD2 hS2 => ?_)
  replace hP : va_P (dC, dI) vwCl [(h0, .inr (13, [.null, .int 0, .int 0, .ref q_1, .int 0, .int 0, .ref q_4, .ref q_7, .ref q_10, .null, .null, .null, .null, .null, .int 0, .null, .null, .null, .int 0, .long 0, .long 0, .int 0])), (q_1, .inl (cy 2, 40, .inr (.inl (fun _ => 0)))), (q_4, .inl (cy 3, 1025, .inl (fun _ => 0))), (q_7, .inl (cy 3, 1025, .inl (fun _ => 0))), (q_10, .inl (cy 3, 41000, .inl (fun _ => 0)))] H_12 := hP2
  replace hD : va_D A [(h0, .inr (13, [.null, .int 0, .int 0, .ref q_1, .int 0, .int 0, .ref q_4, .ref q_7, .ref q_10, .null, .null, .null, .null, .null, .int 0, .null, .null, .null, .int 0, .long 0, .long 0, .int 0])), (q_1, .inl (cy 2, 40, .inr (.inl (fun _ => 0)))), (q_4, .inl (cy 3, 1025, .inl (fun _ => 0))), (q_7, .inl (cy 3, 1025, .inl (fun _ => 0))), (q_10, .inl (cy 3, 41000, .inl (fun _ => 0)))] := hD2
  replace hS := hS2
  clear hP2 hD2 hS2
  refine lv_aload_n hx hb dX13_init_38 rfl (lv_at hl 0 rfl) ?_
  refine lv_ldc hx hb hown (hts _ m_X13_init_9) dX13_init_39 ?_
  refine rl_newa (atype := .long) (ty := .long) (a0 := (41000, .inr (.inl (fun _ => 0)))) hx hb (hts _ m_X13_init_4) rfl hK hP hD hS hA 2 rfl (fun _ => rfl) (by decide) (by decide) (Nat.le_of_ble_eq_true rfl) (Nat.le_of_ble_eq_true rfl) (Nat.le_of_ble_eq_true rfl) dX13_init_41 (fun q_13 H_14 hP2 hD2 hS2 => ?_)
  replace hP : va_P (dC, dI) vwCl [(h0, .inr (13, [.null, .int 0, .int 0, .ref q_1, .int 0, .int 0, .ref q_4, .ref q_7, .ref q_10, .null, .null, .null, .null, .null, .int 0, .null, .null, .null, .int 0, .long 0, .long 0, .int 0])), (q_1, .inl (cy 2, 40, .inr (.inl (fun _ => 0)))), (q_4, .inl (cy 3, 1025, .inl (fun _ => 0))), (q_7, .inl (cy 3, 1025, .inl (fun _ => 0))), (q_10, .inl (cy 3, 41000, .inl (fun _ => 0))), (q_13, .inl (cy 2, 41000, .inr (.inl (fun _ => 0))))] H_14 := hP2
  replace hD : va_D A [(h0, .inr (13, [.null, .int 0, .int 0, .ref q_1, .int 0, .int 0, .ref q_4, .ref q_7, .ref q_10, .null, .null, .null, .null, .null, .int 0, .null, .null, .null, .int 0, .long 0, .long 0, .int 0])), (q_1, .inl (cy 2, 40, .inr (.inl (fun _ => 0)))), (q_4, .inl (cy 3, 1025, .inl (fun _ => 0))), (q_7, .inl (cy 3, 1025, .inl (fun _ => 0))), (q_10, .inl (cy 3, 41000, .inl (fun _ => 0))), (q_13, .inl (cy 2, 41000, .inr (.inl (fun _ => 0))))] := hD2
  replace hS := hS2
  clear hP2 hD2 hS2
  refine W.widen (k := 5) (n := 84090) (Nat.le_of_ble_eq_true rfl) (Nat.le_of_ble_eq_true rfl) ?_
  refine va_putF (D := (dC, dI)) (ci := 13) (v := .ref q_13) (ty := .array .long) (C := RX13) (T := TX13) (N := 22) hx hb hts iw_X13_init_X13 tyX13 tyX13_ok nmX13 hown hK hP hD hS 0 rfl rfl 9 (by decide) (hts _ m_X13_init_11) (fun _ h9 => h9) rfl hin rfl (by decide +kernel) rfl rfl (Nat.le_of_ble_eq_true rfl) dX13_init_43 (fun H_15 locs hP2 hD2 hS2 => ?_)
  replace hP : va_P (dC, dI) vwCl [(h0, .inr (13, [.null, .int 0, .int 0, .ref q_1, .int 0, .int 0, .ref q_4, .ref q_7, .ref q_10, .ref q_13, .null, .null, .null, .null, .int 0, .null, .null, .null, .int 0, .long 0, .long 0, .int 0])), (q_1, .inl (cy 2, 40, .inr (.inl (fun _ => 0)))), (q_4, .inl (cy 3, 1025, .inl (fun _ => 0))), (q_7, .inl (cy 3, 1025, .inl (fun _ => 0))), (q_10, .inl (cy 3, 41000, .inl (fun _ => 0))), (q_13, .inl (cy 2, 41000, .inr (.inl (fun _ => 0))))] H_15 := hP2
  replace hD : va_D A [(h0, .inr (13, [.null, .int 0, .int 0, .ref q_1, .int 0, .int 0, .ref q_4, .ref q_7, .ref q_10, .ref q_13, .null, .null, .null, .null, .int 0, .null, .null, .null, .int 0, .long 0, .long 0, .int 0])), (q_1, .inl (cy 2, 40, .inr (.inl (fun _ => 0)))), (q_4, .inl (cy 3, 1025, .inl (fun _ => 0))), (q_7, .inl (cy 3, 1025, .inl (fun _ => 0))), (q_10, .inl (cy 3, 41000, .inl (fun _ => 0))), (q_13, .inl (cy 2, 41000, .inr (.inl (fun _ => 0))))] := hD2
  replace hS := hS2
  clear hP2 hD2 hS2
  refine lv_aload_n hx hb dX13_init_46 rfl (lv_at hl 0 rfl) ?_
  refine lv_ldc hx hb hown (hts _ m_X13_init_9) dX13_init_47 ?_
  refine rl_newa (atype := .boolean) (ty := .boolean) (a0 := (41000, .inl (fun _ => 0))) hx hb (hts _ m_X13_init_6) rfl hK hP hD hS hA 3 rfl (fun _ => rfl) (by decide) (by decide) (Nat.le_of_ble_eq_true rfl) (Nat.le_of_ble_eq_true rfl) (Nat.le_of_ble_eq_true rfl) dX13_init_49 (fun q_16 H_17 hP2 hD2 hS2 => ?_)
  replace hP : va_P (dC, dI) vwCl [(h0, .inr (13, [.null, .int 0, .int 0, .ref q_1, .int 0, .int 0, .ref q_4, .ref q_7, .ref q_10, .ref q_13, .null, .null, .null, .null, .int 0, .null, .null, .null, .int 0, .long 0, .long 0, .int 0])), (q_1, .inl (cy 2, 40, .inr (.inl (fun _ => 0)))), (q_4, .inl (cy 3, 1025, .inl (fun _ => 0))), (q_7, .inl (cy 3, 1025, .inl (fun _ => 0))), (q_10, .inl (cy 3, 41000, .inl (fun _ => 0))), (q_13, .inl (cy 2, 41000, .inr (.inl (fun _ => 0)))), (q_16, .inl (cy 3, 41000, .inl (fun _ => 0)))] H_17 := hP2
  replace hD : va_D A [(h0, .inr (13, [.null, .int 0, .int 0, .ref q_1, .int 0, .int 0, .ref q_4, .ref q_7, .ref q_10, .ref q_13, .null, .null, .null, .null, .int 0, .null, .null, .null, .int 0, .long 0, .long 0, .int 0])), (q_1, .inl (cy 2, 40, .inr (.inl (fun _ => 0)))), (q_4, .inl (cy 3, 1025, .inl (fun _ => 0))), (q_7, .inl (cy 3, 1025, .inl (fun _ => 0))), (q_10, .inl (cy 3, 41000, .inl (fun _ => 0))), (q_13, .inl (cy 2, 41000, .inr (.inl (fun _ => 0)))), (q_16, .inl (cy 3, 41000, .inl (fun _ => 0)))] := hD2
  replace hS := hS2
  clear hP2 hD2 hS2
  refine W.widen (k := 6) (n := 125090) (Nat.le_of_ble_eq_true rfl) (Nat.le_of_ble_eq_true rfl) ?_
  refine va_putF (D := (dC, dI)) (ci := 13) (v := .ref q_16) (ty := .array .boolean) (C := RX13) (T := TX13) (N := 22) hx hb hts iw_X13_init_X13 tyX13 tyX13_ok nmX13 hown hK hP hD hS 0 rfl rfl 10 (by decide) (hts _ m_X13_init_12) (fun _ h9 => h9) rfl hin rfl (by decide +kernel) rfl rfl (Nat.le_of_ble_eq_true rfl) dX13_init_51 (fun H_18 locs hP2 hD2 hS2 => ?_)
  replace hP : va_P (dC, dI) vwCl [(h0, .inr (13, [.null, .int 0, .int 0, .ref q_1, .int 0, .int 0, .ref q_4, .ref q_7, .ref q_10, .ref q_13, .ref q_16, .null, .null, .null, .int 0, .null, .null, .null, .int 0, .long 0, .long 0, .int 0])), (q_1, .inl (cy 2, 40, .inr (.inl (fun _ => 0)))), (q_4, .inl (cy 3, 1025, .inl (fun _ => 0))), (q_7, .inl (cy 3, 1025, .inl (fun _ => 0))), (q_10, .inl (cy 3, 41000, .inl (fun _ => 0))), (q_13, .inl (cy 2, 41000, .inr (.inl (fun _ => 0)))), (q_16, .inl (cy 3, 41000, .inl (fun _ => 0)))] H_18 := hP2
  replace hD : va_D A [(h0, .inr (13, [.null, .int 0, .int 0, .ref q_1, .int 0, .int 0, .ref q_4, .ref q_7, .ref q_10, .ref q_13, .ref q_16, .null, .null, .null, .int 0, .null, .null, .null, .int 0, .long 0, .long 0, .int 0])), (q_1, .inl (cy 2, 40, .inr (.inl (fun _ => 0)))), (q_4, .inl (cy 3, 1025, .inl (fun _ => 0))), (q_7, .inl (cy 3, 1025, .inl (fun _ => 0))), (q_10, .inl (cy 3, 41000, .inl (fun _ => 0))), (q_13, .inl (cy 2, 41000, .inr (.inl (fun _ => 0)))), (q_16, .inl (cy 3, 41000, .inl (fun _ => 0)))] := hD2
  replace hS := hS2
  clear hP2 hD2 hS2
  refine lv_aload_n hx hb dX13_init_54 rfl (lv_at hl 0 rfl) ?_
  refine lv_sipush (v := 200) hx hb dX13_init_55 (by decide) ?_
  refine rl_newa (atype := .long) (ty := .long) (a0 := (200, .inr (.inl (fun _ => 0)))) hx hb (hts _ m_X13_init_4) rfl hK hP hD hS hA 2 rfl (fun _ => rfl) (by decide) (by decide) (Nat.le_of_ble_eq_true rfl) (Nat.le_of_ble_eq_true rfl) (Nat.le_of_ble_eq_true rfl) dX13_init_58 (fun q_19 H_20 hP2 hD2 hS2 => ?_)
  replace hP : va_P (dC, dI) vwCl [(h0, .inr (13, [.null, .int 0, .int 0, .ref q_1, .int 0, .int 0, .ref q_4, .ref q_7, .ref q_10, .ref q_13, .ref q_16, .null, .null, .null, .int 0, .null, .null, .null, .int 0, .long 0, .long 0, .int 0])), (q_1, .inl (cy 2, 40, .inr (.inl (fun _ => 0)))), (q_4, .inl (cy 3, 1025, .inl (fun _ => 0))), (q_7, .inl (cy 3, 1025, .inl (fun _ => 0))), (q_10, .inl (cy 3, 41000, .inl (fun _ => 0))), (q_13, .inl (cy 2, 41000, .inr (.inl (fun _ => 0)))), (q_16, .inl (cy 3, 41000, .inl (fun _ => 0))), (q_19, .inl (cy 2, 200, .inr (.inl (fun _ => 0))))] H_20 := hP2
  replace hD : va_D A [(h0, .inr (13, [.null, .int 0, .int 0, .ref q_1, .int 0, .int 0, .ref q_4, .ref q_7, .ref q_10, .ref q_13, .ref q_16, .null, .null, .null, .int 0, .null, .null, .null, .int 0, .long 0, .long 0, .int 0])), (q_1, .inl (cy 2, 40, .inr (.inl (fun _ => 0)))), (q_4, .inl (cy 3, 1025, .inl (fun _ => 0))), (q_7, .inl (cy 3, 1025, .inl (fun _ => 0))), (q_10, .inl (cy 3, 41000, .inl (fun _ => 0))), (q_13, .inl (cy 2, 41000, .inr (.inl (fun _ => 0)))), (q_16, .inl (cy 3, 41000, .inl (fun _ => 0))), (q_19, .inl (cy 2, 200, .inr (.inl (fun _ => 0))))] := hD2
  replace hS := hS2
  clear hP2 hD2 hS2
  refine W.widen (k := 7) (n := 125290) (Nat.le_of_ble_eq_true rfl) (Nat.le_of_ble_eq_true rfl) ?_
  refine va_putF (D := (dC, dI)) (ci := 13) (v := .ref q_19) (ty := .array .long) (C := RX13) (T := TX13) (N := 22) hx hb hts iw_X13_init_X13 tyX13 tyX13_ok nmX13 hown hK hP hD hS 0 rfl rfl 11 (by decide) (hts _ m_X13_init_13) (fun _ h9 => h9) rfl hin rfl (by decide +kernel) rfl rfl (Nat.le_of_ble_eq_true rfl) dX13_init_60 (fun H_21 locs hP2 hD2 hS2 => ?_)
  replace hP : va_P (dC, dI) vwCl [(h0, .inr (13, [.null, .int 0, .int 0, .ref q_1, .int 0, .int 0, .ref q_4, .ref q_7, .ref q_10, .ref q_13, .ref q_16, .ref q_19, .null, .null, .int 0, .null, .null, .null, .int 0, .long 0, .long 0, .int 0])), (q_1, .inl (cy 2, 40, .inr (.inl (fun _ => 0)))), (q_4, .inl (cy 3, 1025, .inl (fun _ => 0))), (q_7, .inl (cy 3, 1025, .inl (fun _ => 0))), (q_10, .inl (cy 3, 41000, .inl (fun _ => 0))), (q_13, .inl (cy 2, 41000, .inr (.inl (fun _ => 0)))), (q_16, .inl (cy 3, 41000, .inl (fun _ => 0))), (q_19, .inl (cy 2, 200, .inr (.inl (fun _ => 0))))] H_21 := hP2
  replace hD : va_D A [(h0, .inr (13, [.null, .int 0, .int 0, .ref q_1, .int 0, .int 0, .ref q_4, .ref q_7, .ref q_10, .ref q_13, .ref q_16, .ref q_19, .null, .null, .int 0, .null, .null, .null, .int 0, .long 0, .long 0, .int 0])), (q_1, .inl (cy 2, 40, .inr (.inl (fun _ => 0)))), (q_4, .inl (cy 3, 1025, .inl (fun _ => 0))), (q_7, .inl (cy 3, 1025, .inl (fun _ => 0))), (q_10, .inl (cy 3, 41000, .inl (fun _ => 0))), (q_13, .inl (cy 2, 41000, .inr (.inl (fun _ => 0)))), (q_16, .inl (cy 3, 41000, .inl (fun _ => 0))), (q_19, .inl (cy 2, 200, .inr (.inl (fun _ => 0))))] := hD2
  replace hS := hS2
  clear hP2 hD2 hS2
  refine lv_aload_n hx hb dX13_init_63 rfl (lv_at hl 0 rfl) ?_
  refine lv_sipush (v := 200) hx hb dX13_init_64 (by decide) ?_
  refine rl_newa (atype := .long) (ty := .long) (a0 := (200, .inr (.inl (fun _ => 0)))) hx hb (hts _ m_X13_init_4) rfl hK hP hD hS hA 2 rfl (fun _ => rfl) (by decide) (by decide) (Nat.le_of_ble_eq_true rfl) (Nat.le_of_ble_eq_true rfl) (Nat.le_of_ble_eq_true rfl) dX13_init_67 (fun q_22 H_23 hP2 hD2 hS2 => ?_)
  replace hP : va_P (dC, dI) vwCl [(h0, .inr (13, [.null, .int 0, .int 0, .ref q_1, .int 0, .int 0, .ref q_4, .ref q_7, .ref q_10, .ref q_13, .ref q_16, .ref q_19, .null, .null, .int 0, .null, .null, .null, .int 0, .long 0, .long 0, .int 0])), (q_1, .inl (cy 2, 40, .inr (.inl (fun _ => 0)))), (q_4, .inl (cy 3, 1025, .inl (fun _ => 0))), (q_7, .inl (cy 3, 1025, .inl (fun _ => 0))), (q_10, .inl (cy 3, 41000, .inl (fun _ => 0))), (q_13, .inl (cy 2, 41000, .inr (.inl (fun _ => 0)))), (q_16, .inl (cy 3, 41000, .inl (fun _ => 0))), (q_19, .inl (cy 2, 200, .inr (.inl (fun _ => 0)))), (q_22, .inl (cy 2, 200, .inr (.inl (fun _ => 0))))] H_23 := hP2
  replace hD : va_D A [(h0, .inr (13, [.null, .int 0, .int 0, .ref q_1, .int 0, .int 0, .ref q_4, .ref q_7, .ref q_10, .ref q_13, .ref q_16, .ref q_19, .null, .null, .int 0, .null, .null, .null, .int 0, .long 0, .long 0, .int 0])), (q_1, .inl (cy 2, 40, .inr (.inl (fun _ => 0)))), (q_4, .inl (cy 3, 1025, .inl (fun _ => 0))), (q_7, .inl (cy 3, 1025, .inl (fun _ => 0))), (q_10, .inl (cy 3, 41000, .inl (fun _ => 0))), (q_13, .inl (cy 2, 41000, .inr (.inl (fun _ => 0)))), (q_16, .inl (cy 3, 41000, .inl (fun _ => 0))), (q_19, .inl (cy 2, 200, .inr (.inl (fun _ => 0)))), (q_22, .inl (cy 2, 200, .inr (.inl (fun _ => 0))))] := hD2
  replace hS := hS2
  clear hP2 hD2 hS2
  refine W.widen (k := 8) (n := 125490) (Nat.le_of_ble_eq_true rfl) (Nat.le_of_ble_eq_true rfl) ?_
  refine va_putF (D := (dC, dI)) (ci := 13) (v := .ref q_22) (ty := .array .long) (C := RX13) (T := TX13) (N := 22) hx hb hts iw_X13_init_X13 tyX13 tyX13_ok nmX13 hown hK hP hD hS 0 rfl rfl 12 (by decide) (hts _ m_X13_init_14) (fun _ h9 => h9) rfl hin rfl (by decide +kernel) rfl rfl (Nat.le_of_ble_eq_true rfl) dX13_init_69 (fun H_24 locs hP2 hD2 hS2 => ?_)
  replace hP : va_P (dC, dI) vwCl [(h0, .inr (13, [.null, .int 0, .int 0, .ref q_1, .int 0, .int 0, .ref q_4, .ref q_7, .ref q_10, .ref q_13, .ref q_16, .ref q_19, .ref q_22, .null, .int 0, .null, .null, .null, .int 0, .long 0, .long 0, .int 0])), (q_1, .inl (cy 2, 40, .inr (.inl (fun _ => 0)))), (q_4, .inl (cy 3, 1025, .inl (fun _ => 0))), (q_7, .inl (cy 3, 1025, .inl (fun _ => 0))), (q_10, .inl (cy 3, 41000, .inl (fun _ => 0))), (q_13, .inl (cy 2, 41000, .inr (.inl (fun _ => 0)))), (q_16, .inl (cy 3, 41000, .inl (fun _ => 0))), (q_19, .inl (cy 2, 200, .inr (.inl (fun _ => 0)))), (q_22, .inl (cy 2, 200, .inr (.inl (fun _ => 0))))] H_24 := hP2
  replace hD : va_D A [(h0, .inr (13, [.null, .int 0, .int 0, .ref q_1, .int 0, .int 0, .ref q_4, .ref q_7, .ref q_10, .ref q_13, .ref q_16, .ref q_19, .ref q_22, .null, .int 0, .null, .null, .null, .int 0, .long 0, .long 0, .int 0])), (q_1, .inl (cy 2, 40, .inr (.inl (fun _ => 0)))), (q_4, .inl (cy 3, 1025, .inl (fun _ => 0))), (q_7, .inl (cy 3, 1025, .inl (fun _ => 0))), (q_10, .inl (cy 3, 41000, .inl (fun _ => 0))), (q_13, .inl (cy 2, 41000, .inr (.inl (fun _ => 0)))), (q_16, .inl (cy 3, 41000, .inl (fun _ => 0))), (q_19, .inl (cy 2, 200, .inr (.inl (fun _ => 0)))), (q_22, .inl (cy 2, 200, .inr (.inl (fun _ => 0))))] := hD2
  replace hS := hS2
  clear hP2 hD2 hS2
  refine lv_aload_n hx hb dX13_init_72 rfl (lv_at hl 0 rfl) ?_
  refine lv_sipush (v := 200) hx hb dX13_init_73 (by decide) ?_
  refine rl_newa (atype := .boolean) (ty := .boolean) (a0 := (200, .inl (fun _ => 0))) hx hb (hts _ m_X13_init_6) rfl hK hP hD hS hA 3 rfl (fun _ => rfl) (by decide) (by decide) (Nat.le_of_ble_eq_true rfl) (Nat.le_of_ble_eq_true rfl) (Nat.le_of_ble_eq_true rfl) dX13_init_76 (fun q_25 H_26 hP2 hD2 hS2 => ?_)
  replace hP : va_P (dC, dI) vwCl [(h0, .inr (13, [.null, .int 0, .int 0, .ref q_1, .int 0, .int 0, .ref q_4, .ref q_7, .ref q_10, .ref q_13, .ref q_16, .ref q_19, .ref q_22, .null, .int 0, .null, .null, .null, .int 0, .long 0, .long 0, .int 0])), (q_1, .inl (cy 2, 40, .inr (.inl (fun _ => 0)))), (q_4, .inl (cy 3, 1025, .inl (fun _ => 0))), (q_7, .inl (cy 3, 1025, .inl (fun _ => 0))), (q_10, .inl (cy 3, 41000, .inl (fun _ => 0))), (q_13, .inl (cy 2, 41000, .inr (.inl (fun _ => 0)))), (q_16, .inl (cy 3, 41000, .inl (fun _ => 0))), (q_19, .inl (cy 2, 200, .inr (.inl (fun _ => 0)))), (q_22, .inl (cy 2, 200, .inr (.inl (fun _ => 0)))), (q_25, .inl (cy 3, 200, .inl (fun _ => 0)))] H_26 := hP2
  replace hD : va_D A [(h0, .inr (13, [.null, .int 0, .int 0, .ref q_1, .int 0, .int 0, .ref q_4, .ref q_7, .ref q_10, .ref q_13, .ref q_16, .ref q_19, .ref q_22, .null, .int 0, .null, .null, .null, .int 0, .long 0, .long 0, .int 0])), (q_1, .inl (cy 2, 40, .inr (.inl (fun _ => 0)))), (q_4, .inl (cy 3, 1025, .inl (fun _ => 0))), (q_7, .inl (cy 3, 1025, .inl (fun _ => 0))), (q_10, .inl (cy 3, 41000, .inl (fun _ => 0))), (q_13, .inl (cy 2, 41000, .inr (.inl (fun _ => 0)))), (q_16, .inl (cy 3, 41000, .inl (fun _ => 0))), (q_19, .inl (cy 2, 200, .inr (.inl (fun _ => 0)))), (q_22, .inl (cy 2, 200, .inr (.inl (fun _ => 0)))), (q_25, .inl (cy 3, 200, .inl (fun _ => 0)))] := hD2
  replace hS := hS2
  clear hP2 hD2 hS2
  refine W.widen (k := 9) (n := 125690) (Nat.le_of_ble_eq_true rfl) (Nat.le_of_ble_eq_true rfl) ?_
  refine va_putF (D := (dC, dI)) (ci := 13) (v := .ref q_25) (ty := .array .boolean) (C := RX13) (T := TX13) (N := 22) hx hb hts iw_X13_init_X13 tyX13 tyX13_ok nmX13 hown hK hP hD hS 0 rfl rfl 13 (by decide) (hts _ m_X13_init_15) (fun _ h9 => h9) rfl hin rfl (by decide +kernel) rfl rfl (Nat.le_of_ble_eq_true rfl) dX13_init_78 (fun H_27 locs hP2 hD2 hS2 => ?_)
  replace hP : va_P (dC, dI) vwCl [(h0, .inr (13, [.null, .int 0, .int 0, .ref q_1, .int 0, .int 0, .ref q_4, .ref q_7, .ref q_10, .ref q_13, .ref q_16, .ref q_19, .ref q_22, .ref q_25, .int 0, .null, .null, .null, .int 0, .long 0, .long 0, .int 0])), (q_1, .inl (cy 2, 40, .inr (.inl (fun _ => 0)))), (q_4, .inl (cy 3, 1025, .inl (fun _ => 0))), (q_7, .inl (cy 3, 1025, .inl (fun _ => 0))), (q_10, .inl (cy 3, 41000, .inl (fun _ => 0))), (q_13, .inl (cy 2, 41000, .inr (.inl (fun _ => 0)))), (q_16, .inl (cy 3, 41000, .inl (fun _ => 0))), (q_19, .inl (cy 2, 200, .inr (.inl (fun _ => 0)))), (q_22, .inl (cy 2, 200, .inr (.inl (fun _ => 0)))), (q_25, .inl (cy 3, 200, .inl (fun _ => 0)))] H_27 := hP2
  replace hD : va_D A [(h0, .inr (13, [.null, .int 0, .int 0, .ref q_1, .int 0, .int 0, .ref q_4, .ref q_7, .ref q_10, .ref q_13, .ref q_16, .ref q_19, .ref q_22, .ref q_25, .int 0, .null, .null, .null, .int 0, .long 0, .long 0, .int 0])), (q_1, .inl (cy 2, 40, .inr (.inl (fun _ => 0)))), (q_4, .inl (cy 3, 1025, .inl (fun _ => 0))), (q_7, .inl (cy 3, 1025, .inl (fun _ => 0))), (q_10, .inl (cy 3, 41000, .inl (fun _ => 0))), (q_13, .inl (cy 2, 41000, .inr (.inl (fun _ => 0)))), (q_16, .inl (cy 3, 41000, .inl (fun _ => 0))), (q_19, .inl (cy 2, 200, .inr (.inl (fun _ => 0)))), (q_22, .inl (cy 2, 200, .inr (.inl (fun _ => 0)))), (q_25, .inl (cy 3, 200, .inl (fun _ => 0)))] := hD2
  replace hS := hS2
  clear hP2 hD2 hS2
  refine lv_aload_n hx hb dX13_init_81 rfl (lv_at hl 0 rfl) ?_
  refine lv_bipush (v := 40) hx hb dX13_init_82 (by decide) ?_
  refine rl_newa (atype := .boolean) (ty := .boolean) (a0 := (40, .inl (fun _ => 0))) hx hb (hts _ m_X13_init_6) rfl hK hP hD hS hA 3 rfl (fun _ => rfl) (by decide) (by decide) (Nat.le_of_ble_eq_true rfl) (Nat.le_of_ble_eq_true rfl) (Nat.le_of_ble_eq_true rfl) dX13_init_84 (fun q_28 H_29 hP2 hD2 hS2 => ?_)
  replace hP : va_P (dC, dI) vwCl [(h0, .inr (13, [.null, .int 0, .int 0, .ref q_1, .int 0, .int 0, .ref q_4, .ref q_7, .ref q_10, .ref q_13, .ref q_16, .ref q_19, .ref q_22, .ref q_25, .int 0, .null, .null, .null, .int 0, .long 0, .long 0, .int 0])), (q_1, .inl (cy 2, 40, .inr (.inl (fun _ => 0)))), (q_4, .inl (cy 3, 1025, .inl (fun _ => 0))), (q_7, .inl (cy 3, 1025, .inl (fun _ => 0))), (q_10, .inl (cy 3, 41000, .inl (fun _ => 0))), (q_13, .inl (cy 2, 41000, .inr (.inl (fun _ => 0)))), (q_16, .inl (cy 3, 41000, .inl (fun _ => 0))), (q_19, .inl (cy 2, 200, .inr (.inl (fun _ => 0)))), (q_22, .inl (cy 2, 200, .inr (.inl (fun _ => 0)))), (q_25, .inl (cy 3, 200, .inl (fun _ => 0))), (q_28, .inl (cy 3, 40, .inl (fun _ => 0)))] H_29 := hP2
  replace hD : va_D A [(h0, .inr (13, [.null, .int 0, .int 0, .ref q_1, .int 0, .int 0, .ref q_4, .ref q_7, .ref q_10, .ref q_13, .ref q_16, .ref q_19, .ref q_22, .ref q_25, .int 0, .null, .null, .null, .int 0, .long 0, .long 0, .int 0])), (q_1, .inl (cy 2, 40, .inr (.inl (fun _ => 0)))), (q_4, .inl (cy 3, 1025, .inl (fun _ => 0))), (q_7, .inl (cy 3, 1025, .inl (fun _ => 0))), (q_10, .inl (cy 3, 41000, .inl (fun _ => 0))), (q_13, .inl (cy 2, 41000, .inr (.inl (fun _ => 0)))), (q_16, .inl (cy 3, 41000, .inl (fun _ => 0))), (q_19, .inl (cy 2, 200, .inr (.inl (fun _ => 0)))), (q_22, .inl (cy 2, 200, .inr (.inl (fun _ => 0)))), (q_25, .inl (cy 3, 200, .inl (fun _ => 0))), (q_28, .inl (cy 3, 40, .inl (fun _ => 0)))] := hD2
  replace hS := hS2
  clear hP2 hD2 hS2
  refine W.widen (k := 10) (n := 125730) (Nat.le_of_ble_eq_true rfl) (Nat.le_of_ble_eq_true rfl) ?_
  refine va_putF (D := (dC, dI)) (ci := 13) (v := .ref q_28) (ty := .array .boolean) (C := RX13) (T := TX13) (N := 22) hx hb hts iw_X13_init_X13 tyX13 tyX13_ok nmX13 hown hK hP hD hS 0 rfl rfl 15 (by decide) (hts _ m_X13_init_16) (fun _ h9 => h9) rfl hin rfl (by decide +kernel) rfl rfl (Nat.le_of_ble_eq_true rfl) dX13_init_86 (fun H_30 locs hP2 hD2 hS2 => ?_)
  replace hP : va_P (dC, dI) vwCl [(h0, .inr (13, [.null, .int 0, .int 0, .ref q_1, .int 0, .int 0, .ref q_4, .ref q_7, .ref q_10, .ref q_13, .ref q_16, .ref q_19, .ref q_22, .ref q_25, .int 0, .ref q_28, .null, .null, .int 0, .long 0, .long 0, .int 0])), (q_1, .inl (cy 2, 40, .inr (.inl (fun _ => 0)))), (q_4, .inl (cy 3, 1025, .inl (fun _ => 0))), (q_7, .inl (cy 3, 1025, .inl (fun _ => 0))), (q_10, .inl (cy 3, 41000, .inl (fun _ => 0))), (q_13, .inl (cy 2, 41000, .inr (.inl (fun _ => 0)))), (q_16, .inl (cy 3, 41000, .inl (fun _ => 0))), (q_19, .inl (cy 2, 200, .inr (.inl (fun _ => 0)))), (q_22, .inl (cy 2, 200, .inr (.inl (fun _ => 0)))), (q_25, .inl (cy 3, 200, .inl (fun _ => 0))), (q_28, .inl (cy 3, 40, .inl (fun _ => 0)))] H_30 := hP2
  replace hD : va_D A [(h0, .inr (13, [.null, .int 0, .int 0, .ref q_1, .int 0, .int 0, .ref q_4, .ref q_7, .ref q_10, .ref q_13, .ref q_16, .ref q_19, .ref q_22, .ref q_25, .int 0, .ref q_28, .null, .null, .int 0, .long 0, .long 0, .int 0])), (q_1, .inl (cy 2, 40, .inr (.inl (fun _ => 0)))), (q_4, .inl (cy 3, 1025, .inl (fun _ => 0))), (q_7, .inl (cy 3, 1025, .inl (fun _ => 0))), (q_10, .inl (cy 3, 41000, .inl (fun _ => 0))), (q_13, .inl (cy 2, 41000, .inr (.inl (fun _ => 0)))), (q_16, .inl (cy 3, 41000, .inl (fun _ => 0))), (q_19, .inl (cy 2, 200, .inr (.inl (fun _ => 0)))), (q_22, .inl (cy 2, 200, .inr (.inl (fun _ => 0)))), (q_25, .inl (cy 3, 200, .inl (fun _ => 0))), (q_28, .inl (cy 3, 40, .inl (fun _ => 0)))] := hD2
  replace hS := hS2
  clear hP2 hD2 hS2
  refine lv_aload_n hx hb dX13_init_89 rfl (lv_at hl 0 rfl) ?_
  refine lv_bipush (v := 40) hx hb dX13_init_90 (by decide) ?_
  refine rl_newa (atype := .long) (ty := .long) (a0 := (40, .inr (.inl (fun _ => 0)))) hx hb (hts _ m_X13_init_4) rfl hK hP hD hS hA 2 rfl (fun _ => rfl) (by decide) (by decide) (Nat.le_of_ble_eq_true rfl) (Nat.le_of_ble_eq_true rfl) (Nat.le_of_ble_eq_true rfl) dX13_init_92 (fun q_31 H_32 hP2 hD2 hS2 => ?_)
  replace hP : va_P (dC, dI) vwCl [(h0, .inr (13, [.null, .int 0, .int 0, .ref q_1, .int 0, .int 0, .ref q_4, .ref q_7, .ref q_10, .ref q_13, .ref q_16, .ref q_19, .ref q_22, .ref q_25, .int 0, .ref q_28, .null, .null, .int 0, .long 0, .long 0, .int 0])), (q_1, .inl (cy 2, 40, .inr (.inl (fun _ => 0)))), (q_4, .inl (cy 3, 1025, .inl (fun _ => 0))), (q_7, .inl (cy 3, 1025, .inl (fun _ => 0))), (q_10, .inl (cy 3, 41000, .inl (fun _ => 0))), (q_13, .inl (cy 2, 41000, .inr (.inl (fun _ => 0)))), (q_16, .inl (cy 3, 41000, .inl (fun _ => 0))), (q_19, .inl (cy 2, 200, .inr (.inl (fun _ => 0)))), (q_22, .inl (cy 2, 200, .inr (.inl (fun _ => 0)))), (q_25, .inl (cy 3, 200, .inl (fun _ => 0))), (q_28, .inl (cy 3, 40, .inl (fun _ => 0))), (q_31, .inl (cy 2, 40, .inr (.inl (fun _ => 0))))] H_32 := hP2
  replace hD : va_D A [(h0, .inr (13, [.null, .int 0, .int 0, .ref q_1, .int 0, .int 0, .ref q_4, .ref q_7, .ref q_10, .ref q_13, .ref q_16, .ref q_19, .ref q_22, .ref q_25, .int 0, .ref q_28, .null, .null, .int 0, .long 0, .long 0, .int 0])), (q_1, .inl (cy 2, 40, .inr (.inl (fun _ => 0)))), (q_4, .inl (cy 3, 1025, .inl (fun _ => 0))), (q_7, .inl (cy 3, 1025, .inl (fun _ => 0))), (q_10, .inl (cy 3, 41000, .inl (fun _ => 0))), (q_13, .inl (cy 2, 41000, .inr (.inl (fun _ => 0)))), (q_16, .inl (cy 3, 41000, .inl (fun _ => 0))), (q_19, .inl (cy 2, 200, .inr (.inl (fun _ => 0)))), (q_22, .inl (cy 2, 200, .inr (.inl (fun _ => 0)))), (q_25, .inl (cy 3, 200, .inl (fun _ => 0))), (q_28, .inl (cy 3, 40, .inl (fun _ => 0))), (q_31, .inl (cy 2, 40, .inr (.inl (fun _ => 0))))] := hD2
  replace hS := hS2
  clear hP2 hD2 hS2
  refine W.widen (k := 11) (n := 125770) (Nat.le_of_ble_eq_true rfl) (Nat.le_of_ble_eq_true rfl) ?_
  refine va_putF (D := (dC, dI)) (ci := 13) (v := .ref q_31) (ty := .array .long) (C := RX13) (T := TX13) (N := 22) hx hb hts iw_X13_init_X13 tyX13 tyX13_ok nmX13 hown hK hP hD hS 0 rfl rfl 16 (by decide) (hts _ m_X13_init_17) (fun _ h9 => h9) rfl hin rfl (by decide +kernel) rfl rfl (Nat.le_of_ble_eq_true rfl) dX13_init_94 (fun H_33 locs hP2 hD2 hS2 => ?_)
  replace hP : va_P (dC, dI) vwCl [(h0, .inr (13, [.null, .int 0, .int 0, .ref q_1, .int 0, .int 0, .ref q_4, .ref q_7, .ref q_10, .ref q_13, .ref q_16, .ref q_19, .ref q_22, .ref q_25, .int 0, .ref q_28, .ref q_31, .null, .int 0, .long 0, .long 0, .int 0])), (q_1, .inl (cy 2, 40, .inr (.inl (fun _ => 0)))), (q_4, .inl (cy 3, 1025, .inl (fun _ => 0))), (q_7, .inl (cy 3, 1025, .inl (fun _ => 0))), (q_10, .inl (cy 3, 41000, .inl (fun _ => 0))), (q_13, .inl (cy 2, 41000, .inr (.inl (fun _ => 0)))), (q_16, .inl (cy 3, 41000, .inl (fun _ => 0))), (q_19, .inl (cy 2, 200, .inr (.inl (fun _ => 0)))), (q_22, .inl (cy 2, 200, .inr (.inl (fun _ => 0)))), (q_25, .inl (cy 3, 200, .inl (fun _ => 0))), (q_28, .inl (cy 3, 40, .inl (fun _ => 0))), (q_31, .inl (cy 2, 40, .inr (.inl (fun _ => 0))))] H_33 := hP2
  replace hD : va_D A [(h0, .inr (13, [.null, .int 0, .int 0, .ref q_1, .int 0, .int 0, .ref q_4, .ref q_7, .ref q_10, .ref q_13, .ref q_16, .ref q_19, .ref q_22, .ref q_25, .int 0, .ref q_28, .ref q_31, .null, .int 0, .long 0, .long 0, .int 0])), (q_1, .inl (cy 2, 40, .inr (.inl (fun _ => 0)))), (q_4, .inl (cy 3, 1025, .inl (fun _ => 0))), (q_7, .inl (cy 3, 1025, .inl (fun _ => 0))), (q_10, .inl (cy 3, 41000, .inl (fun _ => 0))), (q_13, .inl (cy 2, 41000, .inr (.inl (fun _ => 0)))), (q_16, .inl (cy 3, 41000, .inl (fun _ => 0))), (q_19, .inl (cy 2, 200, .inr (.inl (fun _ => 0)))), (q_22, .inl (cy 2, 200, .inr (.inl (fun _ => 0)))), (q_25, .inl (cy 3, 200, .inl (fun _ => 0))), (q_28, .inl (cy 3, 40, .inl (fun _ => 0))), (q_31, .inl (cy 2, 40, .inr (.inl (fun _ => 0))))] := hD2
  replace hS := hS2
  clear hP2 hD2 hS2
  refine lv_aload_n hx hb dX13_init_97 rfl (lv_at hl 0 rfl) ?_
  refine lv_bipush (v := 40) hx hb dX13_init_98 (by decide) ?_
  refine rl_newa (atype := .boolean) (ty := .boolean) (a0 := (40, .inl (fun _ => 0))) hx hb (hts _ m_X13_init_6) rfl hK hP hD hS hA 3 rfl (fun _ => rfl) (by decide) (by decide) (Nat.le_of_ble_eq_true rfl) (Nat.le_of_ble_eq_true rfl) (Nat.le_of_ble_eq_true rfl) dX13_init_100 (fun q_34 H_35 hP2 hD2 hS2 => ?_)
  replace hP : va_P (dC, dI) vwCl [(h0, .inr (13, [.null, .int 0, .int 0, .ref q_1, .int 0, .int 0, .ref q_4, .ref q_7, .ref q_10, .ref q_13, .ref q_16, .ref q_19, .ref q_22, .ref q_25, .int 0, .ref q_28, .ref q_31, .null, .int 0, .long 0, .long 0, .int 0])), (q_1, .inl (cy 2, 40, .inr (.inl (fun _ => 0)))), (q_4, .inl (cy 3, 1025, .inl (fun _ => 0))), (q_7, .inl (cy 3, 1025, .inl (fun _ => 0))), (q_10, .inl (cy 3, 41000, .inl (fun _ => 0))), (q_13, .inl (cy 2, 41000, .inr (.inl (fun _ => 0)))), (q_16, .inl (cy 3, 41000, .inl (fun _ => 0))), (q_19, .inl (cy 2, 200, .inr (.inl (fun _ => 0)))), (q_22, .inl (cy 2, 200, .inr (.inl (fun _ => 0)))), (q_25, .inl (cy 3, 200, .inl (fun _ => 0))), (q_28, .inl (cy 3, 40, .inl (fun _ => 0))), (q_31, .inl (cy 2, 40, .inr (.inl (fun _ => 0)))), (q_34, .inl (cy 3, 40, .inl (fun _ => 0)))] H_35 := hP2
  replace hD : va_D A [(h0, .inr (13, [.null, .int 0, .int 0, .ref q_1, .int 0, .int 0, .ref q_4, .ref q_7, .ref q_10, .ref q_13, .ref q_16, .ref q_19, .ref q_22, .ref q_25, .int 0, .ref q_28, .ref q_31, .null, .int 0, .long 0, .long 0, .int 0])), (q_1, .inl (cy 2, 40, .inr (.inl (fun _ => 0)))), (q_4, .inl (cy 3, 1025, .inl (fun _ => 0))), (q_7, .inl (cy 3, 1025, .inl (fun _ => 0))), (q_10, .inl (cy 3, 41000, .inl (fun _ => 0))), (q_13, .inl (cy 2, 41000, .inr (.inl (fun _ => 0)))), (q_16, .inl (cy 3, 41000, .inl (fun _ => 0))), (q_19, .inl (cy 2, 200, .inr (.inl (fun _ => 0)))), (q_22, .inl (cy 2, 200, .inr (.inl (fun _ => 0)))), (q_25, .inl (cy 3, 200, .inl (fun _ => 0))), (q_28, .inl (cy 3, 40, .inl (fun _ => 0))), (q_31, .inl (cy 2, 40, .inr (.inl (fun _ => 0)))), (q_34, .inl (cy 3, 40, .inl (fun _ => 0)))] := hD2
  replace hS := hS2
  clear hP2 hD2 hS2
  refine W.widen (k := 12) (n := 125810) (Nat.le_of_ble_eq_true rfl) (Nat.le_of_ble_eq_true rfl) ?_
  refine va_putF (D := (dC, dI)) (ci := 13) (v := .ref q_34) (ty := .array .boolean) (C := RX13) (T := TX13) (N := 22) hx hb hts iw_X13_init_X13 tyX13 tyX13_ok nmX13 hown hK hP hD hS 0 rfl rfl 17 (by decide) (hts _ m_X13_init_18) (fun _ h9 => h9) rfl hin rfl (by decide +kernel) rfl rfl (Nat.le_of_ble_eq_true rfl) dX13_init_102 (fun H_36 locs hP2 hD2 hS2 => ?_)
  replace hP : va_P (dC, dI) vwCl [(h0, .inr (13, [.null, .int 0, .int 0, .ref q_1, .int 0, .int 0, .ref q_4, .ref q_7, .ref q_10, .ref q_13, .ref q_16, .ref q_19, .ref q_22, .ref q_25, .int 0, .ref q_28, .ref q_31, .ref q_34, .int 0, .long 0, .long 0, .int 0])), (q_1, .inl (cy 2, 40, .inr (.inl (fun _ => 0)))), (q_4, .inl (cy 3, 1025, .inl (fun _ => 0))), (q_7, .inl (cy 3, 1025, .inl (fun _ => 0))), (q_10, .inl (cy 3, 41000, .inl (fun _ => 0))), (q_13, .inl (cy 2, 41000, .inr (.inl (fun _ => 0)))), (q_16, .inl (cy 3, 41000, .inl (fun _ => 0))), (q_19, .inl (cy 2, 200, .inr (.inl (fun _ => 0)))), (q_22, .inl (cy 2, 200, .inr (.inl (fun _ => 0)))), (q_25, .inl (cy 3, 200, .inl (fun _ => 0))), (q_28, .inl (cy 3, 40, .inl (fun _ => 0))), (q_31, .inl (cy 2, 40, .inr (.inl (fun _ => 0)))), (q_34, .inl (cy 3, 40, .inl (fun _ => 0)))] H_36 := hP2
  replace hD : va_D A [(h0, .inr (13, [.null, .int 0, .int 0, .ref q_1, .int 0, .int 0, .ref q_4, .ref q_7, .ref q_10, .ref q_13, .ref q_16, .ref q_19, .ref q_22, .ref q_25, .int 0, .ref q_28, .ref q_31, .ref q_34, .int 0, .long 0, .long 0, .int 0])), (q_1, .inl (cy 2, 40, .inr (.inl (fun _ => 0)))), (q_4, .inl (cy 3, 1025, .inl (fun _ => 0))), (q_7, .inl (cy 3, 1025, .inl (fun _ => 0))), (q_10, .inl (cy 3, 41000, .inl (fun _ => 0))), (q_13, .inl (cy 2, 41000, .inr (.inl (fun _ => 0)))), (q_16, .inl (cy 3, 41000, .inl (fun _ => 0))), (q_19, .inl (cy 2, 200, .inr (.inl (fun _ => 0)))), (q_22, .inl (cy 2, 200, .inr (.inl (fun _ => 0)))), (q_25, .inl (cy 3, 200, .inl (fun _ => 0))), (q_28, .inl (cy 3, 40, .inl (fun _ => 0))), (q_31, .inl (cy 2, 40, .inr (.inl (fun _ => 0)))), (q_34, .inl (cy 3, 40, .inl (fun _ => 0)))] := hD2
  replace hS := hS2
  clear hP2 hD2 hS2
  have hP9 := hP.sub (ws' := [(h0, .inr (13, [.null, .int 0, .int 0, .ref q_1, .int 0, .int 0, .ref q_4, .ref q_7, .ref q_10, .ref q_13, .ref q_16, .ref q_19, .ref q_22, .ref q_25, .int 0, .ref q_28, .ref q_31, .ref q_34, .int 0, .long 0, .long 0, .int 0])), (q_1, .inl (cy 2, 40, .inr (.inl (fun _ => 0)))), (q_4, .inl (cy 3, 1025, .inl (fun _ => 0))), (q_7, .inl (cy 3, 1025, .inl (fun _ => 0))), (q_10, .inl (cy 3, 41000, .inl (fun _ => 0))), (q_13, .inl (cy 2, 41000, .inr (.inl (fun _ => 0)))), (q_16, .inl (cy 3, 41000, .inl (fun _ => 0))), (q_19, .inl (cy 2, 200, .inr (.inl (fun _ => 0)))), (q_22, .inl (cy 2, 200, .inr (.inl (fun _ => 0)))), (q_25, .inl (cy 3, 200, .inl (fun _ => 0))), (q_28, .inl (cy 3, 40, .inl (fun _ => 0))), (q_31, .inl (cy 2, 40, .inr (.inl (fun _ => 0)))), (q_34, .inl (cy 3, 40, .inl (fun _ => 0)))]) [0, 1, 2, 3, 4, 5, 6, 7, 8, 9, 10, 11, 12] rfl
  have hD9 := hD.sub (ws' := [(h0, .inr (13, [.null, .int 0, .int 0, .ref q_1, .int 0, .int 0, .ref q_4, .ref q_7, .ref q_10, .ref q_13, .ref q_16, .ref q_19, .ref q_22, .ref q_25, .int 0, .ref q_28, .ref q_31, .ref q_34, .int 0, .long 0, .long 0, .int 0])), (q_1, .inl (cy 2, 40, .inr (.inl (fun _ => 0)))), (q_4, .inl (cy 3, 1025, .inl (fun _ => 0))), (q_7, .inl (cy 3, 1025, .inl (fun _ => 0))), (q_10, .inl (cy 3, 41000, .inl (fun _ => 0))), (q_13, .inl (cy 2, 41000, .inr (.inl (fun _ => 0)))), (q_16, .inl (cy 3, 41000, .inl (fun _ => 0))), (q_19, .inl (cy 2, 200, .inr (.inl (fun _ => 0)))), (q_22, .inl (cy 2, 200, .inr (.inl (fun _ => 0)))), (q_25, .inl (cy 3, 200, .inl (fun _ => 0))), (q_28, .inl (cy 3, 40, .inl (fun _ => 0))), (q_31, .inl (cy 2, 40, .inr (.inl (fun _ => 0)))), (q_34, .inl (cy 3, 40, .inl (fun _ => 0)))]) [0, 1, 2, 3, 4, 5, 6, 7, 8, 9, 10, 11, 12] (by decide +kernel) rfl
  exact W.vret hx hb hr (fun t ht hW => ⟨⟨(q_1, q_4, q_7, q_10, q_13, q_16, q_19, q_22, q_25, q_28, q_31, q_34), rfl, trivial, by rw [ht]; exact hP9, va_K.moved hW.alike hK, hD9⟩, hS.F ht⟩) hS.2.2 dX13_init_105

theorem m_X15_init_1 : (.methodLink RX15 1 objectInit : Cond) ∈ wsX15_init := List.mem_of_getElem? (i := 1) rfl
theorem m_X15_init_2 : (.instanceMethod objectInit : Cond) ∈ wsX15_init := List.mem_of_getElem? (i := 2) rfl
theorem m_X15_init_3 : (.code objectInit ⟨#[0xb1]⟩ 1 none : Cond) ∈ wsX15_init := List.mem_of_getElem? (i := 3) rfl
theorem m_X15_init_4 : (.arrayClass .byte : Cond) ∈ wsX15_init := List.mem_of_getElem? (i := 4) rfl
theorem m_X15_init_5 : (.fieldLink RX15 7 "ResourceLedgerModel$Trees" "kinds" "[B" : Cond) ∈ wsX15_init := List.mem_of_getElem? (i := 5) rfl
theorem iw_X15_init_X15 : ∀ w ∈ wsX150, w ∈ wsX15_init := fun _ h => List.mem_cons_of_mem _ (List.mem_append_right _ h)
theorem m_X15_init_6 : (.arrayClass .long : Cond) ∈ wsX15_init := List.mem_of_getElem? (i := 6) rfl
theorem m_X15_init_7 : (.fieldLink RX15 13 "ResourceLedgerModel$Trees" "highs" "[J" : Cond) ∈ wsX15_init := List.mem_of_getElem? (i := 7) rfl
theorem m_X15_init_8 : (.fieldLink RX15 17 "ResourceLedgerModel$Trees" "lows" "[J" : Cond) ∈ wsX15_init := List.mem_of_getElem? (i := 8) rfl
theorem m_X15_init_9 : (.arrayClass .int : Cond) ∈ wsX15_init := List.mem_of_getElem? (i := 9) rfl
theorem m_X15_init_10 : (.fieldLink RX15 20 "ResourceLedgerModel$Trees" "firsts" "[I" : Cond) ∈ wsX15_init := List.mem_of_getElem? (i := 10) rfl
theorem m_X15_init_11 : (.fieldLink RX15 24 "ResourceLedgerModel$Trees" "nexts" "[I" : Cond) ∈ wsX15_init := List.mem_of_getElem? (i := 11) rfl
set_option maxHeartbeats 4000000 in
set_option maxRecDepth 100000 in
theorem c_X15_init (l : Launch) (dC : Nat → ClassId) (dI : Nat → Nat → Nat) (cy : Nat → ClassId) (sz : Nat) (h0 : Nat) : Met l yX15_init wsX15_init ({ frames := 1, cells := 5, slots := 122880, locals := 12 }) (va_Pc [.ref h0] (fun U => U.heap.size = sz ∧ va_P (dC, dI) vwCl [(h0, .inr (15, [.null, .null, .null, .null, .null, .int 0]))] U.heap ∧ va_K (dC, dI) vwCl (TYS cy) U ∧ va_D (fun _ => True) [(h0, .inr (15, [.null, .null, .null, .null, .null, .int 0]))] ∧ NK U)) (va_Qv (fun u : Nat × Nat × Nat × Nat × Nat => True) (fun u t => match u with | (q0, q1, q2, q3, q4) => va_P (dC, dI) vwCl [(h0, .inr (15, [.ref q0, .ref q1, .ref q2, .ref q3, .ref q4, .int 0])), (q0, .inl (cy 0, 24576, .inl (fun _ => 0))), (q1, .inl (cy 2, 24576, .inr (.inl (fun _ => 0)))), (q2, .inl (cy 2, 24576, .inr (.inl (fun _ => 0)))), (q3, .inl (cy 1, 24576, .inl (fun _ => 0))), (q4, .inl (cy 1, 24576, .inl (fun _ => 0)))] t.heap ∧ va_K (dC, dI) vwCl (TYS cy) t ∧ va_D (va_A [(h0, .inr (15, [.null, .null, .null, .null, .null, .int 0]))] sz) [(h0, .inr (15, [.ref q0, .ref q1, .ref q2, .ref q3, .ref q4, .int 0])), (q0, .inl (cy 0, 24576, .inl (fun _ => 0))), (q1, .inl (cy 2, 24576, .inr (.inl (fun _ => 0)))), (q2, .inl (cy 2, 24576, .inr (.inl (fun _ => 0)))), (q3, .inl (cy 1, 24576, .inl (fun _ => 0))), (q4, .inl (cy 1, 24576, .inl (fun _ => 0)))]) (va_A [(h0, .inr (15, [.null, .null, .null, .null, .null, .int 0]))] sz)) 5 122880 (va_A [(h0, .inr (15, [.null, .null, .null, .null, .null, .int 0]))] sz) := by
  refine Met.ofW (cc := cX15_init) (maxL := 1) (ret := none) (by decide) rfl ?_
  intro p e s m args below meth c s₁ B hml hv
  obtain ⟨rfl, hsz, hP, hK, hD0, hN⟩ := hv
  have hx := B.exec
  have hb := B.bytes
  have hr := B.returns
  have hts := atoms_spec (ws := wsX15_init) B.pre
  have hown : s.vm.findClass RX15 = some m.cls := findClass_of_methodNamed B.named
  have hlocks := B.notSynchronized
  have hin : meth.name = "<init>" := (name_of_methodNamed B.named B.method).1
  subst hsz
  have hD := hD0.self (sz := s.heap.size)
  generalize hAe : va_A [(h0, .inr (15, [.null, .null, .null, .null, .null, .int 0]))] s.heap.size = A at hD ⊢
  have hA : ∀ q : Nat, s.heap.size ≤ q → A q := fun q h => by rw [← hAe]; exact Or.inr h
  have hS : va_S A s.heap s.heap [] := va_S.rf
  have hP : va_P (dC, dI) vwCl [(h0, .inr (15, [.null, .null, .null, .null, .null, .int 0]))] s.heap := hP
  have hl := lv_entry ([.ref h0]) (n := 1) (Nat.le_of_ble_eq_true rfl)
  rw [lg_entry_eq]
  generalize (lg_sl ([.ref h0]) ++ List.replicate (1 - (lg_sl ([.ref h0])).length) Slot.unset).toArray = ls at hl ⊢
  replace hl : lv_has ls 1 [(0, .ref h0)] := hl
  refine lv_aload_n hx hb dX15_init_0 rfl (lv_at hl 0 rfl) ?_
  refine W.objInit hx hb hown (hts _ m_X15_init_1) (hts _ m_X15_init_2) (hts _ m_X15_init_3) rfl (by rw [hml]; exact hl.1) rfl dX15_init_1 (Nat.le_of_ble_eq_true rfl) (Nat.le_of_ble_eq_true rfl) ?_
  refine W.eq (g2 := F0 m 4 ls []) rfl ?_
  refine lv_aload_n hx hb dX15_init_4 rfl (lv_at hl 0 rfl) ?_
  refine lv_sipush (v := 24576) hx hb dX15_init_5 (by decide) ?_
  refine rl_newa (atype := .byte) (ty := .byte) (a0 := (24576, .inl (fun _ => 0))) hx hb (hts _ m_X15_init_4) rfl hK hP hD hS hA 0 rfl (fun _ => rfl) (by decide) (by decide) (Nat.le_of_ble_eq_true rfl) (Nat.le_of_ble_eq_true rfl) (Nat.le_of_ble_eq_true rfl) dX15_init_8 (fun q_1 H_2 hP2 hD2 hS2 => ?_)
  replace hP : va_P (dC, dI) vwCl [(h0, .inr (15, [.null, .null, .null, .null, .null, .int 0])), (q_1, .inl (cy 0, 24576, .inl (fun _ => 0)))] H_2 := hP2
  replace hD : va_D A [(h0, .inr (15, [.null, .null, .null, .null, .null, .int 0])), (q_1, .inl (cy 0, 24576, .inl (fun _ => 0)))] := hD2
  replace hS := hS2
  clear hP2 hD2 hS2
  refine W.widen (k := 1) (n := 24576) (Nat.le_of_ble_eq_true rfl) (Nat.le_of_ble_eq_true rfl) ?_
  refine va_putF (D := (dC, dI)) (ci := 15) (v := .ref q_1) (ty := .array .byte) (C := RX15) (T := TX15) (N := 6) hx hb hts iw_X15_init_X15 tyX15 tyX15_ok nmX15 hown hK hP hD hS 0 rfl rfl 0 (by decide) (hts _ m_X15_init_5) (fun _ h9 => h9) rfl hin rfl (by decide +kernel) rfl rfl (Nat.le_of_ble_eq_true rfl) dX15_init_10 (fun H_3 locs hP2 hD2 hS2 => ?_)
  replace hP : va_P (dC, dI) vwCl [(h0, .inr (15, [.ref q_1, .null, .null, .null, .null, .int 0])), (q_1, .inl (cy 0, 24576, .inl (fun _ => 0)))] H_3 := hP2
  replace hD : va_D A [(h0, .inr (15, [.ref q_1, .null, .null, .null, .null, .int 0])), (q_1, .inl (cy 0, 24576, .inl (fun _ => 0)))] := hD2
  replace hS := hS2
  clear hP2 hD2 hS2
  refine lv_aload_n hx hb dX15_init_13 rfl (lv_at hl 0 rfl) ?_
  refine lv_sipush (v := 24576) hx hb dX15_init_14 (by decide) ?_
  refine rl_newa (atype := .long) (ty := .long) (a0 := (24576, .inr (.inl (fun _ => 0)))) hx hb (hts _ m_X15_init_6) rfl hK hP hD hS hA 2 rfl (fun _ => rfl) (by decide) (by decide) (Nat.le_of_ble_eq_true rfl) (Nat.le_of_ble_eq_true rfl) (Nat.le_of_ble_eq_true rfl) dX15_init_17 (fun q_4 H_5 hP2 hD2 hS2 => ?_)
  replace hP : va_P (dC, dI) vwCl [(h0, .inr (15, [.ref q_1, .null, .null, .null, .null, .int 0])), (q_1, .inl (cy 0, 24576, .inl (fun _ => 0))), (q_4, .inl (cy 2, 24576, .inr (.inl (fun _ => 0))))] H_5 := hP2
  replace hD : va_D A [(h0, .inr (15, [.ref q_1, .null, .null, .null, .null, .int 0])), (q_1, .inl (cy 0, 24576, .inl (fun _ => 0))), (q_4, .inl (cy 2, 24576, .inr (.inl (fun _ => 0))))] := hD2
  replace hS := hS2
  clear hP2 hD2 hS2
  refine W.widen (k := 2) (n := 49152) (Nat.le_of_ble_eq_true rfl) (Nat.le_of_ble_eq_true rfl) ?_
  refine va_putF (D := (dC, dI)) (ci := 15) (v := .ref q_4) (ty := .array .long) (C := RX15) (T := TX15) (N := 6) hx hb hts iw_X15_init_X15 tyX15 tyX15_ok nmX15 hown hK hP hD hS 0 rfl rfl 1 (by decide) (hts _ m_X15_init_7) (fun _ h9 => h9) rfl hin rfl (by decide +kernel) rfl rfl (Nat.le_of_ble_eq_true rfl) dX15_init_19 (fun H_6 locs hP2 hD2 hS2 => ?_)
  replace hP : va_P (dC, dI) vwCl [(h0, .inr (15, [.ref q_1, .ref q_4, .null, .null, .null, .int 0])), (q_1, .inl (cy 0, 24576, .inl (fun _ => 0))), (q_4, .inl (cy 2, 24576, .inr (.inl (fun _ => 0))))] H_6 := hP2
  replace hD : va_D A [(h0, .inr (15, [.ref q_1, .ref q_4, .null, .null, .null, .int 0])), (q_1, .inl (cy 0, 24576, .inl (fun _ => 0))), (q_4, .inl (cy 2, 24576, .inr (.inl (fun _ => 0))))] := hD2
  replace hS := hS2
  clear hP2 hD2 hS2
  refine lv_aload_n hx hb dX15_init_22 rfl (lv_at hl 0 rfl) ?_
  refine lv_sipush (v := 24576) hx hb dX15_init_23 (by decide) ?_
  refine rl_newa (atype := .long) (ty := .long) (a0 := (24576, .inr (.inl (fun _ => 0)))) hx hb (hts _ m_X15_init_6) rfl hK hP hD hS hA 2 rfl (fun _ => rfl) (by decide) (by decide) (Nat.le_of_ble_eq_true rfl) (Nat.le_of_ble_eq_true rfl) (Nat.le_of_ble_eq_true rfl) dX15_init_26 (fun q_7 H_8 hP2 hD2 hS2 => ?_)
  replace hP : va_P (dC, dI) vwCl [(h0, .inr (15, [.ref q_1, .ref q_4, .null, .null, .null, .int 0])), (q_1, .inl (cy 0, 24576, .inl (fun _ => 0))), (q_4, .inl (cy 2, 24576, .inr (.inl (fun _ => 0)))), (q_7, .inl (cy 2, 24576, .inr (.inl (fun _ => 0))))] H_8 := hP2
  replace hD : va_D A [(h0, .inr (15, [.ref q_1, .ref q_4, .null, .null, .null, .int 0])), (q_1, .inl (cy 0, 24576, .inl (fun _ => 0))), (q_4, .inl (cy 2, 24576, .inr (.inl (fun _ => 0)))), (q_7, .inl (cy 2, 24576, .inr (.inl (fun _ => 0))))] := hD2
  replace hS := hS2
  clear hP2 hD2 hS2
  refine W.widen (k := 3) (n := 73728) (Nat.le_of_ble_eq_true rfl) (Nat.le_of_ble_eq_true rfl) ?_
  refine va_putF (D := (dC, dI)) (ci := 15) (v := .ref q_7) (ty := .array .long) (C := RX15) (T := TX15) (N := 6) hx hb hts iw_X15_init_X15 tyX15 tyX15_ok nmX15 hown hK hP hD hS 0 rfl rfl 2 (by decide) (hts _ m_X15_init_8) (fun _ h9 => h9) rfl hin rfl (by decide +kernel) rfl rfl (Nat.le_of_ble_eq_true rfl) dX15_init_28 (fun H_9 locs hP2 hD2 hS2 => ?_)
  replace hP : va_P (dC, dI) vwCl [(h0, .inr (15, [.ref q_1, .ref q_4, .ref q_7, .null, .null, .int 0])), (q_1, .inl (cy 0, 24576, .inl (fun _ => 0))), (q_4, .inl (cy 2, 24576, .inr (.inl (fun _ => 0)))), (q_7, .inl (cy 2, 24576, .inr (.inl (fun _ => 0))))] H_9 := hP2
  replace hD : va_D A [(h0, .inr (15, [.ref q_1, .ref q_4, .ref q_7, .null, .null, .int 0])), (q_1, .inl (cy 0, 24576, .inl (fun _ => 0))), (q_4, .inl (cy 2, 24576, .inr (.inl (fun _ => 0)))), (q_7, .inl (cy 2, 24576, .inr (.inl (fun _ => 0))))] := hD2
  replace hS := hS2
  clear hP2 hD2 hS2
  refine lv_aload_n hx hb dX15_init_31 rfl (lv_at hl 0 rfl) ?_
  refine lv_sipush (v := 24576) hx hb dX15_init_32 (by decide) ?_
  refine rl_newa (atype := .int) (ty := .int) (a0 := (24576, .inl (fun _ => 0))) hx hb (hts _ m_X15_init_9) rfl hK hP hD hS hA 1 rfl (fun _ => rfl) (by decide) (by decide) (Nat.le_of_ble_eq_true rfl) (Nat.le_of_ble_eq_true rfl) (Nat.le_of_ble_eq_true rfl) dX15_init_35 (fun q_10 H_11 hP2 hD2 hS2 => ?_)
  replace hP : va_P (dC, dI) vwCl [(h0, .inr (15, [.ref q_1, .ref q_4, .ref q_7, .null, .null, .int 0])), (q_1, .inl (cy 0, 24576, .inl (fun _ => 0))), (q_4, .inl (cy 2, 24576, .inr (.inl (fun _ => 0)))), (q_7, .inl (cy 2, 24576, .inr (.inl (fun _ => 0)))), (q_10, .inl (cy 1, 24576, .inl (fun _ => 0)))] H_11 := hP2
  replace hD : va_D A [(h0, .inr (15, [.ref q_1, .ref q_4, .ref q_7, .null, .null, .int 0])), (q_1, .inl (cy 0, 24576, .inl (fun _ => 0))), (q_4, .inl (cy 2, 24576, .inr (.inl (fun _ => 0)))), (q_7, .inl (cy 2, 24576, .inr (.inl (fun _ => 0)))), (q_10, .inl (cy 1, 24576, .inl (fun _ => 0)))] := hD2
  replace hS := hS2
  clear hP2 hD2 hS2
  refine W.widen (k := 4) (n := 98304) (Nat.le_of_ble_eq_true rfl) (Nat.le_of_ble_eq_true rfl) ?_
  refine va_putF (D := (dC, dI)) (ci := 15) (v := .ref q_10) (ty := .array .int) (C := RX15) (T := TX15) (N := 6) hx hb hts iw_X15_init_X15 tyX15 tyX15_ok nmX15 hown hK hP hD hS 0 rfl rfl 3 (by decide) (hts _ m_X15_init_10) (fun _ h9 => h9) rfl hin rfl (by decide +kernel) rfl rfl (Nat.le_of_ble_eq_true rfl) dX15_init_37 (fun H_12 locs hP2 hD2 hS2 => ?_)
  replace hP : va_P (dC, dI) vwCl [(h0, .inr (15, [.ref q_1, .ref q_4, .ref q_7, .ref q_10, .null, .int 0])), (q_1, .inl (cy 0, 24576, .inl (fun _ => 0))), (q_4, .inl (cy 2, 24576, .inr (.inl (fun _ => 0)))), (q_7, .inl (cy 2, 24576, .inr (.inl (fun _ => 0)))), (q_10, .inl (cy 1, 24576, .inl (fun _ => 0)))] H_12 := hP2
  replace hD : va_D A [(h0, .inr (15, [.ref q_1, .ref q_4, .ref q_7, .ref q_10, .null, .int 0])), (q_1, .inl (cy 0, 24576, .inl (fun _ => 0))), (q_4, .inl (cy 2, 24576, .inr (.inl (fun _ => 0)))), (q_7, .inl (cy 2, 24576, .inr (.inl (fun _ => 0)))), (q_10, .inl (cy 1, 24576, .inl (fun _ => 0)))] := hD2
  replace hS := hS2
  clear hP2 hD2 hS2
  refine lv_aload_n hx hb dX15_init_40 rfl (lv_at hl 0 rfl) ?_
  refine lv_sipush (v := 24576) hx hb dX15_init_41 (by decide) ?_
  refine rl_newa (atype := .int) (ty := .int) (a0 := (24576, .inl (fun _ => 0))) hx hb (hts _ m_X15_init_9) rfl hK hP hD hS hA 1 rfl (fun _ => rfl) (by decide) (by decide) (Nat.le_of_ble_eq_true rfl) (Nat.le_of_ble_eq_true rfl) (Nat.le_of_ble_eq_true rfl) dX15_init_44 (fun q_13 H_14 hP2 hD2 hS2 => ?_)
  replace hP : va_P (dC, dI) vwCl [(h0, .inr (15, [.ref q_1, .ref q_4, .ref q_7, .ref q_10, .null, .int 0])), (q_1, .inl (cy 0, 24576, .inl (fun _ => 0))), (q_4, .inl (cy 2, 24576, .inr (.inl (fun _ => 0)))), (q_7, .inl (cy 2, 24576, .inr (.inl (fun _ => 0)))), (q_10, .inl (cy 1, 24576, .inl (fun _ => 0))), (q_13, .inl (cy 1, 24576, .inl (fun _ => 0)))] H_14 := hP2
  replace hD : va_D A [(h0, .inr (15, [.ref q_1, .ref q_4, .ref q_7, .ref q_10, .null, .int 0])), (q_1, .inl (cy 0, 24576, .inl (fun _ => 0))), (q_4, .inl (cy 2, 24576, .inr (.inl (fun _ => 0)))), (q_7, .inl (cy 2, 24576, .inr (.inl (fun _ => 0)))), (q_10, .inl (cy 1, 24576, .inl (fun _ => 0))), (q_13, .inl (cy 1, 24576, .inl (fun _ => 0)))] := hD2
  replace hS := hS2
  clear hP2 hD2 hS2
  refine W.widen (k := 5) (n := 122880) (Nat.le_of_ble_eq_true rfl) (Nat.le_of_ble_eq_true rfl) ?_
  refine va_putF (D := (dC, dI)) (ci := 15) (v := .ref q_13) (ty := .array .int) (C := RX15) (T := TX15) (N := 6) hx hb hts iw_X15_init_X15 tyX15 tyX15_ok nmX15 hown hK hP hD hS 0 rfl rfl 4 (by decide) (hts _ m_X15_init_11) (fun _ h9 => h9) rfl hin rfl (by decide +kernel) rfl rfl (Nat.le_of_ble_eq_true rfl) dX15_init_46 (fun H_15 locs hP2 hD2 hS2 => ?_)
  replace hP : va_P (dC, dI) vwCl [(h0, .inr (15, [.ref q_1, .ref q_4, .ref q_7, .ref q_10, .ref q_13, .int 0])), (q_1, .inl (cy 0, 24576, .inl (fun _ => 0))), (q_4, .inl (cy 2, 24576, .inr (.inl (fun _ => 0)))), (q_7, .inl (cy 2, 24576, .inr (.inl (fun _ => 0)))), (q_10, .inl (cy 1, 24576, .inl (fun _ => 0))), (q_13, .inl (cy 1, 24576, .inl (fun _ => 0)))] H_15 := hP2
  replace hD : va_D A [(h0, .inr (15, [.ref q_1, .ref q_4, .ref q_7, .ref q_10, .ref q_13, .int 0])), (q_1, .inl (cy 0, 24576, .inl (fun _ => 0))), (q_4, .inl (cy 2, 24576, .inr (.inl (fun _ => 0)))), (q_7, .inl (cy 2, 24576, .inr (.inl (fun _ => 0)))), (q_10, .inl (cy 1, 24576, .inl (fun _ => 0))), (q_13, .inl (cy 1, 24576, .inl (fun _ => 0)))] := hD2
  replace hS := hS2
  clear hP2 hD2 hS2
  have hP9 := hP.sub (ws' := [(h0, .inr (15, [.ref q_1, .ref q_4, .ref q_7, .ref q_10, .ref q_13, .int 0])), (q_1, .inl (cy 0, 24576, .inl (fun _ => 0))), (q_4, .inl (cy 2, 24576, .inr (.inl (fun _ => 0)))), (q_7, .inl (cy 2, 24576, .inr (.inl (fun _ => 0)))), (q_10, .inl (cy 1, 24576, .inl (fun _ => 0))), (q_13, .inl (cy 1, 24576, .inl (fun _ => 0)))]) [0, 1, 2, 3, 4, 5] rfl
  have hD9 := hD.sub (ws' := [(h0, .inr (15, [.ref q_1, .ref q_4, .ref q_7, .ref q_10, .ref q_13, .int 0])), (q_1, .inl (cy 0, 24576, .inl (fun _ => 0))), (q_4, .inl (cy 2, 24576, .inr (.inl (fun _ => 0)))), (q_7, .inl (cy 2, 24576, .inr (.inl (fun _ => 0)))), (q_10, .inl (cy 1, 24576, .inl (fun _ => 0))), (q_13, .inl (cy 1, 24576, .inl (fun _ => 0)))]) [0, 1, 2, 3, 4, 5] (by decide) rfl
  exact W.vret hx hb hr (fun t ht hW => ⟨⟨(q_1, q_4, q_7, q_10, q_13), rfl, trivial, by rw [ht]; exact hP9, va_K.moved hW.alike hK, hD9⟩, hS.F ht⟩) hS.2.2 dX15_init_49

theorem m_X16_init_1 : (.methodLink RX16 1 objectInit : Cond) ∈ wsX16_init := List.mem_of_getElem? (i := 1) rfl
theorem m_X16_init_2 : (.instanceMethod objectInit : Cond) ∈ wsX16_init := List.mem_of_getElem? (i := 2) rfl
theorem m_X16_init_3 : (.code objectInit ⟨#[0xb1]⟩ 1 none : Cond) ∈ wsX16_init := List.mem_of_getElem? (i := 3) rfl
theorem m_X16_init_4 : (.arrayClass .byte : Cond) ∈ wsX16_init := List.mem_of_getElem? (i := 4) rfl
theorem m_X16_init_5 : (.fieldLink RX16 7 "ResourceLedgerModel$Unit" "bytes" "[B" : Cond) ∈ wsX16_init := List.mem_of_getElem? (i := 5) rfl
theorem iw_X16_init_X16 : ∀ w ∈ wsX160, w ∈ wsX16_init := fun _ h => List.mem_cons_of_mem _ (List.mem_append_right _ h)
theorem m_X16_init_6 : (.arrayClass .int : Cond) ∈ wsX16_init := List.mem_of_getElem? (i := 6) rfl
theorem m_X16_init_7 : (.fieldLink RX16 13 "ResourceLedgerModel$Unit" "structureAt" "[I" : Cond) ∈ wsX16_init := List.mem_of_getElem? (i := 7) rfl
theorem m_X16_init_8 : (.fieldLink RX16 17 "ResourceLedgerModel$Unit" "calleeAt" "[I" : Cond) ∈ wsX16_init := List.mem_of_getElem? (i := 8) rfl
theorem m_X16_init_9 : (.fieldLink RX16 20 "ResourceLedgerModel$Unit" "elementAt" "[I" : Cond) ∈ wsX16_init := List.mem_of_getElem? (i := 9) rfl
theorem m_X16_init_10 : (.fieldLink RX16 23 "ResourceLedgerModel$Unit" "functionAt" "[I" : Cond) ∈ wsX16_init := List.mem_of_getElem? (i := 10) rfl
theorem m_X16_init_11 : (.fieldLink RX16 26 "ResourceLedgerModel$Unit" "firsts" "[I" : Cond) ∈ wsX16_init := List.mem_of_getElem? (i := 11) rfl
theorem m_X16_init_12 : (.fieldLink RX16 29 "ResourceLedgerModel$Unit" "instructionAt" "[I" : Cond) ∈ wsX16_init := List.mem_of_getElem? (i := 12) rfl
theorem m_X16_init_13 : (.arrayClass .boolean : Cond) ∈ wsX16_init := List.mem_of_getElem? (i := 13) rfl
theorem m_X16_init_14 : (.fieldLink RX16 32 "ResourceLedgerModel$Unit" "reached" "[Z" : Cond) ∈ wsX16_init := List.mem_of_getElem? (i := 14) rfl
set_option maxHeartbeats 4000000 in
set_option maxRecDepth 100000 in
theorem c_X16_init (l : Launch) (dC : Nat → ClassId) (dI : Nat → Nat → Nat) (cy : Nat → ClassId) (sz : Nat) (h0 : Nat) : Met l yX16_init wsX16_init ({ frames := 1, cells := 8, slots := 4386, locals := 12 }) (va_Pc [.ref h0] (fun U => U.heap.size = sz ∧ va_P (dC, dI) vwCl [(h0, .inr (16, [.null, .int 0, .int 0, .int 0, .int 0, .int 0, .int 0, .int 0, .int 0, .int 0, .int 0, .null, .null, .null, .null, .null, .null, .null]))] U.heap ∧ va_K (dC, dI) vwCl (TYS cy) U ∧ va_D (fun _ => True) [(h0, .inr (16, [.null, .int 0, .int 0, .int 0, .int 0, .int 0, .int 0, .int 0, .int 0, .int 0, .int 0, .null, .null, .null, .null, .null, .null, .null]))] ∧ NK U)) (va_Qv (fun u : Nat × Nat × Nat × Nat × Nat × Nat × Nat × Nat => True) (fun u t => match u with | (q0, q1, q2, q3, q4, q5, q6, q7) => va_P (dC, dI) vwCl [(h0, .inr (16, [.ref q0, .int 0, .int 0, .int 0, .int 0, .int 0, .int 0, .int 0, .int 0, .int 0, .int 0, .ref q1, .ref q2, .ref q3, .ref q4, .ref q5, .ref q6, .ref q7])), (q0, .inl (cy 0, 2048, .inl (fun _ => 0))), (q1, .inl (cy 1, 64, .inl (fun _ => 0))), (q2, .inl (cy 1, 32, .inl (fun _ => 0))), (q3, .inl (cy 1, 32, .inl (fun _ => 0))), (q4, .inl (cy 1, 64, .inl (fun _ => 0))), (q5, .inl (cy 1, 65, .inl (fun _ => 0))), (q6, .inl (cy 1, 2049, .inl (fun _ => 0))), (q7, .inl (cy 3, 32, .inl (fun _ => 0)))] t.heap ∧ va_K (dC, dI) vwCl (TYS cy) t ∧ va_D (va_A [(h0, .inr (16, [.null, .int 0, .int 0, .int 0, .int 0, .int 0, .int 0, .int 0, .int 0, .int 0, .int 0, .null, .null, .null, .null, .null, .null, .null]))] sz) [(h0, .inr (16, [.ref q0, .int 0, .int 0, .int 0, .int 0, .int 0, .int 0, .int 0, .int 0, .int 0, .int 0, .ref q1, .ref q2, .ref q3, .ref q4, .ref q5, .ref q6, .ref q7])), (q0, .inl (cy 0, 2048, .inl (fun _ => 0))), (q1, .inl (cy 1, 64, .inl (fun _ => 0))), (q2, .inl (cy 1, 32, .inl (fun _ => 0))), (q3, .inl (cy 1, 32, .inl (fun _ => 0))), (q4, .inl (cy 1, 64, .inl (fun _ => 0))), (q5, .inl (cy 1, 65, .inl (fun _ => 0))), (q6, .inl (cy 1, 2049, .inl (fun _ => 0))), (q7, .inl (cy 3, 32, .inl (fun _ => 0)))]) (va_A [(h0, .inr (16, [.null, .int 0, .int 0, .int 0, .int 0, .int 0, .int 0, .int 0, .int 0, .int 0, .int 0, .null, .null, .null, .null, .null, .null, .null]))] sz)) 8 4386 (va_A [(h0, .inr (16, [.null, .int 0, .int 0, .int 0, .int 0, .int 0, .int 0, .int 0, .int 0, .int 0, .int 0, .null, .null, .null, .null, .null, .null, .null]))] sz) := by
  refine Met.ofW (cc := cX16_init) (maxL := 1) (ret := none) (by decide) rfl ?_
  intro p e s m args below meth c s₁ B hml hv
  obtain ⟨rfl, hsz, hP, hK, hD0, hN⟩ := hv
  have hx := B.exec
  have hb := B.bytes
  have hr := B.returns
  have hts := atoms_spec (ws := wsX16_init) B.pre
  have hown : s.vm.findClass RX16 = some m.cls := findClass_of_methodNamed B.named
  have hlocks := B.notSynchronized
  have hin : meth.name = "<init>" := (name_of_methodNamed B.named B.method).1
  subst hsz
  have hD := hD0.self (sz := s.heap.size)
  generalize hAe : va_A [(h0, .inr (16, [.null, .int 0, .int 0, .int 0, .int 0, .int 0, .int 0, .int 0, .int 0, .int 0, .int 0, .null, .null, .null, .null, .null, .null, .null]))] s.heap.size = A at hD ⊢
  have hA : ∀ q : Nat, s.heap.size ≤ q → A q := fun q h => by rw [← hAe]; exact Or.inr h
  have hS : va_S A s.heap s.heap [] := va_S.rf
  have hP : va_P (dC, dI) vwCl [(h0, .inr (16, [.null, .int 0, .int 0, .int 0, .int 0, .int 0, .int 0, .int 0, .int 0, .int 0, .int 0, .null, .null, .null, .null, .null, .null, .null]))] s.heap := hP
  have hl := lv_entry ([.ref h0]) (n := 1) (Nat.le_of_ble_eq_true rfl)
  rw [lg_entry_eq]
  generalize (lg_sl ([.ref h0]) ++ List.replicate (1 - (lg_sl ([.ref h0])).length) Slot.unset).toArray = ls at hl ⊢
  replace hl : lv_has ls 1 [(0, .ref h0)] := hl
  refine lv_aload_n hx hb dX16_init_0 rfl (lv_at hl 0 rfl) ?_
  refine W.objInit hx hb hown (hts _ m_X16_init_1) (hts _ m_X16_init_2) (hts _ m_X16_init_3) rfl (by rw [hml]; exact hl.1) rfl dX16_init_1 (Nat.le_of_ble_eq_true rfl) (Nat.le_of_ble_eq_true rfl) ?_
  refine W.eq (g2 := F0 m 4 ls []) rfl ?_
  refine lv_aload_n hx hb dX16_init_4 rfl (lv_at hl 0 rfl) ?_
  refine lv_sipush (v := 2048) hx hb dX16_init_5 (by decide) ?_
  refine rl_newa (atype := .byte) (ty := .byte) (a0 := (2048, .inl (fun _ => 0))) hx hb (hts _ m_X16_init_4) rfl hK hP hD hS hA 0 rfl (fun _ => rfl) (by decide) (by decide) (Nat.le_of_ble_eq_true rfl) (Nat.le_of_ble_eq_true rfl) (Nat.le_of_ble_eq_true rfl) dX16_init_8 (fun q_1 H_2 hP2 hD2 hS2 => ?_)
  replace hP : va_P (dC, dI) vwCl [(h0, .inr (16, [.null, .int 0, .int 0, .int 0, .int 0, .int 0, .int 0, .int 0, .int 0, .int 0, .int 0, .null, .null, .null, .null, .null, .null, .null])), (q_1, .inl (cy 0, 2048, .inl (fun _ => 0)))] H_2 := hP2
  replace hD : va_D A [(h0, .inr (16, [.null, .int 0, .int 0, .int 0, .int 0, .int 0, .int 0, .int 0, .int 0, .int 0, .int 0, .null, .null, .null, .null, .null, .null, .null])), (q_1, .inl (cy 0, 2048, .inl (fun _ => 0)))] := hD2
  replace hS := hS2
  clear hP2 hD2 hS2
  refine W.widen (k := 1) (n := 2048) (Nat.le_of_ble_eq_true rfl) (Nat.le_of_ble_eq_true rfl) ?_
  refine va_putF (D := (dC, dI)) (ci := 16) (v := .ref q_1) (ty := .array .byte) (C := RX16) (T := TX16) (N := 18) hx hb hts iw_X16_init_X16 tyX16 tyX16_ok nmX16 hown hK hP hD hS 0 rfl rfl 0 (by decide) (hts _ m_X16_init_5) (fun _ h9 => h9) rfl hin rfl (by decide +kernel) rfl rfl (Nat.le_of_ble_eq_true rfl) dX16_init_10 (fun H_3 locs hP2 hD2 hS2 => ?_)
  replace hP : va_P (dC, dI) vwCl [(h0, .inr (16, [.ref q_1, .int 0, .int 0, .int 0, .int 0, .int 0, .int 0, .int 0, .int 0, .int 0, .int 0, .null, .null, .null, .null, .null, .null, .null])), (q_1, .inl (cy 0, 2048, .inl (fun _ => 0)))] H_3 := hP2
  replace hD : va_D A [(h0, .inr (16, [.ref q_1, .int 0, .int 0, .int 0, .int 0, .int 0, .int 0, .int 0, .int 0, .int 0, .int 0, .null, .null, .null, .null, .null, .null, .null])), (q_1, .inl (cy 0, 2048, .inl (fun _ => 0)))] := hD2
  replace hS := hS2
  clear hP2 hD2 hS2
  refine lv_aload_n hx hb dX16_init_13 rfl (lv_at hl 0 rfl) ?_
  refine lv_bipush (v := 64) hx hb dX16_init_14 (by decide) ?_
  refine rl_newa (atype := .int) (ty := .int) (a0 := (64, .inl (fun _ => 0))) hx hb (hts _ m_X16_init_6) rfl hK hP hD hS hA 1 rfl (fun _ => rfl) (by decide) (by decide) (Nat.le_of_ble_eq_true rfl) (Nat.le_of_ble_eq_true rfl) (Nat.le_of_ble_eq_true rfl) dX16_init_16 (fun q_4 H_5 hP2 hD2 hS2 => ?_)
  replace hP : va_P (dC, dI) vwCl [(h0, .inr (16, [.ref q_1, .int 0, .int 0, .int 0, .int 0, .int 0, .int 0, .int 0, .int 0, .int 0, .int 0, .null, .null, .null, .null, .null, .null, .null])), (q_1, .inl (cy 0, 2048, .inl (fun _ => 0))), (q_4, .inl (cy 1, 64, .inl (fun _ => 0)))] H_5 := hP2
  replace hD : va_D A [(h0, .inr (16, [.ref q_1, .int 0, .int 0, .int 0, .int 0, .int 0, .int 0, .int 0, .int 0, .int 0, .int 0, .null, .null, .null, .null, .null, .null, .null])), (q_1, .inl (cy 0, 2048, .inl (fun _ => 0))), (q_4, .inl (cy 1, 64, .inl (fun _ => 0)))] := hD2
  replace hS := hS2
  clear hP2 hD2 hS2
  refine W.widen (k := 2) (n := 2112) (Nat.le_of_ble_eq_true rfl) (Nat.le_of_ble_eq_true rfl) ?_
  refine va_putF (D := (dC, dI)) (ci := 16) (v := .ref q_4) (ty := .array .int) (C := RX16) (T := TX16) (N := 18) hx hb hts iw_X16_init_X16 tyX16 tyX16_ok nmX16 hown hK hP hD hS 0 rfl rfl 11 (by decide) (hts _ m_X16_init_7) (fun _ h9 => h9) rfl hin rfl (by decide +kernel) rfl rfl (Nat.le_of_ble_eq_true rfl) dX16_init_18 (fun H_6 locs hP2 hD2 hS2 => ?_)
  replace hP : va_P (dC, dI) vwCl [(h0, .inr (16, [.ref q_1, .int 0, .int 0, .int 0, .int 0, .int 0, .int 0, .int 0, .int 0, .int 0, .int 0, .ref q_4, .null, .null, .null, .null, .null, .null])), (q_1, .inl (cy 0, 2048, .inl (fun _ => 0))), (q_4, .inl (cy 1, 64, .inl (fun _ => 0)))] H_6 := hP2
  replace hD : va_D A [(h0, .inr (16, [.ref q_1, .int 0, .int 0, .int 0, .int 0, .int 0, .int 0, .int 0, .int 0, .int 0, .int 0, .ref q_4, .null, .null, .null, .null, .null, .null])), (q_1, .inl (cy 0, 2048, .inl (fun _ => 0))), (q_4, .inl (cy 1, 64, .inl (fun _ => 0)))] := hD2
  replace hS := hS2
  clear hP2 hD2 hS2
  refine lv_aload_n hx hb dX16_init_21 rfl (lv_at hl 0 rfl) ?_
  refine lv_bipush (v := 32) hx hb dX16_init_22 (by decide) ?_
  refine rl_newa (atype := .int) (ty := .int) (a0 := (32, .inl (fun _ => 0))) hx hb (hts _ m_X16_init_6) rfl hK hP hD hS hA 1 rfl (fun _ => rfl) (by decide) (by decide) (Nat.le_of_ble_eq_true rfl) (Nat.le_of_ble_eq_true rfl) (Nat.le_of_ble_eq_true rfl) dX16_init_24 (fun q_7 H_8 hP2 hD2 hS2 => ?_)
  replace hP : va_P (dC, dI) vwCl [(h0, .inr (16, [.ref q_1, .int 0, .int 0, .int 0, .int 0, .int 0, .int 0, .int 0, .int 0, .int 0, .int 0, .ref q_4, .null, .null, .null, .null, .null, .null])), (q_1, .inl (cy 0, 2048, .inl (fun _ => 0))), (q_4, .inl (cy 1, 64, .inl (fun _ => 0))), (q_7, .inl (cy 1, 32, .inl (fun _ => 0)))] H_8 := hP2
  replace hD : va_D A [(h0, .inr (16, [.ref q_1, .int 0, .int 0, .int 0, .int 0, .int 0, .int 0, .int 0, .int 0, .int 0, .int 0, .ref q_4, .null, .null, .null, .null, .null, .null])), (q_1, .inl (cy 0, 2048, .inl (fun _ => 0))), (q_4, .inl (cy 1, 64, .inl (fun _ => 0))), (q_7, .inl (cy 1, 32, .inl (fun _ => 0)))] := hD2
  replace hS := hS2
  clear hP2 hD2 hS2
  refine W.widen (k := 3) (n := 2144) (Nat.le_of_ble_eq_true rfl) (Nat.le_of_ble_eq_true rfl) ?_
  refine va_putF (D := (dC, dI)) (ci := 16) (v := .ref q_7) (ty := .array .int) (C := RX16) (T := TX16) (N := 18) hx hb hts iw_X16_init_X16 tyX16 tyX16_ok nmX16 hown hK hP hD hS 0 rfl rfl 12 (by decide) (hts _ m_X16_init_8) (fun _ h9 => h9) rfl hin rfl (by decide +kernel) rfl rfl (Nat.le_of_ble_eq_true rfl) dX16_init_26 (fun H_9 locs hP2 hD2 hS2 => ?_)
  replace hP : va_P (dC, dI) vwCl [(h0, .inr (16, [.ref q_1, .int 0, .int 0, .int 0, .int 0, .int 0, .int 0, .int 0, .int 0, .int 0, .int 0, .ref q_4, .ref q_7, .null, .null, .null, .null, .null])), (q_1, .inl (cy 0, 2048, .inl (fun _ => 0))), (q_4, .inl (cy 1, 64, .inl (fun _ => 0))), (q_7, .inl (cy 1, 32, .inl (fun _ => 0)))] H_9 := hP2
  replace hD : va_D A [(h0, .inr (16, [.ref q_1, .int 0, .int 0, .int 0, .int 0, .int 0, .int 0, .int 0, .int 0, .int 0, .int 0, .ref q_4, .ref q_7, .null, .null, .null, .null, .null])), (q_1, .inl (cy 0, 2048, .inl (fun _ => 0))), (q_4, .inl (cy 1, 64, .inl (fun _ => 0))), (q_7, .inl (cy 1, 32, .inl (fun _ => 0)))] := hD2
  replace hS := hS2
  clear hP2 hD2 hS2
  refine lv_aload_n hx hb dX16_init_29 rfl (lv_at hl 0 rfl) ?_
  refine lv_bipush (v := 32) hx hb dX16_init_30 (by decide) ?_
  refine rl_newa (atype := .int) (ty := .int) (a0 := (32, .inl (fun _ => 0))) hx hb (hts _ m_X16_init_6) rfl hK hP hD hS hA 1 rfl (fun _ => rfl) (by decide) (by decide) (Nat.le_of_ble_eq_true rfl) (Nat.le_of_ble_eq_true rfl) (Nat.le_of_ble_eq_true rfl) dX16_init_32 (fun q_10 H_11 hP2 hD2 hS2 => ?_)
  replace hP : va_P (dC, dI) vwCl [(h0, .inr (16, [.ref q_1, .int 0, .int 0, .int 0, .int 0, .int 0, .int 0, .int 0, .int 0, .int 0, .int 0, .ref q_4, .ref q_7, .null, .null, .null, .null, .null])), (q_1, .inl (cy 0, 2048, .inl (fun _ => 0))), (q_4, .inl (cy 1, 64, .inl (fun _ => 0))), (q_7, .inl (cy 1, 32, .inl (fun _ => 0))), (q_10, .inl (cy 1, 32, .inl (fun _ => 0)))] H_11 := hP2
  replace hD : va_D A [(h0, .inr (16, [.ref q_1, .int 0, .int 0, .int 0, .int 0, .int 0, .int 0, .int 0, .int 0, .int 0, .int 0, .ref q_4, .ref q_7, .null, .null, .null, .null, .null])), (q_1, .inl (cy 0, 2048, .inl (fun _ => 0))), (q_4, .inl (cy 1, 64, .inl (fun _ => 0))), (q_7, .inl (cy 1, 32, .inl (fun _ => 0))), (q_10, .inl (cy 1, 32, .inl (fun _ => 0)))] := hD2
  replace hS := hS2
  clear hP2 hD2 hS2
  refine W.widen (k := 4) (n := 2176) (Nat.le_of_ble_eq_true rfl) (Nat.le_of_ble_eq_true rfl) ?_
  refine va_putF (D := (dC, dI)) (ci := 16) (v := .ref q_10) (ty := .array .int) (C := RX16) (T := TX16) (N := 18) hx hb hts iw_X16_init_X16 tyX16 tyX16_ok nmX16 hown hK hP hD hS 0 rfl rfl 13 (by decide) (hts _ m_X16_init_9) (fun _ h9 => h9) rfl hin rfl (by decide +kernel) rfl rfl (Nat.le_of_ble_eq_true rfl) dX16_init_34 (fun H_12 locs hP2 hD2 hS2 => ?_)
  replace hP : va_P (dC, dI) vwCl [(h0, .inr (16, [.ref q_1, .int 0, .int 0, .int 0, .int 0, .int 0, .int 0, .int 0, .int 0, .int 0, .int 0, .ref q_4, .ref q_7, .ref q_10, .null, .null, .null, .null])), (q_1, .inl (cy 0, 2048, .inl (fun _ => 0))), (q_4, .inl (cy 1, 64, .inl (fun _ => 0))), (q_7, .inl (cy 1, 32, .inl (fun _ => 0))), (q_10, .inl (cy 1, 32, .inl (fun _ => 0)))] H_12 := hP2
  replace hD : va_D A [(h0, .inr (16, [.ref q_1, .int 0, .int 0, .int 0, .int 0, .int 0, .int 0, .int 0, .int 0, .int 0, .int 0, .ref q_4, .ref q_7, .ref q_10, .null, .null, .null, .null])), (q_1, .inl (cy 0, 2048, .inl (fun _ => 0))), (q_4, .inl (cy 1, 64, .inl (fun _ => 0))), (q_7, .inl (cy 1, 32, .inl (fun _ => 0))), (q_10, .inl (cy 1, 32, .inl (fun _ => 0)))] := hD2
  replace hS := hS2
  clear hP2 hD2 hS2
  refine lv_aload_n hx hb dX16_init_37 rfl (lv_at hl 0 rfl) ?_
  refine lv_bipush (v := 64) hx hb dX16_init_38 (by decide) ?_
  refine rl_newa (atype := .int) (ty := .int) (a0 := (64, .inl (fun _ => 0))) hx hb (hts _ m_X16_init_6) rfl hK hP hD hS hA 1 rfl (fun _ => rfl) (by decide) (by decide) (Nat.le_of_ble_eq_true rfl) (Nat.le_of_ble_eq_true rfl) (Nat.le_of_ble_eq_true rfl) dX16_init_40 (fun q_13 H_14 hP2 hD2 hS2 => ?_)
  replace hP : va_P (dC, dI) vwCl [(h0, .inr (16, [.ref q_1, .int 0, .int 0, .int 0, .int 0, .int 0, .int 0, .int 0, .int 0, .int 0, .int 0, .ref q_4, .ref q_7, .ref q_10, .null, .null, .null, .null])), (q_1, .inl (cy 0, 2048, .inl (fun _ => 0))), (q_4, .inl (cy 1, 64, .inl (fun _ => 0))), (q_7, .inl (cy 1, 32, .inl (fun _ => 0))), (q_10, .inl (cy 1, 32, .inl (fun _ => 0))), (q_13, .inl (cy 1, 64, .inl (fun _ => 0)))] H_14 := hP2
  replace hD : va_D A [(h0, .inr (16, [.ref q_1, .int 0, .int 0, .int 0, .int 0, .int 0, .int 0, .int 0, .int 0, .int 0, .int 0, .ref q_4, .ref q_7, .ref q_10, .null, .null, .null, .null])), (q_1, .inl (cy 0, 2048, .inl (fun _ => 0))), (q_4, .inl (cy 1, 64, .inl (fun _ => 0))), (q_7, .inl (cy 1, 32, .inl (fun _ => 0))), (q_10, .inl (cy 1, 32, .inl (fun _ => 0))), (q_13, .inl (cy 1, 64, .inl (fun _ => 0)))] := hD2
  replace hS := hS2
  clear hP2 hD2 hS2
  refine W.widen (k := 5) (n := 2240) (Nat.le_of_ble_eq_true rfl) (Nat.le_of_ble_eq_true rfl) ?_
  refine va_putF (D := (dC, dI)) (ci := 16) (v := .ref q_13) (ty := .array .int) (C := RX16) (T := TX16) (N := 18) hx hb hts iw_X16_init_X16 tyX16 tyX16_ok nmX16 hown hK hP hD hS 0 rfl rfl 14 (by decide) (hts _ m_X16_init_10) (fun _ h9 => h9) rfl hin rfl (by decide +kernel) rfl rfl (Nat.le_of_ble_eq_true rfl) dX16_init_42 (fun H_15 locs hP2 hD2 hS2 => ?_)
  replace hP : va_P (dC, dI) vwCl [(h0, .inr (16, [.ref q_1, .int 0, .int 0, .int 0, .int 0, .int 0, .int 0, .int 0, .int 0, .int 0, .int 0, .ref q_4, .ref q_7, .ref q_10, .ref q_13, .null, .null, .null])), (q_1, .inl (cy 0, 2048, .inl (fun _ => 0))), (q_4, .inl (cy 1, 64, .inl (fun _ => 0))), (q_7, .inl (cy 1, 32, .inl (fun _ => 0))), (q_10, .inl (cy 1, 32, .inl (fun _ => 0))), (q_13, .inl (cy 1, 64, .inl (fun _ => 0)))] H_15 := hP2
  replace hD : va_D A [(h0, .inr (16, [.ref q_1, .int 0, .int 0, .int 0, .int 0, .int 0, .int 0, .int 0, .int 0, .int 0, .int 0, .ref q_4, .ref q_7, .ref q_10, .ref q_13, .null, .null, .null])), (q_1, .inl (cy 0, 2048, .inl (fun _ => 0))), (q_4, .inl (cy 1, 64, .inl (fun _ => 0))), (q_7, .inl (cy 1, 32, .inl (fun _ => 0))), (q_10, .inl (cy 1, 32, .inl (fun _ => 0))), (q_13, .inl (cy 1, 64, .inl (fun _ => 0)))] := hD2
  replace hS := hS2
  clear hP2 hD2 hS2
  refine lv_aload_n hx hb dX16_init_45 rfl (lv_at hl 0 rfl) ?_
  refine lv_bipush (v := 65) hx hb dX16_init_46 (by decide) ?_
  refine rl_newa (atype := .int) (ty := .int) (a0 := (65, .inl (fun _ => 0))) hx hb (hts _ m_X16_init_6) rfl hK hP hD hS hA 1 rfl (fun _ => rfl) (by decide) (by decide) (Nat.le_of_ble_eq_true rfl) (Nat.le_of_ble_eq_true rfl) (Nat.le_of_ble_eq_true rfl) dX16_init_48 (fun q_16 H_17 hP2 hD2 hS2 => ?_)
  replace hP : va_P (dC, dI) vwCl [(h0, .inr (16, [.ref q_1, .int 0, .int 0, .int 0, .int 0, .int 0, .int 0, .int 0, .int 0, .int 0, .int 0, .ref q_4, .ref q_7, .ref q_10, .ref q_13, .null, .null, .null])), (q_1, .inl (cy 0, 2048, .inl (fun _ => 0))), (q_4, .inl (cy 1, 64, .inl (fun _ => 0))), (q_7, .inl (cy 1, 32, .inl (fun _ => 0))), (q_10, .inl (cy 1, 32, .inl (fun _ => 0))), (q_13, .inl (cy 1, 64, .inl (fun _ => 0))), (q_16, .inl (cy 1, 65, .inl (fun _ => 0)))] H_17 := hP2
  replace hD : va_D A [(h0, .inr (16, [.ref q_1, .int 0, .int 0, .int 0, .int 0, .int 0, .int 0, .int 0, .int 0, .int 0, .int 0, .ref q_4, .ref q_7, .ref q_10, .ref q_13, .null, .null, .null])), (q_1, .inl (cy 0, 2048, .inl (fun _ => 0))), (q_4, .inl (cy 1, 64, .inl (fun _ => 0))), (q_7, .inl (cy 1, 32, .inl (fun _ => 0))), (q_10, .inl (cy 1, 32, .inl (fun _ => 0))), (q_13, .inl (cy 1, 64, .inl (fun _ => 0))), (q_16, .inl (cy 1, 65, .inl (fun _ => 0)))] := hD2
  replace hS := hS2
  clear hP2 hD2 hS2
  refine W.widen (k := 6) (n := 2305) (Nat.le_of_ble_eq_true rfl) (Nat.le_of_ble_eq_true rfl) ?_
  refine va_putF (D := (dC, dI)) (ci := 16) (v := .ref q_16) (ty := .array .int) (C := RX16) (T := TX16) (N := 18) hx hb hts iw_X16_init_X16 tyX16 tyX16_ok nmX16 hown hK hP hD hS 0 rfl rfl 15 (by decide) (hts _ m_X16_init_11) (fun _ h9 => h9) rfl hin rfl (by decide +kernel) rfl rfl (Nat.le_of_ble_eq_true rfl) dX16_init_50 (fun H_18 locs hP2 hD2 hS2 => ?_)
  replace hP : va_P (dC, dI) vwCl [(h0, .inr (16, [.ref q_1, .int 0, .int 0, .int 0, .int 0, .int 0, .int 0, .int 0, .int 0, .int 0, .int 0, .ref q_4, .ref q_7, .ref q_10, .ref q_13, .ref q_16, .null, .null])), (q_1, .inl (cy 0, 2048, .inl (fun _ => 0))), (q_4, .inl (cy 1, 64, .inl (fun _ => 0))), (q_7, .inl (cy 1, 32, .inl (fun _ => 0))), (q_10, .inl (cy 1, 32, .inl (fun _ => 0))), (q_13, .inl (cy 1, 64, .inl (fun _ => 0))), (q_16, .inl (cy 1, 65, .inl (fun _ => 0)))] H_18 := hP2
  replace hD : va_D A [(h0, .inr (16, [.ref q_1, .int 0, .int 0, .int 0, .int 0, .int 0, .int 0, .int 0, .int 0, .int 0, .int 0, .ref q_4, .ref q_7, .ref q_10, .ref q_13, .ref q_16, .null, .null])), (q_1, .inl (cy 0, 2048, .inl (fun _ => 0))), (q_4, .inl (cy 1, 64, .inl (fun _ => 0))), (q_7, .inl (cy 1, 32, .inl (fun _ => 0))), (q_10, .inl (cy 1, 32, .inl (fun _ => 0))), (q_13, .inl (cy 1, 64, .inl (fun _ => 0))), (q_16, .inl (cy 1, 65, .inl (fun _ => 0)))] := hD2
  replace hS := hS2
  clear hP2 hD2 hS2
  refine lv_aload_n hx hb dX16_init_53 rfl (lv_at hl 0 rfl) ?_
  refine lv_sipush (v := 2049) hx hb dX16_init_54 (by decide) ?_
  refine rl_newa (atype := .int) (ty := .int) (a0 := (2049, .inl (fun _ => 0))) hx hb (hts _ m_X16_init_6) rfl hK hP hD hS hA 1 rfl (fun _ => rfl) (by decide) (by decide) (Nat.le_of_ble_eq_true rfl) (Nat.le_of_ble_eq_true rfl) (Nat.le_of_ble_eq_true rfl) dX16_init_57 (fun q_19 H_20 hP2 hD2 hS2 => ?_)
  replace hP : va_P (dC, dI) vwCl [(h0, .inr (16, [.ref q_1, .int 0, .int 0, .int 0, .int 0, .int 0, .int 0, .int 0, .int 0, .int 0, .int 0, .ref q_4, .ref q_7, .ref q_10, .ref q_13, .ref q_16, .null, .null])), (q_1, .inl (cy 0, 2048, .inl (fun _ => 0))), (q_4, .inl (cy 1, 64, .inl (fun _ => 0))), (q_7, .inl (cy 1, 32, .inl (fun _ => 0))), (q_10, .inl (cy 1, 32, .inl (fun _ => 0))), (q_13, .inl (cy 1, 64, .inl (fun _ => 0))), (q_16, .inl (cy 1, 65, .inl (fun _ => 0))), (q_19, .inl (cy 1, 2049, .inl (fun _ => 0)))] H_20 := hP2
  replace hD : va_D A [(h0, .inr (16, [.ref q_1, .int 0, .int 0, .int 0, .int 0, .int 0, .int 0, .int 0, .int 0, .int 0, .int 0, .ref q_4, .ref q_7, .ref q_10, .ref q_13, .ref q_16, .null, .null])), (q_1, .inl (cy 0, 2048, .inl (fun _ => 0))), (q_4, .inl (cy 1, 64, .inl (fun _ => 0))), (q_7, .inl (cy 1, 32, .inl (fun _ => 0))), (q_10, .inl (cy 1, 32, .inl (fun _ => 0))), (q_13, .inl (cy 1, 64, .inl (fun _ => 0))), (q_16, .inl (cy 1, 65, .inl (fun _ => 0))), (q_19, .inl (cy 1, 2049, .inl (fun _ => 0)))] := hD2
  replace hS := hS2
  clear hP2 hD2 hS2
  refine W.widen (k := 7) (n := 4354) (Nat.le_of_ble_eq_true rfl) (Nat.le_of_ble_eq_true rfl) ?_
  refine va_putF (D := (dC, dI)) (ci := 16) (v := .ref q_19) (ty := .array .int) (C := RX16) (T := TX16) (N := 18) hx hb hts iw_X16_init_X16 tyX16 tyX16_ok nmX16 hown hK hP hD hS 0 rfl rfl 16 (by decide) (hts _ m_X16_init_12) (fun _ h9 => h9) rfl hin rfl (by decide +kernel) rfl rfl (Nat.le_of_ble_eq_true rfl) dX16_init_59 (fun H_21 locs hP2 hD2 hS2 => ?_)
  replace hP : va_P (dC, dI) vwCl [(h0, .inr (16, [.ref q_1, .int 0, .int 0, .int 0, .int 0, .int 0, .int 0, .int 0, .int 0, .int 0, .int 0, .ref q_4, .ref q_7, .ref q_10, .ref q_13, .ref q_16, .ref q_19, .null])), (q_1, .inl (cy 0, 2048, .inl (fun _ => 0))), (q_4, .inl (cy 1, 64, .inl (fun _ => 0))), (q_7, .inl (cy 1, 32, .inl (fun _ => 0))), (q_10, .inl (cy 1, 32, .inl (fun _ => 0))), (q_13, .inl (cy 1, 64, .inl (fun _ => 0))), (q_16, .inl (cy 1, 65, .inl (fun _ => 0))), (q_19, .inl (cy 1, 2049, .inl (fun _ => 0)))] H_21 := hP2
  replace hD : va_D A [(h0, .inr (16, [.ref q_1, .int 0, .int 0, .int 0, .int 0, .int 0, .int 0, .int 0, .int 0, .int 0, .int 0, .ref q_4, .ref q_7, .ref q_10, .ref q_13, .ref q_16, .ref q_19, .null])), (q_1, .inl (cy 0, 2048, .inl (fun _ => 0))), (q_4, .inl (cy 1, 64, .inl (fun _ => 0))), (q_7, .inl (cy 1, 32, .inl (fun _ => 0))), (q_10, .inl (cy 1, 32, .inl (fun _ => 0))), (q_13, .inl (cy 1, 64, .inl (fun _ => 0))), (q_16, .inl (cy 1, 65, .inl (fun _ => 0))), (q_19, .inl (cy 1, 2049, .inl (fun _ => 0)))] := hD2
  replace hS := hS2
  clear hP2 hD2 hS2
  refine lv_aload_n hx hb dX16_init_62 rfl (lv_at hl 0 rfl) ?_
  refine lv_bipush (v := 32) hx hb dX16_init_63 (by decide) ?_
  refine rl_newa (atype := .boolean) (ty := .boolean) (a0 := (32, .inl (fun _ => 0))) hx hb (hts _ m_X16_init_13) rfl hK hP hD hS hA 3 rfl (fun _ => rfl) (by decide) (by decide) (Nat.le_of_ble_eq_true rfl) (Nat.le_of_ble_eq_true rfl) (Nat.le_of_ble_eq_true rfl) dX16_init_65 (fun q_22 H_23 hP2 hD2 hS2 => ?_)
  replace hP : va_P (dC, dI) vwCl [(h0, .inr (16, [.ref q_1, .int 0, .int 0, .int 0, .int 0, .int 0, .int 0, .int 0, .int 0, .int 0, .int 0, .ref q_4, .ref q_7, .ref q_10, .ref q_13, .ref q_16, .ref q_19, .null])), (q_1, .inl (cy 0, 2048, .inl (fun _ => 0))), (q_4, .inl (cy 1, 64, .inl (fun _ => 0))), (q_7, .inl (cy 1, 32, .inl (fun _ => 0))), (q_10, .inl (cy 1, 32, .inl (fun _ => 0))), (q_13, .inl (cy 1, 64, .inl (fun _ => 0))), (q_16, .inl (cy 1, 65, .inl (fun _ => 0))), (q_19, .inl (cy 1, 2049, .inl (fun _ => 0))), (q_22, .inl (cy 3, 32, .inl (fun _ => 0)))] H_23 := hP2
  replace hD : va_D A [(h0, .inr (16, [.ref q_1, .int 0, .int 0, .int 0, .int 0, .int 0, .int 0, .int 0, .int 0, .int 0, .int 0, .ref q_4, .ref q_7, .ref q_10, .ref q_13, .ref q_16, .ref q_19, .null])), (q_1, .inl (cy 0, 2048, .inl (fun _ => 0))), (q_4, .inl (cy 1, 64, .inl (fun _ => 0))), (q_7, .inl (cy 1, 32, .inl (fun _ => 0))), (q_10, .inl (cy 1, 32, .inl (fun _ => 0))), (q_13, .inl (cy 1, 64, .inl (fun _ => 0))), (q_16, .inl (cy 1, 65, .inl (fun _ => 0))), (q_19, .inl (cy 1, 2049, .inl (fun _ => 0))), (q_22, .inl (cy 3, 32, .inl (fun _ => 0)))] := hD2
  replace hS := hS2
  clear hP2 hD2 hS2
  refine W.widen (k := 8) (n := 4386) (Nat.le_of_ble_eq_true rfl) (Nat.le_of_ble_eq_true rfl) ?_
  refine va_putF (D := (dC, dI)) (ci := 16) (v := .ref q_22) (ty := .array .boolean) (C := RX16) (T := TX16) (N := 18) hx hb hts iw_X16_init_X16 tyX16 tyX16_ok nmX16 hown hK hP hD hS 0 rfl rfl 17 (by decide) (hts _ m_X16_init_14) (fun _ h9 => h9) rfl hin rfl (by decide +kernel) rfl rfl (Nat.le_of_ble_eq_true rfl) dX16_init_67 (fun H_24 locs hP2 hD2 hS2 => ?_)
  replace hP : va_P (dC, dI) vwCl [(h0, .inr (16, [.ref q_1, .int 0, .int 0, .int 0, .int 0, .int 0, .int 0, .int 0, .int 0, .int 0, .int 0, .ref q_4, .ref q_7, .ref q_10, .ref q_13, .ref q_16, .ref q_19, .ref q_22])), (q_1, .inl (cy 0, 2048, .inl (fun _ => 0))), (q_4, .inl (cy 1, 64, .inl (fun _ => 0))), (q_7, .inl (cy 1, 32, .inl (fun _ => 0))), (q_10, .inl (cy 1, 32, .inl (fun _ => 0))), (q_13, .inl (cy 1, 64, .inl (fun _ => 0))), (q_16, .inl (cy 1, 65, .inl (fun _ => 0))), (q_19, .inl (cy 1, 2049, .inl (fun _ => 0))), (q_22, .inl (cy 3, 32, .inl (fun _ => 0)))] H_24 := hP2
  replace hD : va_D A [(h0, .inr (16, [.ref q_1, .int 0, .int 0, .int 0, .int 0, .int 0, .int 0, .int 0, .int 0, .int 0, .int 0, .ref q_4, .ref q_7, .ref q_10, .ref q_13, .ref q_16, .ref q_19, .ref q_22])), (q_1, .inl (cy 0, 2048, .inl (fun _ => 0))), (q_4, .inl (cy 1, 64, .inl (fun _ => 0))), (q_7, .inl (cy 1, 32, .inl (fun _ => 0))), (q_10, .inl (cy 1, 32, .inl (fun _ => 0))), (q_13, .inl (cy 1, 64, .inl (fun _ => 0))), (q_16, .inl (cy 1, 65, .inl (fun _ => 0))), (q_19, .inl (cy 1, 2049, .inl (fun _ => 0))), (q_22, .inl (cy 3, 32, .inl (fun _ => 0)))] := hD2
  replace hS := hS2
  clear hP2 hD2 hS2
  have hP9 := hP.sub (ws' := [(h0, .inr (16, [.ref q_1, .int 0, .int 0, .int 0, .int 0, .int 0, .int 0, .int 0, .int 0, .int 0, .int 0, .ref q_4, .ref q_7, .ref q_10, .ref q_13, .ref q_16, .ref q_19, .ref q_22])), (q_1, .inl (cy 0, 2048, .inl (fun _ => 0))), (q_4, .inl (cy 1, 64, .inl (fun _ => 0))), (q_7, .inl (cy 1, 32, .inl (fun _ => 0))), (q_10, .inl (cy 1, 32, .inl (fun _ => 0))), (q_13, .inl (cy 1, 64, .inl (fun _ => 0))), (q_16, .inl (cy 1, 65, .inl (fun _ => 0))), (q_19, .inl (cy 1, 2049, .inl (fun _ => 0))), (q_22, .inl (cy 3, 32, .inl (fun _ => 0)))]) [0, 1, 2, 3, 4, 5, 6, 7, 8] rfl
  have hD9 := hD.sub (ws' := [(h0, .inr (16, [.ref q_1, .int 0, .int 0, .int 0, .int 0, .int 0, .int 0, .int 0, .int 0, .int 0, .int 0, .ref q_4, .ref q_7, .ref q_10, .ref q_13, .ref q_16, .ref q_19, .ref q_22])), (q_1, .inl (cy 0, 2048, .inl (fun _ => 0))), (q_4, .inl (cy 1, 64, .inl (fun _ => 0))), (q_7, .inl (cy 1, 32, .inl (fun _ => 0))), (q_10, .inl (cy 1, 32, .inl (fun _ => 0))), (q_13, .inl (cy 1, 64, .inl (fun _ => 0))), (q_16, .inl (cy 1, 65, .inl (fun _ => 0))), (q_19, .inl (cy 1, 2049, .inl (fun _ => 0))), (q_22, .inl (cy 3, 32, .inl (fun _ => 0)))]) [0, 1, 2, 3, 4, 5, 6, 7, 8] (by decide) rfl
  exact W.vret hx hb hr (fun t ht hW => ⟨⟨(q_1, q_4, q_7, q_10, q_13, q_16, q_19, q_22), rfl, trivial, by rw [ht]; exact hP9, va_K.moved hW.alike hK, hD9⟩, hS.F ht⟩) hS.2.2 dX16_init_70

theorem m_X17_init_1 : (.methodLink RX17 1 objectInit : Cond) ∈ wsX17_init := List.mem_of_getElem? (i := 1) rfl
theorem m_X17_init_2 : (.instanceMethod objectInit : Cond) ∈ wsX17_init := List.mem_of_getElem? (i := 2) rfl
theorem m_X17_init_3 : (.code objectInit ⟨#[0xb1]⟩ 1 none : Cond) ∈ wsX17_init := List.mem_of_getElem? (i := 3) rfl
theorem m_X17_init_4 : (.arrayClass .int : Cond) ∈ wsX17_init := List.mem_of_getElem? (i := 4) rfl
theorem m_X17_init_5 : (.fieldLink RX17 7 "ResourceLedgerModel$Wide" "a" "[I" : Cond) ∈ wsX17_init := List.mem_of_getElem? (i := 5) rfl
theorem iw_X17_init_X17 : ∀ w ∈ wsX170, w ∈ wsX17_init := fun _ h => List.mem_cons_of_mem _ (List.mem_append_right _ h)
theorem m_X17_init_6 : (.fieldLink RX17 13 "ResourceLedgerModel$Wide" "b" "[I" : Cond) ∈ wsX17_init := List.mem_of_getElem? (i := 6) rfl
theorem m_X17_init_7 : (.fieldLink RX17 16 "ResourceLedgerModel$Wide" "\x72" "[I" : Cond) ∈ wsX17_init := List.mem_of_getElem? (i := 7) rfl
set_option maxHeartbeats 4000000 in
set_option maxRecDepth 100000 in
theorem c_X17_init (l : Launch) (dC : Nat → ClassId) (dI : Nat → Nat → Nat) (cy : Nat → ClassId) (sz : Nat) (h0 : Nat) : Met l yX17_init wsX17_init ({ frames := 1, cells := 3, slots := 65, locals := 12 }) (va_Pc [.ref h0] (fun U => U.heap.size = sz ∧ va_P (dC, dI) vwCl [(h0, .inr (17, [.null, .null, .null, .long 0, .long 0]))] U.heap ∧ va_K (dC, dI) vwCl (TYS cy) U ∧ va_D (fun _ => True) [(h0, .inr (17, [.null, .null, .null, .long 0, .long 0]))] ∧ NK U)) (va_Qv (fun u : Nat × Nat × Nat => True) (fun u t => match u with | (q0, q1, q2) => va_P (dC, dI) vwCl [(h0, .inr (17, [.ref q0, .ref q1, .ref q2, .long 0, .long 0])), (q0, .inl (cy 1, 16, .inl (fun _ => 0))), (q1, .inl (cy 1, 16, .inl (fun _ => 0))), (q2, .inl (cy 1, 33, .inl (fun _ => 0)))] t.heap ∧ va_K (dC, dI) vwCl (TYS cy) t ∧ va_D (va_A [(h0, .inr (17, [.null, .null, .null, .long 0, .long 0]))] sz) [(h0, .inr (17, [.ref q0, .ref q1, .ref q2, .long 0, .long 0])), (q0, .inl (cy 1, 16, .inl (fun _ => 0))), (q1, .inl (cy 1, 16, .inl (fun _ => 0))), (q2, .inl (cy 1, 33, .inl (fun _ => 0)))]) (va_A [(h0, .inr (17, [.null, .null, .null, .long 0, .long 0]))] sz)) 3 65 (va_A [(h0, .inr (17, [.null, .null, .null, .long 0, .long 0]))] sz) := by
  refine Met.ofW (cc := cX17_init) (maxL := 1) (ret := none) (by decide) rfl ?_
  intro p e s m args below meth c s₁ B hml hv
  obtain ⟨rfl, hsz, hP, hK, hD0, hN⟩ := hv
  have hx := B.exec
  have hb := B.bytes
  have hr := B.returns
  have hts := atoms_spec (ws := wsX17_init) B.pre
  have hown : s.vm.findClass RX17 = some m.cls := findClass_of_methodNamed B.named
  have hlocks := B.notSynchronized
  have hin : meth.name = "<init>" := (name_of_methodNamed B.named B.method).1
  subst hsz
  have hD := hD0.self (sz := s.heap.size)
  generalize hAe : va_A [(h0, .inr (17, [.null, .null, .null, .long 0, .long 0]))] s.heap.size = A at hD ⊢
  have hA : ∀ q : Nat, s.heap.size ≤ q → A q := fun q h => by rw [← hAe]; exact Or.inr h
  have hS : va_S A s.heap s.heap [] := va_S.rf
  have hP : va_P (dC, dI) vwCl [(h0, .inr (17, [.null, .null, .null, .long 0, .long 0]))] s.heap := hP
  have hl := lv_entry ([.ref h0]) (n := 1) (Nat.le_of_ble_eq_true rfl)
  rw [lg_entry_eq]
  generalize (lg_sl ([.ref h0]) ++ List.replicate (1 - (lg_sl ([.ref h0])).length) Slot.unset).toArray = ls at hl ⊢
  replace hl : lv_has ls 1 [(0, .ref h0)] := hl
  refine lv_aload_n hx hb dX17_init_0 rfl (lv_at hl 0 rfl) ?_
  refine W.objInit hx hb hown (hts _ m_X17_init_1) (hts _ m_X17_init_2) (hts _ m_X17_init_3) rfl (by rw [hml]; exact hl.1) rfl dX17_init_1 (Nat.le_of_ble_eq_true rfl) (Nat.le_of_ble_eq_true rfl) ?_
  refine W.eq (g2 := F0 m 4 ls []) rfl ?_
  refine lv_aload_n hx hb dX17_init_4 rfl (lv_at hl 0 rfl) ?_
  refine lv_bipush (v := 16) hx hb dX17_init_5 (by decide) ?_
  refine rl_newa (atype := .int) (ty := .int) (a0 := (16, .inl (fun _ => 0))) hx hb (hts _ m_X17_init_4) rfl hK hP hD hS hA 1 rfl (fun _ => rfl) (by decide) (by decide) (Nat.le_of_ble_eq_true rfl) (Nat.le_of_ble_eq_true rfl) (Nat.le_of_ble_eq_true rfl) dX17_init_7 (fun q_1 H_2 hP2 hD2 hS2 => ?_)
  replace hP : va_P (dC, dI) vwCl [(h0, .inr (17, [.null, .null, .null, .long 0, .long 0])), (q_1, .inl (cy 1, 16, .inl (fun _ => 0)))] H_2 := hP2
  replace hD : va_D A [(h0, .inr (17, [.null, .null, .null, .long 0, .long 0])), (q_1, .inl (cy 1, 16, .inl (fun _ => 0)))] := hD2
  replace hS := hS2
  clear hP2 hD2 hS2
  refine W.widen (k := 1) (n := 16) (Nat.le_of_ble_eq_true rfl) (Nat.le_of_ble_eq_true rfl) ?_
  refine va_putF (D := (dC, dI)) (ci := 17) (v := .ref q_1) (ty := .array .int) (C := RX17) (T := TX17) (N := 5) hx hb hts iw_X17_init_X17 tyX17 tyX17_ok nmX17 hown hK hP hD hS 0 rfl rfl 0 (by decide) (hts _ m_X17_init_5) (fun _ h9 => h9) rfl hin rfl (by decide +kernel) rfl rfl (Nat.le_of_ble_eq_true rfl) dX17_init_9 (fun H_3 locs hP2 hD2 hS2 => ?_)
  replace hP : va_P (dC, dI) vwCl [(h0, .inr (17, [.ref q_1, .null, .null, .long 0, .long 0])), (q_1, .inl (cy 1, 16, .inl (fun _ => 0)))] H_3 := hP2
  replace hD : va_D A [(h0, .inr (17, [.ref q_1, .null, .null, .long 0, .long 0])), (q_1, .inl (cy 1, 16, .inl (fun _ => 0)))] := hD2
  replace hS := hS2
  clear hP2 hD2 hS2
  refine lv_aload_n hx hb dX17_init_12 rfl (lv_at hl 0 rfl) ?_
  refine lv_bipush (v := 16) hx hb dX17_init_13 (by decide) ?_
  refine rl_newa (atype := .int) (ty := .int) (a0 := (16, .inl (fun _ => 0))) hx hb (hts _ m_X17_init_4) rfl hK hP hD hS hA 1 rfl (fun _ => rfl) (by decide) (by decide) (Nat.le_of_ble_eq_true rfl) (Nat.le_of_ble_eq_true rfl) (Nat.le_of_ble_eq_true rfl) dX17_init_15 (fun q_4 H_5 hP2 hD2 hS2 => ?_)
  replace hP : va_P (dC, dI) vwCl [(h0, .inr (17, [.ref q_1, .null, .null, .long 0, .long 0])), (q_1, .inl (cy 1, 16, .inl (fun _ => 0))), (q_4, .inl (cy 1, 16, .inl (fun _ => 0)))] H_5 := hP2
  replace hD : va_D A [(h0, .inr (17, [.ref q_1, .null, .null, .long 0, .long 0])), (q_1, .inl (cy 1, 16, .inl (fun _ => 0))), (q_4, .inl (cy 1, 16, .inl (fun _ => 0)))] := hD2
  replace hS := hS2
  clear hP2 hD2 hS2
  refine W.widen (k := 2) (n := 32) (Nat.le_of_ble_eq_true rfl) (Nat.le_of_ble_eq_true rfl) ?_
  refine va_putF (D := (dC, dI)) (ci := 17) (v := .ref q_4) (ty := .array .int) (C := RX17) (T := TX17) (N := 5) hx hb hts iw_X17_init_X17 tyX17 tyX17_ok nmX17 hown hK hP hD hS 0 rfl rfl 1 (by decide) (hts _ m_X17_init_6) (fun _ h9 => h9) rfl hin rfl (by decide +kernel) rfl rfl (Nat.le_of_ble_eq_true rfl) dX17_init_17 (fun H_6 locs hP2 hD2 hS2 => ?_)
  replace hP : va_P (dC, dI) vwCl [(h0, .inr (17, [.ref q_1, .ref q_4, .null, .long 0, .long 0])), (q_1, .inl (cy 1, 16, .inl (fun _ => 0))), (q_4, .inl (cy 1, 16, .inl (fun _ => 0)))] H_6 := hP2
  replace hD : va_D A [(h0, .inr (17, [.ref q_1, .ref q_4, .null, .long 0, .long 0])), (q_1, .inl (cy 1, 16, .inl (fun _ => 0))), (q_4, .inl (cy 1, 16, .inl (fun _ => 0)))] := hD2
  replace hS := hS2
  clear hP2 hD2 hS2
  refine lv_aload_n hx hb dX17_init_20 rfl (lv_at hl 0 rfl) ?_
  refine lv_bipush (v := 33) hx hb dX17_init_21 (by decide) ?_
  refine rl_newa (atype := .int) (ty := .int) (a0 := (33, .inl (fun _ => 0))) hx hb (hts _ m_X17_init_4) rfl hK hP hD hS hA 1 rfl (fun _ => rfl) (by decide) (by decide) (Nat.le_of_ble_eq_true rfl) (Nat.le_of_ble_eq_true rfl) (Nat.le_of_ble_eq_true rfl) dX17_init_23 (fun q_7 H_8 hP2 hD2 hS2 => ?_)
  replace hP : va_P (dC, dI) vwCl [(h0, .inr (17, [.ref q_1, .ref q_4, .null, .long 0, .long 0])), (q_1, .inl (cy 1, 16, .inl (fun _ => 0))), (q_4, .inl (cy 1, 16, .inl (fun _ => 0))), (q_7, .inl (cy 1, 33, .inl (fun _ => 0)))] H_8 := hP2
  replace hD : va_D A [(h0, .inr (17, [.ref q_1, .ref q_4, .null, .long 0, .long 0])), (q_1, .inl (cy 1, 16, .inl (fun _ => 0))), (q_4, .inl (cy 1, 16, .inl (fun _ => 0))), (q_7, .inl (cy 1, 33, .inl (fun _ => 0)))] := hD2
  replace hS := hS2
  clear hP2 hD2 hS2
  refine W.widen (k := 3) (n := 65) (Nat.le_of_ble_eq_true rfl) (Nat.le_of_ble_eq_true rfl) ?_
  refine va_putF (D := (dC, dI)) (ci := 17) (v := .ref q_7) (ty := .array .int) (C := RX17) (T := TX17) (N := 5) hx hb hts iw_X17_init_X17 tyX17 tyX17_ok nmX17 hown hK hP hD hS 0 rfl rfl 2 (by decide) (hts _ m_X17_init_7) (fun _ h9 => h9) rfl hin rfl (by decide +kernel) rfl rfl (Nat.le_of_ble_eq_true rfl) dX17_init_25 (fun H_9 locs hP2 hD2 hS2 => ?_)
  replace hP : va_P (dC, dI) vwCl [(h0, .inr (17, [.ref q_1, .ref q_4, .ref q_7, .long 0, .long 0])), (q_1, .inl (cy 1, 16, .inl (fun _ => 0))), (q_4, .inl (cy 1, 16, .inl (fun _ => 0))), (q_7, .inl (cy 1, 33, .inl (fun _ => 0)))] H_9 := hP2
  replace hD : va_D A [(h0, .inr (17, [.ref q_1, .ref q_4, .ref q_7, .long 0, .long 0])), (q_1, .inl (cy 1, 16, .inl (fun _ => 0))), (q_4, .inl (cy 1, 16, .inl (fun _ => 0))), (q_7, .inl (cy 1, 33, .inl (fun _ => 0)))] := hD2
  replace hS := hS2
  clear hP2 hD2 hS2
  have hP9 := hP.sub (ws' := [(h0, .inr (17, [.ref q_1, .ref q_4, .ref q_7, .long 0, .long 0])), (q_1, .inl (cy 1, 16, .inl (fun _ => 0))), (q_4, .inl (cy 1, 16, .inl (fun _ => 0))), (q_7, .inl (cy 1, 33, .inl (fun _ => 0)))]) [0, 1, 2, 3] rfl
  have hD9 := hD.sub (ws' := [(h0, .inr (17, [.ref q_1, .ref q_4, .ref q_7, .long 0, .long 0])), (q_1, .inl (cy 1, 16, .inl (fun _ => 0))), (q_4, .inl (cy 1, 16, .inl (fun _ => 0))), (q_7, .inl (cy 1, 33, .inl (fun _ => 0)))]) [0, 1, 2, 3] (by decide) rfl
  exact W.vret hx hb hr (fun t ht hW => ⟨⟨(q_1, q_4, q_7), rfl, trivial, by rw [ht]; exact hP9, va_K.moved hW.alike hK, hD9⟩, hS.F ht⟩) hS.2.2 dX17_init_28

theorem m_X2_init_1 : (.methodLink RX2 3 objectInit : Cond) ∈ wsX2_init := List.mem_of_getElem? (i := 1) rfl
theorem m_X2_init_2 : (.instanceMethod objectInit : Cond) ∈ wsX2_init := List.mem_of_getElem? (i := 2) rfl
theorem m_X2_init_3 : (.code objectInit ⟨#[0xb1]⟩ 1 none : Cond) ∈ wsX2_init := List.mem_of_getElem? (i := 3) rfl
theorem m_X2_init_4 : (.arrayClass .int : Cond) ∈ wsX2_init := List.mem_of_getElem? (i := 4) rfl
theorem m_X2_init_5 : (.fieldLink RX2 11 "ResourceLedger$Journal" "kind" "[I" : Cond) ∈ wsX2_init := List.mem_of_getElem? (i := 5) rfl
theorem iw_X2_init_X2 : ∀ w ∈ wsX20, w ∈ wsX2_init := fun _ h => List.mem_cons_of_mem _ (List.mem_append_right _ h)
theorem m_X2_init_6 : (.arrayClass .long : Cond) ∈ wsX2_init := List.mem_of_getElem? (i := 6) rfl
theorem m_X2_init_7 : (.fieldLink RX2 15 "ResourceLedger$Journal" "address" "[J" : Cond) ∈ wsX2_init := List.mem_of_getElem? (i := 7) rfl
theorem m_X2_init_8 : (.fieldLink RX2 19 "ResourceLedger$Journal" "module" "[I" : Cond) ∈ wsX2_init := List.mem_of_getElem? (i := 8) rfl
theorem m_X2_init_9 : (.fieldLink RX2 22 "ResourceLedger$Journal" "structure" "[I" : Cond) ∈ wsX2_init := List.mem_of_getElem? (i := 9) rfl
theorem m_X2_init_10 : (.arrayClass .boolean : Cond) ∈ wsX2_init := List.mem_of_getElem? (i := 10) rfl
theorem m_X2_init_11 : (.fieldLink RX2 25 "ResourceLedger$Journal" "wasThere" "[Z" : Cond) ∈ wsX2_init := List.mem_of_getElem? (i := 11) rfl
theorem m_X2_init_12 : (.fieldLink RX2 29 "ResourceLedger$Journal" "isThere" "[Z" : Cond) ∈ wsX2_init := List.mem_of_getElem? (i := 12) rfl
theorem m_X2_init_13 : (.fieldLink RX2 32 "ResourceLedger$Journal" "balance" "[J" : Cond) ∈ wsX2_init := List.mem_of_getElem? (i := 13) rfl
theorem m_X2_init_14 : (.fieldLink RX2 35 "ResourceLedger$Journal" "node" "[I" : Cond) ∈ wsX2_init := List.mem_of_getElem? (i := 14) rfl
theorem m_X2_init_15 : (.fieldLink RX2 38 "ResourceLedger$Journal" "state" "LResourceLedger$State;" : Cond) ∈ wsX2_init := List.mem_of_getElem? (i := 15) rfl
theorem m_X2_init_16 : (.fieldLink RX2 42 "ResourceLedger$Journal" "heap" "LResourceLedger$Heap;" : Cond) ∈ wsX2_init := List.mem_of_getElem? (i := 16) rfl
set_option maxHeartbeats 4000000 in
set_option maxRecDepth 100000 in
theorem c_X2_init (l : Launch) (dC : Nat → ClassId) (dI : Nat → Nat → Nat) (cy : Nat → ClassId) (sz : Nat) (h0 a1 a2 : Nat) : Met l yX2_init wsX2_init ({ frames := 1, cells := 8, slots := 192, locals := 12 }) (va_Pc [.ref h0, .ref a1, .ref a2] (fun U => U.heap.size = sz ∧ va_P (dC, dI) vwCl [(h0, .inr (2, [.null, .null, .null, .null, .null, .null, .null, .int 0, .null, .null, .null]))] U.heap ∧ va_K (dC, dI) vwCl (TYS cy) U ∧ va_D (fun _ => True) [(h0, .inr (2, [.null, .null, .null, .null, .null, .null, .null, .int 0, .null, .null, .null]))] ∧ NK U)) (va_Qv (fun u : Nat × Nat × Nat × Nat × Nat × Nat × Nat × Nat => True) (fun u t => match u with | (q0, q1, q2, q3, q4, q5, q6, q7) => va_P (dC, dI) vwCl [(h0, .inr (2, [.ref a1, .ref a2, .ref q0, .ref q1, .ref q2, .ref q3, .ref q4, .int 0, .ref q5, .ref q6, .ref q7])), (q0, .inl (cy 1, 24, .inl (fun _ => 0))), (q1, .inl (cy 2, 24, .inr (.inl (fun _ => 0)))), (q2, .inl (cy 1, 24, .inl (fun _ => 0))), (q3, .inl (cy 1, 24, .inl (fun _ => 0))), (q4, .inl (cy 3, 24, .inl (fun _ => 0))), (q5, .inl (cy 3, 24, .inl (fun _ => 0))), (q6, .inl (cy 2, 24, .inr (.inl (fun _ => 0)))), (q7, .inl (cy 1, 24, .inl (fun _ => 0)))] t.heap ∧ va_K (dC, dI) vwCl (TYS cy) t ∧ va_D (va_A [(h0, .inr (2, [.null, .null, .null, .null, .null, .null, .null, .int 0, .null, .null, .null]))] sz) [(h0, .inr (2, [.ref a1, .ref a2, .ref q0, .ref q1, .ref q2, .ref q3, .ref q4, .int 0, .ref q5, .ref q6, .ref q7])), (q0, .inl (cy 1, 24, .inl (fun _ => 0))), (q1, .inl (cy 2, 24, .inr (.inl (fun _ => 0)))), (q2, .inl (cy 1, 24, .inl (fun _ => 0))), (q3, .inl (cy 1, 24, .inl (fun _ => 0))), (q4, .inl (cy 3, 24, .inl (fun _ => 0))), (q5, .inl (cy 3, 24, .inl (fun _ => 0))), (q6, .inl (cy 2, 24, .inr (.inl (fun _ => 0)))), (q7, .inl (cy 1, 24, .inl (fun _ => 0)))]) (va_A [(h0, .inr (2, [.null, .null, .null, .null, .null, .null, .null, .int 0, .null, .null, .null]))] sz)) 8 192 (va_A [(h0, .inr (2, [.null, .null, .null, .null, .null, .null, .null, .int 0, .null, .null, .null]))] sz) := by
  refine Met.ofW (cc := cX2_init) (maxL := 3) (ret := none) (by decide) rfl ?_
  intro p e s m args below meth c s₁ B hml hv
  obtain ⟨rfl, hsz, hP, hK, hD0, hN⟩ := hv
  have hx := B.exec
  have hb := B.bytes
  have hr := B.returns
  have hts := atoms_spec (ws := wsX2_init) B.pre
  have hown : s.vm.findClass RX2 = some m.cls := findClass_of_methodNamed B.named
  have hlocks := B.notSynchronized
  have hin : meth.name = "<init>" := (name_of_methodNamed B.named B.method).1
  subst hsz
  have hD := hD0.self (sz := s.heap.size)
  generalize hAe : va_A [(h0, .inr (2, [.null, .null, .null, .null, .null, .null, .null, .int 0, .null, .null, .null]))] s.heap.size = A at hD ⊢
  have hA : ∀ q : Nat, s.heap.size ≤ q → A q := fun q h => by rw [← hAe]; exact Or.inr h
  have hS : va_S A s.heap s.heap [] := va_S.rf
  have hP : va_P (dC, dI) vwCl [(h0, .inr (2, [.null, .null, .null, .null, .null, .null, .null, .int 0, .null, .null, .null]))] s.heap := hP
  have hl := lv_entry ([.ref h0, .ref a1, .ref a2]) (n := 3) (Nat.le_of_ble_eq_true rfl)
  rw [lg_entry_eq]
  generalize (lg_sl ([.ref h0, .ref a1, .ref a2]) ++ List.replicate (3 - (lg_sl ([.ref h0, .ref a1, .ref a2])).length) Slot.unset).toArray = ls at hl ⊢
  replace hl : lv_has ls 3 [(0, .ref h0), (1, .ref a1), (2, .ref a2)] := hl
  refine lv_aload_n hx hb dX2_init_0 rfl (lv_at hl 0 rfl) ?_
  refine W.objInit hx hb hown (hts _ m_X2_init_1) (hts _ m_X2_init_2) (hts _ m_X2_init_3) rfl (by rw [hml]; exact hl.1) rfl dX2_init_1 (Nat.le_of_ble_eq_true rfl) (Nat.le_of_ble_eq_true rfl) ?_
  refine W.eq (g2 := F0 m 4 ls []) rfl ?_
  refine lv_aload_n hx hb dX2_init_4 rfl (lv_at hl 0 rfl) ?_
  refine lv_bipush (v := 24) hx hb dX2_init_5 (by decide) ?_
  refine rl_newa (atype := .int) (ty := .int) (a0 := (24, .inl (fun _ => 0))) hx hb (hts _ m_X2_init_4) rfl hK hP hD hS hA 1 rfl (fun _ => rfl) (by decide) (by decide) (Nat.le_of_ble_eq_true rfl) (Nat.le_of_ble_eq_true rfl) (Nat.le_of_ble_eq_true rfl) dX2_init_7 (fun q_1 H_2 hP2 hD2 hS2 => ?_)
  replace hP : va_P (dC, dI) vwCl [(h0, .inr (2, [.null, .null, .null, .null, .null, .null, .null, .int 0, .null, .null, .null])), (q_1, .inl (cy 1, 24, .inl (fun _ => 0)))] H_2 := hP2
  replace hD : va_D A [(h0, .inr (2, [.null, .null, .null, .null, .null, .null, .null, .int 0, .null, .null, .null])), (q_1, .inl (cy 1, 24, .inl (fun _ => 0)))] := hD2
  replace hS := hS2
  clear hP2 hD2 hS2
  refine W.widen (k := 1) (n := 24) (Nat.le_of_ble_eq_true rfl) (Nat.le_of_ble_eq_true rfl) ?_
  refine va_putF (D := (dC, dI)) (ci := 2) (v := .ref q_1) (ty := .array .int) (C := RX2) (T := TX2) (N := 11) hx hb hts iw_X2_init_X2 tyX2 tyX2_ok nmX2 hown hK hP hD hS 0 rfl rfl 2 (by decide) (hts _ m_X2_init_5) (fun _ h9 => h9) rfl hin rfl (by decide +kernel) rfl rfl (Nat.le_of_ble_eq_true rfl) dX2_init_9 (fun H_3 locs hP2 hD2 hS2 => ?_)
  replace hP : va_P (dC, dI) vwCl [(h0, .inr (2, [.null, .null, .ref q_1, .null, .null, .null, .null, .int 0, .null, .null, .null])), (q_1, .inl (cy 1, 24, .inl (fun _ => 0)))] H_3 := hP2
  replace hD : va_D A [(h0, .inr (2, [.null, .null, .ref q_1, .null, .null, .null, .null, .int 0, .null, .null, .null])), (q_1, .inl (cy 1, 24, .inl (fun _ => 0)))] := hD2
  replace hS := hS2
  clear hP2 hD2 hS2
  refine lv_aload_n hx hb dX2_init_12 rfl (lv_at hl 0 rfl) ?_
  refine lv_bipush (v := 24) hx hb dX2_init_13 (by decide) ?_
  refine rl_newa (atype := .long) (ty := .long) (a0 := (24, .inr (.inl (fun _ => 0)))) hx hb (hts _ m_X2_init_6) rfl hK hP hD hS hA 2 rfl (fun _ => rfl) (by decide) (by decide) (Nat.le_of_ble_eq_true rfl) (Nat.le_of_ble_eq_true rfl) (Nat.le_of_ble_eq_true rfl) dX2_init_15 (fun q_4 H_5 hP2 hD2 hS2 => ?_)
  replace hP : va_P (dC, dI) vwCl [(h0, .inr (2, [.null, .null, .ref q_1, .null, .null, .null, .null, .int 0, .null, .null, .null])), (q_1, .inl (cy 1, 24, .inl (fun _ => 0))), (q_4, .inl (cy 2, 24, .inr (.inl (fun _ => 0))))] H_5 := hP2
  replace hD : va_D A [(h0, .inr (2, [.null, .null, .ref q_1, .null, .null, .null, .null, .int 0, .null, .null, .null])), (q_1, .inl (cy 1, 24, .inl (fun _ => 0))), (q_4, .inl (cy 2, 24, .inr (.inl (fun _ => 0))))] := hD2
  replace hS := hS2
  clear hP2 hD2 hS2
  refine W.widen (k := 2) (n := 48) (Nat.le_of_ble_eq_true rfl) (Nat.le_of_ble_eq_true rfl) ?_
  refine va_putF (D := (dC, dI)) (ci := 2) (v := .ref q_4) (ty := .array .long) (C := RX2) (T := TX2) (N := 11) hx hb hts iw_X2_init_X2 tyX2 tyX2_ok nmX2 hown hK hP hD hS 0 rfl rfl 3 (by decide) (hts _ m_X2_init_7) (fun _ h9 => h9) rfl hin rfl (by decide +kernel) rfl rfl (Nat.le_of_ble_eq_true rfl) dX2_init_17 (fun H_6 locs hP2 hD2 hS2 => ?_)
  replace hP : va_P (dC, dI) vwCl [(h0, .inr (2, [.null, .null, .ref q_1, .ref q_4, .null, .null, .null, .int 0, .null, .null, .null])), (q_1, .inl (cy 1, 24, .inl (fun _ => 0))), (q_4, .inl (cy 2, 24, .inr (.inl (fun _ => 0))))] H_6 := hP2
  replace hD : va_D A [(h0, .inr (2, [.null, .null, .ref q_1, .ref q_4, .null, .null, .null, .int 0, .null, .null, .null])), (q_1, .inl (cy 1, 24, .inl (fun _ => 0))), (q_4, .inl (cy 2, 24, .inr (.inl (fun _ => 0))))] := hD2
  replace hS := hS2
  clear hP2 hD2 hS2
  refine lv_aload_n hx hb dX2_init_20 rfl (lv_at hl 0 rfl) ?_
  refine lv_bipush (v := 24) hx hb dX2_init_21 (by decide) ?_
  refine rl_newa (atype := .int) (ty := .int) (a0 := (24, .inl (fun _ => 0))) hx hb (hts _ m_X2_init_4) rfl hK hP hD hS hA 1 rfl (fun _ => rfl) (by decide) (by decide) (Nat.le_of_ble_eq_true rfl) (Nat.le_of_ble_eq_true rfl) (Nat.le_of_ble_eq_true rfl) dX2_init_23 (fun q_7 H_8 hP2 hD2 hS2 => ?_)
  replace hP : va_P (dC, dI) vwCl [(h0, .inr (2, [.null, .null, .ref q_1, .ref q_4, .null, .null, .null, .int 0, .null, .null, .null])), (q_1, .inl (cy 1, 24, .inl (fun _ => 0))), (q_4, .inl (cy 2, 24, .inr (.inl (fun _ => 0)))), (q_7, .inl (cy 1, 24, .inl (fun _ => 0)))] H_8 := hP2
  replace hD : va_D A [(h0, .inr (2, [.null, .null, .ref q_1, .ref q_4, .null, .null, .null, .int 0, .null, .null, .null])), (q_1, .inl (cy 1, 24, .inl (fun _ => 0))), (q_4, .inl (cy 2, 24, .inr (.inl (fun _ => 0)))), (q_7, .inl (cy 1, 24, .inl (fun _ => 0)))] := hD2
  replace hS := hS2
  clear hP2 hD2 hS2
  refine W.widen (k := 3) (n := 72) (Nat.le_of_ble_eq_true rfl) (Nat.le_of_ble_eq_true rfl) ?_
  refine va_putF (D := (dC, dI)) (ci := 2) (v := .ref q_7) (ty := .array .int) (C := RX2) (T := TX2) (N := 11) hx hb hts iw_X2_init_X2 tyX2 tyX2_ok nmX2 hown hK hP hD hS 0 rfl rfl 4 (by decide) (hts _ m_X2_init_8) (fun _ h9 => h9) rfl hin rfl (by decide +kernel) rfl rfl (Nat.le_of_ble_eq_true rfl) dX2_init_25 (fun H_9 locs hP2 hD2 hS2 => ?_)
  replace hP : va_P (dC, dI) vwCl [(h0, .inr (2, [.null, .null, .ref q_1, .ref q_4, .ref q_7, .null, .null, .int 0, .null, .null, .null])), (q_1, .inl (cy 1, 24, .inl (fun _ => 0))), (q_4, .inl (cy 2, 24, .inr (.inl (fun _ => 0)))), (q_7, .inl (cy 1, 24, .inl (fun _ => 0)))] H_9 := hP2
  replace hD : va_D A [(h0, .inr (2, [.null, .null, .ref q_1, .ref q_4, .ref q_7, .null, .null, .int 0, .null, .null, .null])), (q_1, .inl (cy 1, 24, .inl (fun _ => 0))), (q_4, .inl (cy 2, 24, .inr (.inl (fun _ => 0)))), (q_7, .inl (cy 1, 24, .inl (fun _ => 0)))] := hD2
  replace hS := hS2
  clear hP2 hD2 hS2
  refine lv_aload_n hx hb dX2_init_28 rfl (lv_at hl 0 rfl) ?_
  refine lv_bipush (v := 24) hx hb dX2_init_29 (by decide) ?_
  refine rl_newa (atype := .int) (ty := .int) (a0 := (24, .inl (fun _ => 0))) hx hb (hts _ m_X2_init_4) rfl hK hP hD hS hA 1 rfl (fun _ => rfl) (by decide) (by decide) (Nat.le_of_ble_eq_true rfl) (Nat.le_of_ble_eq_true rfl) (Nat.le_of_ble_eq_true rfl) dX2_init_31 (fun q_10 H_11 hP2 hD2 hS2 => ?_)
  replace hP : va_P (dC, dI) vwCl [(h0, .inr (2, [.null, .null, .ref q_1, .ref q_4, .ref q_7, .null, .null, .int 0, .null, .null, .null])), (q_1, .inl (cy 1, 24, .inl (fun _ => 0))), (q_4, .inl (cy 2, 24, .inr (.inl (fun _ => 0)))), (q_7, .inl (cy 1, 24, .inl (fun _ => 0))), (q_10, .inl (cy 1, 24, .inl (fun _ => 0)))] H_11 := hP2
  replace hD : va_D A [(h0, .inr (2, [.null, .null, .ref q_1, .ref q_4, .ref q_7, .null, .null, .int 0, .null, .null, .null])), (q_1, .inl (cy 1, 24, .inl (fun _ => 0))), (q_4, .inl (cy 2, 24, .inr (.inl (fun _ => 0)))), (q_7, .inl (cy 1, 24, .inl (fun _ => 0))), (q_10, .inl (cy 1, 24, .inl (fun _ => 0)))] := hD2
  replace hS := hS2
  clear hP2 hD2 hS2
  refine W.widen (k := 4) (n := 96) (Nat.le_of_ble_eq_true rfl) (Nat.le_of_ble_eq_true rfl) ?_
  refine va_putF (D := (dC, dI)) (ci := 2) (v := .ref q_10) (ty := .array .int) (C := RX2) (T := TX2) (N := 11) hx hb hts iw_X2_init_X2 tyX2 tyX2_ok nmX2 hown hK hP hD hS 0 rfl rfl 5 (by decide) (hts _ m_X2_init_9) (fun _ h9 => h9) rfl hin rfl (by decide +kernel) rfl rfl (Nat.le_of_ble_eq_true rfl) dX2_init_33 (fun H_12 locs hP2 hD2 hS2 => ?_)
  replace hP : va_P (dC, dI) vwCl [(h0, .inr (2, [.null, .null, .ref q_1, .ref q_4, .ref q_7, .ref q_10, .null, .int 0, .null, .null, .null])), (q_1, .inl (cy 1, 24, .inl (fun _ => 0))), (q_4, .inl (cy 2, 24, .inr (.inl (fun _ => 0)))), (q_7, .inl (cy 1, 24, .inl (fun _ => 0))), (q_10, .inl (cy 1, 24, .inl (fun _ => 0)))] H_12 := hP2
  replace hD : va_D A [(h0, .inr (2, [.null, .null, .ref q_1, .ref q_4, .ref q_7, .ref q_10, .null, .int 0, .null, .null, .null])), (q_1, .inl (cy 1, 24, .inl (fun _ => 0))), (q_4, .inl (cy 2, 24, .inr (.inl (fun _ => 0)))), (q_7, .inl (cy 1, 24, .inl (fun _ => 0))), (q_10, .inl (cy 1, 24, .inl (fun _ => 0)))] := hD2
  replace hS := hS2
  clear hP2 hD2 hS2
  refine lv_aload_n hx hb dX2_init_36 rfl (lv_at hl 0 rfl) ?_
  refine lv_bipush (v := 24) hx hb dX2_init_37 (by decide) ?_
  refine rl_newa (atype := .boolean) (ty := .boolean) (a0 := (24, .inl (fun _ => 0))) hx hb (hts _ m_X2_init_10) rfl hK hP hD hS hA 3 rfl (fun _ => rfl) (by decide) (by decide) (Nat.le_of_ble_eq_true rfl) (Nat.le_of_ble_eq_true rfl) (Nat.le_of_ble_eq_true rfl) dX2_init_39 (fun q_13 H_14 hP2 hD2 hS2 => ?_)
  replace hP : va_P (dC, dI) vwCl [(h0, .inr (2, [.null, .null, .ref q_1, .ref q_4, .ref q_7, .ref q_10, .null, .int 0, .null, .null, .null])), (q_1, .inl (cy 1, 24, .inl (fun _ => 0))), (q_4, .inl (cy 2, 24, .inr (.inl (fun _ => 0)))), (q_7, .inl (cy 1, 24, .inl (fun _ => 0))), (q_10, .inl (cy 1, 24, .inl (fun _ => 0))), (q_13, .inl (cy 3, 24, .inl (fun _ => 0)))] H_14 := hP2
  replace hD : va_D A [(h0, .inr (2, [.null, .null, .ref q_1, .ref q_4, .ref q_7, .ref q_10, .null, .int 0, .null, .null, .null])), (q_1, .inl (cy 1, 24, .inl (fun _ => 0))), (q_4, .inl (cy 2, 24, .inr (.inl (fun _ => 0)))), (q_7, .inl (cy 1, 24, .inl (fun _ => 0))), (q_10, .inl (cy 1, 24, .inl (fun _ => 0))), (q_13, .inl (cy 3, 24, .inl (fun _ => 0)))] := hD2
  replace hS := hS2
  clear hP2 hD2 hS2
  refine W.widen (k := 5) (n := 120) (Nat.le_of_ble_eq_true rfl) (Nat.le_of_ble_eq_true rfl) ?_
  refine va_putF (D := (dC, dI)) (ci := 2) (v := .ref q_13) (ty := .array .boolean) (C := RX2) (T := TX2) (N := 11) hx hb hts iw_X2_init_X2 tyX2 tyX2_ok nmX2 hown hK hP hD hS 0 rfl rfl 6 (by decide) (hts _ m_X2_init_11) (fun _ h9 => h9) rfl hin rfl (by decide +kernel) rfl rfl (Nat.le_of_ble_eq_true rfl) dX2_init_41 (fun H_15 locs hP2 hD2 hS2 => ?_)
  replace hP : va_P (dC, dI) vwCl [(h0, .inr (2, [.null, .null, .ref q_1, .ref q_4, .ref q_7, .ref q_10, .ref q_13, .int 0, .null, .null, .null])), (q_1, .inl (cy 1, 24, .inl (fun _ => 0))), (q_4, .inl (cy 2, 24, .inr (.inl (fun _ => 0)))), (q_7, .inl (cy 1, 24, .inl (fun _ => 0))), (q_10, .inl (cy 1, 24, .inl (fun _ => 0))), (q_13, .inl (cy 3, 24, .inl (fun _ => 0)))] H_15 := hP2
  replace hD : va_D A [(h0, .inr (2, [.null, .null, .ref q_1, .ref q_4, .ref q_7, .ref q_10, .ref q_13, .int 0, .null, .null, .null])), (q_1, .inl (cy 1, 24, .inl (fun _ => 0))), (q_4, .inl (cy 2, 24, .inr (.inl (fun _ => 0)))), (q_7, .inl (cy 1, 24, .inl (fun _ => 0))), (q_10, .inl (cy 1, 24, .inl (fun _ => 0))), (q_13, .inl (cy 3, 24, .inl (fun _ => 0)))] := hD2
  replace hS := hS2
  clear hP2 hD2 hS2
  refine lv_aload_n hx hb dX2_init_44 rfl (lv_at hl 0 rfl) ?_
  refine lv_bipush (v := 24) hx hb dX2_init_45 (by decide) ?_
  refine rl_newa (atype := .boolean) (ty := .boolean) (a0 := (24, .inl (fun _ => 0))) hx hb (hts _ m_X2_init_10) rfl hK hP hD hS hA 3 rfl (fun _ => rfl) (by decide) (by decide) (Nat.le_of_ble_eq_true rfl) (Nat.le_of_ble_eq_true rfl) (Nat.le_of_ble_eq_true rfl) dX2_init_47 (fun q_16 H_17 hP2 hD2 hS2 => ?_)
  replace hP : va_P (dC, dI) vwCl [(h0, .inr (2, [.null, .null, .ref q_1, .ref q_4, .ref q_7, .ref q_10, .ref q_13, .int 0, .null, .null, .null])), (q_1, .inl (cy 1, 24, .inl (fun _ => 0))), (q_4, .inl (cy 2, 24, .inr (.inl (fun _ => 0)))), (q_7, .inl (cy 1, 24, .inl (fun _ => 0))), (q_10, .inl (cy 1, 24, .inl (fun _ => 0))), (q_13, .inl (cy 3, 24, .inl (fun _ => 0))), (q_16, .inl (cy 3, 24, .inl (fun _ => 0)))] H_17 := hP2
  replace hD : va_D A [(h0, .inr (2, [.null, .null, .ref q_1, .ref q_4, .ref q_7, .ref q_10, .ref q_13, .int 0, .null, .null, .null])), (q_1, .inl (cy 1, 24, .inl (fun _ => 0))), (q_4, .inl (cy 2, 24, .inr (.inl (fun _ => 0)))), (q_7, .inl (cy 1, 24, .inl (fun _ => 0))), (q_10, .inl (cy 1, 24, .inl (fun _ => 0))), (q_13, .inl (cy 3, 24, .inl (fun _ => 0))), (q_16, .inl (cy 3, 24, .inl (fun _ => 0)))] := hD2
  replace hS := hS2
  clear hP2 hD2 hS2
  refine W.widen (k := 6) (n := 144) (Nat.le_of_ble_eq_true rfl) (Nat.le_of_ble_eq_true rfl) ?_
  refine va_putF (D := (dC, dI)) (ci := 2) (v := .ref q_16) (ty := .array .boolean) (C := RX2) (T := TX2) (N := 11) hx hb hts iw_X2_init_X2 tyX2 tyX2_ok nmX2 hown hK hP hD hS 0 rfl rfl 8 (by decide) (hts _ m_X2_init_12) (fun _ h9 => h9) rfl hin rfl (by decide +kernel) rfl rfl (Nat.le_of_ble_eq_true rfl) dX2_init_49 (fun H_18 locs hP2 hD2 hS2 => ?_)
  replace hP : va_P (dC, dI) vwCl [(h0, .inr (2, [.null, .null, .ref q_1, .ref q_4, .ref q_7, .ref q_10, .ref q_13, .int 0, .ref q_16, .null, .null])), (q_1, .inl (cy 1, 24, .inl (fun _ => 0))), (q_4, .inl (cy 2, 24, .inr (.inl (fun _ => 0)))), (q_7, .inl (cy 1, 24, .inl (fun _ => 0))), (q_10, .inl (cy 1, 24, .inl (fun _ => 0))), (q_13, .inl (cy 3, 24, .inl (fun _ => 0))), (q_16, .inl (cy 3, 24, .inl (fun _ => 0)))] H_18 := hP2
  replace hD : va_D A [(h0, .inr (2, [.null, .null, .ref q_1, .ref q_4, .ref q_7, .ref q_10, .ref q_13, .int 0, .ref q_16, .null, .null])), (q_1, .inl (cy 1, 24, .inl (fun _ => 0))), (q_4, .inl (cy 2, 24, .inr (.inl (fun _ => 0)))), (q_7, .inl (cy 1, 24, .inl (fun _ => 0))), (q_10, .inl (cy 1, 24, .inl (fun _ => 0))), (q_13, .inl (cy 3, 24, .inl (fun _ => 0))), (q_16, .inl (cy 3, 24, .inl (fun _ => 0)))] := hD2
  replace hS := hS2
  clear hP2 hD2 hS2
  refine lv_aload_n hx hb dX2_init_52 rfl (lv_at hl 0 rfl) ?_
  refine lv_bipush (v := 24) hx hb dX2_init_53 (by decide) ?_
  refine rl_newa (atype := .long) (ty := .long) (a0 := (24, .inr (.inl (fun _ => 0)))) hx hb (hts _ m_X2_init_6) rfl hK hP hD hS hA 2 rfl (fun _ => rfl) (by decide) (by decide) (Nat.le_of_ble_eq_true rfl) (Nat.le_of_ble_eq_true rfl) (Nat.le_of_ble_eq_true rfl) dX2_init_55 (fun q_19 H_20 hP2 hD2 hS2 => ?_)
  replace hP : va_P (dC, dI) vwCl [(h0, .inr (2, [.null, .null, .ref q_1, .ref q_4, .ref q_7, .ref q_10, .ref q_13, .int 0, .ref q_16, .null, .null])), (q_1, .inl (cy 1, 24, .inl (fun _ => 0))), (q_4, .inl (cy 2, 24, .inr (.inl (fun _ => 0)))), (q_7, .inl (cy 1, 24, .inl (fun _ => 0))), (q_10, .inl (cy 1, 24, .inl (fun _ => 0))), (q_13, .inl (cy 3, 24, .inl (fun _ => 0))), (q_16, .inl (cy 3, 24, .inl (fun _ => 0))), (q_19, .inl (cy 2, 24, .inr (.inl (fun _ => 0))))] H_20 := hP2
  replace hD : va_D A [(h0, .inr (2, [.null, .null, .ref q_1, .ref q_4, .ref q_7, .ref q_10, .ref q_13, .int 0, .ref q_16, .null, .null])), (q_1, .inl (cy 1, 24, .inl (fun _ => 0))), (q_4, .inl (cy 2, 24, .inr (.inl (fun _ => 0)))), (q_7, .inl (cy 1, 24, .inl (fun _ => 0))), (q_10, .inl (cy 1, 24, .inl (fun _ => 0))), (q_13, .inl (cy 3, 24, .inl (fun _ => 0))), (q_16, .inl (cy 3, 24, .inl (fun _ => 0))), (q_19, .inl (cy 2, 24, .inr (.inl (fun _ => 0))))] := hD2
  replace hS := hS2
  clear hP2 hD2 hS2
  refine W.widen (k := 7) (n := 168) (Nat.le_of_ble_eq_true rfl) (Nat.le_of_ble_eq_true rfl) ?_
  refine va_putF (D := (dC, dI)) (ci := 2) (v := .ref q_19) (ty := .array .long) (C := RX2) (T := TX2) (N := 11) hx hb hts iw_X2_init_X2 tyX2 tyX2_ok nmX2 hown hK hP hD hS 0 rfl rfl 9 (by decide) (hts _ m_X2_init_13) (fun _ h9 => h9) rfl hin rfl (by decide +kernel) rfl rfl (Nat.le_of_ble_eq_true rfl) dX2_init_57 (fun H_21 locs hP2 hD2 hS2 => ?_)
  replace hP : va_P (dC, dI) vwCl [(h0, .inr (2, [.null, .null, .ref q_1, .ref q_4, .ref q_7, .ref q_10, .ref q_13, .int 0, .ref q_16, .ref q_19, .null])), (q_1, .inl (cy 1, 24, .inl (fun _ => 0))), (q_4, .inl (cy 2, 24, .inr (.inl (fun _ => 0)))), (q_7, .inl (cy 1, 24, .inl (fun _ => 0))), (q_10, .inl (cy 1, 24, .inl (fun _ => 0))), (q_13, .inl (cy 3, 24, .inl (fun _ => 0))), (q_16, .inl (cy 3, 24, .inl (fun _ => 0))), (q_19, .inl (cy 2, 24, .inr (.inl (fun _ => 0))))] H_21 := hP2
  replace hD : va_D A [(h0, .inr (2, [.null, .null, .ref q_1, .ref q_4, .ref q_7, .ref q_10, .ref q_13, .int 0, .ref q_16, .ref q_19, .null])), (q_1, .inl (cy 1, 24, .inl (fun _ => 0))), (q_4, .inl (cy 2, 24, .inr (.inl (fun _ => 0)))), (q_7, .inl (cy 1, 24, .inl (fun _ => 0))), (q_10, .inl (cy 1, 24, .inl (fun _ => 0))), (q_13, .inl (cy 3, 24, .inl (fun _ => 0))), (q_16, .inl (cy 3, 24, .inl (fun _ => 0))), (q_19, .inl (cy 2, 24, .inr (.inl (fun _ => 0))))] := hD2
  replace hS := hS2
  clear hP2 hD2 hS2
  refine lv_aload_n hx hb dX2_init_60 rfl (lv_at hl 0 rfl) ?_
  refine lv_bipush (v := 24) hx hb dX2_init_61 (by decide) ?_
  refine rl_newa (atype := .int) (ty := .int) (a0 := (24, .inl (fun _ => 0))) hx hb (hts _ m_X2_init_4) rfl hK hP hD hS hA 1 rfl (fun _ => rfl) (by decide) (by decide) (Nat.le_of_ble_eq_true rfl) (Nat.le_of_ble_eq_true rfl) (Nat.le_of_ble_eq_true rfl) dX2_init_63 (fun q_22 H_23 hP2 hD2 hS2 => ?_)
  replace hP : va_P (dC, dI) vwCl [(h0, .inr (2, [.null, .null, .ref q_1, .ref q_4, .ref q_7, .ref q_10, .ref q_13, .int 0, .ref q_16, .ref q_19, .null])), (q_1, .inl (cy 1, 24, .inl (fun _ => 0))), (q_4, .inl (cy 2, 24, .inr (.inl (fun _ => 0)))), (q_7, .inl (cy 1, 24, .inl (fun _ => 0))), (q_10, .inl (cy 1, 24, .inl (fun _ => 0))), (q_13, .inl (cy 3, 24, .inl (fun _ => 0))), (q_16, .inl (cy 3, 24, .inl (fun _ => 0))), (q_19, .inl (cy 2, 24, .inr (.inl (fun _ => 0)))), (q_22, .inl (cy 1, 24, .inl (fun _ => 0)))] H_23 := hP2
  replace hD : va_D A [(h0, .inr (2, [.null, .null, .ref q_1, .ref q_4, .ref q_7, .ref q_10, .ref q_13, .int 0, .ref q_16, .ref q_19, .null])), (q_1, .inl (cy 1, 24, .inl (fun _ => 0))), (q_4, .inl (cy 2, 24, .inr (.inl (fun _ => 0)))), (q_7, .inl (cy 1, 24, .inl (fun _ => 0))), (q_10, .inl (cy 1, 24, .inl (fun _ => 0))), (q_13, .inl (cy 3, 24, .inl (fun _ => 0))), (q_16, .inl (cy 3, 24, .inl (fun _ => 0))), (q_19, .inl (cy 2, 24, .inr (.inl (fun _ => 0)))), (q_22, .inl (cy 1, 24, .inl (fun _ => 0)))] := hD2
  replace hS := hS2
  clear hP2 hD2 hS2
  refine W.widen (k := 8) (n := 192) (Nat.le_of_ble_eq_true rfl) (Nat.le_of_ble_eq_true rfl) ?_
  refine va_putF (D := (dC, dI)) (ci := 2) (v := .ref q_22) (ty := .array .int) (C := RX2) (T := TX2) (N := 11) hx hb hts iw_X2_init_X2 tyX2 tyX2_ok nmX2 hown hK hP hD hS 0 rfl rfl 10 (by decide) (hts _ m_X2_init_14) (fun _ h9 => h9) rfl hin rfl (by decide +kernel) rfl rfl (Nat.le_of_ble_eq_true rfl) dX2_init_65 (fun H_24 locs hP2 hD2 hS2 => ?_)
  replace hP : va_P (dC, dI) vwCl [(h0, .inr (2, [.null, .null, .ref q_1, .ref q_4, .ref q_7, .ref q_10, .ref q_13, .int 0, .ref q_16, .ref q_19, .ref q_22])), (q_1, .inl (cy 1, 24, .inl (fun _ => 0))), (q_4, .inl (cy 2, 24, .inr (.inl (fun _ => 0)))), (q_7, .inl (cy 1, 24, .inl (fun _ => 0))), (q_10, .inl (cy 1, 24, .inl (fun _ => 0))), (q_13, .inl (cy 3, 24, .inl (fun _ => 0))), (q_16, .inl (cy 3, 24, .inl (fun _ => 0))), (q_19, .inl (cy 2, 24, .inr (.inl (fun _ => 0)))), (q_22, .inl (cy 1, 24, .inl (fun _ => 0)))] H_24 := hP2
  replace hD : va_D A [(h0, .inr (2, [.null, .null, .ref q_1, .ref q_4, .ref q_7, .ref q_10, .ref q_13, .int 0, .ref q_16, .ref q_19, .ref q_22])), (q_1, .inl (cy 1, 24, .inl (fun _ => 0))), (q_4, .inl (cy 2, 24, .inr (.inl (fun _ => 0)))), (q_7, .inl (cy 1, 24, .inl (fun _ => 0))), (q_10, .inl (cy 1, 24, .inl (fun _ => 0))), (q_13, .inl (cy 3, 24, .inl (fun _ => 0))), (q_16, .inl (cy 3, 24, .inl (fun _ => 0))), (q_19, .inl (cy 2, 24, .inr (.inl (fun _ => 0)))), (q_22, .inl (cy 1, 24, .inl (fun _ => 0)))] := hD2
  replace hS := hS2
  clear hP2 hD2 hS2
  refine lv_aload_n hx hb dX2_init_68 rfl (lv_at hl 0 rfl) ?_
  refine lv_aload_n hx hb dX2_init_69 rfl (lv_at hl 1 rfl) ?_
  refine va_putF (D := (dC, dI)) (ci := 2) (v := .ref a1) (ty := .object "ResourceLedger$State") (C := RX2) (T := TX2) (N := 11) hx hb hts iw_X2_init_X2 tyX2 tyX2_ok nmX2 hown hK hP hD hS 0 rfl rfl 0 (by decide) (hts _ m_X2_init_15) (fun _ h9 => h9) rfl hin rfl (by decide +kernel) rfl rfl (Nat.le_of_ble_eq_true rfl) dX2_init_70 (fun H_25 locs hP2 hD2 hS2 => ?_)
  replace hP : va_P (dC, dI) vwCl [(h0, .inr (2, [.ref a1, .null, .ref q_1, .ref q_4, .ref q_7, .ref q_10, .ref q_13, .int 0, .ref q_16, .ref q_19, .ref q_22])), (q_1, .inl (cy 1, 24, .inl (fun _ => 0))), (q_4, .inl (cy 2, 24, .inr (.inl (fun _ => 0)))), (q_7, .inl (cy 1, 24, .inl (fun _ => 0))), (q_10, .inl (cy 1, 24, .inl (fun _ => 0))), (q_13, .inl (cy 3, 24, .inl (fun _ => 0))), (q_16, .inl (cy 3, 24, .inl (fun _ => 0))), (q_19, .inl (cy 2, 24, .inr (.inl (fun _ => 0)))), (q_22, .inl (cy 1, 24, .inl (fun _ => 0)))] H_25 := hP2
  replace hD : va_D A [(h0, .inr (2, [.ref a1, .null, .ref q_1, .ref q_4, .ref q_7, .ref q_10, .ref q_13, .int 0, .ref q_16, .ref q_19, .ref q_22])), (q_1, .inl (cy 1, 24, .inl (fun _ => 0))), (q_4, .inl (cy 2, 24, .inr (.inl (fun _ => 0)))), (q_7, .inl (cy 1, 24, .inl (fun _ => 0))), (q_10, .inl (cy 1, 24, .inl (fun _ => 0))), (q_13, .inl (cy 3, 24, .inl (fun _ => 0))), (q_16, .inl (cy 3, 24, .inl (fun _ => 0))), (q_19, .inl (cy 2, 24, .inr (.inl (fun _ => 0)))), (q_22, .inl (cy 1, 24, .inl (fun _ => 0)))] := hD2
  replace hS := hS2
  clear hP2 hD2 hS2
  refine lv_aload_n hx hb dX2_init_73 rfl (lv_at hl 0 rfl) ?_
  refine lv_aload_n hx hb dX2_init_74 rfl (lv_at hl 2 rfl) ?_
  refine va_putF (D := (dC, dI)) (ci := 2) (v := .ref a2) (ty := .object "ResourceLedger$Heap") (C := RX2) (T := TX2) (N := 11) hx hb hts iw_X2_init_X2 tyX2 tyX2_ok nmX2 hown hK hP hD hS 0 rfl rfl 1 (by decide) (hts _ m_X2_init_16) (fun _ h9 => h9) rfl hin rfl (by decide +kernel) rfl rfl (Nat.le_of_ble_eq_true rfl) dX2_init_75 (fun H_26 locs hP2 hD2 hS2 => ?_)
  replace hP : va_P (dC, dI) vwCl [(h0, .inr (2, [.ref a1, .ref a2, .ref q_1, .ref q_4, .ref q_7, .ref q_10, .ref q_13, .int 0, .ref q_16, .ref q_19, .ref q_22])), (q_1, .inl (cy 1, 24, .inl (fun _ => 0))), (q_4, .inl (cy 2, 24, .inr (.inl (fun _ => 0)))), (q_7, .inl (cy 1, 24, .inl (fun _ => 0))), (q_10, .inl (cy 1, 24, .inl (fun _ => 0))), (q_13, .inl (cy 3, 24, .inl (fun _ => 0))), (q_16, .inl (cy 3, 24, .inl (fun _ => 0))), (q_19, .inl (cy 2, 24, .inr (.inl (fun _ => 0)))), (q_22, .inl (cy 1, 24, .inl (fun _ => 0)))] H_26 := hP2
  replace hD : va_D A [(h0, .inr (2, [.ref a1, .ref a2, .ref q_1, .ref q_4, .ref q_7, .ref q_10, .ref q_13, .int 0, .ref q_16, .ref q_19, .ref q_22])), (q_1, .inl (cy 1, 24, .inl (fun _ => 0))), (q_4, .inl (cy 2, 24, .inr (.inl (fun _ => 0)))), (q_7, .inl (cy 1, 24, .inl (fun _ => 0))), (q_10, .inl (cy 1, 24, .inl (fun _ => 0))), (q_13, .inl (cy 3, 24, .inl (fun _ => 0))), (q_16, .inl (cy 3, 24, .inl (fun _ => 0))), (q_19, .inl (cy 2, 24, .inr (.inl (fun _ => 0)))), (q_22, .inl (cy 1, 24, .inl (fun _ => 0)))] := hD2
  replace hS := hS2
  clear hP2 hD2 hS2
  have hP9 := hP.sub (ws' := [(h0, .inr (2, [.ref a1, .ref a2, .ref q_1, .ref q_4, .ref q_7, .ref q_10, .ref q_13, .int 0, .ref q_16, .ref q_19, .ref q_22])), (q_1, .inl (cy 1, 24, .inl (fun _ => 0))), (q_4, .inl (cy 2, 24, .inr (.inl (fun _ => 0)))), (q_7, .inl (cy 1, 24, .inl (fun _ => 0))), (q_10, .inl (cy 1, 24, .inl (fun _ => 0))), (q_13, .inl (cy 3, 24, .inl (fun _ => 0))), (q_16, .inl (cy 3, 24, .inl (fun _ => 0))), (q_19, .inl (cy 2, 24, .inr (.inl (fun _ => 0)))), (q_22, .inl (cy 1, 24, .inl (fun _ => 0)))]) [0, 1, 2, 3, 4, 5, 6, 7, 8] rfl
  have hD9 := hD.sub (ws' := [(h0, .inr (2, [.ref a1, .ref a2, .ref q_1, .ref q_4, .ref q_7, .ref q_10, .ref q_13, .int 0, .ref q_16, .ref q_19, .ref q_22])), (q_1, .inl (cy 1, 24, .inl (fun _ => 0))), (q_4, .inl (cy 2, 24, .inr (.inl (fun _ => 0)))), (q_7, .inl (cy 1, 24, .inl (fun _ => 0))), (q_10, .inl (cy 1, 24, .inl (fun _ => 0))), (q_13, .inl (cy 3, 24, .inl (fun _ => 0))), (q_16, .inl (cy 3, 24, .inl (fun _ => 0))), (q_19, .inl (cy 2, 24, .inr (.inl (fun _ => 0)))), (q_22, .inl (cy 1, 24, .inl (fun _ => 0)))]) [0, 1, 2, 3, 4, 5, 6, 7, 8] (by decide) rfl
  exact W.vret hx hb hr (fun t ht hW => ⟨⟨(q_1, q_4, q_7, q_10, q_13, q_16, q_19, q_22), rfl, trivial, by rw [ht]; exact hP9, va_K.moved hW.alike hK, hD9⟩, hS.F ht⟩) hS.2.2 dX2_init_78

theorem m_X14_init_1 : (.methodLink RX14 1 objectInit : Cond) ∈ wsX14_init := List.mem_of_getElem? (i := 1) rfl
theorem m_X14_init_2 : (.instanceMethod objectInit : Cond) ∈ wsX14_init := List.mem_of_getElem? (i := 2) rfl
theorem m_X14_init_3 : (.code objectInit ⟨#[0xb1]⟩ 1 none : Cond) ∈ wsX14_init := List.mem_of_getElem? (i := 3) rfl
theorem m_X14_init_4 : (.arrayClass .long : Cond) ∈ wsX14_init := List.mem_of_getElem? (i := 4) rfl
theorem m_X14_init_5 : (.fieldLink RX14 7 "ResourceLedgerModel$Roots" "keys" "[J" : Cond) ∈ wsX14_init := List.mem_of_getElem? (i := 5) rfl
theorem iw_X14_init_X14 : ∀ w ∈ wsX140, w ∈ wsX14_init := fun _ h => List.mem_cons_of_mem _ (List.mem_append_right _ h)
theorem m_X14_init_6 : (.fieldLink RX14 13 "ResourceLedgerModel$Roots" "values" "[J" : Cond) ∈ wsX14_init := List.mem_of_getElem? (i := 6) rfl
theorem m_X14_init_7 : (.arrayClass .int : Cond) ∈ wsX14_init := List.mem_of_getElem? (i := 7) rfl
theorem m_X14_init_8 : (.fieldLink RX14 16 "ResourceLedgerModel$Roots" "sorts" "[I" : Cond) ∈ wsX14_init := List.mem_of_getElem? (i := 8) rfl
theorem m_X14_init_9 : (.fieldLink RX14 20 "ResourceLedgerModel$Roots" "addresses" "[J" : Cond) ∈ wsX14_init := List.mem_of_getElem? (i := 9) rfl
theorem m_X14_init_10 : (.fieldLink RX14 23 "ResourceLedgerModel$Roots" "kinds" "[I" : Cond) ∈ wsX14_init := List.mem_of_getElem? (i := 10) rfl
theorem m_X14_init_11 : (.fieldLink RX14 26 "ResourceLedgerModel$Roots" "hashes" "[J" : Cond) ∈ wsX14_init := List.mem_of_getElem? (i := 11) rfl
theorem m_X14_init_12 : (.fieldLink RX14 29 "ResourceLedgerModel$Roots" "begins" "[I" : Cond) ∈ wsX14_init := List.mem_of_getElem? (i := 12) rfl
theorem m_X14_init_13 : (.fieldLink RX14 32 "ResourceLedgerModel$Roots" "sizes" "[I" : Cond) ∈ wsX14_init := List.mem_of_getElem? (i := 13) rfl
theorem m_X14_init_14 : (.fieldLink RX14 35 "ResourceLedgerModel$Roots" "digester" "LResourceLedgerModel$Digester;" : Cond) ∈ wsX14_init := List.mem_of_getElem? (i := 14) rfl
set_option maxHeartbeats 4000000 in
set_option maxRecDepth 100000 in
theorem c_X14_init (l : Launch) (dC : Nat → ClassId) (dI : Nat → Nat → Nat) (cy : Nat → ClassId) (sz : Nat) (h0 a1 : Nat) : Met l yX14_init wsX14_init ({ frames := 1, cells := 8, slots := 4352, locals := 12 }) (va_Pc [.ref h0, .ref a1] (fun U => U.heap.size = sz ∧ va_P (dC, dI) vwCl [(h0, .inr (14, [.null, .null, .null, .null, .null, .int 0, .null, .null, .null, .int 0, .null]))] U.heap ∧ va_K (dC, dI) vwCl (TYS cy) U ∧ va_D (fun _ => True) [(h0, .inr (14, [.null, .null, .null, .null, .null, .int 0, .null, .null, .null, .int 0, .null]))] ∧ NK U)) (va_Qv (fun u : Nat × Nat × Nat × Nat × Nat × Nat × Nat × Nat => True) (fun u t => match u with | (q0, q1, q2, q3, q4, q5, q6, q7) => va_P (dC, dI) vwCl [(h0, .inr (14, [.ref q0, .ref q1, .ref q2, .ref q3, .ref q4, .int 0, .ref q5, .ref q6, .ref q7, .int 0, .ref a1])), (q0, .inl (cy 2, 1024, .inr (.inl (fun _ => 0)))), (q1, .inl (cy 2, 1024, .inr (.inl (fun _ => 0)))), (q2, .inl (cy 1, 256, .inl (fun _ => 0))), (q3, .inl (cy 2, 256, .inr (.inl (fun _ => 0)))), (q4, .inl (cy 1, 256, .inl (fun _ => 0))), (q5, .inl (cy 2, 1024, .inr (.inl (fun _ => 0)))), (q6, .inl (cy 1, 256, .inl (fun _ => 0))), (q7, .inl (cy 1, 256, .inl (fun _ => 0)))] t.heap ∧ va_K (dC, dI) vwCl (TYS cy) t ∧ va_D (va_A [(h0, .inr (14, [.null, .null, .null, .null, .null, .int 0, .null, .null, .null, .int 0, .null]))] sz) [(h0, .inr (14, [.ref q0, .ref q1, .ref q2, .ref q3, .ref q4, .int 0, .ref q5, .ref q6, .ref q7, .int 0, .ref a1])), (q0, .inl (cy 2, 1024, .inr (.inl (fun _ => 0)))), (q1, .inl (cy 2, 1024, .inr (.inl (fun _ => 0)))), (q2, .inl (cy 1, 256, .inl (fun _ => 0))), (q3, .inl (cy 2, 256, .inr (.inl (fun _ => 0)))), (q4, .inl (cy 1, 256, .inl (fun _ => 0))), (q5, .inl (cy 2, 1024, .inr (.inl (fun _ => 0)))), (q6, .inl (cy 1, 256, .inl (fun _ => 0))), (q7, .inl (cy 1, 256, .inl (fun _ => 0)))]) (va_A [(h0, .inr (14, [.null, .null, .null, .null, .null, .int 0, .null, .null, .null, .int 0, .null]))] sz)) 8 4352 (va_A [(h0, .inr (14, [.null, .null, .null, .null, .null, .int 0, .null, .null, .null, .int 0, .null]))] sz) := by
  refine Met.ofW (cc := cX14_init) (maxL := 2) (ret := none) (by decide) rfl ?_
  intro p e s m args below meth c s₁ B hml hv
  obtain ⟨rfl, hsz, hP, hK, hD0, hN⟩ := hv
  have hx := B.exec
  have hb := B.bytes
  have hr := B.returns
  have hts := atoms_spec (ws := wsX14_init) B.pre
  have hown : s.vm.findClass RX14 = some m.cls := findClass_of_methodNamed B.named
  have hlocks := B.notSynchronized
  have hin : meth.name = "<init>" := (name_of_methodNamed B.named B.method).1
  subst hsz
  have hD := hD0.self (sz := s.heap.size)
  generalize hAe : va_A [(h0, .inr (14, [.null, .null, .null, .null, .null, .int 0, .null, .null, .null, .int 0, .null]))] s.heap.size = A at hD ⊢
  have hA : ∀ q : Nat, s.heap.size ≤ q → A q := fun q h => by rw [← hAe]; exact Or.inr h
  have hS : va_S A s.heap s.heap [] := va_S.rf
  have hP : va_P (dC, dI) vwCl [(h0, .inr (14, [.null, .null, .null, .null, .null, .int 0, .null, .null, .null, .int 0, .null]))] s.heap := hP
  have hl := lv_entry ([.ref h0, .ref a1]) (n := 2) (Nat.le_of_ble_eq_true rfl)
  rw [lg_entry_eq]
  generalize (lg_sl ([.ref h0, .ref a1]) ++ List.replicate (2 - (lg_sl ([.ref h0, .ref a1])).length) Slot.unset).toArray = ls at hl ⊢
  replace hl : lv_has ls 2 [(0, .ref h0), (1, .ref a1)] := hl
  refine lv_aload_n hx hb dX14_init_0 rfl (lv_at hl 0 rfl) ?_
  refine W.objInit hx hb hown (hts _ m_X14_init_1) (hts _ m_X14_init_2) (hts _ m_X14_init_3) rfl (by rw [hml]; exact hl.1) rfl dX14_init_1 (Nat.le_of_ble_eq_true rfl) (Nat.le_of_ble_eq_true rfl) ?_
  refine W.eq (g2 := F0 m 4 ls []) rfl ?_
  refine lv_aload_n hx hb dX14_init_4 rfl (lv_at hl 0 rfl) ?_
  refine lv_sipush (v := 1024) hx hb dX14_init_5 (by decide) ?_
  refine rl_newa (atype := .long) (ty := .long) (a0 := (1024, .inr (.inl (fun _ => 0)))) hx hb (hts _ m_X14_init_4) rfl hK hP hD hS hA 2 rfl (fun _ => rfl) (by decide) (by decide) (Nat.le_of_ble_eq_true rfl) (Nat.le_of_ble_eq_true rfl) (Nat.le_of_ble_eq_true rfl) dX14_init_8 (fun q_1 H_2 hP2 hD2 hS2 => ?_)
  replace hP : va_P (dC, dI) vwCl [(h0, .inr (14, [.null, .null, .null, .null, .null, .int 0, .null, .null, .null, .int 0, .null])), (q_1, .inl (cy 2, 1024, .inr (.inl (fun _ => 0))))] H_2 := hP2
  replace hD : va_D A [(h0, .inr (14, [.null, .null, .null, .null, .null, .int 0, .null, .null, .null, .int 0, .null])), (q_1, .inl (cy 2, 1024, .inr (.inl (fun _ => 0))))] := hD2
  replace hS := hS2
  clear hP2 hD2 hS2
  refine W.widen (k := 1) (n := 1024) (Nat.le_of_ble_eq_true rfl) (Nat.le_of_ble_eq_true rfl) ?_
  refine va_putF (D := (dC, dI)) (ci := 14) (v := .ref q_1) (ty := .array .long) (C := RX14) (T := TX14) (N := 11) hx hb hts iw_X14_init_X14 tyX14 tyX14_ok nmX14 hown hK hP hD hS 0 rfl rfl 0 (by decide) (hts _ m_X14_init_5) (fun _ h9 => h9) rfl hin rfl (by decide +kernel) rfl rfl (Nat.le_of_ble_eq_true rfl) dX14_init_10 (fun H_3 locs hP2 hD2 hS2 => ?_)
  replace hP : va_P (dC, dI) vwCl [(h0, .inr (14, [.ref q_1, .null, .null, .null, .null, .int 0, .null, .null, .null, .int 0, .null])), (q_1, .inl (cy 2, 1024, .inr (.inl (fun _ => 0))))] H_3 := hP2
  replace hD : va_D A [(h0, .inr (14, [.ref q_1, .null, .null, .null, .null, .int 0, .null, .null, .null, .int 0, .null])), (q_1, .inl (cy 2, 1024, .inr (.inl (fun _ => 0))))] := hD2
  replace hS := hS2
  clear hP2 hD2 hS2
  refine lv_aload_n hx hb dX14_init_13 rfl (lv_at hl 0 rfl) ?_
  refine lv_sipush (v := 1024) hx hb dX14_init_14 (by decide) ?_
  refine rl_newa (atype := .long) (ty := .long) (a0 := (1024, .inr (.inl (fun _ => 0)))) hx hb (hts _ m_X14_init_4) rfl hK hP hD hS hA 2 rfl (fun _ => rfl) (by decide) (by decide) (Nat.le_of_ble_eq_true rfl) (Nat.le_of_ble_eq_true rfl) (Nat.le_of_ble_eq_true rfl) dX14_init_17 (fun q_4 H_5 hP2 hD2 hS2 => ?_)
  replace hP : va_P (dC, dI) vwCl [(h0, .inr (14, [.ref q_1, .null, .null, .null, .null, .int 0, .null, .null, .null, .int 0, .null])), (q_1, .inl (cy 2, 1024, .inr (.inl (fun _ => 0)))), (q_4, .inl (cy 2, 1024, .inr (.inl (fun _ => 0))))] H_5 := hP2
  replace hD : va_D A [(h0, .inr (14, [.ref q_1, .null, .null, .null, .null, .int 0, .null, .null, .null, .int 0, .null])), (q_1, .inl (cy 2, 1024, .inr (.inl (fun _ => 0)))), (q_4, .inl (cy 2, 1024, .inr (.inl (fun _ => 0))))] := hD2
  replace hS := hS2
  clear hP2 hD2 hS2
  refine W.widen (k := 2) (n := 2048) (Nat.le_of_ble_eq_true rfl) (Nat.le_of_ble_eq_true rfl) ?_
  refine va_putF (D := (dC, dI)) (ci := 14) (v := .ref q_4) (ty := .array .long) (C := RX14) (T := TX14) (N := 11) hx hb hts iw_X14_init_X14 tyX14 tyX14_ok nmX14 hown hK hP hD hS 0 rfl rfl 1 (by decide) (hts _ m_X14_init_6) (fun _ h9 => h9) rfl hin rfl (by decide +kernel) rfl rfl (Nat.le_of_ble_eq_true rfl) dX14_init_19 (fun H_6 locs hP2 hD2 hS2 => ?_)
  replace hP : va_P (dC, dI) vwCl [(h0, .inr (14, [.ref q_1, .ref q_4, .null, .null, .null, .int 0, .null, .null, .null, .int 0, .null])), (q_1, .inl (cy 2, 1024, .inr (.inl (fun _ => 0)))), (q_4, .inl (cy 2, 1024, .inr (.inl (fun _ => 0))))] H_6 := hP2
  replace hD : va_D A [(h0, .inr (14, [.ref q_1, .ref q_4, .null, .null, .null, .int 0, .null, .null, .null, .int 0, .null])), (q_1, .inl (cy 2, 1024, .inr (.inl (fun _ => 0)))), (q_4, .inl (cy 2, 1024, .inr (.inl (fun _ => 0))))] := hD2
  replace hS := hS2
  clear hP2 hD2 hS2
  refine lv_aload_n hx hb dX14_init_22 rfl (lv_at hl 0 rfl) ?_
  refine lv_sipush (v := 256) hx hb dX14_init_23 (by decide) ?_
  refine rl_newa (atype := .int) (ty := .int) (a0 := (256, .inl (fun _ => 0))) hx hb (hts _ m_X14_init_7) rfl hK hP hD hS hA 1 rfl (fun _ => rfl) (by decide) (by decide) (Nat.le_of_ble_eq_true rfl) (Nat.le_of_ble_eq_true rfl) (Nat.le_of_ble_eq_true rfl) dX14_init_26 (fun q_7 H_8 hP2 hD2 hS2 => ?_)
  replace hP : va_P (dC, dI) vwCl [(h0, .inr (14, [.ref q_1, .ref q_4, .null, .null, .null, .int 0, .null, .null, .null, .int 0, .null])), (q_1, .inl (cy 2, 1024, .inr (.inl (fun _ => 0)))), (q_4, .inl (cy 2, 1024, .inr (.inl (fun _ => 0)))), (q_7, .inl (cy 1, 256, .inl (fun _ => 0)))] H_8 := hP2
  replace hD : va_D A [(h0, .inr (14, [.ref q_1, .ref q_4, .null, .null, .null, .int 0, .null, .null, .null, .int 0, .null])), (q_1, .inl (cy 2, 1024, .inr (.inl (fun _ => 0)))), (q_4, .inl (cy 2, 1024, .inr (.inl (fun _ => 0)))), (q_7, .inl (cy 1, 256, .inl (fun _ => 0)))] := hD2
  replace hS := hS2
  clear hP2 hD2 hS2
  refine W.widen (k := 3) (n := 2304) (Nat.le_of_ble_eq_true rfl) (Nat.le_of_ble_eq_true rfl) ?_
  refine va_putF (D := (dC, dI)) (ci := 14) (v := .ref q_7) (ty := .array .int) (C := RX14) (T := TX14) (N := 11) hx hb hts iw_X14_init_X14 tyX14 tyX14_ok nmX14 hown hK hP hD hS 0 rfl rfl 2 (by decide) (hts _ m_X14_init_8) (fun _ h9 => h9) rfl hin rfl (by decide +kernel) rfl rfl (Nat.le_of_ble_eq_true rfl) dX14_init_28 (fun H_9 locs hP2 hD2 hS2 => ?_)
  replace hP : va_P (dC, dI) vwCl [(h0, .inr (14, [.ref q_1, .ref q_4, .ref q_7, .null, .null, .int 0, .null, .null, .null, .int 0, .null])), (q_1, .inl (cy 2, 1024, .inr (.inl (fun _ => 0)))), (q_4, .inl (cy 2, 1024, .inr (.inl (fun _ => 0)))), (q_7, .inl (cy 1, 256, .inl (fun _ => 0)))] H_9 := hP2
  replace hD : va_D A [(h0, .inr (14, [.ref q_1, .ref q_4, .ref q_7, .null, .null, .int 0, .null, .null, .null, .int 0, .null])), (q_1, .inl (cy 2, 1024, .inr (.inl (fun _ => 0)))), (q_4, .inl (cy 2, 1024, .inr (.inl (fun _ => 0)))), (q_7, .inl (cy 1, 256, .inl (fun _ => 0)))] := hD2
  replace hS := hS2
  clear hP2 hD2 hS2
  refine lv_aload_n hx hb dX14_init_31 rfl (lv_at hl 0 rfl) ?_
  refine lv_sipush (v := 256) hx hb dX14_init_32 (by decide) ?_
  refine rl_newa (atype := .long) (ty := .long) (a0 := (256, .inr (.inl (fun _ => 0)))) hx hb (hts _ m_X14_init_4) rfl hK hP hD hS hA 2 rfl (fun _ => rfl) (by decide) (by decide) (Nat.le_of_ble_eq_true rfl) (Nat.le_of_ble_eq_true rfl) (Nat.le_of_ble_eq_true rfl) dX14_init_35 (fun q_10 H_11 hP2 hD2 hS2 => ?_)
  replace hP : va_P (dC, dI) vwCl [(h0, .inr (14, [.ref q_1, .ref q_4, .ref q_7, .null, .null, .int 0, .null, .null, .null, .int 0, .null])), (q_1, .inl (cy 2, 1024, .inr (.inl (fun _ => 0)))), (q_4, .inl (cy 2, 1024, .inr (.inl (fun _ => 0)))), (q_7, .inl (cy 1, 256, .inl (fun _ => 0))), (q_10, .inl (cy 2, 256, .inr (.inl (fun _ => 0))))] H_11 := hP2
  replace hD : va_D A [(h0, .inr (14, [.ref q_1, .ref q_4, .ref q_7, .null, .null, .int 0, .null, .null, .null, .int 0, .null])), (q_1, .inl (cy 2, 1024, .inr (.inl (fun _ => 0)))), (q_4, .inl (cy 2, 1024, .inr (.inl (fun _ => 0)))), (q_7, .inl (cy 1, 256, .inl (fun _ => 0))), (q_10, .inl (cy 2, 256, .inr (.inl (fun _ => 0))))] := hD2
  replace hS := hS2
  clear hP2 hD2 hS2
  refine W.widen (k := 4) (n := 2560) (Nat.le_of_ble_eq_true rfl) (Nat.le_of_ble_eq_true rfl) ?_
  refine va_putF (D := (dC, dI)) (ci := 14) (v := .ref q_10) (ty := .array .long) (C := RX14) (T := TX14) (N := 11) hx hb hts iw_X14_init_X14 tyX14 tyX14_ok nmX14 hown hK hP hD hS 0 rfl rfl 3 (by decide) (hts _ m_X14_init_9) (fun _ h9 => h9) rfl hin rfl (by decide +kernel) rfl rfl (Nat.le_of_ble_eq_true rfl) dX14_init_37 (fun H_12 locs hP2 hD2 hS2 => ?_)
  replace hP : va_P (dC, dI) vwCl [(h0, .inr (14, [.ref q_1, .ref q_4, .ref q_7, .ref q_10, .null, .int 0, .null, .null, .null, .int 0, .null])), (q_1, .inl (cy 2, 1024, .inr (.inl (fun _ => 0)))), (q_4, .inl (cy 2, 1024, .inr (.inl (fun _ => 0)))), (q_7, .inl (cy 1, 256, .inl (fun _ => 0))), (q_10, .inl (cy 2, 256, .inr (.inl (fun _ => 0))))] H_12 := hP2
  replace hD : va_D A [(h0, .inr (14, [.ref q_1, .ref q_4, .ref q_7, .ref q_10, .null, .int 0, .null, .null, .null, .int 0, .null])), (q_1, .inl (cy 2, 1024, .inr (.inl (fun _ => 0)))), (q_4, .inl (cy 2, 1024, .inr (.inl (fun _ => 0)))), (q_7, .inl (cy 1, 256, .inl (fun _ => 0))), (q_10, .inl (cy 2, 256, .inr (.inl (fun _ => 0))))] := hD2
  replace hS := hS2
  clear hP2 hD2 hS2
  refine lv_aload_n hx hb dX14_init_40 rfl (lv_at hl 0 rfl) ?_
  refine lv_sipush (v := 256) hx hb dX14_init_41 (by decide) ?_
  refine rl_newa (atype := .int) (ty := .int) (a0 := (256, .inl (fun _ => 0))) hx hb (hts _ m_X14_init_7) rfl hK hP hD hS hA 1 rfl (fun _ => rfl) (by decide) (by decide) (Nat.le_of_ble_eq_true rfl) (Nat.le_of_ble_eq_true rfl) (Nat.le_of_ble_eq_true rfl) dX14_init_44 (fun q_13 H_14 hP2 hD2 hS2 => ?_)
  replace hP : va_P (dC, dI) vwCl [(h0, .inr (14, [.ref q_1, .ref q_4, .ref q_7, .ref q_10, .null, .int 0, .null, .null, .null, .int 0, .null])), (q_1, .inl (cy 2, 1024, .inr (.inl (fun _ => 0)))), (q_4, .inl (cy 2, 1024, .inr (.inl (fun _ => 0)))), (q_7, .inl (cy 1, 256, .inl (fun _ => 0))), (q_10, .inl (cy 2, 256, .inr (.inl (fun _ => 0)))), (q_13, .inl (cy 1, 256, .inl (fun _ => 0)))] H_14 := hP2
  replace hD : va_D A [(h0, .inr (14, [.ref q_1, .ref q_4, .ref q_7, .ref q_10, .null, .int 0, .null, .null, .null, .int 0, .null])), (q_1, .inl (cy 2, 1024, .inr (.inl (fun _ => 0)))), (q_4, .inl (cy 2, 1024, .inr (.inl (fun _ => 0)))), (q_7, .inl (cy 1, 256, .inl (fun _ => 0))), (q_10, .inl (cy 2, 256, .inr (.inl (fun _ => 0)))), (q_13, .inl (cy 1, 256, .inl (fun _ => 0)))] := hD2
  replace hS := hS2
  clear hP2 hD2 hS2
  refine W.widen (k := 5) (n := 2816) (Nat.le_of_ble_eq_true rfl) (Nat.le_of_ble_eq_true rfl) ?_
  refine va_putF (D := (dC, dI)) (ci := 14) (v := .ref q_13) (ty := .array .int) (C := RX14) (T := TX14) (N := 11) hx hb hts iw_X14_init_X14 tyX14 tyX14_ok nmX14 hown hK hP hD hS 0 rfl rfl 4 (by decide) (hts _ m_X14_init_10) (fun _ h9 => h9) rfl hin rfl (by decide +kernel) rfl rfl (Nat.le_of_ble_eq_true rfl) dX14_init_46 (fun H_15 locs hP2 hD2 hS2 => ?_)
  replace hP : va_P (dC, dI) vwCl [(h0, .inr (14, [.ref q_1, .ref q_4, .ref q_7, .ref q_10, .ref q_13, .int 0, .null, .null, .null, .int 0, .null])), (q_1, .inl (cy 2, 1024, .inr (.inl (fun _ => 0)))), (q_4, .inl (cy 2, 1024, .inr (.inl (fun _ => 0)))), (q_7, .inl (cy 1, 256, .inl (fun _ => 0))), (q_10, .inl (cy 2, 256, .inr (.inl (fun _ => 0)))), (q_13, .inl (cy 1, 256, .inl (fun _ => 0)))] H_15 := hP2
  replace hD : va_D A [(h0, .inr (14, [.ref q_1, .ref q_4, .ref q_7, .ref q_10, .ref q_13, .int 0, .null, .null, .null, .int 0, .null])), (q_1, .inl (cy 2, 1024, .inr (.inl (fun _ => 0)))), (q_4, .inl (cy 2, 1024, .inr (.inl (fun _ => 0)))), (q_7, .inl (cy 1, 256, .inl (fun _ => 0))), (q_10, .inl (cy 2, 256, .inr (.inl (fun _ => 0)))), (q_13, .inl (cy 1, 256, .inl (fun _ => 0)))] := hD2
  replace hS := hS2
  clear hP2 hD2 hS2
  refine lv_aload_n hx hb dX14_init_49 rfl (lv_at hl 0 rfl) ?_
  refine lv_sipush (v := 1024) hx hb dX14_init_50 (by decide) ?_
  refine rl_newa (atype := .long) (ty := .long) (a0 := (1024, .inr (.inl (fun _ => 0)))) hx hb (hts _ m_X14_init_4) rfl hK hP hD hS hA 2 rfl (fun _ => rfl) (by decide) (by decide) (Nat.le_of_ble_eq_true rfl) (Nat.le_of_ble_eq_true rfl) (Nat.le_of_ble_eq_true rfl) dX14_init_53 (fun q_16 H_17 hP2 hD2 hS2 => ?_)
  replace hP : va_P (dC, dI) vwCl [(h0, .inr (14, [.ref q_1, .ref q_4, .ref q_7, .ref q_10, .ref q_13, .int 0, .null, .null, .null, .int 0, .null])), (q_1, .inl (cy 2, 1024, .inr (.inl (fun _ => 0)))), (q_4, .inl (cy 2, 1024, .inr (.inl (fun _ => 0)))), (q_7, .inl (cy 1, 256, .inl (fun _ => 0))), (q_10, .inl (cy 2, 256, .inr (.inl (fun _ => 0)))), (q_13, .inl (cy 1, 256, .inl (fun _ => 0))), (q_16, .inl (cy 2, 1024, .inr (.inl (fun _ => 0))))] H_17 := hP2
  replace hD : va_D A [(h0, .inr (14, [.ref q_1, .ref q_4, .ref q_7, .ref q_10, .ref q_13, .int 0, .null, .null, .null, .int 0, .null])), (q_1, .inl (cy 2, 1024, .inr (.inl (fun _ => 0)))), (q_4, .inl (cy 2, 1024, .inr (.inl (fun _ => 0)))), (q_7, .inl (cy 1, 256, .inl (fun _ => 0))), (q_10, .inl (cy 2, 256, .inr (.inl (fun _ => 0)))), (q_13, .inl (cy 1, 256, .inl (fun _ => 0))), (q_16, .inl (cy 2, 1024, .inr (.inl (fun _ => 0))))] := hD2
  replace hS := hS2
  clear hP2 hD2 hS2
  refine W.widen (k := 6) (n := 3840) (Nat.le_of_ble_eq_true rfl) (Nat.le_of_ble_eq_true rfl) ?_
  refine va_putF (D := (dC, dI)) (ci := 14) (v := .ref q_16) (ty := .array .long) (C := RX14) (T := TX14) (N := 11) hx hb hts iw_X14_init_X14 tyX14 tyX14_ok nmX14 hown hK hP hD hS 0 rfl rfl 6 (by decide) (hts _ m_X14_init_11) (fun _ h9 => h9) rfl hin rfl (by decide +kernel) rfl rfl (Nat.le_of_ble_eq_true rfl) dX14_init_55 (fun H_18 locs hP2 hD2 hS2 => ?_)
  replace hP : va_P (dC, dI) vwCl [(h0, .inr (14, [.ref q_1, .ref q_4, .ref q_7, .ref q_10, .ref q_13, .int 0, .ref q_16, .null, .null, .int 0, .null])), (q_1, .inl (cy 2, 1024, .inr (.inl (fun _ => 0)))), (q_4, .inl (cy 2, 1024, .inr (.inl (fun _ => 0)))), (q_7, .inl (cy 1, 256, .inl (fun _ => 0))), (q_10, .inl (cy 2, 256, .inr (.inl (fun _ => 0)))), (q_13, .inl (cy 1, 256, .inl (fun _ => 0))), (q_16, .inl (cy 2, 1024, .inr (.inl (fun _ => 0))))] H_18 := hP2
  replace hD : va_D A [(h0, .inr (14, [.ref q_1, .ref q_4, .ref q_7, .ref q_10, .ref q_13, .int 0, .ref q_16, .null, .null, .int 0, .null])), (q_1, .inl (cy 2, 1024, .inr (.inl (fun _ => 0)))), (q_4, .inl (cy 2, 1024, .inr (.inl (fun _ => 0)))), (q_7, .inl (cy 1, 256, .inl (fun _ => 0))), (q_10, .inl (cy 2, 256, .inr (.inl (fun _ => 0)))), (q_13, .inl (cy 1, 256, .inl (fun _ => 0))), (q_16, .inl (cy 2, 1024, .inr (.inl (fun _ => 0))))] := hD2
  replace hS := hS2
  clear hP2 hD2 hS2
  refine lv_aload_n hx hb dX14_init_58 rfl (lv_at hl 0 rfl) ?_
  refine lv_sipush (v := 256) hx hb dX14_init_59 (by decide) ?_
  refine rl_newa (atype := .int) (ty := .int) (a0 := (256, .inl (fun _ => 0))) hx hb (hts _ m_X14_init_7) rfl hK hP hD hS hA 1 rfl (fun _ => rfl) (by decide) (by decide) (Nat.le_of_ble_eq_true rfl) (Nat.le_of_ble_eq_true rfl) (Nat.le_of_ble_eq_true rfl) dX14_init_62 (fun q_19 H_20 hP2 hD2 hS2 => ?_)
  replace hP : va_P (dC, dI) vwCl [(h0, .inr (14, [.ref q_1, .ref q_4, .ref q_7, .ref q_10, .ref q_13, .int 0, .ref q_16, .null, .null, .int 0, .null])), (q_1, .inl (cy 2, 1024, .inr (.inl (fun _ => 0)))), (q_4, .inl (cy 2, 1024, .inr (.inl (fun _ => 0)))), (q_7, .inl (cy 1, 256, .inl (fun _ => 0))), (q_10, .inl (cy 2, 256, .inr (.inl (fun _ => 0)))), (q_13, .inl (cy 1, 256, .inl (fun _ => 0))), (q_16, .inl (cy 2, 1024, .inr (.inl (fun _ => 0)))), (q_19, .inl (cy 1, 256, .inl (fun _ => 0)))] H_20 := hP2
  replace hD : va_D A [(h0, .inr (14, [.ref q_1, .ref q_4, .ref q_7, .ref q_10, .ref q_13, .int 0, .ref q_16, .null, .null, .int 0, .null])), (q_1, .inl (cy 2, 1024, .inr (.inl (fun _ => 0)))), (q_4, .inl (cy 2, 1024, .inr (.inl (fun _ => 0)))), (q_7, .inl (cy 1, 256, .inl (fun _ => 0))), (q_10, .inl (cy 2, 256, .inr (.inl (fun _ => 0)))), (q_13, .inl (cy 1, 256, .inl (fun _ => 0))), (q_16, .inl (cy 2, 1024, .inr (.inl (fun _ => 0)))), (q_19, .inl (cy 1, 256, .inl (fun _ => 0)))] := hD2
  replace hS := hS2
  clear hP2 hD2 hS2
  refine W.widen (k := 7) (n := 4096) (Nat.le_of_ble_eq_true rfl) (Nat.le_of_ble_eq_true rfl) ?_
  refine va_putF (D := (dC, dI)) (ci := 14) (v := .ref q_19) (ty := .array .int) (C := RX14) (T := TX14) (N := 11) hx hb hts iw_X14_init_X14 tyX14 tyX14_ok nmX14 hown hK hP hD hS 0 rfl rfl 7 (by decide) (hts _ m_X14_init_12) (fun _ h9 => h9) rfl hin rfl (by decide +kernel) rfl rfl (Nat.le_of_ble_eq_true rfl) dX14_init_64 (fun H_21 locs hP2 hD2 hS2 => ?_)
  replace hP : va_P (dC, dI) vwCl [(h0, .inr (14, [.ref q_1, .ref q_4, .ref q_7, .ref q_10, .ref q_13, .int 0, .ref q_16, .ref q_19, .null, .int 0, .null])), (q_1, .inl (cy 2, 1024, .inr (.inl (fun _ => 0)))), (q_4, .inl (cy 2, 1024, .inr (.inl (fun _ => 0)))), (q_7, .inl (cy 1, 256, .inl (fun _ => 0))), (q_10, .inl (cy 2, 256, .inr (.inl (fun _ => 0)))), (q_13, .inl (cy 1, 256, .inl (fun _ => 0))), (q_16, .inl (cy 2, 1024, .inr (.inl (fun _ => 0)))), (q_19, .inl (cy 1, 256, .inl (fun _ => 0)))] H_21 := hP2
  replace hD : va_D A [(h0, .inr (14, [.ref q_1, .ref q_4, .ref q_7, .ref q_10, .ref q_13, .int 0, .ref q_16, .ref q_19, .null, .int 0, .null])), (q_1, .inl (cy 2, 1024, .inr (.inl (fun _ => 0)))), (q_4, .inl (cy 2, 1024, .inr (.inl (fun _ => 0)))), (q_7, .inl (cy 1, 256, .inl (fun _ => 0))), (q_10, .inl (cy 2, 256, .inr (.inl (fun _ => 0)))), (q_13, .inl (cy 1, 256, .inl (fun _ => 0))), (q_16, .inl (cy 2, 1024, .inr (.inl (fun _ => 0)))), (q_19, .inl (cy 1, 256, .inl (fun _ => 0)))] := hD2
  replace hS := hS2
  clear hP2 hD2 hS2
  refine lv_aload_n hx hb dX14_init_67 rfl (lv_at hl 0 rfl) ?_
  refine lv_sipush (v := 256) hx hb dX14_init_68 (by decide) ?_
  refine rl_newa (atype := .int) (ty := .int) (a0 := (256, .inl (fun _ => 0))) hx hb (hts _ m_X14_init_7) rfl hK hP hD hS hA 1 rfl (fun _ => rfl) (by decide) (by decide) (Nat.le_of_ble_eq_true rfl) (Nat.le_of_ble_eq_true rfl) (Nat.le_of_ble_eq_true rfl) dX14_init_71 (fun q_22 H_23 hP2 hD2 hS2 => ?_)
  replace hP : va_P (dC, dI) vwCl [(h0, .inr (14, [.ref q_1, .ref q_4, .ref q_7, .ref q_10, .ref q_13, .int 0, .ref q_16, .ref q_19, .null, .int 0, .null])), (q_1, .inl (cy 2, 1024, .inr (.inl (fun _ => 0)))), (q_4, .inl (cy 2, 1024, .inr (.inl (fun _ => 0)))), (q_7, .inl (cy 1, 256, .inl (fun _ => 0))), (q_10, .inl (cy 2, 256, .inr (.inl (fun _ => 0)))), (q_13, .inl (cy 1, 256, .inl (fun _ => 0))), (q_16, .inl (cy 2, 1024, .inr (.inl (fun _ => 0)))), (q_19, .inl (cy 1, 256, .inl (fun _ => 0))), (q_22, .inl (cy 1, 256, .inl (fun _ => 0)))] H_23 := hP2
  replace hD : va_D A [(h0, .inr (14, [.ref q_1, .ref q_4, .ref q_7, .ref q_10, .ref q_13, .int 0, .ref q_16, .ref q_19, .null, .int 0, .null])), (q_1, .inl (cy 2, 1024, .inr (.inl (fun _ => 0)))), (q_4, .inl (cy 2, 1024, .inr (.inl (fun _ => 0)))), (q_7, .inl (cy 1, 256, .inl (fun _ => 0))), (q_10, .inl (cy 2, 256, .inr (.inl (fun _ => 0)))), (q_13, .inl (cy 1, 256, .inl (fun _ => 0))), (q_16, .inl (cy 2, 1024, .inr (.inl (fun _ => 0)))), (q_19, .inl (cy 1, 256, .inl (fun _ => 0))), (q_22, .inl (cy 1, 256, .inl (fun _ => 0)))] := hD2
  replace hS := hS2
  clear hP2 hD2 hS2
  refine W.widen (k := 8) (n := 4352) (Nat.le_of_ble_eq_true rfl) (Nat.le_of_ble_eq_true rfl) ?_
  refine va_putF (D := (dC, dI)) (ci := 14) (v := .ref q_22) (ty := .array .int) (C := RX14) (T := TX14) (N := 11) hx hb hts iw_X14_init_X14 tyX14 tyX14_ok nmX14 hown hK hP hD hS 0 rfl rfl 8 (by decide) (hts _ m_X14_init_13) (fun _ h9 => h9) rfl hin rfl (by decide +kernel) rfl rfl (Nat.le_of_ble_eq_true rfl) dX14_init_73 (fun H_24 locs hP2 hD2 hS2 => ?_)
  replace hP : va_P (dC, dI) vwCl [(h0, .inr (14, [.ref q_1, .ref q_4, .ref q_7, .ref q_10, .ref q_13, .int 0, .ref q_16, .ref q_19, .ref q_22, .int 0, .null])), (q_1, .inl (cy 2, 1024, .inr (.inl (fun _ => 0)))), (q_4, .inl (cy 2, 1024, .inr (.inl (fun _ => 0)))), (q_7, .inl (cy 1, 256, .inl (fun _ => 0))), (q_10, .inl (cy 2, 256, .inr (.inl (fun _ => 0)))), (q_13, .inl (cy 1, 256, .inl (fun _ => 0))), (q_16, .inl (cy 2, 1024, .inr (.inl (fun _ => 0)))), (q_19, .inl (cy 1, 256, .inl (fun _ => 0))), (q_22, .inl (cy 1, 256, .inl (fun _ => 0)))] H_24 := hP2
  replace hD : va_D A [(h0, .inr (14, [.ref q_1, .ref q_4, .ref q_7, .ref q_10, .ref q_13, .int 0, .ref q_16, .ref q_19, .ref q_22, .int 0, .null])), (q_1, .inl (cy 2, 1024, .inr (.inl (fun _ => 0)))), (q_4, .inl (cy 2, 1024, .inr (.inl (fun _ => 0)))), (q_7, .inl (cy 1, 256, .inl (fun _ => 0))), (q_10, .inl (cy 2, 256, .inr (.inl (fun _ => 0)))), (q_13, .inl (cy 1, 256, .inl (fun _ => 0))), (q_16, .inl (cy 2, 1024, .inr (.inl (fun _ => 0)))), (q_19, .inl (cy 1, 256, .inl (fun _ => 0))), (q_22, .inl (cy 1, 256, .inl (fun _ => 0)))] := hD2
  replace hS := hS2
  clear hP2 hD2 hS2
  refine lv_aload_n hx hb dX14_init_76 rfl (lv_at hl 0 rfl) ?_
  refine lv_aload_n hx hb dX14_init_77 rfl (lv_at hl 1 rfl) ?_
  refine va_putF (D := (dC, dI)) (ci := 14) (v := .ref a1) (ty := .object "ResourceLedgerModel$Digester") (C := RX14) (T := TX14) (N := 11) hx hb hts iw_X14_init_X14 tyX14 tyX14_ok nmX14 hown hK hP hD hS 0 rfl rfl 10 (by decide) (hts _ m_X14_init_14) (fun _ h9 => h9) rfl hin rfl (by decide +kernel) rfl rfl (Nat.le_of_ble_eq_true rfl) dX14_init_78 (fun H_25 locs hP2 hD2 hS2 => ?_)
  replace hP : va_P (dC, dI) vwCl [(h0, .inr (14, [.ref q_1, .ref q_4, .ref q_7, .ref q_10, .ref q_13, .int 0, .ref q_16, .ref q_19, .ref q_22, .int 0, .ref a1])), (q_1, .inl (cy 2, 1024, .inr (.inl (fun _ => 0)))), (q_4, .inl (cy 2, 1024, .inr (.inl (fun _ => 0)))), (q_7, .inl (cy 1, 256, .inl (fun _ => 0))), (q_10, .inl (cy 2, 256, .inr (.inl (fun _ => 0)))), (q_13, .inl (cy 1, 256, .inl (fun _ => 0))), (q_16, .inl (cy 2, 1024, .inr (.inl (fun _ => 0)))), (q_19, .inl (cy 1, 256, .inl (fun _ => 0))), (q_22, .inl (cy 1, 256, .inl (fun _ => 0)))] H_25 := hP2
  replace hD : va_D A [(h0, .inr (14, [.ref q_1, .ref q_4, .ref q_7, .ref q_10, .ref q_13, .int 0, .ref q_16, .ref q_19, .ref q_22, .int 0, .ref a1])), (q_1, .inl (cy 2, 1024, .inr (.inl (fun _ => 0)))), (q_4, .inl (cy 2, 1024, .inr (.inl (fun _ => 0)))), (q_7, .inl (cy 1, 256, .inl (fun _ => 0))), (q_10, .inl (cy 2, 256, .inr (.inl (fun _ => 0)))), (q_13, .inl (cy 1, 256, .inl (fun _ => 0))), (q_16, .inl (cy 2, 1024, .inr (.inl (fun _ => 0)))), (q_19, .inl (cy 1, 256, .inl (fun _ => 0))), (q_22, .inl (cy 1, 256, .inl (fun _ => 0)))] := hD2
  replace hS := hS2
  clear hP2 hD2 hS2
  have hP9 := hP.sub (ws' := [(h0, .inr (14, [.ref q_1, .ref q_4, .ref q_7, .ref q_10, .ref q_13, .int 0, .ref q_16, .ref q_19, .ref q_22, .int 0, .ref a1])), (q_1, .inl (cy 2, 1024, .inr (.inl (fun _ => 0)))), (q_4, .inl (cy 2, 1024, .inr (.inl (fun _ => 0)))), (q_7, .inl (cy 1, 256, .inl (fun _ => 0))), (q_10, .inl (cy 2, 256, .inr (.inl (fun _ => 0)))), (q_13, .inl (cy 1, 256, .inl (fun _ => 0))), (q_16, .inl (cy 2, 1024, .inr (.inl (fun _ => 0)))), (q_19, .inl (cy 1, 256, .inl (fun _ => 0))), (q_22, .inl (cy 1, 256, .inl (fun _ => 0)))]) [0, 1, 2, 3, 4, 5, 6, 7, 8] rfl
  have hD9 := hD.sub (ws' := [(h0, .inr (14, [.ref q_1, .ref q_4, .ref q_7, .ref q_10, .ref q_13, .int 0, .ref q_16, .ref q_19, .ref q_22, .int 0, .ref a1])), (q_1, .inl (cy 2, 1024, .inr (.inl (fun _ => 0)))), (q_4, .inl (cy 2, 1024, .inr (.inl (fun _ => 0)))), (q_7, .inl (cy 1, 256, .inl (fun _ => 0))), (q_10, .inl (cy 2, 256, .inr (.inl (fun _ => 0)))), (q_13, .inl (cy 1, 256, .inl (fun _ => 0))), (q_16, .inl (cy 2, 1024, .inr (.inl (fun _ => 0)))), (q_19, .inl (cy 1, 256, .inl (fun _ => 0))), (q_22, .inl (cy 1, 256, .inl (fun _ => 0)))]) [0, 1, 2, 3, 4, 5, 6, 7, 8] (by decide) rfl
  exact W.vret hx hb hr (fun t ht hW => ⟨⟨(q_1, q_4, q_7, q_10, q_13, q_16, q_19, q_22), rfl, trivial, by rw [ht]; exact hP9, va_K.moved hW.alike hK, hD9⟩, hS.F ht⟩) hS.2.2 dX14_init_81
