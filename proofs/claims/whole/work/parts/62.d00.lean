theorem md_X18_slips_1 : (.fieldLink RX18 322 "ResourceLedgerModel" "slips" "I" : Cond) ∈ wsX18_slips := List.mem_of_getElem? (i := 1) rfl
theorem iwd_X18_slips_X18 : ∀ w ∈ wsX180, w ∈ wsX18_slips := fun _ h => List.mem_cons_of_mem _ (List.mem_append_right _ h)
set_option maxHeartbeats 4000000 in
set_option maxRecDepth 100000 in
theorem de_X18_slips (l : Launch) (dC : Nat → ClassId) (dI : Nat → Nat → Nat) (cy : Nat → ClassId) (a : Nat → Nat) (sh : Nat → Nat × Nat) (n sz : Nat) (F : Nat) (z : St) (h0 : Nat) {z8 : St} {r8 : Int32} (hf : fn_X18_slips F sh n z h0 = some (z8, r8)) : Met l yX18_slips wsX18_slips ({ frames := 0, cells := 0, slots := 0, locals := 0 }) (va_Pc [.ref (a h0)] (fun U => U.heap.size = sz ∧ va_P (dC, dI) vwCl (Wd cy a sh n z) U.heap ∧ va_K (dC, dI) vwCl (TYS cy) U ∧ va_D (fun _ => True) (Wd cy a sh n z) ∧ NK U)) (va_Qi (fun (r9 : Int32) (u : Unit) => r9 = r8) (fun u t => va_P (dC, dI) vwCl (Wd cy a sh n z8) t.heap ∧ va_K (dC, dI) vwCl (TYS cy) t ∧ va_D (va_A (Wd cy a sh n z) sz) (Wd cy a sh n z8)) (va_A (Wd cy a sh n z) sz)) 0 0 (va_A (Wd cy a sh n z) sz) := by
  refine Met.ofW (cc := cX18_slips) (maxL := 1) (ret := (some .int)) (by decide) rfl ?_
  intro p e s m args below meth c s₁ B hml hv
  obtain ⟨rfl, hsz, hP, hK, hD0, hN⟩ := hv
  have hx := B.exec
  have hb := B.bytes
  have hr := B.returns
  have hts := atoms_spec (ws := wsX18_slips) B.pre
  have hown : s.vm.findClass RX18 = some m.cls := findClass_of_methodNamed B.named
  have hlocks := B.notSynchronized
  subst hsz
  have hD := hD0.self (sz := s.heap.size)
  clear hD0
  generalize hAe : va_A (Wd cy a sh n z) s.heap.size = A at hD ⊢
  have hA : ∀ q : Nat, s.heap.size ≤ q → A q := fun q h => by rw [← hAe]; exact Or.inr h
  clear hAe
  have hS : va_S A s.heap s.heap [] := va_S.rf
  have hl := lv_entry ([.ref (a h0)]) (n := 1) (Nat.le_of_ble_eq_true rfl)
  rw [lg_entry_eq]
  generalize (lg_sl ([.ref (a h0)]) ++ List.replicate (1 - (lg_sl ([.ref (a h0)])).length) Slot.unset).toArray = ls at hl ⊢
  replace hl : lv_has ls 1 [(0, .ref (a h0))] := hl
  unfold fn_X18_slips at hf
  refine de_start hS hP (fun H locs hS hP => ?_)
  refine lv_aload_n hx hb dX18_slips_0 rfl (lv_at hl 0 rfl) ?_
  obtain ⟨g_1, hf⟩ := grd_some hf
  obtain ⟨kg_1, sg_1⟩ := okO_at g_1
  refine va_get (D := (dC, dI)) (ci := 18) (v := .int (z.1 h0 22)) (C := RX18) (T := TX18) (N := 78) hx hb hts iwd_X18_slips_X18 hown hK hP h0 (Wd_ob kg_1 sg_1 (by decide)) rfl 22 (by decide) (hts _ md_X18_slips_1) (fun _ h9 => h9) (fl_at (t := 0) rfl) dX18_slips_1 ?_
  obtain ⟨h8, h9⟩ := ret_some hf
  rw [h8, h9]
  exact W.iret (v := (z.1 h0 22)) hx hb hr (fun t ht hW => ⟨⟨(z.1 h0 22), (), rfl, rfl, by rw [ht]; exact hP, va_K.moved hW.alike hK, hD⟩, hS.F ht⟩) hS.2.2 dX18_slips_4

theorem md_X12_begin_1 : (.fieldLink RX12 20 "ResourceLedgerModel$Digester" "size" "I" : Cond) ∈ wsX12_begin := List.mem_of_getElem? (i := 1) rfl
theorem iwd_X12_begin_X12 : ∀ w ∈ wsX120, w ∈ wsX12_begin := fun _ h => List.mem_cons_of_mem _ (List.mem_append_right _ h)
set_option maxHeartbeats 4000000 in
set_option maxRecDepth 100000 in
theorem de_X12_begin (l : Launch) (dC : Nat → ClassId) (dI : Nat → Nat → Nat) (cy : Nat → ClassId) (a : Nat → Nat) (sh : Nat → Nat × Nat) (n sz : Nat) (F : Nat) (z : St) (h0 : Nat) {z8 : St} {r8 : Unit} (hf : fn_X12_begin F sh n z h0 = some (z8, r8)) : Met l yX12_begin wsX12_begin ({ frames := 0, cells := 0, slots := 0, locals := 0 }) (va_Pc [.ref (a h0)] (fun U => U.heap.size = sz ∧ va_P (dC, dI) vwCl (Wd cy a sh n z) U.heap ∧ va_K (dC, dI) vwCl (TYS cy) U ∧ va_D (fun _ => True) (Wd cy a sh n z) ∧ NK U)) (va_Qv (fun u : Unit => True) (fun u t => va_P (dC, dI) vwCl (Wd cy a sh n z8) t.heap ∧ va_K (dC, dI) vwCl (TYS cy) t ∧ va_D (va_A (Wd cy a sh n z) sz) (Wd cy a sh n z8)) (va_A (Wd cy a sh n z) sz)) 0 0 (va_A (Wd cy a sh n z) sz) := by
  refine Met.ofW (cc := cX12_begin) (maxL := 1) (ret := none) (by decide) rfl ?_
  intro p e s m args below meth c s₁ B hml hv
  obtain ⟨rfl, hsz, hP, hK, hD0, hN⟩ := hv
  have hx := B.exec
  have hb := B.bytes
  have hr := B.returns
  have hts := atoms_spec (ws := wsX12_begin) B.pre
  have hown : s.vm.findClass RX12 = some m.cls := findClass_of_methodNamed B.named
  have hlocks := B.notSynchronized
  subst hsz
  have hD := hD0.self (sz := s.heap.size)
  clear hD0
  generalize hAe : va_A (Wd cy a sh n z) s.heap.size = A at hD ⊢
  have hA : ∀ q : Nat, s.heap.size ≤ q → A q := fun q h => by rw [← hAe]; exact Or.inr h
  clear hAe
  have hS : va_S A s.heap s.heap [] := va_S.rf
  have hl := lv_entry ([.ref (a h0)]) (n := 1) (Nat.le_of_ble_eq_true rfl)
  rw [lg_entry_eq]
  generalize (lg_sl ([.ref (a h0)]) ++ List.replicate (1 - (lg_sl ([.ref (a h0)])).length) Slot.unset).toArray = ls at hl ⊢
  replace hl : lv_has ls 1 [(0, .ref (a h0))] := hl
  unfold fn_X12_begin at hf
  refine de_start hS hP (fun H locs hS hP => ?_)
  refine lv_aload_n hx hb dX12_begin_0 rfl (lv_at hl 0 rfl) ?_
  refine lv_iconst (v := 0) hx hb dX12_begin_1 (by decide) ?_
  obtain ⟨g_1, hf⟩ := grd_some hf
  obtain ⟨kg_1, sg_1⟩ := okO_at g_1
  refine va_put (D := (dC, dI)) (ci := 12) (v := .int 0) (ty := .int) (C := RX12) (T := TX12) (N := 4) hx hb hts iwd_X12_begin_X12 tyX12 tyX12_ok nmX12 hown hK hP hD hS h0 (Wd_ob kg_1 sg_1 (by decide)) rfl 1 (by decide) (hts _ md_X12_begin_1) (fun _ h9 => h9) rfl (by decide +kernel) rfl rfl (by rw [fl_len]; decide) dX12_begin_2 (fun H_2 locs hP2 hD2 hS2 => ?_)
  rw [Wd_si sg_1 (by decide) rfl] at hP2 hD2
  obtain ⟨z_3, ez_3⟩ : ∃ w, w = si z h0 1 0 := ⟨_, rfl⟩
  rw [← ez_3] at hP2 hD2
  replace hf := lt_at ez_3 hf
  clear ez_3
  replace hP := hP2
  replace hD := hD2
  replace hS := hS2
  clear hP2 hD2 hS2
  obtain ⟨h8, h9⟩ := ret_some hf
  rw [h8]
  exact W.vret hx hb hr (fun t ht hW => ⟨⟨(), rfl, trivial, by rw [ht]; exact hP, va_K.moved hW.alike hK, hD⟩, hS.F ht⟩) hS.2.2 dX12_begin_5

theorem md_X14_begin_1 : (.fieldLink RX14 39 "ResourceLedgerModel$Roots" "count" "I" : Cond) ∈ wsX14_begin := List.mem_of_getElem? (i := 1) rfl
theorem iwd_X14_begin_X14 : ∀ w ∈ wsX140, w ∈ wsX14_begin := fun _ h => List.mem_cons_of_mem _ (List.mem_append_right _ h)
set_option maxHeartbeats 4000000 in
set_option maxRecDepth 100000 in
theorem de_X14_begin (l : Launch) (dC : Nat → ClassId) (dI : Nat → Nat → Nat) (cy : Nat → ClassId) (a : Nat → Nat) (sh : Nat → Nat × Nat) (n sz : Nat) (F : Nat) (z : St) (h0 : Nat) {z8 : St} {r8 : Unit} (hf : fn_X14_begin F sh n z h0 = some (z8, r8)) : Met l yX14_begin wsX14_begin ({ frames := 0, cells := 0, slots := 0, locals := 0 }) (va_Pc [.ref (a h0)] (fun U => U.heap.size = sz ∧ va_P (dC, dI) vwCl (Wd cy a sh n z) U.heap ∧ va_K (dC, dI) vwCl (TYS cy) U ∧ va_D (fun _ => True) (Wd cy a sh n z) ∧ NK U)) (va_Qv (fun u : Unit => True) (fun u t => va_P (dC, dI) vwCl (Wd cy a sh n z8) t.heap ∧ va_K (dC, dI) vwCl (TYS cy) t ∧ va_D (va_A (Wd cy a sh n z) sz) (Wd cy a sh n z8)) (va_A (Wd cy a sh n z) sz)) 0 0 (va_A (Wd cy a sh n z) sz) := by
  refine Met.ofW (cc := cX14_begin) (maxL := 1) (ret := none) (by decide) rfl ?_
  intro p e s m args below meth c s₁ B hml hv
  obtain ⟨rfl, hsz, hP, hK, hD0, hN⟩ := hv
  have hx := B.exec
  have hb := B.bytes
  have hr := B.returns
  have hts := atoms_spec (ws := wsX14_begin) B.pre
  have hown : s.vm.findClass RX14 = some m.cls := findClass_of_methodNamed B.named
  have hlocks := B.notSynchronized
  subst hsz
  have hD := hD0.self (sz := s.heap.size)
  clear hD0
  generalize hAe : va_A (Wd cy a sh n z) s.heap.size = A at hD ⊢
  have hA : ∀ q : Nat, s.heap.size ≤ q → A q := fun q h => by rw [← hAe]; exact Or.inr h
  clear hAe
  have hS : va_S A s.heap s.heap [] := va_S.rf
  have hl := lv_entry ([.ref (a h0)]) (n := 1) (Nat.le_of_ble_eq_true rfl)
  rw [lg_entry_eq]
  generalize (lg_sl ([.ref (a h0)]) ++ List.replicate (1 - (lg_sl ([.ref (a h0)])).length) Slot.unset).toArray = ls at hl ⊢
  replace hl : lv_has ls 1 [(0, .ref (a h0))] := hl
  unfold fn_X14_begin at hf
  refine de_start hS hP (fun H locs hS hP => ?_)
  refine lv_aload_n hx hb dX14_begin_0 rfl (lv_at hl 0 rfl) ?_
  refine lv_iconst (v := 0) hx hb dX14_begin_1 (by decide) ?_
  obtain ⟨g_1, hf⟩ := grd_some hf
  obtain ⟨kg_1, sg_1⟩ := okO_at g_1
  refine va_put (D := (dC, dI)) (ci := 14) (v := .int 0) (ty := .int) (C := RX14) (T := TX14) (N := 11) hx hb hts iwd_X14_begin_X14 tyX14 tyX14_ok nmX14 hown hK hP hD hS h0 (Wd_ob kg_1 sg_1 (by decide)) rfl 5 (by decide) (hts _ md_X14_begin_1) (fun _ h9 => h9) rfl (by decide +kernel) rfl rfl (by rw [fl_len]; decide) dX14_begin_2 (fun H_2 locs hP2 hD2 hS2 => ?_)
  rw [Wd_si sg_1 (by decide) rfl] at hP2 hD2
  obtain ⟨z_3, ez_3⟩ : ∃ w, w = si z h0 5 0 := ⟨_, rfl⟩
  rw [← ez_3] at hP2 hD2
  replace hf := lt_at ez_3 hf
  clear ez_3
  replace hP := hP2
  replace hD := hD2
  replace hS := hS2
  clear hP2 hD2 hS2
  obtain ⟨h8, h9⟩ := ret_some hf
  rw [h8]
  exact W.vret hx hb hr (fun t ht hW => ⟨⟨(), rfl, trivial, by rw [ht]; exact hP, va_K.moved hW.alike hK, hD⟩, hS.F ht⟩) hS.2.2 dX14_begin_5

theorem md_X1_clear_1 : (.fieldLink RX1 26 "ResourceLedger$Heap" "used" "I" : Cond) ∈ wsX1_clear := List.mem_of_getElem? (i := 1) rfl
theorem iwd_X1_clear_X1 : ∀ w ∈ wsX10, w ∈ wsX1_clear := fun _ h => List.mem_cons_of_mem _ (List.mem_append_right _ h)
set_option maxHeartbeats 4000000 in
set_option maxRecDepth 100000 in
theorem de_X1_clear (l : Launch) (dC : Nat → ClassId) (dI : Nat → Nat → Nat) (cy : Nat → ClassId) (a : Nat → Nat) (sh : Nat → Nat × Nat) (n sz : Nat) (F : Nat) (z : St) (h0 : Nat) {z8 : St} {r8 : Unit} (hf : fn_X1_clear F sh n z h0 = some (z8, r8)) : Met l yX1_clear wsX1_clear ({ frames := 0, cells := 0, slots := 0, locals := 0 }) (va_Pc [.ref (a h0)] (fun U => U.heap.size = sz ∧ va_P (dC, dI) vwCl (Wd cy a sh n z) U.heap ∧ va_K (dC, dI) vwCl (TYS cy) U ∧ va_D (fun _ => True) (Wd cy a sh n z) ∧ NK U)) (va_Qv (fun u : Unit => True) (fun u t => va_P (dC, dI) vwCl (Wd cy a sh n z8) t.heap ∧ va_K (dC, dI) vwCl (TYS cy) t ∧ va_D (va_A (Wd cy a sh n z) sz) (Wd cy a sh n z8)) (va_A (Wd cy a sh n z) sz)) 0 0 (va_A (Wd cy a sh n z) sz) := by
  refine Met.ofW (cc := cX1_clear) (maxL := 1) (ret := none) (by decide) rfl ?_
  intro p e s m args below meth c s₁ B hml hv
  obtain ⟨rfl, hsz, hP, hK, hD0, hN⟩ := hv
  have hx := B.exec
  have hb := B.bytes
  have hr := B.returns
  have hts := atoms_spec (ws := wsX1_clear) B.pre
  have hown : s.vm.findClass RX1 = some m.cls := findClass_of_methodNamed B.named
  have hlocks := B.notSynchronized
  subst hsz
  have hD := hD0.self (sz := s.heap.size)
  clear hD0
  generalize hAe : va_A (Wd cy a sh n z) s.heap.size = A at hD ⊢
  have hA : ∀ q : Nat, s.heap.size ≤ q → A q := fun q h => by rw [← hAe]; exact Or.inr h
  clear hAe
  have hS : va_S A s.heap s.heap [] := va_S.rf
  have hl := lv_entry ([.ref (a h0)]) (n := 1) (Nat.le_of_ble_eq_true rfl)
  rw [lg_entry_eq]
  generalize (lg_sl ([.ref (a h0)]) ++ List.replicate (1 - (lg_sl ([.ref (a h0)])).length) Slot.unset).toArray = ls at hl ⊢
  replace hl : lv_has ls 1 [(0, .ref (a h0))] := hl
  unfold fn_X1_clear at hf
  refine de_start hS hP (fun H locs hS hP => ?_)
  refine lv_aload_n hx hb dX1_clear_0 rfl (lv_at hl 0 rfl) ?_
  refine lv_iconst (v := 1) hx hb dX1_clear_1 (by decide) ?_
  obtain ⟨g_1, hf⟩ := grd_some hf
  obtain ⟨kg_1, sg_1⟩ := okO_at g_1
  refine va_put (D := (dC, dI)) (ci := 1) (v := .int 1) (ty := .int) (C := RX1) (T := TX1) (N := 7) hx hb hts iwd_X1_clear_X1 tyX1 tyX1_ok nmX1 hown hK hP hD hS h0 (Wd_ob kg_1 sg_1 (by decide)) rfl 4 (by decide) (hts _ md_X1_clear_1) (fun _ h9 => h9) rfl (by decide +kernel) rfl rfl (by rw [fl_len]; decide) dX1_clear_2 (fun H_2 locs hP2 hD2 hS2 => ?_)
  rw [Wd_si sg_1 (by decide) rfl] at hP2 hD2
  obtain ⟨z_3, ez_3⟩ : ∃ w, w = si z h0 4 1 := ⟨_, rfl⟩
  rw [← ez_3] at hP2 hD2
  replace hf := lt_at ez_3 hf
  clear ez_3
  replace hP := hP2
  replace hD := hD2
  replace hS := hS2
  clear hP2 hD2 hS2
  obtain ⟨h8, h9⟩ := ret_some hf
  rw [h8]
  exact W.vret hx hb hr (fun t ht hW => ⟨⟨(), rfl, trivial, by rw [ht]; exact hP, va_K.moved hW.alike hK, hD⟩, hS.F ht⟩) hS.2.2 dX1_clear_5

theorem md_X4_slipCount_1 : (.fieldLink RX4 12 "ResourceLedger$Machine" "heap" "LResourceLedger$Heap;" : Cond) ∈ wsX4_slipCount := List.mem_of_getElem? (i := 1) rfl
theorem iwd_X4_slipCount_X4 : ∀ w ∈ wsX40, w ∈ wsX4_slipCount := fun _ h => List.mem_cons_of_mem _ (List.mem_append_left _ (List.mem_append_right _ h))
theorem md_X4_slipCount_2 : (.fieldLink RX4 71 "ResourceLedger$Heap" "slips" "I" : Cond) ∈ wsX4_slipCount := List.mem_of_getElem? (i := 2) rfl
theorem iwd_X4_slipCount_X1 : ∀ w ∈ wsX10, w ∈ wsX4_slipCount := fun _ h => List.mem_cons_of_mem _ (List.mem_append_right _ h)
set_option maxHeartbeats 4000000 in
set_option maxRecDepth 100000 in
theorem de_X4_slipCount (l : Launch) (dC : Nat → ClassId) (dI : Nat → Nat → Nat) (cy : Nat → ClassId) (a : Nat → Nat) (sh : Nat → Nat × Nat) (n sz : Nat) (F : Nat) (z : St) (h0 : Nat) {z8 : St} {r8 : Int32} (hf : fn_X4_slipCount F sh n z h0 = some (z8, r8)) : Met l yX4_slipCount wsX4_slipCount ({ frames := 0, cells := 0, slots := 0, locals := 0 }) (va_Pc [.ref (a h0)] (fun U => U.heap.size = sz ∧ va_P (dC, dI) vwCl (Wd cy a sh n z) U.heap ∧ va_K (dC, dI) vwCl (TYS cy) U ∧ va_D (fun _ => True) (Wd cy a sh n z) ∧ NK U)) (va_Qi (fun (r9 : Int32) (u : Unit) => r9 = r8) (fun u t => va_P (dC, dI) vwCl (Wd cy a sh n z8) t.heap ∧ va_K (dC, dI) vwCl (TYS cy) t ∧ va_D (va_A (Wd cy a sh n z) sz) (Wd cy a sh n z8)) (va_A (Wd cy a sh n z) sz)) 0 0 (va_A (Wd cy a sh n z) sz) := by
  refine Met.ofW (cc := cX4_slipCount) (maxL := 1) (ret := (some .int)) (by decide) rfl ?_
  intro p e s m args below meth c s₁ B hml hv
  obtain ⟨rfl, hsz, hP, hK, hD0, hN⟩ := hv
  have hx := B.exec
  have hb := B.bytes
  have hr := B.returns
  have hts := atoms_spec (ws := wsX4_slipCount) B.pre
  have hown : s.vm.findClass RX4 = some m.cls := findClass_of_methodNamed B.named
  have hlocks := B.notSynchronized
  subst hsz
  have hD := hD0.self (sz := s.heap.size)
  clear hD0
  generalize hAe : va_A (Wd cy a sh n z) s.heap.size = A at hD ⊢
  have hA : ∀ q : Nat, s.heap.size ≤ q → A q := fun q h => by rw [← hAe]; exact Or.inr h
  clear hAe
  have hS : va_S A s.heap s.heap [] := va_S.rf
  have hl := lv_entry ([.ref (a h0)]) (n := 1) (Nat.le_of_ble_eq_true rfl)
  rw [lg_entry_eq]
  generalize (lg_sl ([.ref (a h0)]) ++ List.replicate (1 - (lg_sl ([.ref (a h0)])).length) Slot.unset).toArray = ls at hl ⊢
  replace hl : lv_has ls 1 [(0, .ref (a h0))] := hl
  unfold fn_X4_slipCount at hf
  refine de_start hS hP (fun H locs hS hP => ?_)
  refine lv_aload_n hx hb dX4_slipCount_0 rfl (lv_at hl 0 rfl) ?_
  obtain ⟨g_1, hf⟩ := grd_some hf
  obtain ⟨kg_1, sg_1⟩ := okO_at g_1
  obtain ⟨k_2, ek_2, hf⟩ := lnk_some hf
  refine va_get (D := (dC, dI)) (ci := 4) (v := .ref (a k_2)) (C := RX4) (T := TX4) (N := 18) hx hb hts iwd_X4_slipCount_X4 hown hK hP h0 (Wd_ob kg_1 sg_1 (by decide)) rfl 1 (by decide) (hts _ md_X4_slipCount_1) (fun _ h9 => h9) (fl_q rfl ek_2) dX4_slipCount_1 ?_
  obtain ⟨g_3, hf⟩ := grd_some hf
  obtain ⟨kg_3, sg_3⟩ := okO_at g_3
  refine va_get (D := (dC, dI)) (ci := 1) (v := .int (z.1 k_2 6)) (C := RX1) (T := TX1) (N := 7) hx hb hts iwd_X4_slipCount_X1 hown hK hP k_2 (Wd_ob kg_3 sg_3 (by decide)) rfl 6 (by decide) (hts _ md_X4_slipCount_2) (fun _ h9 => h9) (fl_at (t := 0) rfl) dX4_slipCount_4 ?_
  obtain ⟨h8, h9⟩ := ret_some hf
  rw [h8, h9]
  exact W.iret (v := (z.1 k_2 6)) hx hb hr (fun t ht hW => ⟨⟨(z.1 k_2 6), (), rfl, rfl, by rw [ht]; exact hP, va_K.moved hW.alike hK, hD⟩, hS.F ht⟩) hS.2.2 dX4_slipCount_7

theorem md_X13_structureType_1 : (.constantLong RX13 66 (1536) : Cond) ∈ wsX13_structureType := List.mem_of_getElem? (i := 1) rfl
set_option maxHeartbeats 4000000 in
set_option maxRecDepth 100000 in
theorem de_X13_structureType (l : Launch) (dC : Nat → ClassId) (dI : Nat → Nat → Nat) (cy : Nat → ClassId) (a : Nat → Nat) (sh : Nat → Nat × Nat) (n sz : Nat) (F : Nat) (z : St) (x0 : Int32) {z8 : St} {r8 : Int64} (hf : fn_X13_structureType F sh n z x0 = some (z8, r8)) : Met l yX13_structureType wsX13_structureType ({ frames := 0, cells := 0, slots := 0, locals := 0 }) (va_Pc [.int x0] (fun U => U.heap.size = sz ∧ va_P (dC, dI) vwCl (Wd cy a sh n z) U.heap ∧ va_K (dC, dI) vwCl (TYS cy) U ∧ va_D (fun _ => True) (Wd cy a sh n z) ∧ NK U)) (va_Ql (fun (r9 : Int64) (u : Unit) => r9 = r8) (fun u t => va_P (dC, dI) vwCl (Wd cy a sh n z8) t.heap ∧ va_K (dC, dI) vwCl (TYS cy) t ∧ va_D (va_A (Wd cy a sh n z) sz) (Wd cy a sh n z8)) (va_A (Wd cy a sh n z) sz)) 0 0 (va_A (Wd cy a sh n z) sz) := by
  refine Met.ofW (cc := cX13_structureType) (maxL := 1) (ret := (some .long)) (by decide) rfl ?_
  intro p e s m args below meth c s₁ B hml hv
  obtain ⟨rfl, hsz, hP, hK, hD0, hN⟩ := hv
  have hx := B.exec
  have hb := B.bytes
  have hr := B.returns
  have hts := atoms_spec (ws := wsX13_structureType) B.pre
  have hown : s.vm.findClass RX13 = some m.cls := findClass_of_methodNamed B.named
  have hlocks := B.notSynchronized
  subst hsz
  have hD := hD0.self (sz := s.heap.size)
  clear hD0
  generalize hAe : va_A (Wd cy a sh n z) s.heap.size = A at hD ⊢
  have hA : ∀ q : Nat, s.heap.size ≤ q → A q := fun q h => by rw [← hAe]; exact Or.inr h
  clear hAe
  have hS : va_S A s.heap s.heap [] := va_S.rf
  have hl := lv_entry ([.int x0]) (n := 1) (Nat.le_of_ble_eq_true rfl)
  rw [lg_entry_eq]
  generalize (lg_sl ([.int x0]) ++ List.replicate (1 - (lg_sl ([.int x0])).length) Slot.unset).toArray = ls at hl ⊢
  replace hl : lv_has ls 1 [(0, .int x0)] := hl
  unfold fn_X13_structureType at hf
  refine de_start hS hP (fun H locs hS hP => ?_)
  refine lv_ldc2 hx hb hown (hts _ md_X13_structureType_1) dX13_structureType_0 ?_
  refine lv_iload_n hx hb dX13_structureType_3 rfl (lv_at hl 0 rfl) ?_
  refine lv_i2l (v := (x0 : Int32).toInt64) hx hb dX13_structureType_4 rfl ?_
  refine lv_ladd hx hb dX13_structureType_5 ?_
  obtain ⟨h8, h9⟩ := ret_some hf
  rw [h8, h9]
  exact W.lret (v := (1536 + ((x0 : Int32).toInt64))) hx hb hr (fun t ht hW => ⟨⟨(1536 + ((x0 : Int32).toInt64)), (), rfl, rfl, by rw [ht]; exact hP, va_K.moved hW.alike hK, hD⟩, hS.F ht⟩) hS.2.2 dX13_structureType_6

theorem md_X18_tell_1 : (.fieldLink RX18 215 "ResourceLedgerModel" "faultPlace" "I" : Cond) ∈ wsX18_tell := List.mem_of_getElem? (i := 1) rfl
theorem iwd_X18_tell_X18 : ∀ w ∈ wsX180, w ∈ wsX18_tell := fun _ h => List.mem_cons_of_mem _ (List.mem_append_right _ h)
set_option maxHeartbeats 4000000 in
set_option maxRecDepth 100000 in
theorem de_X18_tell (l : Launch) (dC : Nat → ClassId) (dI : Nat → Nat → Nat) (cy : Nat → ClassId) (a : Nat → Nat) (sh : Nat → Nat × Nat) (n sz : Nat) (F : Nat) (z : St) (h0 : Nat) (x0 : Int32) (x1 : Int32) {z8 : St} {r8 : Int32} (hf : fn_X18_tell F sh n z h0 x0 x1 = some (z8, r8)) : Met l yX18_tell wsX18_tell ({ frames := 0, cells := 0, slots := 0, locals := 0 }) (va_Pc [.ref (a h0), .int x0, .int x1] (fun U => U.heap.size = sz ∧ va_P (dC, dI) vwCl (Wd cy a sh n z) U.heap ∧ va_K (dC, dI) vwCl (TYS cy) U ∧ va_D (fun _ => True) (Wd cy a sh n z) ∧ NK U)) (va_Qi (fun (r9 : Int32) (u : Unit) => r9 = r8) (fun u t => va_P (dC, dI) vwCl (Wd cy a sh n z8) t.heap ∧ va_K (dC, dI) vwCl (TYS cy) t ∧ va_D (va_A (Wd cy a sh n z) sz) (Wd cy a sh n z8)) (va_A (Wd cy a sh n z) sz)) 0 0 (va_A (Wd cy a sh n z) sz) := by
  refine Met.ofW (cc := cX18_tell) (maxL := 3) (ret := (some .int)) (by decide) rfl ?_
  intro p e s m args below meth c s₁ B hml hv
  obtain ⟨rfl, hsz, hP, hK, hD0, hN⟩ := hv
  have hx := B.exec
  have hb := B.bytes
  have hr := B.returns
  have hts := atoms_spec (ws := wsX18_tell) B.pre
  have hown : s.vm.findClass RX18 = some m.cls := findClass_of_methodNamed B.named
  have hlocks := B.notSynchronized
  subst hsz
  have hD := hD0.self (sz := s.heap.size)
  clear hD0
  generalize hAe : va_A (Wd cy a sh n z) s.heap.size = A at hD ⊢
  have hA : ∀ q : Nat, s.heap.size ≤ q → A q := fun q h => by rw [← hAe]; exact Or.inr h
  clear hAe
  have hS : va_S A s.heap s.heap [] := va_S.rf
  have hl := lv_entry ([.ref (a h0), .int x0, .int x1]) (n := 3) (Nat.le_of_ble_eq_true rfl)
  rw [lg_entry_eq]
  generalize (lg_sl ([.ref (a h0), .int x0, .int x1]) ++ List.replicate (3 - (lg_sl ([.ref (a h0), .int x0, .int x1])).length) Slot.unset).toArray = ls at hl ⊢
  replace hl : lv_has ls 3 [(0, .ref (a h0)), (1, .int x0), (2, .int x1)] := hl
  unfold fn_X18_tell at hf
  refine de_start hS hP (fun H locs hS hP => ?_)
  refine lv_aload_n hx hb dX18_tell_0 rfl (lv_at hl 0 rfl) ?_
  refine lv_iload_n hx hb dX18_tell_1 rfl (lv_at hl 2 rfl) ?_
  obtain ⟨g_1, hf⟩ := grd_some hf
  obtain ⟨kg_1, sg_1⟩ := okO_at g_1
  refine va_put (D := (dC, dI)) (ci := 18) (v := .int x1) (ty := .int) (C := RX18) (T := TX18) (N := 78) hx hb hts iwd_X18_tell_X18 tyX18 tyX18_ok nmX18 hown hK hP hD hS h0 (Wd_ob kg_1 sg_1 (by decide)) rfl 23 (by decide) (hts _ md_X18_tell_1) (fun _ h9 => h9) rfl (by decide +kernel) rfl rfl (by rw [fl_len]; decide) dX18_tell_2 (fun H_2 locs hP2 hD2 hS2 => ?_)
  rw [Wd_si sg_1 (by decide) rfl] at hP2 hD2
  obtain ⟨z_3, ez_3⟩ : ∃ w, w = si z h0 23 x1 := ⟨_, rfl⟩
  rw [← ez_3] at hP2 hD2
  replace hf := lt_at ez_3 hf
  clear ez_3
  replace hP := hP2
  replace hD := hD2
  replace hS := hS2
  clear hP2 hD2 hS2
  refine lv_iload_n hx hb dX18_tell_5 rfl (lv_at hl 1 rfl) ?_
  obtain ⟨h8, h9⟩ := ret_some hf
  rw [h8, h9]
  exact W.iret (v := x0) hx hb hr (fun t ht hW => ⟨⟨x0, (), rfl, rfl, by rw [ht]; exact hP, va_K.moved hW.alike hK, hD⟩, hS.F ht⟩) hS.2.2 dX18_tell_6

set_option maxHeartbeats 4000000 in
set_option maxRecDepth 100000 in
theorem de_X5_structureType (l : Launch) (dC : Nat → ClassId) (dI : Nat → Nat → Nat) (cy : Nat → ClassId) (a : Nat → Nat) (sh : Nat → Nat × Nat) (n sz : Nat) (F : Nat) (z : St) (x0 : Int32) {z8 : St} {r8 : Int64} (hf : fn_X5_structureType F sh n z x0 = some (z8, r8)) : Met l yX5_structureType wsX5_structureType ({ frames := 0, cells := 0, slots := 0, locals := 0 }) (va_Pc [.int x0] (fun U => U.heap.size = sz ∧ va_P (dC, dI) vwCl (Wd cy a sh n z) U.heap ∧ va_K (dC, dI) vwCl (TYS cy) U ∧ va_D (fun _ => True) (Wd cy a sh n z) ∧ NK U)) (va_Ql (fun (r9 : Int64) (u : Unit) => r9 = r8) (fun u t => va_P (dC, dI) vwCl (Wd cy a sh n z8) t.heap ∧ va_K (dC, dI) vwCl (TYS cy) t ∧ va_D (va_A (Wd cy a sh n z) sz) (Wd cy a sh n z8)) (va_A (Wd cy a sh n z) sz)) 0 0 (va_A (Wd cy a sh n z) sz) := by
  refine Met.ofW (cc := cX5_structureType) (maxL := 1) (ret := (some .long)) (by decide) rfl ?_
  intro p e s m args below meth c s₁ B hml hv
  obtain ⟨rfl, hsz, hP, hK, hD0, hN⟩ := hv
  have hx := B.exec
  have hb := B.bytes
  have hr := B.returns
  have hts := atoms_spec (ws := wsX5_structureType) B.pre
  have hown : s.vm.findClass RX5 = some m.cls := findClass_of_methodNamed B.named
  have hlocks := B.notSynchronized
  subst hsz
  have hD := hD0.self (sz := s.heap.size)
  clear hD0
  generalize hAe : va_A (Wd cy a sh n z) s.heap.size = A at hD ⊢
  have hA : ∀ q : Nat, s.heap.size ≤ q → A q := fun q h => by rw [← hAe]; exact Or.inr h
  clear hAe
  have hS : va_S A s.heap s.heap [] := va_S.rf
  have hl := lv_entry ([.int x0]) (n := 1) (Nat.le_of_ble_eq_true rfl)
  rw [lg_entry_eq]
  generalize (lg_sl ([.int x0]) ++ List.replicate (1 - (lg_sl ([.int x0])).length) Slot.unset).toArray = ls at hl ⊢
  replace hl : lv_has ls 1 [(0, .int x0)] := hl
  unfold fn_X5_structureType at hf
  refine de_start hS hP (fun H locs hS hP => ?_)
  refine lv_sipush (v := 1536) hx hb dX5_structureType_0 (by decide) ?_
  refine lv_iload_n hx hb dX5_structureType_3 rfl (lv_at hl 0 rfl) ?_
  refine lv_ior hx hb dX5_structureType_4 ?_
  refine lv_i2l (v := ((1536 ||| x0) : Int32).toInt64) hx hb dX5_structureType_5 rfl ?_
  obtain ⟨h8, h9⟩ := ret_some hf
  rw [h8, h9]
  exact W.lret (v := (((1536 ||| x0) : Int32).toInt64)) hx hb hr (fun t ht hW => ⟨⟨(((1536 ||| x0) : Int32).toInt64), (), rfl, rfl, by rw [ht]; exact hP, va_K.moved hW.alike hK, hD⟩, hS.F ht⟩) hS.2.2 dX5_structureType_6

theorem md_X16_functionCount_1 : (.fieldLink RX16 104 "ResourceLedgerModel$Unit" "functions" "I" : Cond) ∈ wsX16_functionCount := List.mem_of_getElem? (i := 1) rfl
theorem iwd_X16_functionCount_X16 : ∀ w ∈ wsX160, w ∈ wsX16_functionCount := fun _ h => List.mem_cons_of_mem _ (List.mem_append_right _ h)
theorem md_X16_functionCount_2 : (.fieldLink RX16 98 "ResourceLedgerModel$Unit" "callees" "I" : Cond) ∈ wsX16_functionCount := List.mem_of_getElem? (i := 2) rfl
set_option maxHeartbeats 4000000 in
set_option maxRecDepth 100000 in
theorem de_X16_functionCount (l : Launch) (dC : Nat → ClassId) (dI : Nat → Nat → Nat) (cy : Nat → ClassId) (a : Nat → Nat) (sh : Nat → Nat × Nat) (n sz : Nat) (F : Nat) (z : St) (h0 : Nat) {z8 : St} {r8 : Int32} (hf : fn_X16_functionCount F sh n z h0 = some (z8, r8)) : Met l yX16_functionCount wsX16_functionCount ({ frames := 0, cells := 0, slots := 0, locals := 0 }) (va_Pc [.ref (a h0)] (fun U => U.heap.size = sz ∧ va_P (dC, dI) vwCl (Wd cy a sh n z) U.heap ∧ va_K (dC, dI) vwCl (TYS cy) U ∧ va_D (fun _ => True) (Wd cy a sh n z) ∧ NK U)) (va_Qi (fun (r9 : Int32) (u : Unit) => r9 = r8) (fun u t => va_P (dC, dI) vwCl (Wd cy a sh n z8) t.heap ∧ va_K (dC, dI) vwCl (TYS cy) t ∧ va_D (va_A (Wd cy a sh n z) sz) (Wd cy a sh n z8)) (va_A (Wd cy a sh n z) sz)) 0 0 (va_A (Wd cy a sh n z) sz) := by
  refine Met.ofW (cc := cX16_functionCount) (maxL := 1) (ret := (some .int)) (by decide) rfl ?_
  intro p e s m args below meth c s₁ B hml hv
  obtain ⟨rfl, hsz, hP, hK, hD0, hN⟩ := hv
  have hx := B.exec
  have hb := B.bytes
  have hr := B.returns
  have hts := atoms_spec (ws := wsX16_functionCount) B.pre
  have hown : s.vm.findClass RX16 = some m.cls := findClass_of_methodNamed B.named
  have hlocks := B.notSynchronized
  subst hsz
  have hD := hD0.self (sz := s.heap.size)
  clear hD0
  generalize hAe : va_A (Wd cy a sh n z) s.heap.size = A at hD ⊢
  have hA : ∀ q : Nat, s.heap.size ≤ q → A q := fun q h => by rw [← hAe]; exact Or.inr h
  clear hAe
  have hS : va_S A s.heap s.heap [] := va_S.rf
  have hl := lv_entry ([.ref (a h0)]) (n := 1) (Nat.le_of_ble_eq_true rfl)
  rw [lg_entry_eq]
  generalize (lg_sl ([.ref (a h0)]) ++ List.replicate (1 - (lg_sl ([.ref (a h0)])).length) Slot.unset).toArray = ls at hl ⊢
  replace hl : lv_has ls 1 [(0, .ref (a h0))] := hl
  unfold fn_X16_functionCount at hf
  refine de_start hS hP (fun H locs hS hP => ?_)
  refine lv_aload_n hx hb dX16_functionCount_0 rfl (lv_at hl 0 rfl) ?_
  obtain ⟨g_1, hf⟩ := grd_some hf
  obtain ⟨kg_1, sg_1⟩ := okO_at g_1
  refine va_get (D := (dC, dI)) (ci := 16) (v := .int (z.1 h0 9)) (C := RX16) (T := TX16) (N := 18) hx hb hts iwd_X16_functionCount_X16 hown hK hP h0 (Wd_ob kg_1 sg_1 (by decide)) rfl 9 (by decide) (hts _ md_X16_functionCount_1) (fun _ h9 => h9) (fl_at (t := 0) rfl) dX16_functionCount_1 ?_
  refine lv_aload_n hx hb dX16_functionCount_4 rfl (lv_at hl 0 rfl) ?_
  refine va_get (D := (dC, dI)) (ci := 16) (v := .int (z.1 h0 7)) (C := RX16) (T := TX16) (N := 18) hx hb hts iwd_X16_functionCount_X16 hown hK hP h0 (Wd_ob kg_1 sg_1 (by decide)) rfl 7 (by decide) (hts _ md_X16_functionCount_2) (fun _ h9 => h9) (fl_at (t := 0) rfl) dX16_functionCount_5 ?_
  refine lv_iadd hx hb dX16_functionCount_8 ?_
  obtain ⟨h8, h9⟩ := ret_some hf
  rw [h8, h9]
  exact W.iret (v := ((z.1 h0 9) + (z.1 h0 7))) hx hb hr (fun t ht hW => ⟨⟨((z.1 h0 9) + (z.1 h0 7)), (), rfl, rfl, by rw [ht]; exact hP, va_K.moved hW.alike hK, hD⟩, hS.F ht⟩) hS.2.2 dX16_functionCount_9

theorem md_X16_structureCount_1 : (.fieldLink RX16 92 "ResourceLedgerModel$Unit" "structures" "I" : Cond) ∈ wsX16_structureCount := List.mem_of_getElem? (i := 1) rfl
theorem iwd_X16_structureCount_X16 : ∀ w ∈ wsX160, w ∈ wsX16_structureCount := fun _ h => List.mem_cons_of_mem _ (List.mem_append_right _ h)
theorem md_X16_structureCount_2 : (.fieldLink RX16 95 "ResourceLedgerModel$Unit" "foreigns" "I" : Cond) ∈ wsX16_structureCount := List.mem_of_getElem? (i := 2) rfl
set_option maxHeartbeats 4000000 in
set_option maxRecDepth 100000 in
theorem de_X16_structureCount (l : Launch) (dC : Nat → ClassId) (dI : Nat → Nat → Nat) (cy : Nat → ClassId) (a : Nat → Nat) (sh : Nat → Nat × Nat) (n sz : Nat) (F : Nat) (z : St) (h0 : Nat) {z8 : St} {r8 : Int32} (hf : fn_X16_structureCount F sh n z h0 = some (z8, r8)) : Met l yX16_structureCount wsX16_structureCount ({ frames := 0, cells := 0, slots := 0, locals := 0 }) (va_Pc [.ref (a h0)] (fun U => U.heap.size = sz ∧ va_P (dC, dI) vwCl (Wd cy a sh n z) U.heap ∧ va_K (dC, dI) vwCl (TYS cy) U ∧ va_D (fun _ => True) (Wd cy a sh n z) ∧ NK U)) (va_Qi (fun (r9 : Int32) (u : Unit) => r9 = r8) (fun u t => va_P (dC, dI) vwCl (Wd cy a sh n z8) t.heap ∧ va_K (dC, dI) vwCl (TYS cy) t ∧ va_D (va_A (Wd cy a sh n z) sz) (Wd cy a sh n z8)) (va_A (Wd cy a sh n z) sz)) 0 0 (va_A (Wd cy a sh n z) sz) := by
  refine Met.ofW (cc := cX16_structureCount) (maxL := 1) (ret := (some .int)) (by decide) rfl ?_
  intro p e s m args below meth c s₁ B hml hv
  obtain ⟨rfl, hsz, hP, hK, hD0, hN⟩ := hv
  have hx := B.exec
  have hb := B.bytes
  have hr := B.returns
  have hts := atoms_spec (ws := wsX16_structureCount) B.pre
  have hown : s.vm.findClass RX16 = some m.cls := findClass_of_methodNamed B.named
  have hlocks := B.notSynchronized
  subst hsz
  have hD := hD0.self (sz := s.heap.size)
  clear hD0
  generalize hAe : va_A (Wd cy a sh n z) s.heap.size = A at hD ⊢
  have hA : ∀ q : Nat, s.heap.size ≤ q → A q := fun q h => by rw [← hAe]; exact Or.inr h
  clear hAe
  have hS : va_S A s.heap s.heap [] := va_S.rf
  have hl := lv_entry ([.ref (a h0)]) (n := 1) (Nat.le_of_ble_eq_true rfl)
  rw [lg_entry_eq]
  generalize (lg_sl ([.ref (a h0)]) ++ List.replicate (1 - (lg_sl ([.ref (a h0)])).length) Slot.unset).toArray = ls at hl ⊢
  replace hl : lv_has ls 1 [(0, .ref (a h0))] := hl
  unfold fn_X16_structureCount at hf
  refine de_start hS hP (fun H locs hS hP => ?_)
  refine lv_aload_n hx hb dX16_structureCount_0 rfl (lv_at hl 0 rfl) ?_
  obtain ⟨g_1, hf⟩ := grd_some hf
  obtain ⟨kg_1, sg_1⟩ := okO_at g_1
  refine va_get (D := (dC, dI)) (ci := 16) (v := .int (z.1 h0 5)) (C := RX16) (T := TX16) (N := 18) hx hb hts iwd_X16_structureCount_X16 hown hK hP h0 (Wd_ob kg_1 sg_1 (by decide)) rfl 5 (by decide) (hts _ md_X16_structureCount_1) (fun _ h9 => h9) (fl_at (t := 0) rfl) dX16_structureCount_1 ?_
  refine lv_aload_n hx hb dX16_structureCount_4 rfl (lv_at hl 0 rfl) ?_
  refine va_get (D := (dC, dI)) (ci := 16) (v := .int (z.1 h0 6)) (C := RX16) (T := TX16) (N := 18) hx hb hts iwd_X16_structureCount_X16 hown hK hP h0 (Wd_ob kg_1 sg_1 (by decide)) rfl 6 (by decide) (hts _ md_X16_structureCount_2) (fun _ h9 => h9) (fl_at (t := 0) rfl) dX16_structureCount_5 ?_
  refine lv_iadd hx hb dX16_structureCount_8 ?_
  obtain ⟨h8, h9⟩ := ret_some hf
  rw [h8, h9]
  exact W.iret (v := ((z.1 h0 5) + (z.1 h0 6))) hx hb hr (fun t ht hW => ⟨⟨((z.1 h0 5) + (z.1 h0 6)), (), rfl, rfl, by rw [ht]; exact hP, va_K.moved hW.alike hK, hD⟩, hS.F ht⟩) hS.2.2 dX16_structureCount_9

theorem md_X13_fail_1 : (.fieldLink RX13 48 "ResourceLedgerModel$Looker" "fault" "I" : Cond) ∈ wsX13_fail := List.mem_of_getElem? (i := 1) rfl
theorem iwd_X13_fail_X13 : ∀ w ∈ wsX130, w ∈ wsX13_fail := fun _ h => List.mem_cons_of_mem _ (List.mem_append_right _ h)
set_option maxHeartbeats 4000000 in
set_option maxRecDepth 100000 in
theorem de_X13_fail (l : Launch) (dC : Nat → ClassId) (dI : Nat → Nat → Nat) (cy : Nat → ClassId) (a : Nat → Nat) (sh : Nat → Nat × Nat) (n sz : Nat) (F : Nat) (z : St) (h0 : Nat) (x0 : Int32) {z8 : St} {r8 : Unit} (hf : fn_X13_fail F sh n z h0 x0 = some (z8, r8)) : Met l yX13_fail wsX13_fail ({ frames := 0, cells := 0, slots := 0, locals := 0 }) (va_Pc [.ref (a h0), .int x0] (fun U => U.heap.size = sz ∧ va_P (dC, dI) vwCl (Wd cy a sh n z) U.heap ∧ va_K (dC, dI) vwCl (TYS cy) U ∧ va_D (fun _ => True) (Wd cy a sh n z) ∧ NK U)) (va_Qv (fun u : Unit => True) (fun u t => va_P (dC, dI) vwCl (Wd cy a sh n z8) t.heap ∧ va_K (dC, dI) vwCl (TYS cy) t ∧ va_D (va_A (Wd cy a sh n z) sz) (Wd cy a sh n z8)) (va_A (Wd cy a sh n z) sz)) 0 0 (va_A (Wd cy a sh n z) sz) := by
  refine Met.ofW (cc := cX13_fail) (maxL := 2) (ret := none) (by decide) rfl ?_
  intro p e s m args below meth c s₁ B hml hv
  obtain ⟨rfl, hsz, hP, hK, hD0, hN⟩ := hv
  have hx := B.exec
  have hb := B.bytes
  have hr := B.returns
  have hts := atoms_spec (ws := wsX13_fail) B.pre
  have hown : s.vm.findClass RX13 = some m.cls := findClass_of_methodNamed B.named
  have hlocks := B.notSynchronized
  subst hsz
  have hD := hD0.self (sz := s.heap.size)
  clear hD0
  generalize hAe : va_A (Wd cy a sh n z) s.heap.size = A at hD ⊢
  have hA : ∀ q : Nat, s.heap.size ≤ q → A q := fun q h => by rw [← hAe]; exact Or.inr h
  clear hAe
  have hS : va_S A s.heap s.heap [] := va_S.rf
  have hl := lv_entry ([.ref (a h0), .int x0]) (n := 2) (Nat.le_of_ble_eq_true rfl)
  rw [lg_entry_eq]
  generalize (lg_sl ([.ref (a h0), .int x0]) ++ List.replicate (2 - (lg_sl ([.ref (a h0), .int x0])).length) Slot.unset).toArray = ls at hl ⊢
  replace hl : lv_has ls 2 [(0, .ref (a h0)), (1, .int x0)] := hl
  unfold fn_X13_fail at hf
  refine de_start hS hP (fun H locs hS hP => ?_)
  refine lv_aload_n hx hb dX13_fail_0 rfl (lv_at hl 0 rfl) ?_
  obtain ⟨g_1, hf⟩ := grd_some hf
  obtain ⟨kg_1, sg_1⟩ := okO_at g_1
  refine va_get (D := (dC, dI)) (ci := 13) (v := .int (z.1 h0 18)) (C := RX13) (T := TX13) (N := 22) hx hb hts iwd_X13_fail_X13 hown hK hP h0 (Wd_ob kg_1 sg_1 (by decide)) rfl 18 (by decide) (hts _ md_X13_fail_1) (fun _ h9 => h9) (fl_at (t := 0) rfl) dX13_fail_1 ?_
  refine lv_if_ne (tgt := 12) hx hb dX13_fail_4 (by decide) (fun c_2 => ?_) (fun c_2 => ?_)
  · skip
    rw [if_neg c_2] at hf
    obtain ⟨h8, h9⟩ := ret_some hf
    rw [h8]
    exact W.vret hx hb hr (fun t ht hW => ⟨⟨(), rfl, trivial, by rw [ht]; exact hP, va_K.moved hW.alike hK, hD⟩, hS.F ht⟩) hS.2.2 dX13_fail_12
  · skip
    rw [if_pos c_2] at hf
    refine lv_aload_n hx hb dX13_fail_7 rfl (lv_at hl 0 rfl) ?_
    refine lv_iload_n hx hb dX13_fail_8 rfl (lv_at hl 1 rfl) ?_
    refine va_put (D := (dC, dI)) (ci := 13) (v := .int x0) (ty := .int) (C := RX13) (T := TX13) (N := 22) hx hb hts iwd_X13_fail_X13 tyX13 tyX13_ok nmX13 hown hK hP hD hS h0 (Wd_ob kg_1 sg_1 (by decide)) rfl 18 (by decide) (hts _ md_X13_fail_1) (fun _ h9 => h9) rfl (by decide +kernel) rfl rfl (by rw [fl_len]; decide) dX13_fail_9 (fun H_3 locs hP2 hD2 hS2 => ?_)
    rw [Wd_si sg_1 (by decide) rfl] at hP2 hD2
    obtain ⟨z_4, ez_4⟩ : ∃ w, w = si z h0 18 x0 := ⟨_, rfl⟩
    rw [← ez_4] at hP2 hD2
    replace hf := lt_at ez_4 hf
    clear ez_4
    replace hP := hP2
    replace hD := hD2
    replace hS := hS2
    clear hP2 hD2 hS2
    obtain ⟨h8, h9⟩ := ret_some hf
    rw [h8]
    exact W.vret hx hb hr (fun t ht hW => ⟨⟨(), rfl, trivial, by rw [ht]; exact hP, va_K.moved hW.alike hK, hD⟩, hS.F ht⟩) hS.2.2 dX13_fail_12

theorem md_X16_isGood_1 : (.fieldLink RX16 36 "ResourceLedgerModel$Unit" "fault" "I" : Cond) ∈ wsX16_isGood := List.mem_of_getElem? (i := 1) rfl
theorem iwd_X16_isGood_X16 : ∀ w ∈ wsX160, w ∈ wsX16_isGood := fun _ h => List.mem_cons_of_mem _ (List.mem_append_right _ h)
set_option maxHeartbeats 4000000 in
set_option maxRecDepth 100000 in
theorem de_X16_isGood (l : Launch) (dC : Nat → ClassId) (dI : Nat → Nat → Nat) (cy : Nat → ClassId) (a : Nat → Nat) (sh : Nat → Nat × Nat) (n sz : Nat) (F : Nat) (z : St) (h0 : Nat) {z8 : St} {r8 : Int32} (hf : fn_X16_isGood F sh n z h0 = some (z8, r8)) : Met l yX16_isGood wsX16_isGood ({ frames := 0, cells := 0, slots := 0, locals := 0 }) (va_Pc [.ref (a h0)] (fun U => U.heap.size = sz ∧ va_P (dC, dI) vwCl (Wd cy a sh n z) U.heap ∧ va_K (dC, dI) vwCl (TYS cy) U ∧ va_D (fun _ => True) (Wd cy a sh n z) ∧ NK U)) (va_Qi (fun (r9 : Int32) (u : Unit) => r9 = r8) (fun u t => va_P (dC, dI) vwCl (Wd cy a sh n z8) t.heap ∧ va_K (dC, dI) vwCl (TYS cy) t ∧ va_D (va_A (Wd cy a sh n z) sz) (Wd cy a sh n z8)) (va_A (Wd cy a sh n z) sz)) 0 0 (va_A (Wd cy a sh n z) sz) := by
  refine Met.ofW (cc := cX16_isGood) (maxL := 1) (ret := (some .boolean)) (by decide) rfl ?_
  intro p e s m args below meth c s₁ B hml hv
  obtain ⟨rfl, hsz, hP, hK, hD0, hN⟩ := hv
  have hx := B.exec
  have hb := B.bytes
  have hr := B.returns
  have hts := atoms_spec (ws := wsX16_isGood) B.pre
  have hown : s.vm.findClass RX16 = some m.cls := findClass_of_methodNamed B.named
  have hlocks := B.notSynchronized
  subst hsz
  have hD := hD0.self (sz := s.heap.size)
  clear hD0
  generalize hAe : va_A (Wd cy a sh n z) s.heap.size = A at hD ⊢
  have hA : ∀ q : Nat, s.heap.size ≤ q → A q := fun q h => by rw [← hAe]; exact Or.inr h
  clear hAe
  have hS : va_S A s.heap s.heap [] := va_S.rf
  have hl := lv_entry ([.ref (a h0)]) (n := 1) (Nat.le_of_ble_eq_true rfl)
  rw [lg_entry_eq]
  generalize (lg_sl ([.ref (a h0)]) ++ List.replicate (1 - (lg_sl ([.ref (a h0)])).length) Slot.unset).toArray = ls at hl ⊢
  replace hl : lv_has ls 1 [(0, .ref (a h0))] := hl
  unfold fn_X16_isGood at hf
  refine de_start hS hP (fun H locs hS hP => ?_)
  refine lv_aload_n hx hb dX16_isGood_0 rfl (lv_at hl 0 rfl) ?_
  obtain ⟨g_1, hf⟩ := grd_some hf
  obtain ⟨kg_1, sg_1⟩ := okO_at g_1
  refine va_get (D := (dC, dI)) (ci := 16) (v := .int (z.1 h0 3)) (C := RX16) (T := TX16) (N := 18) hx hb hts iwd_X16_isGood_X16 hown hK hP h0 (Wd_ob kg_1 sg_1 (by decide)) rfl 3 (by decide) (hts _ md_X16_isGood_1) (fun _ h9 => h9) (fl_at (t := 0) rfl) dX16_isGood_1 ?_
  refine lv_if_ne (tgt := 11) hx hb dX16_isGood_4 (by decide) (fun c_2 => ?_) (fun c_2 => ?_)
  · skip
    rw [if_neg c_2] at hf
    refine lv_iconst (v := 0) hx hb dX16_isGood_11 (by decide) ?_
    obtain ⟨h8, h9⟩ := ret_some hf
    rw [h8, h9]
    exact W.zret (v := 0) hx hb hr rfl (fun t ht hW => ⟨⟨0, (), rfl, rfl, by rw [ht]; exact hP, va_K.moved hW.alike hK, hD⟩, hS.F ht⟩) hS.2.2 dX16_isGood_12
  · skip
    rw [if_pos c_2] at hf
    refine lv_iconst (v := 1) hx hb dX16_isGood_7 (by decide) ?_
    refine lv_goto (tgt := 12) hx hb dX16_isGood_8 (by decide) ?_
    obtain ⟨h8, h9⟩ := ret_some hf
    rw [h8, h9]
    exact W.zret (v := 1) hx hb hr rfl (fun t ht hW => ⟨⟨1, (), rfl, rfl, by rw [ht]; exact hP, va_K.moved hW.alike hK, hD⟩, hS.F ht⟩) hS.2.2 dX16_isGood_12

theorem md_X18_goesOn_1 : (.fieldLink RX18 250 "ResourceLedgerModel" "outcome" "I" : Cond) ∈ wsX18_goesOn := List.mem_of_getElem? (i := 1) rfl
theorem iwd_X18_goesOn_X18 : ∀ w ∈ wsX180, w ∈ wsX18_goesOn := fun _ h => List.mem_cons_of_mem _ (List.mem_append_right _ h)
set_option maxHeartbeats 4000000 in
set_option maxRecDepth 100000 in
theorem de_X18_goesOn (l : Launch) (dC : Nat → ClassId) (dI : Nat → Nat → Nat) (cy : Nat → ClassId) (a : Nat → Nat) (sh : Nat → Nat × Nat) (n sz : Nat) (F : Nat) (z : St) (h0 : Nat) {z8 : St} {r8 : Int32} (hf : fn_X18_goesOn F sh n z h0 = some (z8, r8)) : Met l yX18_goesOn wsX18_goesOn ({ frames := 0, cells := 0, slots := 0, locals := 0 }) (va_Pc [.ref (a h0)] (fun U => U.heap.size = sz ∧ va_P (dC, dI) vwCl (Wd cy a sh n z) U.heap ∧ va_K (dC, dI) vwCl (TYS cy) U ∧ va_D (fun _ => True) (Wd cy a sh n z) ∧ NK U)) (va_Qi (fun (r9 : Int32) (u : Unit) => r9 = r8) (fun u t => va_P (dC, dI) vwCl (Wd cy a sh n z8) t.heap ∧ va_K (dC, dI) vwCl (TYS cy) t ∧ va_D (va_A (Wd cy a sh n z) sz) (Wd cy a sh n z8)) (va_A (Wd cy a sh n z) sz)) 0 0 (va_A (Wd cy a sh n z) sz) := by
  refine Met.ofW (cc := cX18_goesOn) (maxL := 1) (ret := (some .boolean)) (by decide) rfl ?_
  intro p e s m args below meth c s₁ B hml hv
  obtain ⟨rfl, hsz, hP, hK, hD0, hN⟩ := hv
  have hx := B.exec
  have hb := B.bytes
  have hr := B.returns
  have hts := atoms_spec (ws := wsX18_goesOn) B.pre
  have hown : s.vm.findClass RX18 = some m.cls := findClass_of_methodNamed B.named
  have hlocks := B.notSynchronized
  subst hsz
  have hD := hD0.self (sz := s.heap.size)
  clear hD0
  generalize hAe : va_A (Wd cy a sh n z) s.heap.size = A at hD ⊢
  have hA : ∀ q : Nat, s.heap.size ≤ q → A q := fun q h => by rw [← hAe]; exact Or.inr h
  clear hAe
  have hS : va_S A s.heap s.heap [] := va_S.rf
  have hl := lv_entry ([.ref (a h0)]) (n := 1) (Nat.le_of_ble_eq_true rfl)
  rw [lg_entry_eq]
  generalize (lg_sl ([.ref (a h0)]) ++ List.replicate (1 - (lg_sl ([.ref (a h0)])).length) Slot.unset).toArray = ls at hl ⊢
  replace hl : lv_has ls 1 [(0, .ref (a h0))] := hl
  unfold fn_X18_goesOn at hf
  refine de_start hS hP (fun H locs hS hP => ?_)
  refine lv_aload_n hx hb dX18_goesOn_0 rfl (lv_at hl 0 rfl) ?_
  obtain ⟨g_1, hf⟩ := grd_some hf
  obtain ⟨kg_1, sg_1⟩ := okO_at g_1
  refine va_get (D := (dC, dI)) (ci := 18) (v := .int (z.1 h0 27)) (C := RX18) (T := TX18) (N := 78) hx hb hts iwd_X18_goesOn_X18 hown hK hP h0 (Wd_ob kg_1 sg_1 (by decide)) rfl 27 (by decide) (hts _ md_X18_goesOn_1) (fun _ h9 => h9) (fl_at (t := 0) rfl) dX18_goesOn_1 ?_
  refine lv_if_ge (tgt := 11) hx hb dX18_goesOn_4 (by decide) (fun c_2 => ?_) (fun c_2 => ?_)
  · skip
    rw [if_pos c_2] at hf
    refine lv_iconst (v := 0) hx hb dX18_goesOn_11 (by decide) ?_
    obtain ⟨h8, h9⟩ := ret_some hf
    rw [h8, h9]
    exact W.zret (v := 0) hx hb hr rfl (fun t ht hW => ⟨⟨0, (), rfl, rfl, by rw [ht]; exact hP, va_K.moved hW.alike hK, hD⟩, hS.F ht⟩) hS.2.2 dX18_goesOn_12
  · skip
    rw [if_neg c_2] at hf
    refine lv_iconst (v := 1) hx hb dX18_goesOn_7 (by decide) ?_
    refine lv_goto (tgt := 12) hx hb dX18_goesOn_8 (by decide) ?_
    obtain ⟨h8, h9⟩ := ret_some hf
    rw [h8, h9]
    exact W.zret (v := 1) hx hb hr rfl (fun t ht hW => ⟨⟨1, (), rfl, rfl, by rw [ht]; exact hP, va_K.moved hW.alike hK, hD⟩, hS.F ht⟩) hS.2.2 dX18_goesOn_12

theorem md_X3_fail_1 : (.fieldLink RX3 48 "ResourceLedger$Looker" "fault" "I" : Cond) ∈ wsX3_fail := List.mem_of_getElem? (i := 1) rfl
theorem iwd_X3_fail_X3 : ∀ w ∈ wsX30, w ∈ wsX3_fail := fun _ h => List.mem_cons_of_mem _ (List.mem_append_right _ h)
set_option maxHeartbeats 4000000 in
set_option maxRecDepth 100000 in
theorem de_X3_fail (l : Launch) (dC : Nat → ClassId) (dI : Nat → Nat → Nat) (cy : Nat → ClassId) (a : Nat → Nat) (sh : Nat → Nat × Nat) (n sz : Nat) (F : Nat) (z : St) (h0 : Nat) (x0 : Int32) {z8 : St} {r8 : Unit} (hf : fn_X3_fail F sh n z h0 x0 = some (z8, r8)) : Met l yX3_fail wsX3_fail ({ frames := 0, cells := 0, slots := 0, locals := 0 }) (va_Pc [.ref (a h0), .int x0] (fun U => U.heap.size = sz ∧ va_P (dC, dI) vwCl (Wd cy a sh n z) U.heap ∧ va_K (dC, dI) vwCl (TYS cy) U ∧ va_D (fun _ => True) (Wd cy a sh n z) ∧ NK U)) (va_Qv (fun u : Unit => True) (fun u t => va_P (dC, dI) vwCl (Wd cy a sh n z8) t.heap ∧ va_K (dC, dI) vwCl (TYS cy) t ∧ va_D (va_A (Wd cy a sh n z) sz) (Wd cy a sh n z8)) (va_A (Wd cy a sh n z) sz)) 0 0 (va_A (Wd cy a sh n z) sz) := by
  refine Met.ofW (cc := cX3_fail) (maxL := 2) (ret := none) (by decide) rfl ?_
  intro p e s m args below meth c s₁ B hml hv
  obtain ⟨rfl, hsz, hP, hK, hD0, hN⟩ := hv
  have hx := B.exec
  have hb := B.bytes
  have hr := B.returns
  have hts := atoms_spec (ws := wsX3_fail) B.pre
  have hown : s.vm.findClass RX3 = some m.cls := findClass_of_methodNamed B.named
  have hlocks := B.notSynchronized
  subst hsz
  have hD := hD0.self (sz := s.heap.size)
  clear hD0
  generalize hAe : va_A (Wd cy a sh n z) s.heap.size = A at hD ⊢
  have hA : ∀ q : Nat, s.heap.size ≤ q → A q := fun q h => by rw [← hAe]; exact Or.inr h
  clear hAe
  have hS : va_S A s.heap s.heap [] := va_S.rf
  have hl := lv_entry ([.ref (a h0), .int x0]) (n := 2) (Nat.le_of_ble_eq_true rfl)
  rw [lg_entry_eq]
  generalize (lg_sl ([.ref (a h0), .int x0]) ++ List.replicate (2 - (lg_sl ([.ref (a h0), .int x0])).length) Slot.unset).toArray = ls at hl ⊢
  replace hl : lv_has ls 2 [(0, .ref (a h0)), (1, .int x0)] := hl
  unfold fn_X3_fail at hf
  refine de_start hS hP (fun H locs hS hP => ?_)
  refine lv_aload_n hx hb dX3_fail_0 rfl (lv_at hl 0 rfl) ?_
  obtain ⟨g_1, hf⟩ := grd_some hf
  obtain ⟨kg_1, sg_1⟩ := okO_at g_1
  refine va_get (D := (dC, dI)) (ci := 3) (v := .int (z.1 h0 1)) (C := RX3) (T := TX3) (N := 22) hx hb hts iwd_X3_fail_X3 hown hK hP h0 (Wd_ob kg_1 sg_1 (by decide)) rfl 1 (by decide) (hts _ md_X3_fail_1) (fun _ h9 => h9) (fl_at (t := 0) rfl) dX3_fail_1 ?_
  refine lv_if_ne (tgt := 12) hx hb dX3_fail_4 (by decide) (fun c_2 => ?_) (fun c_2 => ?_)
  · skip
    rw [if_neg c_2] at hf
    obtain ⟨h8, h9⟩ := ret_some hf
    rw [h8]
    exact W.vret hx hb hr (fun t ht hW => ⟨⟨(), rfl, trivial, by rw [ht]; exact hP, va_K.moved hW.alike hK, hD⟩, hS.F ht⟩) hS.2.2 dX3_fail_12
  · skip
    rw [if_pos c_2] at hf
    refine lv_aload_n hx hb dX3_fail_7 rfl (lv_at hl 0 rfl) ?_
    refine lv_iload_n hx hb dX3_fail_8 rfl (lv_at hl 1 rfl) ?_
    refine va_put (D := (dC, dI)) (ci := 3) (v := .int x0) (ty := .int) (C := RX3) (T := TX3) (N := 22) hx hb hts iwd_X3_fail_X3 tyX3 tyX3_ok nmX3 hown hK hP hD hS h0 (Wd_ob kg_1 sg_1 (by decide)) rfl 1 (by decide) (hts _ md_X3_fail_1) (fun _ h9 => h9) rfl (by decide +kernel) rfl rfl (by rw [fl_len]; decide) dX3_fail_9 (fun H_3 locs hP2 hD2 hS2 => ?_)
    rw [Wd_si sg_1 (by decide) rfl] at hP2 hD2
    obtain ⟨z_4, ez_4⟩ : ∃ w, w = si z h0 1 x0 := ⟨_, rfl⟩
    rw [← ez_4] at hP2 hD2
    replace hf := lt_at ez_4 hf
    clear ez_4
    replace hP := hP2
    replace hD := hD2
    replace hS := hS2
    clear hP2 hD2 hS2
    obtain ⟨h8, h9⟩ := ret_some hf
    rw [h8]
    exact W.vret hx hb hr (fun t ht hW => ⟨⟨(), rfl, trivial, by rw [ht]; exact hP, va_K.moved hW.alike hK, hD⟩, hS.F ht⟩) hS.2.2 dX3_fail_12

theorem md_X11_unweave_1 : (.fieldLink RX11 150 "ResourceLedger" "weaveLength" "I" : Cond) ∈ wsX11_unweave := List.mem_of_getElem? (i := 1) rfl
theorem iwd_X11_unweave_X11 : ∀ w ∈ wsX110, w ∈ wsX11_unweave := fun _ h => List.mem_cons_of_mem _ (List.mem_append_right _ h)
set_option maxHeartbeats 4000000 in
set_option maxRecDepth 100000 in
theorem de_X11_unweave (l : Launch) (dC : Nat → ClassId) (dI : Nat → Nat → Nat) (cy : Nat → ClassId) (a : Nat → Nat) (sh : Nat → Nat × Nat) (n sz : Nat) (F : Nat) (z : St) (h0 : Nat) {z8 : St} {r8 : Int32} (hf : fn_X11_unweave F sh n z h0 = some (z8, r8)) : Met l yX11_unweave wsX11_unweave ({ frames := 0, cells := 0, slots := 0, locals := 0 }) (va_Pc [.ref (a h0)] (fun U => U.heap.size = sz ∧ va_P (dC, dI) vwCl (Wd cy a sh n z) U.heap ∧ va_K (dC, dI) vwCl (TYS cy) U ∧ va_D (fun _ => True) (Wd cy a sh n z) ∧ NK U)) (va_Qi (fun (r9 : Int32) (u : Unit) => r9 = r8) (fun u t => va_P (dC, dI) vwCl (Wd cy a sh n z8) t.heap ∧ va_K (dC, dI) vwCl (TYS cy) t ∧ va_D (va_A (Wd cy a sh n z) sz) (Wd cy a sh n z8)) (va_A (Wd cy a sh n z) sz)) 0 0 (va_A (Wd cy a sh n z) sz) := by
  refine Met.ofW (cc := cX11_unweave) (maxL := 2) (ret := (some .int)) (by decide) rfl ?_
  intro p e s m args below meth c s₁ B hml hv
  obtain ⟨rfl, hsz, hP, hK, hD0, hN⟩ := hv
  have hx := B.exec
  have hb := B.bytes
  have hr := B.returns
  have hts := atoms_spec (ws := wsX11_unweave) B.pre
  have hown : s.vm.findClass RX11 = some m.cls := findClass_of_methodNamed B.named
  have hlocks := B.notSynchronized
  subst hsz
  have hD := hD0.self (sz := s.heap.size)
  clear hD0
  generalize hAe : va_A (Wd cy a sh n z) s.heap.size = A at hD ⊢
  have hA : ∀ q : Nat, s.heap.size ≤ q → A q := fun q h => by rw [← hAe]; exact Or.inr h
  clear hAe
  have hS : va_S A s.heap s.heap [] := va_S.rf
  have hl := lv_entry ([.ref (a h0)]) (n := 2) (Nat.le_of_ble_eq_true rfl)
  rw [lg_entry_eq]
  generalize (lg_sl ([.ref (a h0)]) ++ List.replicate (2 - (lg_sl ([.ref (a h0)])).length) Slot.unset).toArray = ls at hl ⊢
  replace hl : lv_has ls 2 [(0, .ref (a h0))] := hl
  unfold fn_X11_unweave at hf
  refine de_start hS hP (fun H locs hS hP => ?_)
  refine lv_aload_n hx hb dX11_unweave_0 rfl (lv_at hl 0 rfl) ?_
  obtain ⟨g_1, hf⟩ := grd_some hf
  obtain ⟨kg_1, sg_1⟩ := okO_at g_1
  refine va_get (D := (dC, dI)) (ci := 11) (v := .int (z.1 h0 2)) (C := RX11) (T := TX11) (N := 13) hx hb hts iwd_X11_unweave_X11 hown hK hP h0 (Wd_ob kg_1 sg_1 (by decide)) rfl 2 (by decide) (hts _ md_X11_unweave_1) (fun _ h9 => h9) (fl_at (t := 0) rfl) dX11_unweave_1 ?_
  refine lv_topi (fun v_2 ev_2 => ?_)
  replace hf := lt_at ev_2 hf
  clear ev_2
  refine lv_istore_n (lv' := [(1, .int v_2), (0, .ref (a h0))]) hx hb dX11_unweave_4 rfl hl (by decide) rfl (fun ls hl2 => ?_)
  replace hl := hl2
  clear hl2
  refine lv_aload_n hx hb dX11_unweave_5 rfl (lv_at hl 1 rfl) ?_
  refine lv_iconst (v := 0) hx hb dX11_unweave_6 (by decide) ?_
  refine va_put (D := (dC, dI)) (ci := 11) (v := .int 0) (ty := .int) (C := RX11) (T := TX11) (N := 13) hx hb hts iwd_X11_unweave_X11 tyX11 tyX11_ok nmX11 hown hK hP hD hS h0 (Wd_ob kg_1 sg_1 (by decide)) rfl 2 (by decide) (hts _ md_X11_unweave_1) (fun _ h9 => h9) rfl (by decide +kernel) rfl rfl (by rw [fl_len]; decide) dX11_unweave_7 (fun H_3 locs hP2 hD2 hS2 => ?_)
  rw [Wd_si sg_1 (by decide) rfl] at hP2 hD2
  obtain ⟨z_4, ez_4⟩ : ∃ w, w = si z h0 2 0 := ⟨_, rfl⟩
  rw [← ez_4] at hP2 hD2
  replace hf := lt_at ez_4 hf
  clear ez_4
  replace hP := hP2
  replace hD := hD2
  replace hS := hS2
  clear hP2 hD2 hS2
  refine lv_iload_n hx hb dX11_unweave_10 rfl (lv_at hl 0 rfl) ?_
  obtain ⟨h8, h9⟩ := ret_some hf
  rw [h8, h9]
  exact W.iret (v := v_2) hx hb hr (fun t ht hW => ⟨⟨v_2, (), rfl, rfl, by rw [ht]; exact hP, va_K.moved hW.alike hK, hD⟩, hS.F ht⟩) hS.2.2 dX11_unweave_11

theorem md_X18_unweave_1 : (.fieldLink RX18 640 "ResourceLedgerModel" "woven" "I" : Cond) ∈ wsX18_unweave := List.mem_of_getElem? (i := 1) rfl
theorem iwd_X18_unweave_X18 : ∀ w ∈ wsX180, w ∈ wsX18_unweave := fun _ h => List.mem_cons_of_mem _ (List.mem_append_right _ h)
set_option maxHeartbeats 4000000 in
set_option maxRecDepth 100000 in
theorem de_X18_unweave (l : Launch) (dC : Nat → ClassId) (dI : Nat → Nat → Nat) (cy : Nat → ClassId) (a : Nat → Nat) (sh : Nat → Nat × Nat) (n sz : Nat) (F : Nat) (z : St) (h0 : Nat) {z8 : St} {r8 : Int32} (hf : fn_X18_unweave F sh n z h0 = some (z8, r8)) : Met l yX18_unweave wsX18_unweave ({ frames := 0, cells := 0, slots := 0, locals := 0 }) (va_Pc [.ref (a h0)] (fun U => U.heap.size = sz ∧ va_P (dC, dI) vwCl (Wd cy a sh n z) U.heap ∧ va_K (dC, dI) vwCl (TYS cy) U ∧ va_D (fun _ => True) (Wd cy a sh n z) ∧ NK U)) (va_Qi (fun (r9 : Int32) (u : Unit) => r9 = r8) (fun u t => va_P (dC, dI) vwCl (Wd cy a sh n z8) t.heap ∧ va_K (dC, dI) vwCl (TYS cy) t ∧ va_D (va_A (Wd cy a sh n z) sz) (Wd cy a sh n z8)) (va_A (Wd cy a sh n z) sz)) 0 0 (va_A (Wd cy a sh n z) sz) := by
  refine Met.ofW (cc := cX18_unweave) (maxL := 2) (ret := (some .int)) (by decide) rfl ?_
  intro p e s m args below meth c s₁ B hml hv
  obtain ⟨rfl, hsz, hP, hK, hD0, hN⟩ := hv
  have hx := B.exec
  have hb := B.bytes
  have hr := B.returns
  have hts := atoms_spec (ws := wsX18_unweave) B.pre
  have hown : s.vm.findClass RX18 = some m.cls := findClass_of_methodNamed B.named
  have hlocks := B.notSynchronized
  subst hsz
  have hD := hD0.self (sz := s.heap.size)
  clear hD0
  generalize hAe : va_A (Wd cy a sh n z) s.heap.size = A at hD ⊢
  have hA : ∀ q : Nat, s.heap.size ≤ q → A q := fun q h => by rw [← hAe]; exact Or.inr h
  clear hAe
  have hS : va_S A s.heap s.heap [] := va_S.rf
  have hl := lv_entry ([.ref (a h0)]) (n := 2) (Nat.le_of_ble_eq_true rfl)
  rw [lg_entry_eq]
  generalize (lg_sl ([.ref (a h0)]) ++ List.replicate (2 - (lg_sl ([.ref (a h0)])).length) Slot.unset).toArray = ls at hl ⊢
  replace hl : lv_has ls 2 [(0, .ref (a h0))] := hl
  unfold fn_X18_unweave at hf
  refine de_start hS hP (fun H locs hS hP => ?_)
  refine lv_aload_n hx hb dX18_unweave_0 rfl (lv_at hl 0 rfl) ?_
  obtain ⟨g_1, hf⟩ := grd_some hf
  obtain ⟨kg_1, sg_1⟩ := okO_at g_1
  refine va_get (D := (dC, dI)) (ci := 18) (v := .int (z.1 h0 51)) (C := RX18) (T := TX18) (N := 78) hx hb hts iwd_X18_unweave_X18 hown hK hP h0 (Wd_ob kg_1 sg_1 (by decide)) rfl 51 (by decide) (hts _ md_X18_unweave_1) (fun _ h9 => h9) (fl_at (t := 0) rfl) dX18_unweave_1 ?_
  refine lv_topi (fun v_2 ev_2 => ?_)
  replace hf := lt_at ev_2 hf
  clear ev_2
  refine lv_istore_n (lv' := [(1, .int v_2), (0, .ref (a h0))]) hx hb dX18_unweave_4 rfl hl (by decide) rfl (fun ls hl2 => ?_)
  replace hl := hl2
  clear hl2
  refine lv_aload_n hx hb dX18_unweave_5 rfl (lv_at hl 1 rfl) ?_
  refine lv_iconst (v := 0) hx hb dX18_unweave_6 (by decide) ?_
  refine va_put (D := (dC, dI)) (ci := 18) (v := .int 0) (ty := .int) (C := RX18) (T := TX18) (N := 78) hx hb hts iwd_X18_unweave_X18 tyX18 tyX18_ok nmX18 hown hK hP hD hS h0 (Wd_ob kg_1 sg_1 (by decide)) rfl 51 (by decide) (hts _ md_X18_unweave_1) (fun _ h9 => h9) rfl (by decide +kernel) rfl rfl (by rw [fl_len]; decide) dX18_unweave_7 (fun H_3 locs hP2 hD2 hS2 => ?_)
  rw [Wd_si sg_1 (by decide) rfl] at hP2 hD2
  obtain ⟨z_4, ez_4⟩ : ∃ w, w = si z h0 51 0 := ⟨_, rfl⟩
  rw [← ez_4] at hP2 hD2
  replace hf := lt_at ez_4 hf
  clear ez_4
  replace hP := hP2
  replace hD := hD2
  replace hS := hS2
  clear hP2 hD2 hS2
  refine lv_iload_n hx hb dX18_unweave_10 rfl (lv_at hl 0 rfl) ?_
  obtain ⟨h8, h9⟩ := ret_some hf
  rw [h8, h9]
  exact W.iret (v := v_2) hx hb hr (fun t ht hW => ⟨⟨v_2, (), rfl, rfl, by rw [ht]; exact hP, va_K.moved hW.alike hK, hD⟩, hS.F ht⟩) hS.2.2 dX18_unweave_11

theorem md_X13_byteOf_1 : (.constantLong RX13 56 (255) : Cond) ∈ wsX13_byteOf := List.mem_of_getElem? (i := 1) rfl
set_option maxHeartbeats 4000000 in
set_option maxRecDepth 100000 in
theorem de_X13_byteOf (l : Launch) (dC : Nat → ClassId) (dI : Nat → Nat → Nat) (cy : Nat → ClassId) (a : Nat → Nat) (sh : Nat → Nat × Nat) (n sz : Nat) (F : Nat) (z : St) (x0 : Int64) (x1 : Int32) {z8 : St} {r8 : Int32} (hf : fn_X13_byteOf F sh n z x0 x1 = some (z8, r8)) : Met l yX13_byteOf wsX13_byteOf ({ frames := 0, cells := 0, slots := 0, locals := 0 }) (va_Pc [.long x0, .int x1] (fun U => U.heap.size = sz ∧ va_P (dC, dI) vwCl (Wd cy a sh n z) U.heap ∧ va_K (dC, dI) vwCl (TYS cy) U ∧ va_D (fun _ => True) (Wd cy a sh n z) ∧ NK U)) (va_Qi (fun (r9 : Int32) (u : Unit) => r9 = r8) (fun u t => va_P (dC, dI) vwCl (Wd cy a sh n z8) t.heap ∧ va_K (dC, dI) vwCl (TYS cy) t ∧ va_D (va_A (Wd cy a sh n z) sz) (Wd cy a sh n z8)) (va_A (Wd cy a sh n z) sz)) 0 0 (va_A (Wd cy a sh n z) sz) := by
  refine Met.ofW (cc := cX13_byteOf) (maxL := 3) (ret := (some .int)) (by decide) rfl ?_
  intro p e s m args below meth c s₁ B hml hv
  obtain ⟨rfl, hsz, hP, hK, hD0, hN⟩ := hv
  have hx := B.exec
  have hb := B.bytes
  have hr := B.returns
  have hts := atoms_spec (ws := wsX13_byteOf) B.pre
  have hown : s.vm.findClass RX13 = some m.cls := findClass_of_methodNamed B.named
  have hlocks := B.notSynchronized
  subst hsz
  have hD := hD0.self (sz := s.heap.size)
  clear hD0
  generalize hAe : va_A (Wd cy a sh n z) s.heap.size = A at hD ⊢
  have hA : ∀ q : Nat, s.heap.size ≤ q → A q := fun q h => by rw [← hAe]; exact Or.inr h
  clear hAe
  have hS : va_S A s.heap s.heap [] := va_S.rf
  have hl := lv_entry ([.long x0, .int x1]) (n := 3) (Nat.le_of_ble_eq_true rfl)
  rw [lg_entry_eq]
  generalize (lg_sl ([.long x0, .int x1]) ++ List.replicate (3 - (lg_sl ([.long x0, .int x1])).length) Slot.unset).toArray = ls at hl ⊢
  replace hl : lv_has ls 3 [(0, .long x0), (2, .int x1)] := hl
  unfold fn_X13_byteOf at hf
  refine de_start hS hP (fun H locs hS hP => ?_)
  refine lv_lload_n hx hb dX13_byteOf_0 rfl (lv_at hl 0 rfl) ?_
  refine lv_bipush (v := 8) hx hb dX13_byteOf_1 (by decide) ?_
  refine lv_iload_n hx hb dX13_byteOf_3 rfl (lv_at hl 1 rfl) ?_
  refine lv_imul hx hb dX13_byteOf_4 ?_
  refine lv_lushr (v := ((x0 : Int64).toUInt64 >>> (((8 * x1) : Int32).toInt64.toUInt64 &&& Int64.toUInt64 63)).toInt64) hx hb dX13_byteOf_5 rfl ?_
  refine lv_ldc2 hx hb hown (hts _ md_X13_byteOf_1) dX13_byteOf_6 ?_
  refine lv_land hx hb dX13_byteOf_9 ?_
  refine lv_l2i (v := (((((x0 : Int64).toUInt64 >>> (((8 * x1) : Int32).toInt64.toUInt64 &&& Int64.toUInt64 63)).toInt64) &&& 255) : Int64).toInt32) hx hb dX13_byteOf_10 rfl ?_
  obtain ⟨h8, h9⟩ := ret_some hf
  rw [h8, h9]
  exact W.iret (v := ((((((x0 : Int64).toUInt64 >>> (((8 * x1) : Int32).toInt64.toUInt64 &&& Int64.toUInt64 63)).toInt64) &&& 255) : Int64).toInt32)) hx hb hr (fun t ht hW => ⟨⟨((((((x0 : Int64).toUInt64 >>> (((8 * x1) : Int32).toInt64.toUInt64 &&& Int64.toUInt64 63)).toInt64) &&& 255) : Int64).toInt32), (), rfl, rfl, by rw [ht]; exact hP, va_K.moved hW.alike hK, hD⟩, hS.F ht⟩) hS.2.2 dX13_byteOf_11

theorem md_X18_local_1 : (.fieldLink RX18 328 "ResourceLedgerModel" "frames" "I" : Cond) ∈ wsX18_local := List.mem_of_getElem? (i := 1) rfl
theorem iwd_X18_local_X18 : ∀ w ∈ wsX180, w ∈ wsX18_local := fun _ h => List.mem_cons_of_mem _ (List.mem_append_right _ h)
set_option maxHeartbeats 4000000 in
set_option maxRecDepth 100000 in
theorem de_X18_local (l : Launch) (dC : Nat → ClassId) (dI : Nat → Nat → Nat) (cy : Nat → ClassId) (a : Nat → Nat) (sh : Nat → Nat × Nat) (n sz : Nat) (F : Nat) (z : St) (h0 : Nat) (x0 : Int32) {z8 : St} {r8 : Int32} (hf : fn_X18_local F sh n z h0 x0 = some (z8, r8)) : Met l yX18_local wsX18_local ({ frames := 0, cells := 0, slots := 0, locals := 0 }) (va_Pc [.ref (a h0), .int x0] (fun U => U.heap.size = sz ∧ va_P (dC, dI) vwCl (Wd cy a sh n z) U.heap ∧ va_K (dC, dI) vwCl (TYS cy) U ∧ va_D (fun _ => True) (Wd cy a sh n z) ∧ NK U)) (va_Qi (fun (r9 : Int32) (u : Unit) => r9 = r8) (fun u t => va_P (dC, dI) vwCl (Wd cy a sh n z8) t.heap ∧ va_K (dC, dI) vwCl (TYS cy) t ∧ va_D (va_A (Wd cy a sh n z) sz) (Wd cy a sh n z8)) (va_A (Wd cy a sh n z) sz)) 0 0 (va_A (Wd cy a sh n z) sz) := by
  refine Met.ofW (cc := cX18_local) (maxL := 2) (ret := (some .int)) (by decide) rfl ?_
  intro p e s m args below meth c s₁ B hml hv
  obtain ⟨rfl, hsz, hP, hK, hD0, hN⟩ := hv
  have hx := B.exec
  have hb := B.bytes
  have hr := B.returns
  have hts := atoms_spec (ws := wsX18_local) B.pre
  have hown : s.vm.findClass RX18 = some m.cls := findClass_of_methodNamed B.named
  have hlocks := B.notSynchronized
  subst hsz
  have hD := hD0.self (sz := s.heap.size)
  clear hD0
  generalize hAe : va_A (Wd cy a sh n z) s.heap.size = A at hD ⊢
  have hA : ∀ q : Nat, s.heap.size ≤ q → A q := fun q h => by rw [← hAe]; exact Or.inr h
  clear hAe
  have hS : va_S A s.heap s.heap [] := va_S.rf
  have hl := lv_entry ([.ref (a h0), .int x0]) (n := 2) (Nat.le_of_ble_eq_true rfl)
  rw [lg_entry_eq]
  generalize (lg_sl ([.ref (a h0), .int x0]) ++ List.replicate (2 - (lg_sl ([.ref (a h0), .int x0])).length) Slot.unset).toArray = ls at hl ⊢
  replace hl : lv_has ls 2 [(0, .ref (a h0)), (1, .int x0)] := hl
  unfold fn_X18_local at hf
  refine de_start hS hP (fun H locs hS hP => ?_)
  refine lv_bipush (v := 40) hx hb dX18_local_0 (by decide) ?_
  refine lv_aload_n hx hb dX18_local_2 rfl (lv_at hl 0 rfl) ?_
  obtain ⟨g_1, hf⟩ := grd_some hf
  obtain ⟨kg_1, sg_1⟩ := okO_at g_1
  refine va_get (D := (dC, dI)) (ci := 18) (v := .int (z.1 h0 36)) (C := RX18) (T := TX18) (N := 78) hx hb hts iwd_X18_local_X18 hown hK hP h0 (Wd_ob kg_1 sg_1 (by decide)) rfl 36 (by decide) (hts _ md_X18_local_1) (fun _ h9 => h9) (fl_at (t := 0) rfl) dX18_local_3 ?_
  refine lv_iconst (v := 1) hx hb dX18_local_6 (by decide) ?_
  refine lv_isub hx hb dX18_local_7 ?_
  refine lv_imul hx hb dX18_local_8 ?_
  refine lv_iload_n hx hb dX18_local_9 rfl (lv_at hl 1 rfl) ?_
  refine lv_iadd hx hb dX18_local_10 ?_
  obtain ⟨h8, h9⟩ := ret_some hf
  rw [h8, h9]
  exact W.iret (v := ((40 * ((z.1 h0 36) - 1)) + x0)) hx hb hr (fun t ht hW => ⟨⟨((40 * ((z.1 h0 36) - 1)) + x0), (), rfl, rfl, by rw [ht]; exact hP, va_K.moved hW.alike hK, hD⟩, hS.F ht⟩) hS.2.2 dX18_local_11

theorem md_X18_placeCount_1 : (.fieldLink RX18 1 "ResourceLedgerModel" "accounts" "I" : Cond) ∈ wsX18_placeCount := List.mem_of_getElem? (i := 1) rfl
theorem iwd_X18_placeCount_X18 : ∀ w ∈ wsX180, w ∈ wsX18_placeCount := fun _ h => List.mem_cons_of_mem _ (List.mem_append_right _ h)
theorem md_X18_placeCount_2 : (.fieldLink RX18 7 "ResourceLedgerModel" "modules" "I" : Cond) ∈ wsX18_placeCount := List.mem_of_getElem? (i := 2) rfl
theorem md_X18_placeCount_3 : (.fieldLink RX18 10 "ResourceLedgerModel" "resources" "I" : Cond) ∈ wsX18_placeCount := List.mem_of_getElem? (i := 3) rfl
set_option maxHeartbeats 4000000 in
set_option maxRecDepth 100000 in
theorem de_X18_placeCount (l : Launch) (dC : Nat → ClassId) (dI : Nat → Nat → Nat) (cy : Nat → ClassId) (a : Nat → Nat) (sh : Nat → Nat × Nat) (n sz : Nat) (F : Nat) (z : St) (h0 : Nat) {z8 : St} {r8 : Int32} (hf : fn_X18_placeCount F sh n z h0 = some (z8, r8)) : Met l yX18_placeCount wsX18_placeCount ({ frames := 0, cells := 0, slots := 0, locals := 0 }) (va_Pc [.ref (a h0)] (fun U => U.heap.size = sz ∧ va_P (dC, dI) vwCl (Wd cy a sh n z) U.heap ∧ va_K (dC, dI) vwCl (TYS cy) U ∧ va_D (fun _ => True) (Wd cy a sh n z) ∧ NK U)) (va_Qi (fun (r9 : Int32) (u : Unit) => r9 = r8) (fun u t => va_P (dC, dI) vwCl (Wd cy a sh n z8) t.heap ∧ va_K (dC, dI) vwCl (TYS cy) t ∧ va_D (va_A (Wd cy a sh n z) sz) (Wd cy a sh n z8)) (va_A (Wd cy a sh n z) sz)) 0 0 (va_A (Wd cy a sh n z) sz) := by
  refine Met.ofW (cc := cX18_placeCount) (maxL := 1) (ret := (some .int)) (by decide) rfl ?_
  intro p e s m args below meth c s₁ B hml hv
  obtain ⟨rfl, hsz, hP, hK, hD0, hN⟩ := hv
  have hx := B.exec
  have hb := B.bytes
  have hr := B.returns
  have hts := atoms_spec (ws := wsX18_placeCount) B.pre
  have hown : s.vm.findClass RX18 = some m.cls := findClass_of_methodNamed B.named
  have hlocks := B.notSynchronized
  subst hsz
  have hD := hD0.self (sz := s.heap.size)
  clear hD0
  generalize hAe : va_A (Wd cy a sh n z) s.heap.size = A at hD ⊢
  have hA : ∀ q : Nat, s.heap.size ≤ q → A q := fun q h => by rw [← hAe]; exact Or.inr h
  clear hAe
  have hS : va_S A s.heap s.heap [] := va_S.rf
  have hl := lv_entry ([.ref (a h0)]) (n := 1) (Nat.le_of_ble_eq_true rfl)
  rw [lg_entry_eq]
  generalize (lg_sl ([.ref (a h0)]) ++ List.replicate (1 - (lg_sl ([.ref (a h0)])).length) Slot.unset).toArray = ls at hl ⊢
  replace hl : lv_has ls 1 [(0, .ref (a h0))] := hl
  unfold fn_X18_placeCount at hf
  refine de_start hS hP (fun H locs hS hP => ?_)
  refine lv_aload_n hx hb dX18_placeCount_0 rfl (lv_at hl 0 rfl) ?_
  obtain ⟨g_1, hf⟩ := grd_some hf
  obtain ⟨kg_1, sg_1⟩ := okO_at g_1
  refine va_get (D := (dC, dI)) (ci := 18) (v := .int (z.1 h0 3)) (C := RX18) (T := TX18) (N := 78) hx hb hts iwd_X18_placeCount_X18 hown hK hP h0 (Wd_ob kg_1 sg_1 (by decide)) rfl 3 (by decide) (hts _ md_X18_placeCount_1) (fun _ h9 => h9) (fl_at (t := 0) rfl) dX18_placeCount_1 ?_
  refine lv_aload_n hx hb dX18_placeCount_4 rfl (lv_at hl 0 rfl) ?_
  refine va_get (D := (dC, dI)) (ci := 18) (v := .int (z.1 h0 5)) (C := RX18) (T := TX18) (N := 78) hx hb hts iwd_X18_placeCount_X18 hown hK hP h0 (Wd_ob kg_1 sg_1 (by decide)) rfl 5 (by decide) (hts _ md_X18_placeCount_2) (fun _ h9 => h9) (fl_at (t := 0) rfl) dX18_placeCount_5 ?_
  refine lv_iadd hx hb dX18_placeCount_8 ?_
  refine lv_aload_n hx hb dX18_placeCount_9 rfl (lv_at hl 0 rfl) ?_
  refine va_get (D := (dC, dI)) (ci := 18) (v := .int (z.1 h0 9)) (C := RX18) (T := TX18) (N := 78) hx hb hts iwd_X18_placeCount_X18 hown hK hP h0 (Wd_ob kg_1 sg_1 (by decide)) rfl 9 (by decide) (hts _ md_X18_placeCount_3) (fun _ h9 => h9) (fl_at (t := 0) rfl) dX18_placeCount_10 ?_
  refine lv_iadd hx hb dX18_placeCount_13 ?_
  obtain ⟨h8, h9⟩ := ret_some hf
  rw [h8, h9]
  exact W.iret (v := (((z.1 h0 3) + (z.1 h0 5)) + (z.1 h0 9))) hx hb hr (fun t ht hW => ⟨⟨(((z.1 h0 3) + (z.1 h0 5)) + (z.1 h0 9)), (), rfl, rfl, by rw [ht]; exact hP, va_K.moved hW.alike hK, hD⟩, hS.F ht⟩) hS.2.2 dX18_placeCount_14

theorem md_X7_placeCount_1 : (.fieldLink RX7 51 "ResourceLedger$State" "accountCount" "I" : Cond) ∈ wsX7_placeCount := List.mem_of_getElem? (i := 1) rfl
theorem iwd_X7_placeCount_X7 : ∀ w ∈ wsX70, w ∈ wsX7_placeCount := fun _ h => List.mem_cons_of_mem _ (List.mem_append_right _ h)
theorem md_X7_placeCount_2 : (.fieldLink RX7 55 "ResourceLedger$State" "moduleCount" "I" : Cond) ∈ wsX7_placeCount := List.mem_of_getElem? (i := 2) rfl
theorem md_X7_placeCount_3 : (.fieldLink RX7 58 "ResourceLedger$State" "resourceCount" "I" : Cond) ∈ wsX7_placeCount := List.mem_of_getElem? (i := 3) rfl
set_option maxHeartbeats 4000000 in
set_option maxRecDepth 100000 in
theorem de_X7_placeCount (l : Launch) (dC : Nat → ClassId) (dI : Nat → Nat → Nat) (cy : Nat → ClassId) (a : Nat → Nat) (sh : Nat → Nat × Nat) (n sz : Nat) (F : Nat) (z : St) (h0 : Nat) {z8 : St} {r8 : Int32} (hf : fn_X7_placeCount F sh n z h0 = some (z8, r8)) : Met l yX7_placeCount wsX7_placeCount ({ frames := 0, cells := 0, slots := 0, locals := 0 }) (va_Pc [.ref (a h0)] (fun U => U.heap.size = sz ∧ va_P (dC, dI) vwCl (Wd cy a sh n z) U.heap ∧ va_K (dC, dI) vwCl (TYS cy) U ∧ va_D (fun _ => True) (Wd cy a sh n z) ∧ NK U)) (va_Qi (fun (r9 : Int32) (u : Unit) => r9 = r8) (fun u t => va_P (dC, dI) vwCl (Wd cy a sh n z8) t.heap ∧ va_K (dC, dI) vwCl (TYS cy) t ∧ va_D (va_A (Wd cy a sh n z) sz) (Wd cy a sh n z8)) (va_A (Wd cy a sh n z) sz)) 0 0 (va_A (Wd cy a sh n z) sz) := by
  refine Met.ofW (cc := cX7_placeCount) (maxL := 1) (ret := (some .int)) (by decide) rfl ?_
  intro p e s m args below meth c s₁ B hml hv
  obtain ⟨rfl, hsz, hP, hK, hD0, hN⟩ := hv
  have hx := B.exec
  have hb := B.bytes
  have hr := B.returns
  have hts := atoms_spec (ws := wsX7_placeCount) B.pre
  have hown : s.vm.findClass RX7 = some m.cls := findClass_of_methodNamed B.named
  have hlocks := B.notSynchronized
  subst hsz
  have hD := hD0.self (sz := s.heap.size)
  clear hD0
  generalize hAe : va_A (Wd cy a sh n z) s.heap.size = A at hD ⊢
  have hA : ∀ q : Nat, s.heap.size ≤ q → A q := fun q h => by rw [← hAe]; exact Or.inr h
  clear hAe
  have hS : va_S A s.heap s.heap [] := va_S.rf
  have hl := lv_entry ([.ref (a h0)]) (n := 1) (Nat.le_of_ble_eq_true rfl)
  rw [lg_entry_eq]
  generalize (lg_sl ([.ref (a h0)]) ++ List.replicate (1 - (lg_sl ([.ref (a h0)])).length) Slot.unset).toArray = ls at hl ⊢
  replace hl : lv_has ls 1 [(0, .ref (a h0))] := hl
  unfold fn_X7_placeCount at hf
  refine de_start hS hP (fun H locs hS hP => ?_)
  refine lv_aload_n hx hb dX7_placeCount_0 rfl (lv_at hl 0 rfl) ?_
  obtain ⟨g_1, hf⟩ := grd_some hf
  obtain ⟨kg_1, sg_1⟩ := okO_at g_1
  refine va_get (D := (dC, dI)) (ci := 7) (v := .int (z.1 h0 3)) (C := RX7) (T := TX7) (N := 16) hx hb hts iwd_X7_placeCount_X7 hown hK hP h0 (Wd_ob kg_1 sg_1 (by decide)) rfl 3 (by decide) (hts _ md_X7_placeCount_1) (fun _ h9 => h9) (fl_at (t := 0) rfl) dX7_placeCount_1 ?_
  refine lv_aload_n hx hb dX7_placeCount_4 rfl (lv_at hl 0 rfl) ?_
  refine va_get (D := (dC, dI)) (ci := 7) (v := .int (z.1 h0 5)) (C := RX7) (T := TX7) (N := 16) hx hb hts iwd_X7_placeCount_X7 hown hK hP h0 (Wd_ob kg_1 sg_1 (by decide)) rfl 5 (by decide) (hts _ md_X7_placeCount_2) (fun _ h9 => h9) (fl_at (t := 0) rfl) dX7_placeCount_5 ?_
  refine lv_iadd hx hb dX7_placeCount_8 ?_
  refine lv_aload_n hx hb dX7_placeCount_9 rfl (lv_at hl 0 rfl) ?_
  refine va_get (D := (dC, dI)) (ci := 7) (v := .int (z.1 h0 10)) (C := RX7) (T := TX7) (N := 16) hx hb hts iwd_X7_placeCount_X7 hown hK hP h0 (Wd_ob kg_1 sg_1 (by decide)) rfl 10 (by decide) (hts _ md_X7_placeCount_3) (fun _ h9 => h9) (fl_at (t := 0) rfl) dX7_placeCount_10 ?_
  refine lv_iadd hx hb dX7_placeCount_13 ?_
  obtain ⟨h8, h9⟩ := ret_some hf
  rw [h8, h9]
  exact W.iret (v := (((z.1 h0 3) + (z.1 h0 5)) + (z.1 h0 10))) hx hb hr (fun t ht hW => ⟨⟨(((z.1 h0 3) + (z.1 h0 5)) + (z.1 h0 10)), (), rfl, rfl, by rw [ht]; exact hP, va_K.moved hW.alike hK, hD⟩, hS.F ht⟩) hS.2.2 dX7_placeCount_14

set_option maxHeartbeats 4000000 in
set_option maxRecDepth 100000 in
theorem de_L_cell (l : Launch) (dC : Nat → ClassId) (dI : Nat → Nat → Nat) (cy : Nat → ClassId) (a : Nat → Nat) (sh : Nat → Nat × Nat) (n sz : Nat) (F : Nat) (z : St) (x0 : Nat) (x1 : Int32) {z8 : St} {r8 : Int32} (hf : fn_L_cell F sh n z x0 x1 = some (z8, r8)) : Met l yL_cell wsL_cell ({ frames := 0, cells := 0, slots := 0, locals := 0 }) (va_Pc [.ref (a x0), .int x1] (fun U => U.heap.size = sz ∧ va_P (dC, dI) vwCl (Wd cy a sh n z) U.heap ∧ va_K (dC, dI) vwCl (TYS cy) U ∧ va_D (fun _ => True) (Wd cy a sh n z) ∧ NK U)) (va_Qi (fun (r9 : Int32) (u : Unit) => r9 = r8) (fun u t => va_P (dC, dI) vwCl (Wd cy a sh n z8) t.heap ∧ va_K (dC, dI) vwCl (TYS cy) t ∧ va_D (va_A (Wd cy a sh n z) sz) (Wd cy a sh n z8)) (va_A (Wd cy a sh n z) sz)) 0 0 (va_A (Wd cy a sh n z) sz) := by
  refine Met.ofW (cc := cL_cell) (maxL := 2) (ret := (some .int)) (by decide) rfl ?_
  intro p e s m args below meth c s₁ B hml hv
  obtain ⟨rfl, hsz, hP, hK, hD0, hN⟩ := hv
  have hx := B.exec
  have hb := B.bytes
  have hr := B.returns
  have hts := atoms_spec (ws := wsL_cell) B.pre
  have hown : s.vm.findClass RL = some m.cls := findClass_of_methodNamed B.named
  have hlocks := B.notSynchronized
  subst hsz
  have hD := hD0.self (sz := s.heap.size)
  clear hD0
  generalize hAe : va_A (Wd cy a sh n z) s.heap.size = A at hD ⊢
  have hA : ∀ q : Nat, s.heap.size ≤ q → A q := fun q h => by rw [← hAe]; exact Or.inr h
  clear hAe
  have hS : va_S A s.heap s.heap [] := va_S.rf
  have hl := lv_entry ([.ref (a x0), .int x1]) (n := 2) (Nat.le_of_ble_eq_true rfl)
  rw [lg_entry_eq]
  generalize (lg_sl ([.ref (a x0), .int x1]) ++ List.replicate (2 - (lg_sl ([.ref (a x0), .int x1])).length) Slot.unset).toArray = ls at hl ⊢
  replace hl : lv_has ls 2 [(0, .ref (a x0)), (1, .int x1)] := hl
  unfold fn_L_cell at hf
  refine de_start hS hP (fun H locs hS hP => ?_)
  refine lv_iload_n hx hb dL_cell_0 rfl (lv_at hl 1 rfl) ?_
  refine lv_aload_n hx hb dL_cell_1 rfl (lv_at hl 0 rfl) ?_
  obtain ⟨g_1, hf⟩ := grd_some hf
  obtain ⟨kg_1, sg_1⟩ := okO_at g_1
  refine va_alen (v := Int32.ofNat (sh x0).2) hx hb hK hP x0 1 (Wd_ai kg_1 sg_1) rfl rfl dL_cell_2 ?_
  refine lv_icmp_ge (tgt := 12) hx hb dL_cell_3 (by decide) (fun c_2 => ?_) (fun c_2 => ?_)
  · skip
    rw [if_pos c_2] at hf
    refine lv_iconst (v := 0) hx hb dL_cell_12 (by decide) ?_
    obtain ⟨h8, h9⟩ := ret_some hf
    rw [h8, h9]
    exact W.iret (v := 0) hx hb hr (fun t ht hW => ⟨⟨0, (), rfl, rfl, by rw [ht]; exact hP, va_K.moved hW.alike hK, hD⟩, hS.F ht⟩) hS.2.2 dL_cell_13
  · skip
    rw [if_neg c_2] at hf
    refine lv_aload_n hx hb dL_cell_6 rfl (lv_at hl 0 rfl) ?_
    refine lv_iload_n hx hb dL_cell_7 rfl (lv_at hl 1 rfl) ?_
    obtain ⟨g_3, hf⟩ := grd_some hf
    obtain ⟨kg_3, sg_3, ig_3⟩ := okA_at g_3
    refine va_iald hx hb hK hP x0 1 (Wd_ai kg_3 sg_3) rfl ig_3 dL_cell_8 ?_
    refine lv_goto (tgt := 13) hx hb dL_cell_9 (by decide) ?_
    obtain ⟨h8, h9⟩ := ret_some hf
    rw [h8, h9]
    exact W.iret (v := (z.1 x0 x1.toNatClampNeg)) hx hb hr (fun t ht hW => ⟨⟨(z.1 x0 x1.toNatClampNeg), (), rfl, rfl, by rw [ht]; exact hP, va_K.moved hW.alike hK, hD⟩, hS.F ht⟩) hS.2.2 dL_cell_13

theorem md_X10_set_1 : (.fieldLink RX10 17 "ResourceLedger$Wide" "high" "J" : Cond) ∈ wsX10_set := List.mem_of_getElem? (i := 1) rfl
theorem iwd_X10_set_X10 : ∀ w ∈ wsX100, w ∈ wsX10_set := fun _ h => List.mem_cons_of_mem _ (List.mem_append_right _ h)
theorem md_X10_set_2 : (.fieldLink RX10 21 "ResourceLedger$Wide" "low" "J" : Cond) ∈ wsX10_set := List.mem_of_getElem? (i := 2) rfl
theorem md_X10_set_3 : (.fieldLink RX10 24 "ResourceLedger$Wide" "beyond" "Z" : Cond) ∈ wsX10_set := List.mem_of_getElem? (i := 3) rfl
set_option maxHeartbeats 4000000 in
set_option maxRecDepth 100000 in
theorem de_X10_set (l : Launch) (dC : Nat → ClassId) (dI : Nat → Nat → Nat) (cy : Nat → ClassId) (a : Nat → Nat) (sh : Nat → Nat × Nat) (n sz : Nat) (F : Nat) (z : St) (h0 : Nat) (x0 : Int64) (x1 : Int64) {z8 : St} {r8 : Unit} (hf : fn_X10_set F sh n z h0 x0 x1 = some (z8, r8)) : Met l yX10_set wsX10_set ({ frames := 0, cells := 0, slots := 0, locals := 0 }) (va_Pc [.ref (a h0), .long x0, .long x1] (fun U => U.heap.size = sz ∧ va_P (dC, dI) vwCl (Wd cy a sh n z) U.heap ∧ va_K (dC, dI) vwCl (TYS cy) U ∧ va_D (fun _ => True) (Wd cy a sh n z) ∧ NK U)) (va_Qv (fun u : Unit => True) (fun u t => va_P (dC, dI) vwCl (Wd cy a sh n z8) t.heap ∧ va_K (dC, dI) vwCl (TYS cy) t ∧ va_D (va_A (Wd cy a sh n z) sz) (Wd cy a sh n z8)) (va_A (Wd cy a sh n z) sz)) 0 0 (va_A (Wd cy a sh n z) sz) := by
  refine Met.ofW (cc := cX10_set) (maxL := 5) (ret := none) (by decide) rfl ?_
  intro p e s m args below meth c s₁ B hml hv
  obtain ⟨rfl, hsz, hP, hK, hD0, hN⟩ := hv
  have hx := B.exec
  have hb := B.bytes
  have hr := B.returns
  have hts := atoms_spec (ws := wsX10_set) B.pre
  have hown : s.vm.findClass RX10 = some m.cls := findClass_of_methodNamed B.named
  have hlocks := B.notSynchronized
  subst hsz
  have hD := hD0.self (sz := s.heap.size)
  clear hD0
  generalize hAe : va_A (Wd cy a sh n z) s.heap.size = A at hD ⊢
  have hA : ∀ q : Nat, s.heap.size ≤ q → A q := fun q h => by rw [← hAe]; exact Or.inr h
  clear hAe
  have hS : va_S A s.heap s.heap [] := va_S.rf
  have hl := lv_entry ([.ref (a h0), .long x0, .long x1]) (n := 5) (Nat.le_of_ble_eq_true rfl)
  rw [lg_entry_eq]
  generalize (lg_sl ([.ref (a h0), .long x0, .long x1]) ++ List.replicate (5 - (lg_sl ([.ref (a h0), .long x0, .long x1])).length) Slot.unset).toArray = ls at hl ⊢
  replace hl : lv_has ls 5 [(0, .ref (a h0)), (1, .long x0), (3, .long x1)] := hl
  unfold fn_X10_set at hf
  refine de_start hS hP (fun H locs hS hP => ?_)
  refine lv_aload_n hx hb dX10_set_0 rfl (lv_at hl 0 rfl) ?_
  refine lv_lload_n hx hb dX10_set_1 rfl (lv_at hl 1 rfl) ?_
  obtain ⟨g_1, hf⟩ := grd_some hf
  obtain ⟨kg_1, sg_1⟩ := okO_at g_1
  refine va_put (D := (dC, dI)) (ci := 10) (v := .long x0) (ty := .long) (C := RX10) (T := TX10) (N := 5) hx hb hts iwd_X10_set_X10 tyX10 tyX10_ok nmX10 hown hK hP hD hS h0 (Wd_ob kg_1 sg_1 (by decide)) rfl 0 (by decide) (hts _ md_X10_set_1) (fun _ h9 => h9) rfl (by decide +kernel) rfl rfl (by rw [fl_len]; decide) dX10_set_2 (fun H_2 locs hP2 hD2 hS2 => ?_)
  rw [Wd_sl sg_1 (by decide) rfl] at hP2 hD2
  obtain ⟨z_3, ez_3⟩ : ∃ w, w = sl z h0 0 x0 := ⟨_, rfl⟩
  rw [← ez_3] at hP2 hD2
  replace hf := lt_at ez_3 hf
  clear ez_3
  replace hP := hP2
  replace hD := hD2
  replace hS := hS2
  clear hP2 hD2 hS2
  refine lv_aload_n hx hb dX10_set_5 rfl (lv_at hl 0 rfl) ?_
  refine lv_lload_n hx hb dX10_set_6 rfl (lv_at hl 2 rfl) ?_
  refine va_put (D := (dC, dI)) (ci := 10) (v := .long x1) (ty := .long) (C := RX10) (T := TX10) (N := 5) hx hb hts iwd_X10_set_X10 tyX10 tyX10_ok nmX10 hown hK hP hD hS h0 (Wd_ob kg_1 sg_1 (by decide)) rfl 1 (by decide) (hts _ md_X10_set_2) (fun _ h9 => h9) rfl (by decide +kernel) rfl rfl (by rw [fl_len]; decide) dX10_set_7 (fun H_4 locs hP2 hD2 hS2 => ?_)
  rw [Wd_sl sg_1 (by decide) rfl] at hP2 hD2
  obtain ⟨z_5, ez_5⟩ : ∃ w, w = sl z_3 h0 1 x1 := ⟨_, rfl⟩
  rw [← ez_5] at hP2 hD2
  replace hf := lt_at ez_5 hf
  clear ez_5
  replace hP := hP2
  replace hD := hD2
  replace hS := hS2
  clear hP2 hD2 hS2
  refine lv_aload_n hx hb dX10_set_10 rfl (lv_at hl 0 rfl) ?_
  refine lv_iconst (v := 0) hx hb dX10_set_11 (by decide) ?_
  refine va_put (D := (dC, dI)) (ci := 10) (v := .int 0) (ty := .boolean) (C := RX10) (T := TX10) (N := 5) hx hb hts iwd_X10_set_X10 tyX10 tyX10_ok nmX10 hown hK hP hD hS h0 (Wd_ob kg_1 sg_1 (by decide)) rfl 2 (by decide) (hts _ md_X10_set_3) (fun _ h9 => h9) rfl (by decide +kernel) rfl rfl (by rw [fl_len]; decide) dX10_set_12 (fun H_6 locs hP2 hD2 hS2 => ?_)
  rw [Wd_si sg_1 (by decide) rfl] at hP2 hD2
  obtain ⟨z_7, ez_7⟩ : ∃ w, w = si z_5 h0 2 0 := ⟨_, rfl⟩
  rw [← ez_7] at hP2 hD2
  replace hf := lt_at ez_7 hf
  clear ez_7
  replace hP := hP2
  replace hD := hD2
  replace hS := hS2
  clear hP2 hD2 hS2
  obtain ⟨h8, h9⟩ := ret_some hf
  rw [h8]
  exact W.vret hx hb hr (fun t ht hW => ⟨⟨(), rfl, trivial, by rw [ht]; exact hP, va_K.moved hW.alike hK, hD⟩, hS.F ht⟩) hS.2.2 dX10_set_15

theorem md_X14_get_1 : (.fieldLink RX14 39 "ResourceLedgerModel$Roots" "count" "I" : Cond) ∈ wsX14_get := List.mem_of_getElem? (i := 1) rfl
theorem iwd_X14_get_X14 : ∀ w ∈ wsX140, w ∈ wsX14_get := fun _ h => List.mem_cons_of_mem _ (List.mem_append_right _ h)
theorem md_X14_get_2 : (.fieldLink RX14 26 "ResourceLedgerModel$Roots" "hashes" "[J" : Cond) ∈ wsX14_get := List.mem_of_getElem? (i := 2) rfl
set_option maxHeartbeats 4000000 in
set_option maxRecDepth 100000 in
theorem de_X14_get (l : Launch) (dC : Nat → ClassId) (dI : Nat → Nat → Nat) (cy : Nat → ClassId) (a : Nat → Nat) (sh : Nat → Nat × Nat) (n sz : Nat) (F : Nat) (z : St) (h0 : Nat) (x0 : Int32) {z8 : St} {r8 : Int64} (hf : fn_X14_get F sh n z h0 x0 = some (z8, r8)) : Met l yX14_get wsX14_get ({ frames := 0, cells := 0, slots := 0, locals := 0 }) (va_Pc [.ref (a h0), .int x0] (fun U => U.heap.size = sz ∧ va_P (dC, dI) vwCl (Wd cy a sh n z) U.heap ∧ va_K (dC, dI) vwCl (TYS cy) U ∧ va_D (fun _ => True) (Wd cy a sh n z) ∧ NK U)) (va_Ql (fun (r9 : Int64) (u : Unit) => r9 = r8) (fun u t => va_P (dC, dI) vwCl (Wd cy a sh n z8) t.heap ∧ va_K (dC, dI) vwCl (TYS cy) t ∧ va_D (va_A (Wd cy a sh n z) sz) (Wd cy a sh n z8)) (va_A (Wd cy a sh n z) sz)) 0 0 (va_A (Wd cy a sh n z) sz) := by
  refine Met.ofW (cc := cX14_get) (maxL := 2) (ret := (some .long)) (by decide) rfl ?_
  intro p e s m args below meth c s₁ B hml hv
  obtain ⟨rfl, hsz, hP, hK, hD0, hN⟩ := hv
  have hx := B.exec
  have hb := B.bytes
  have hr := B.returns
  have hts := atoms_spec (ws := wsX14_get) B.pre
  have hown : s.vm.findClass RX14 = some m.cls := findClass_of_methodNamed B.named
  have hlocks := B.notSynchronized
  subst hsz
  have hD := hD0.self (sz := s.heap.size)
  clear hD0
  generalize hAe : va_A (Wd cy a sh n z) s.heap.size = A at hD ⊢
  have hA : ∀ q : Nat, s.heap.size ≤ q → A q := fun q h => by rw [← hAe]; exact Or.inr h
  clear hAe
  have hS : va_S A s.heap s.heap [] := va_S.rf
  have hl := lv_entry ([.ref (a h0), .int x0]) (n := 2) (Nat.le_of_ble_eq_true rfl)
  rw [lg_entry_eq]
  generalize (lg_sl ([.ref (a h0), .int x0]) ++ List.replicate (2 - (lg_sl ([.ref (a h0), .int x0])).length) Slot.unset).toArray = ls at hl ⊢
  replace hl : lv_has ls 2 [(0, .ref (a h0)), (1, .int x0)] := hl
  unfold fn_X14_get at hf
  refine de_start hS hP (fun H locs hS hP => ?_)
  refine lv_aload_n hx hb dX14_get_0 rfl (lv_at hl 0 rfl) ?_
  obtain ⟨g_1, hf⟩ := grd_some hf
  obtain ⟨kg_1, sg_1⟩ := okO_at g_1
  refine va_get (D := (dC, dI)) (ci := 14) (v := .int (z.1 h0 5)) (C := RX14) (T := TX14) (N := 11) hx hb hts iwd_X14_get_X14 hown hK hP h0 (Wd_ob kg_1 sg_1 (by decide)) rfl 5 (by decide) (hts _ md_X14_get_1) (fun _ h9 => h9) (fl_at (t := 0) rfl) dX14_get_1 ?_
  refine lv_if_ne (tgt := 11) hx hb dX14_get_4 (by decide) (fun c_2 => ?_) (fun c_2 => ?_)
  · skip
    rw [if_neg c_2] at hf
    refine lv_aload_n hx hb dX14_get_11 rfl (lv_at hl 0 rfl) ?_
    obtain ⟨k_3, ek_3, hf⟩ := lnk_some hf
    refine va_get (D := (dC, dI)) (ci := 14) (v := .ref (a k_3)) (C := RX14) (T := TX14) (N := 11) hx hb hts iwd_X14_get_X14 hown hK hP h0 (Wd_ob kg_1 sg_1 (by decide)) rfl 6 (by decide) (hts _ md_X14_get_2) (fun _ h9 => h9) (fl_q rfl ek_3) dX14_get_12 ?_
    refine lv_iload_n hx hb dX14_get_15 rfl (lv_at hl 1 rfl) ?_
    obtain ⟨g_4, hf⟩ := grd_some hf
    obtain ⟨kg_4, sg_4, ig_4⟩ := okA_at g_4
    refine va_lald hx hb hK hP k_3 2 (Wd_al kg_4 sg_4) rfl ig_4 dX14_get_16 ?_
    obtain ⟨h8, h9⟩ := ret_some hf
    rw [h8, h9]
    exact W.lret (v := (z.2.1 k_3 x0.toNatClampNeg)) hx hb hr (fun t ht hW => ⟨⟨(z.2.1 k_3 x0.toNatClampNeg), (), rfl, rfl, by rw [ht]; exact hP, va_K.moved hW.alike hK, hD⟩, hS.F ht⟩) hS.2.2 dX14_get_17
  · skip
    rw [if_pos c_2] at hf
    refine lv_lconst (v := 0) hx hb dX14_get_7 (by decide) ?_
    refine lv_goto (tgt := 17) hx hb dX14_get_8 (by decide) ?_
    obtain ⟨h8, h9⟩ := ret_some hf
    rw [h8, h9]
    exact W.lret (v := 0) hx hb hr (fun t ht hW => ⟨⟨0, (), rfl, rfl, by rw [ht]; exact hP, va_K.moved hW.alike hK, hD⟩, hS.F ht⟩) hS.2.2 dX14_get_17

theorem md_X18_isDone_1 : (.fieldLink RX18 628 "ResourceLedgerModel" "done" "I" : Cond) ∈ wsX18_isDone := List.mem_of_getElem? (i := 1) rfl
theorem iwd_X18_isDone_X18 : ∀ w ∈ wsX180, w ∈ wsX18_isDone := fun _ h => List.mem_cons_of_mem _ (List.mem_append_right _ h)
set_option maxHeartbeats 4000000 in
set_option maxRecDepth 100000 in
theorem de_X18_isDone (l : Launch) (dC : Nat → ClassId) (dI : Nat → Nat → Nat) (cy : Nat → ClassId) (a : Nat → Nat) (sh : Nat → Nat × Nat) (n sz : Nat) (F : Nat) (z : St) (h0 : Nat) (x0 : Int32) {z8 : St} {r8 : Int32} (hf : fn_X18_isDone F sh n z h0 x0 = some (z8, r8)) : Met l yX18_isDone wsX18_isDone ({ frames := 0, cells := 0, slots := 0, locals := 0 }) (va_Pc [.ref (a h0), .int x0] (fun U => U.heap.size = sz ∧ va_P (dC, dI) vwCl (Wd cy a sh n z) U.heap ∧ va_K (dC, dI) vwCl (TYS cy) U ∧ va_D (fun _ => True) (Wd cy a sh n z) ∧ NK U)) (va_Qi (fun (r9 : Int32) (u : Unit) => r9 = r8) (fun u t => va_P (dC, dI) vwCl (Wd cy a sh n z8) t.heap ∧ va_K (dC, dI) vwCl (TYS cy) t ∧ va_D (va_A (Wd cy a sh n z) sz) (Wd cy a sh n z8)) (va_A (Wd cy a sh n z) sz)) 0 0 (va_A (Wd cy a sh n z) sz) := by
  refine Met.ofW (cc := cX18_isDone) (maxL := 2) (ret := (some .boolean)) (by decide) rfl ?_
  intro p e s m args below meth c s₁ B hml hv
  obtain ⟨rfl, hsz, hP, hK, hD0, hN⟩ := hv
  have hx := B.exec
  have hb := B.bytes
  have hr := B.returns
  have hts := atoms_spec (ws := wsX18_isDone) B.pre
  have hown : s.vm.findClass RX18 = some m.cls := findClass_of_methodNamed B.named
  have hlocks := B.notSynchronized
  subst hsz
  have hD := hD0.self (sz := s.heap.size)
  clear hD0
  generalize hAe : va_A (Wd cy a sh n z) s.heap.size = A at hD ⊢
  have hA : ∀ q : Nat, s.heap.size ≤ q → A q := fun q h => by rw [← hAe]; exact Or.inr h
  clear hAe
  have hS : va_S A s.heap s.heap [] := va_S.rf
  have hl := lv_entry ([.ref (a h0), .int x0]) (n := 2) (Nat.le_of_ble_eq_true rfl)
  rw [lg_entry_eq]
  generalize (lg_sl ([.ref (a h0), .int x0]) ++ List.replicate (2 - (lg_sl ([.ref (a h0), .int x0])).length) Slot.unset).toArray = ls at hl ⊢
  replace hl : lv_has ls 2 [(0, .ref (a h0)), (1, .int x0)] := hl
  unfold fn_X18_isDone at hf
  refine de_start hS hP (fun H locs hS hP => ?_)
  refine lv_iload_n hx hb dX18_isDone_0 rfl (lv_at hl 1 rfl) ?_
  refine lv_if_lt (tgt := 16) hx hb dX18_isDone_1 (by decide) (fun c_1 => ?_) (fun c_1 => ?_)
  · skip
    rw [if_pos c_1] at hf
    refine lv_iconst (v := 0) hx hb dX18_isDone_16 (by decide) ?_
    obtain ⟨h8, h9⟩ := ret_some hf
    rw [h8, h9]
    exact W.zret (v := 0) hx hb hr rfl (fun t ht hW => ⟨⟨0, (), rfl, rfl, by rw [ht]; exact hP, va_K.moved hW.alike hK, hD⟩, hS.F ht⟩) hS.2.2 dX18_isDone_17
  · skip
    rw [if_neg c_1] at hf
    refine lv_iload_n hx hb dX18_isDone_4 rfl (lv_at hl 1 rfl) ?_
    refine lv_aload_n hx hb dX18_isDone_5 rfl (lv_at hl 0 rfl) ?_
    obtain ⟨g_2, hf⟩ := grd_some hf
    obtain ⟨kg_2, sg_2⟩ := okO_at g_2
    refine va_get (D := (dC, dI)) (ci := 18) (v := .int (z.1 h0 53)) (C := RX18) (T := TX18) (N := 78) hx hb hts iwd_X18_isDone_X18 hown hK hP h0 (Wd_ob kg_2 sg_2 (by decide)) rfl 53 (by decide) (hts _ md_X18_isDone_1) (fun _ h9 => h9) (fl_at (t := 0) rfl) dX18_isDone_6 ?_
    refine lv_icmp_ge (tgt := 16) hx hb dX18_isDone_9 (by decide) (fun c_3 => ?_) (fun c_3 => ?_)
    · skip
      rw [if_pos c_3] at hf
      refine lv_iconst (v := 0) hx hb dX18_isDone_16 (by decide) ?_
      obtain ⟨h8, h9⟩ := ret_some hf
      rw [h8, h9]
      exact W.zret (v := 0) hx hb hr rfl (fun t ht hW => ⟨⟨0, (), rfl, rfl, by rw [ht]; exact hP, va_K.moved hW.alike hK, hD⟩, hS.F ht⟩) hS.2.2 dX18_isDone_17
    · skip
      rw [if_neg c_3] at hf
      refine lv_iconst (v := 1) hx hb dX18_isDone_12 (by decide) ?_
      refine lv_goto (tgt := 17) hx hb dX18_isDone_13 (by decide) ?_
      obtain ⟨h8, h9⟩ := ret_some hf
      rw [h8, h9]
      exact W.zret (v := 1) hx hb hr rfl (fun t ht hW => ⟨⟨1, (), rfl, rfl, by rw [ht]; exact hP, va_K.moved hW.alike hK, hD⟩, hS.F ht⟩) hS.2.2 dX18_isDone_17

set_option maxHeartbeats 4000000 in
set_option maxRecDepth 100000 in
theorem de_X18_isLimit (l : Launch) (dC : Nat → ClassId) (dI : Nat → Nat → Nat) (cy : Nat → ClassId) (a : Nat → Nat) (sh : Nat → Nat × Nat) (n sz : Nat) (F : Nat) (z : St) (x0 : Int32) {z8 : St} {r8 : Int32} (hf : fn_X18_isLimit F sh n z x0 = some (z8, r8)) : Met l yX18_isLimit wsX18_isLimit ({ frames := 0, cells := 0, slots := 0, locals := 0 }) (va_Pc [.int x0] (fun U => U.heap.size = sz ∧ va_P (dC, dI) vwCl (Wd cy a sh n z) U.heap ∧ va_K (dC, dI) vwCl (TYS cy) U ∧ va_D (fun _ => True) (Wd cy a sh n z) ∧ NK U)) (va_Qi (fun (r9 : Int32) (u : Unit) => r9 = r8) (fun u t => va_P (dC, dI) vwCl (Wd cy a sh n z8) t.heap ∧ va_K (dC, dI) vwCl (TYS cy) t ∧ va_D (va_A (Wd cy a sh n z) sz) (Wd cy a sh n z8)) (va_A (Wd cy a sh n z) sz)) 0 0 (va_A (Wd cy a sh n z) sz) := by
  refine Met.ofW (cc := cX18_isLimit) (maxL := 1) (ret := (some .boolean)) (by decide) rfl ?_
  intro p e s m args below meth c s₁ B hml hv
  obtain ⟨rfl, hsz, hP, hK, hD0, hN⟩ := hv
  have hx := B.exec
  have hb := B.bytes
  have hr := B.returns
  have hts := atoms_spec (ws := wsX18_isLimit) B.pre
  have hown : s.vm.findClass RX18 = some m.cls := findClass_of_methodNamed B.named
  have hlocks := B.notSynchronized
  subst hsz
  have hD := hD0.self (sz := s.heap.size)
  clear hD0
  generalize hAe : va_A (Wd cy a sh n z) s.heap.size = A at hD ⊢
  have hA : ∀ q : Nat, s.heap.size ≤ q → A q := fun q h => by rw [← hAe]; exact Or.inr h
  clear hAe
  have hS : va_S A s.heap s.heap [] := va_S.rf
  have hl := lv_entry ([.int x0]) (n := 1) (Nat.le_of_ble_eq_true rfl)
  rw [lg_entry_eq]
  generalize (lg_sl ([.int x0]) ++ List.replicate (1 - (lg_sl ([.int x0])).length) Slot.unset).toArray = ls at hl ⊢
  replace hl : lv_has ls 1 [(0, .int x0)] := hl
  unfold fn_X18_isLimit at hf
  refine de_start hS hP (fun H locs hS hP => ?_)
  refine lv_iload_n hx hb dX18_isLimit_0 rfl (lv_at hl 0 rfl) ?_
  refine lv_bipush (v := 10) hx hb dX18_isLimit_1 (by decide) ?_
  refine lv_icmp_lt (tgt := 17) hx hb dX18_isLimit_3 (by decide) (fun c_1 => ?_) (fun c_1 => ?_)
  · skip
    rw [if_pos c_1] at hf
    refine lv_iconst (v := 0) hx hb dX18_isLimit_17 (by decide) ?_
    obtain ⟨h8, h9⟩ := ret_some hf
    rw [h8, h9]
    exact W.zret (v := 0) hx hb hr rfl (fun t ht hW => ⟨⟨0, (), rfl, rfl, by rw [ht]; exact hP, va_K.moved hW.alike hK, hD⟩, hS.F ht⟩) hS.2.2 dX18_isLimit_18
  · skip
    rw [if_neg c_1] at hf
    refine lv_iload_n hx hb dX18_isLimit_6 rfl (lv_at hl 0 rfl) ?_
    refine lv_sipush (v := 20000) hx hb dX18_isLimit_7 (by decide) ?_
    refine lv_icmp_gt (tgt := 17) hx hb dX18_isLimit_10 (by decide) (fun c_2 => ?_) (fun c_2 => ?_)
    · skip
      rw [if_pos c_2] at hf
      refine lv_iconst (v := 0) hx hb dX18_isLimit_17 (by decide) ?_
      obtain ⟨h8, h9⟩ := ret_some hf
      rw [h8, h9]
      exact W.zret (v := 0) hx hb hr rfl (fun t ht hW => ⟨⟨0, (), rfl, rfl, by rw [ht]; exact hP, va_K.moved hW.alike hK, hD⟩, hS.F ht⟩) hS.2.2 dX18_isLimit_18
    · skip
      rw [if_neg c_2] at hf
      refine lv_iconst (v := 1) hx hb dX18_isLimit_13 (by decide) ?_
      refine lv_goto (tgt := 18) hx hb dX18_isLimit_14 (by decide) ?_
      obtain ⟨h8, h9⟩ := ret_some hf
      rw [h8, h9]
      exact W.zret (v := 1) hx hb hr rfl (fun t ht hW => ⟨⟨1, (), rfl, rfl, by rw [ht]; exact hP, va_K.moved hW.alike hK, hD⟩, hS.F ht⟩) hS.2.2 dX18_isLimit_18

set_option maxHeartbeats 4000000 in
set_option maxRecDepth 100000 in
theorem de_X1_holdsOthers (l : Launch) (dC : Nat → ClassId) (dI : Nat → Nat → Nat) (cy : Nat → ClassId) (a : Nat → Nat) (sh : Nat → Nat × Nat) (n sz : Nat) (F : Nat) (z : St) (x0 : Int32) {z8 : St} {r8 : Int32} (hf : fn_X1_holdsOthers F sh n z x0 = some (z8, r8)) : Met l yX1_holdsOthers wsX1_holdsOthers ({ frames := 0, cells := 0, slots := 0, locals := 0 }) (va_Pc [.int x0] (fun U => U.heap.size = sz ∧ va_P (dC, dI) vwCl (Wd cy a sh n z) U.heap ∧ va_K (dC, dI) vwCl (TYS cy) U ∧ va_D (fun _ => True) (Wd cy a sh n z) ∧ NK U)) (va_Qi (fun (r9 : Int32) (u : Unit) => r9 = r8) (fun u t => va_P (dC, dI) vwCl (Wd cy a sh n z8) t.heap ∧ va_K (dC, dI) vwCl (TYS cy) t ∧ va_D (va_A (Wd cy a sh n z) sz) (Wd cy a sh n z8)) (va_A (Wd cy a sh n z) sz)) 0 0 (va_A (Wd cy a sh n z) sz) := by
  refine Met.ofW (cc := cX1_holdsOthers) (maxL := 1) (ret := (some .boolean)) (by decide) rfl ?_
  intro p e s m args below meth c s₁ B hml hv
  obtain ⟨rfl, hsz, hP, hK, hD0, hN⟩ := hv
  have hx := B.exec
  have hb := B.bytes
  have hr := B.returns
  have hts := atoms_spec (ws := wsX1_holdsOthers) B.pre
  have hown : s.vm.findClass RX1 = some m.cls := findClass_of_methodNamed B.named
  have hlocks := B.notSynchronized
  subst hsz
  have hD := hD0.self (sz := s.heap.size)
  clear hD0
  generalize hAe : va_A (Wd cy a sh n z) s.heap.size = A at hD ⊢
  have hA : ∀ q : Nat, s.heap.size ≤ q → A q := fun q h => by rw [← hAe]; exact Or.inr h
  clear hAe
  have hS : va_S A s.heap s.heap [] := va_S.rf
  have hl := lv_entry ([.int x0]) (n := 1) (Nat.le_of_ble_eq_true rfl)
  rw [lg_entry_eq]
  generalize (lg_sl ([.int x0]) ++ List.replicate (1 - (lg_sl ([.int x0])).length) Slot.unset).toArray = ls at hl ⊢
  replace hl : lv_has ls 1 [(0, .int x0)] := hl
  unfold fn_X1_holdsOthers at hf
  refine de_start hS hP (fun H locs hS hP => ?_)
  refine lv_iload_n hx hb dX1_holdsOthers_0 rfl (lv_at hl 0 rfl) ?_
  refine lv_bipush (v := 6) hx hb dX1_holdsOthers_1 (by decide) ?_
  refine lv_icmp_eq (tgt := 12) hx hb dX1_holdsOthers_3 (by decide) (fun c_1 => ?_) (fun c_1 => ?_)
  · skip
    rw [if_pos c_1] at hf
    refine lv_iconst (v := 1) hx hb dX1_holdsOthers_12 (by decide) ?_
    refine lv_goto (tgt := 17) hx hb dX1_holdsOthers_13 (by decide) ?_
    obtain ⟨h8, h9⟩ := ret_some hf
    rw [h8, h9]
    exact W.zret (v := 1) hx hb hr rfl (fun t ht hW => ⟨⟨1, (), rfl, rfl, by rw [ht]; exact hP, va_K.moved hW.alike hK, hD⟩, hS.F ht⟩) hS.2.2 dX1_holdsOthers_17
  · skip
    rw [if_neg c_1] at hf
    refine lv_iload_n hx hb dX1_holdsOthers_6 rfl (lv_at hl 0 rfl) ?_
    refine lv_bipush (v := 7) hx hb dX1_holdsOthers_7 (by decide) ?_
    refine lv_icmp_ne (tgt := 16) hx hb dX1_holdsOthers_9 (by decide) (fun c_2 => ?_) (fun c_2 => ?_)
    · skip
      rw [if_neg c_2] at hf
      refine lv_iconst (v := 0) hx hb dX1_holdsOthers_16 (by decide) ?_
      obtain ⟨h8, h9⟩ := ret_some hf
      rw [h8, h9]
      exact W.zret (v := 0) hx hb hr rfl (fun t ht hW => ⟨⟨0, (), rfl, rfl, by rw [ht]; exact hP, va_K.moved hW.alike hK, hD⟩, hS.F ht⟩) hS.2.2 dX1_holdsOthers_17
    · skip
      rw [if_pos c_2] at hf
      refine lv_iconst (v := 1) hx hb dX1_holdsOthers_12 (by decide) ?_
      refine lv_goto (tgt := 17) hx hb dX1_holdsOthers_13 (by decide) ?_
      obtain ⟨h8, h9⟩ := ret_some hf
      rw [h8, h9]
      exact W.zret (v := 1) hx hb hr rfl (fun t ht hW => ⟨⟨1, (), rfl, rfl, by rw [ht]; exact hP, va_K.moved hW.alike hK, hD⟩, hS.F ht⟩) hS.2.2 dX1_holdsOthers_17

theorem md_X4_end_1 : (.fieldLink RX4 82 "ResourceLedger$Machine" "running" "Z" : Cond) ∈ wsX4_end := List.mem_of_getElem? (i := 1) rfl
theorem iwd_X4_end_X4 : ∀ w ∈ wsX40, w ∈ wsX4_end := fun _ h => List.mem_cons_of_mem _ (List.mem_append_right _ h)
theorem md_X4_end_2 : (.fieldLink RX4 86 "ResourceLedger$Machine" "outcome" "I" : Cond) ∈ wsX4_end := List.mem_of_getElem? (i := 2) rfl
theorem md_X4_end_3 : (.fieldLink RX4 89 "ResourceLedger$Machine" "code" "J" : Cond) ∈ wsX4_end := List.mem_of_getElem? (i := 3) rfl
set_option maxHeartbeats 4000000 in
set_option maxRecDepth 100000 in
theorem de_X4_end (l : Launch) (dC : Nat → ClassId) (dI : Nat → Nat → Nat) (cy : Nat → ClassId) (a : Nat → Nat) (sh : Nat → Nat × Nat) (n sz : Nat) (F : Nat) (z : St) (h0 : Nat) (x0 : Int32) (x1 : Int64) {z8 : St} {r8 : Unit} (hf : fn_X4_end F sh n z h0 x0 x1 = some (z8, r8)) : Met l yX4_end wsX4_end ({ frames := 0, cells := 0, slots := 0, locals := 0 }) (va_Pc [.ref (a h0), .int x0, .long x1] (fun U => U.heap.size = sz ∧ va_P (dC, dI) vwCl (Wd cy a sh n z) U.heap ∧ va_K (dC, dI) vwCl (TYS cy) U ∧ va_D (fun _ => True) (Wd cy a sh n z) ∧ NK U)) (va_Qv (fun u : Unit => True) (fun u t => va_P (dC, dI) vwCl (Wd cy a sh n z8) t.heap ∧ va_K (dC, dI) vwCl (TYS cy) t ∧ va_D (va_A (Wd cy a sh n z) sz) (Wd cy a sh n z8)) (va_A (Wd cy a sh n z) sz)) 0 0 (va_A (Wd cy a sh n z) sz) := by
  refine Met.ofW (cc := cX4_end) (maxL := 4) (ret := none) (by decide) rfl ?_
  intro p e s m args below meth c s₁ B hml hv
  obtain ⟨rfl, hsz, hP, hK, hD0, hN⟩ := hv
  have hx := B.exec
  have hb := B.bytes
  have hr := B.returns
  have hts := atoms_spec (ws := wsX4_end) B.pre
  have hown : s.vm.findClass RX4 = some m.cls := findClass_of_methodNamed B.named
  have hlocks := B.notSynchronized
  subst hsz
  have hD := hD0.self (sz := s.heap.size)
  clear hD0
  generalize hAe : va_A (Wd cy a sh n z) s.heap.size = A at hD ⊢
  have hA : ∀ q : Nat, s.heap.size ≤ q → A q := fun q h => by rw [← hAe]; exact Or.inr h
  clear hAe
  have hS : va_S A s.heap s.heap [] := va_S.rf
  have hl := lv_entry ([.ref (a h0), .int x0, .long x1]) (n := 4) (Nat.le_of_ble_eq_true rfl)
  rw [lg_entry_eq]
  generalize (lg_sl ([.ref (a h0), .int x0, .long x1]) ++ List.replicate (4 - (lg_sl ([.ref (a h0), .int x0, .long x1])).length) Slot.unset).toArray = ls at hl ⊢
  replace hl : lv_has ls 4 [(0, .ref (a h0)), (1, .int x0), (2, .long x1)] := hl
  unfold fn_X4_end at hf
  refine de_start hS hP (fun H locs hS hP => ?_)
  refine lv_aload_n hx hb dX4_end_0 rfl (lv_at hl 0 rfl) ?_
  refine lv_iconst (v := 0) hx hb dX4_end_1 (by decide) ?_
  obtain ⟨g_1, hf⟩ := grd_some hf
  obtain ⟨kg_1, sg_1⟩ := okO_at g_1
  refine va_put (D := (dC, dI)) (ci := 4) (v := .int 0) (ty := .boolean) (C := RX4) (T := TX4) (N := 18) hx hb hts iwd_X4_end_X4 tyX4 tyX4_ok nmX4 hown hK hP hD hS h0 (Wd_ob kg_1 sg_1 (by decide)) rfl 15 (by decide) (hts _ md_X4_end_1) (fun _ h9 => h9) rfl (by decide +kernel) rfl rfl (by rw [fl_len]; decide) dX4_end_2 (fun H_2 locs hP2 hD2 hS2 => ?_)
  rw [Wd_si sg_1 (by decide) rfl] at hP2 hD2
  obtain ⟨z_3, ez_3⟩ : ∃ w, w = si z h0 15 0 := ⟨_, rfl⟩
  rw [← ez_3] at hP2 hD2
  replace hf := lt_at ez_3 hf
  clear ez_3
  replace hP := hP2
  replace hD := hD2
  replace hS := hS2
  clear hP2 hD2 hS2
  refine lv_aload_n hx hb dX4_end_5 rfl (lv_at hl 0 rfl) ?_
  refine lv_iload_n hx hb dX4_end_6 rfl (lv_at hl 1 rfl) ?_
  refine va_put (D := (dC, dI)) (ci := 4) (v := .int x0) (ty := .int) (C := RX4) (T := TX4) (N := 18) hx hb hts iwd_X4_end_X4 tyX4 tyX4_ok nmX4 hown hK hP hD hS h0 (Wd_ob kg_1 sg_1 (by decide)) rfl 16 (by decide) (hts _ md_X4_end_2) (fun _ h9 => h9) rfl (by decide +kernel) rfl rfl (by rw [fl_len]; decide) dX4_end_7 (fun H_4 locs hP2 hD2 hS2 => ?_)
  rw [Wd_si sg_1 (by decide) rfl] at hP2 hD2
  obtain ⟨z_5, ez_5⟩ : ∃ w, w = si z_3 h0 16 x0 := ⟨_, rfl⟩
  rw [← ez_5] at hP2 hD2
  replace hf := lt_at ez_5 hf
  clear ez_5
  replace hP := hP2
  replace hD := hD2
  replace hS := hS2
  clear hP2 hD2 hS2
  refine lv_aload_n hx hb dX4_end_10 rfl (lv_at hl 0 rfl) ?_
  refine lv_lload_n hx hb dX4_end_11 rfl (lv_at hl 2 rfl) ?_
  refine va_put (D := (dC, dI)) (ci := 4) (v := .long x1) (ty := .long) (C := RX4) (T := TX4) (N := 18) hx hb hts iwd_X4_end_X4 tyX4 tyX4_ok nmX4 hown hK hP hD hS h0 (Wd_ob kg_1 sg_1 (by decide)) rfl 17 (by decide) (hts _ md_X4_end_3) (fun _ h9 => h9) rfl (by decide +kernel) rfl rfl (by rw [fl_len]; decide) dX4_end_12 (fun H_6 locs hP2 hD2 hS2 => ?_)
  rw [Wd_sl sg_1 (by decide) rfl] at hP2 hD2
  obtain ⟨z_7, ez_7⟩ : ∃ w, w = sl z_5 h0 17 x1 := ⟨_, rfl⟩
  rw [← ez_7] at hP2 hD2
  replace hf := lt_at ez_7 hf
  clear ez_7
  replace hP := hP2
  replace hD := hD2
  replace hS := hS2
  clear hP2 hD2 hS2
  obtain ⟨h8, h9⟩ := ret_some hf
  rw [h8]
  exact W.vret hx hb hr (fun t ht hW => ⟨⟨(), rfl, trivial, by rw [ht]; exact hP, va_K.moved hW.alike hK, hD⟩, hS.F ht⟩) hS.2.2 dX4_end_15

theorem md_X6_fail_1 : (.fieldLink RX6 21 "ResourceLedger$Reader" "fault" "I" : Cond) ∈ wsX6_fail := List.mem_of_getElem? (i := 1) rfl
theorem iwd_X6_fail_X6 : ∀ w ∈ wsX60, w ∈ wsX6_fail := fun _ h => List.mem_cons_of_mem _ (List.mem_append_right _ h)
theorem md_X6_fail_2 : (.fieldLink RX6 25 "ResourceLedger$Reader" "place" "I" : Cond) ∈ wsX6_fail := List.mem_of_getElem? (i := 2) rfl
set_option maxHeartbeats 4000000 in
set_option maxRecDepth 100000 in
theorem de_X6_fail (l : Launch) (dC : Nat → ClassId) (dI : Nat → Nat → Nat) (cy : Nat → ClassId) (a : Nat → Nat) (sh : Nat → Nat × Nat) (n sz : Nat) (F : Nat) (z : St) (h0 : Nat) (x0 : Int32) (x1 : Int32) {z8 : St} {r8 : Unit} (hf : fn_X6_fail F sh n z h0 x0 x1 = some (z8, r8)) : Met l yX6_fail wsX6_fail ({ frames := 0, cells := 0, slots := 0, locals := 0 }) (va_Pc [.ref (a h0), .int x0, .int x1] (fun U => U.heap.size = sz ∧ va_P (dC, dI) vwCl (Wd cy a sh n z) U.heap ∧ va_K (dC, dI) vwCl (TYS cy) U ∧ va_D (fun _ => True) (Wd cy a sh n z) ∧ NK U)) (va_Qv (fun u : Unit => True) (fun u t => va_P (dC, dI) vwCl (Wd cy a sh n z8) t.heap ∧ va_K (dC, dI) vwCl (TYS cy) t ∧ va_D (va_A (Wd cy a sh n z) sz) (Wd cy a sh n z8)) (va_A (Wd cy a sh n z) sz)) 0 0 (va_A (Wd cy a sh n z) sz) := by
  refine Met.ofW (cc := cX6_fail) (maxL := 3) (ret := none) (by decide) rfl ?_
  intro p e s m args below meth c s₁ B hml hv
  obtain ⟨rfl, hsz, hP, hK, hD0, hN⟩ := hv
  have hx := B.exec
  have hb := B.bytes
  have hr := B.returns
  have hts := atoms_spec (ws := wsX6_fail) B.pre
  have hown : s.vm.findClass RX6 = some m.cls := findClass_of_methodNamed B.named
  have hlocks := B.notSynchronized
  subst hsz
  have hD := hD0.self (sz := s.heap.size)
  clear hD0
  generalize hAe : va_A (Wd cy a sh n z) s.heap.size = A at hD ⊢
  have hA : ∀ q : Nat, s.heap.size ≤ q → A q := fun q h => by rw [← hAe]; exact Or.inr h
  clear hAe
  have hS : va_S A s.heap s.heap [] := va_S.rf
  have hl := lv_entry ([.ref (a h0), .int x0, .int x1]) (n := 3) (Nat.le_of_ble_eq_true rfl)
  rw [lg_entry_eq]
  generalize (lg_sl ([.ref (a h0), .int x0, .int x1]) ++ List.replicate (3 - (lg_sl ([.ref (a h0), .int x0, .int x1])).length) Slot.unset).toArray = ls at hl ⊢
  replace hl : lv_has ls 3 [(0, .ref (a h0)), (1, .int x0), (2, .int x1)] := hl
  unfold fn_X6_fail at hf
  refine de_start hS hP (fun H locs hS hP => ?_)
  refine lv_aload_n hx hb dX6_fail_0 rfl (lv_at hl 0 rfl) ?_
  obtain ⟨g_1, hf⟩ := grd_some hf
  obtain ⟨kg_1, sg_1⟩ := okO_at g_1
  refine va_get (D := (dC, dI)) (ci := 6) (v := .int (z.1 h0 1)) (C := RX6) (T := TX6) (N := 9) hx hb hts iwd_X6_fail_X6 hown hK hP h0 (Wd_ob kg_1 sg_1 (by decide)) rfl 1 (by decide) (hts _ md_X6_fail_1) (fun _ h9 => h9) (fl_at (t := 0) rfl) dX6_fail_1 ?_
  refine lv_if_ne (tgt := 17) hx hb dX6_fail_4 (by decide) (fun c_2 => ?_) (fun c_2 => ?_)
  · skip
    rw [if_neg c_2] at hf
    obtain ⟨h8, h9⟩ := ret_some hf
    rw [h8]
    exact W.vret hx hb hr (fun t ht hW => ⟨⟨(), rfl, trivial, by rw [ht]; exact hP, va_K.moved hW.alike hK, hD⟩, hS.F ht⟩) hS.2.2 dX6_fail_17
  · skip
    rw [if_pos c_2] at hf
    refine lv_aload_n hx hb dX6_fail_7 rfl (lv_at hl 0 rfl) ?_
    refine lv_iload_n hx hb dX6_fail_8 rfl (lv_at hl 1 rfl) ?_
    refine va_put (D := (dC, dI)) (ci := 6) (v := .int x0) (ty := .int) (C := RX6) (T := TX6) (N := 9) hx hb hts iwd_X6_fail_X6 tyX6 tyX6_ok nmX6 hown hK hP hD hS h0 (Wd_ob kg_1 sg_1 (by decide)) rfl 1 (by decide) (hts _ md_X6_fail_1) (fun _ h9 => h9) rfl (by decide +kernel) rfl rfl (by rw [fl_len]; decide) dX6_fail_9 (fun H_3 locs hP2 hD2 hS2 => ?_)
    rw [Wd_si sg_1 (by decide) rfl] at hP2 hD2
    obtain ⟨z_4, ez_4⟩ : ∃ w, w = si z h0 1 x0 := ⟨_, rfl⟩
    rw [← ez_4] at hP2 hD2
    replace hf := lt_at ez_4 hf
    clear ez_4
    replace hP := hP2
    replace hD := hD2
    replace hS := hS2
    clear hP2 hD2 hS2
    refine lv_aload_n hx hb dX6_fail_12 rfl (lv_at hl 0 rfl) ?_
    refine lv_iload_n hx hb dX6_fail_13 rfl (lv_at hl 2 rfl) ?_
    refine va_put (D := (dC, dI)) (ci := 6) (v := .int x1) (ty := .int) (C := RX6) (T := TX6) (N := 9) hx hb hts iwd_X6_fail_X6 tyX6 tyX6_ok nmX6 hown hK hP hD hS h0 (Wd_ob kg_1 sg_1 (by decide)) rfl 0 (by decide) (hts _ md_X6_fail_2) (fun _ h9 => h9) rfl (by decide +kernel) rfl rfl (by rw [fl_len]; decide) dX6_fail_14 (fun H_5 locs hP2 hD2 hS2 => ?_)
    rw [Wd_si sg_1 (by decide) rfl] at hP2 hD2
    obtain ⟨z_6, ez_6⟩ : ∃ w, w = si z_4 h0 0 x1 := ⟨_, rfl⟩
    rw [← ez_6] at hP2 hD2
    replace hf := lt_at ez_6 hf
    clear ez_6
    replace hP := hP2
    replace hD := hD2
    replace hS := hS2
    clear hP2 hD2 hS2
    obtain ⟨h8, h9⟩ := ret_some hf
    rw [h8]
    exact W.vret hx hb hr (fun t ht hW => ⟨⟨(), rfl, trivial, by rw [ht]; exact hP, va_K.moved hW.alike hK, hD⟩, hS.F ht⟩) hS.2.2 dX6_fail_17

theorem md_X8_end_1 : (.fieldLink RX8 72 "ResourceLedger$Transaction" "outcome" "I" : Cond) ∈ wsX8_end := List.mem_of_getElem? (i := 1) rfl
theorem iwd_X8_end_X8 : ∀ w ∈ wsX80, w ∈ wsX8_end := fun _ h => List.mem_cons_of_mem _ (List.mem_append_right _ h)
theorem md_X8_end_2 : (.fieldLink RX8 75 "ResourceLedger$Transaction" "code" "J" : Cond) ∈ wsX8_end := List.mem_of_getElem? (i := 2) rfl
theorem md_X8_end_3 : (.fieldLink RX8 78 "ResourceLedger$Transaction" "gas" "I" : Cond) ∈ wsX8_end := List.mem_of_getElem? (i := 3) rfl
set_option maxHeartbeats 4000000 in
set_option maxRecDepth 100000 in
theorem de_X8_end (l : Launch) (dC : Nat → ClassId) (dI : Nat → Nat → Nat) (cy : Nat → ClassId) (a : Nat → Nat) (sh : Nat → Nat × Nat) (n sz : Nat) (F : Nat) (z : St) (h0 : Nat) (x0 : Int32) (x1 : Int64) (x2 : Int32) {z8 : St} {r8 : Unit} (hf : fn_X8_end F sh n z h0 x0 x1 x2 = some (z8, r8)) : Met l yX8_end wsX8_end ({ frames := 0, cells := 0, slots := 0, locals := 0 }) (va_Pc [.ref (a h0), .int x0, .long x1, .int x2] (fun U => U.heap.size = sz ∧ va_P (dC, dI) vwCl (Wd cy a sh n z) U.heap ∧ va_K (dC, dI) vwCl (TYS cy) U ∧ va_D (fun _ => True) (Wd cy a sh n z) ∧ NK U)) (va_Qv (fun u : Unit => True) (fun u t => va_P (dC, dI) vwCl (Wd cy a sh n z8) t.heap ∧ va_K (dC, dI) vwCl (TYS cy) t ∧ va_D (va_A (Wd cy a sh n z) sz) (Wd cy a sh n z8)) (va_A (Wd cy a sh n z) sz)) 0 0 (va_A (Wd cy a sh n z) sz) := by
  refine Met.ofW (cc := cX8_end) (maxL := 5) (ret := none) (by decide) rfl ?_
  intro p e s m args below meth c s₁ B hml hv
  obtain ⟨rfl, hsz, hP, hK, hD0, hN⟩ := hv
  have hx := B.exec
  have hb := B.bytes
  have hr := B.returns
  have hts := atoms_spec (ws := wsX8_end) B.pre
  have hown : s.vm.findClass RX8 = some m.cls := findClass_of_methodNamed B.named
  have hlocks := B.notSynchronized
  subst hsz
  have hD := hD0.self (sz := s.heap.size)
  clear hD0
  generalize hAe : va_A (Wd cy a sh n z) s.heap.size = A at hD ⊢
  have hA : ∀ q : Nat, s.heap.size ≤ q → A q := fun q h => by rw [← hAe]; exact Or.inr h
  clear hAe
  have hS : va_S A s.heap s.heap [] := va_S.rf
  have hl := lv_entry ([.ref (a h0), .int x0, .long x1, .int x2]) (n := 5) (Nat.le_of_ble_eq_true rfl)
  rw [lg_entry_eq]
  generalize (lg_sl ([.ref (a h0), .int x0, .long x1, .int x2]) ++ List.replicate (5 - (lg_sl ([.ref (a h0), .int x0, .long x1, .int x2])).length) Slot.unset).toArray = ls at hl ⊢
  replace hl : lv_has ls 5 [(0, .ref (a h0)), (1, .int x0), (2, .long x1), (4, .int x2)] := hl
  unfold fn_X8_end at hf
  refine de_start hS hP (fun H locs hS hP => ?_)
  refine lv_aload_n hx hb dX8_end_0 rfl (lv_at hl 0 rfl) ?_
  refine lv_iload_n hx hb dX8_end_1 rfl (lv_at hl 1 rfl) ?_
  obtain ⟨g_1, hf⟩ := grd_some hf
  obtain ⟨kg_1, sg_1⟩ := okO_at g_1
  refine va_put (D := (dC, dI)) (ci := 8) (v := .int x0) (ty := .int) (C := RX8) (T := TX8) (N := 19) hx hb hts iwd_X8_end_X8 tyX8 tyX8_ok nmX8 hown hK hP hD hS h0 (Wd_ob kg_1 sg_1 (by decide)) rfl 11 (by decide) (hts _ md_X8_end_1) (fun _ h9 => h9) rfl (by decide +kernel) rfl rfl (by rw [fl_len]; decide) dX8_end_2 (fun H_2 locs hP2 hD2 hS2 => ?_)
  rw [Wd_si sg_1 (by decide) rfl] at hP2 hD2
  obtain ⟨z_3, ez_3⟩ : ∃ w, w = si z h0 11 x0 := ⟨_, rfl⟩
  rw [← ez_3] at hP2 hD2
  replace hf := lt_at ez_3 hf
  clear ez_3
  replace hP := hP2
  replace hD := hD2
  replace hS := hS2
  clear hP2 hD2 hS2
  refine lv_aload_n hx hb dX8_end_5 rfl (lv_at hl 0 rfl) ?_
  refine lv_lload_n hx hb dX8_end_6 rfl (lv_at hl 2 rfl) ?_
  refine va_put (D := (dC, dI)) (ci := 8) (v := .long x1) (ty := .long) (C := RX8) (T := TX8) (N := 19) hx hb hts iwd_X8_end_X8 tyX8 tyX8_ok nmX8 hown hK hP hD hS h0 (Wd_ob kg_1 sg_1 (by decide)) rfl 12 (by decide) (hts _ md_X8_end_2) (fun _ h9 => h9) rfl (by decide +kernel) rfl rfl (by rw [fl_len]; decide) dX8_end_7 (fun H_4 locs hP2 hD2 hS2 => ?_)
  rw [Wd_sl sg_1 (by decide) rfl] at hP2 hD2
  obtain ⟨z_5, ez_5⟩ : ∃ w, w = sl z_3 h0 12 x1 := ⟨_, rfl⟩
  rw [← ez_5] at hP2 hD2
  replace hf := lt_at ez_5 hf
  clear ez_5
  replace hP := hP2
  replace hD := hD2
  replace hS := hS2
  clear hP2 hD2 hS2
  refine lv_aload_n hx hb dX8_end_10 rfl (lv_at hl 0 rfl) ?_
  refine lv_iload hx hb dX8_end_11 (lv_at hl 3 rfl) ?_
  refine va_put (D := (dC, dI)) (ci := 8) (v := .int x2) (ty := .int) (C := RX8) (T := TX8) (N := 19) hx hb hts iwd_X8_end_X8 tyX8 tyX8_ok nmX8 hown hK hP hD hS h0 (Wd_ob kg_1 sg_1 (by decide)) rfl 13 (by decide) (hts _ md_X8_end_3) (fun _ h9 => h9) rfl (by decide +kernel) rfl rfl (by rw [fl_len]; decide) dX8_end_13 (fun H_6 locs hP2 hD2 hS2 => ?_)
  rw [Wd_si sg_1 (by decide) rfl] at hP2 hD2
  obtain ⟨z_7, ez_7⟩ : ∃ w, w = si z_5 h0 13 x2 := ⟨_, rfl⟩
  rw [← ez_7] at hP2 hD2
  replace hf := lt_at ez_7 hf
  clear ez_7
  replace hP := hP2
  replace hD := hD2
  replace hS := hS2
  clear hP2 hD2 hS2
  obtain ⟨h8, h9⟩ := ret_some hf
  rw [h8]
  exact W.vret hx hb hr (fun t ht hW => ⟨⟨(), rfl, trivial, by rw [ht]; exact hP, va_K.moved hW.alike hK, hD⟩, hS.F ht⟩) hS.2.2 dX8_end_16

theorem md_X11_begin_1 : (.fieldLink RX11 112 "ResourceLedger" "blockLength" "I" : Cond) ∈ wsX11_begin := List.mem_of_getElem? (i := 1) rfl
theorem iwd_X11_begin_X11 : ∀ w ∈ wsX110, w ∈ wsX11_begin := fun _ h => List.mem_cons_of_mem _ (List.mem_append_right _ h)
theorem md_X11_begin_2 : (.fieldLink RX11 115 "ResourceLedger" "doneLength" "I" : Cond) ∈ wsX11_begin := List.mem_of_getElem? (i := 2) rfl
set_option maxHeartbeats 4000000 in
set_option maxRecDepth 100000 in
theorem de_X11_begin (l : Launch) (dC : Nat → ClassId) (dI : Nat → Nat → Nat) (cy : Nat → ClassId) (a : Nat → Nat) (sh : Nat → Nat × Nat) (n sz : Nat) (F : Nat) (z : St) (h0 : Nat) {z8 : St} {r8 : Int32} (hf : fn_X11_begin F sh n z h0 = some (z8, r8)) : Met l yX11_begin wsX11_begin ({ frames := 0, cells := 0, slots := 0, locals := 0 }) (va_Pc [.ref (a h0)] (fun U => U.heap.size = sz ∧ va_P (dC, dI) vwCl (Wd cy a sh n z) U.heap ∧ va_K (dC, dI) vwCl (TYS cy) U ∧ va_D (fun _ => True) (Wd cy a sh n z) ∧ NK U)) (va_Qi (fun (r9 : Int32) (u : Unit) => r9 = r8) (fun u t => va_P (dC, dI) vwCl (Wd cy a sh n z8) t.heap ∧ va_K (dC, dI) vwCl (TYS cy) t ∧ va_D (va_A (Wd cy a sh n z) sz) (Wd cy a sh n z8)) (va_A (Wd cy a sh n z) sz)) 0 0 (va_A (Wd cy a sh n z) sz) := by
  refine Met.ofW (cc := cX11_begin) (maxL := 2) (ret := (some .int)) (by decide) rfl ?_
  intro p e s m args below meth c s₁ B hml hv
  obtain ⟨rfl, hsz, hP, hK, hD0, hN⟩ := hv
  have hx := B.exec
  have hb := B.bytes
  have hr := B.returns
  have hts := atoms_spec (ws := wsX11_begin) B.pre
  have hown : s.vm.findClass RX11 = some m.cls := findClass_of_methodNamed B.named
  have hlocks := B.notSynchronized
  subst hsz
  have hD := hD0.self (sz := s.heap.size)
  clear hD0
  generalize hAe : va_A (Wd cy a sh n z) s.heap.size = A at hD ⊢
  have hA : ∀ q : Nat, s.heap.size ≤ q → A q := fun q h => by rw [← hAe]; exact Or.inr h
  clear hAe
  have hS : va_S A s.heap s.heap [] := va_S.rf
  have hl := lv_entry ([.ref (a h0)]) (n := 2) (Nat.le_of_ble_eq_true rfl)
  rw [lg_entry_eq]
  generalize (lg_sl ([.ref (a h0)]) ++ List.replicate (2 - (lg_sl ([.ref (a h0)])).length) Slot.unset).toArray = ls at hl ⊢
  replace hl : lv_has ls 2 [(0, .ref (a h0))] := hl
  unfold fn_X11_begin at hf
  refine de_start hS hP (fun H locs hS hP => ?_)
  refine lv_aload_n hx hb dX11_begin_0 rfl (lv_at hl 0 rfl) ?_
  obtain ⟨g_1, hf⟩ := grd_some hf
  obtain ⟨kg_1, sg_1⟩ := okO_at g_1
  refine va_get (D := (dC, dI)) (ci := 11) (v := .int (z.1 h0 4)) (C := RX11) (T := TX11) (N := 13) hx hb hts iwd_X11_begin_X11 hown hK hP h0 (Wd_ob kg_1 sg_1 (by decide)) rfl 4 (by decide) (hts _ md_X11_begin_1) (fun _ h9 => h9) (fl_at (t := 0) rfl) dX11_begin_1 ?_
  refine lv_topi (fun v_2 ev_2 => ?_)
  replace hf := lt_at ev_2 hf
  clear ev_2
  refine lv_istore_n (lv' := [(1, .int v_2), (0, .ref (a h0))]) hx hb dX11_begin_4 rfl hl (by decide) rfl (fun ls hl2 => ?_)
  replace hl := hl2
  clear hl2
  refine lv_aload_n hx hb dX11_begin_5 rfl (lv_at hl 1 rfl) ?_
  refine lv_iconst (v := 0) hx hb dX11_begin_6 (by decide) ?_
  refine va_put (D := (dC, dI)) (ci := 11) (v := .int 0) (ty := .int) (C := RX11) (T := TX11) (N := 13) hx hb hts iwd_X11_begin_X11 tyX11 tyX11_ok nmX11 hown hK hP hD hS h0 (Wd_ob kg_1 sg_1 (by decide)) rfl 4 (by decide) (hts _ md_X11_begin_1) (fun _ h9 => h9) rfl (by decide +kernel) rfl rfl (by rw [fl_len]; decide) dX11_begin_7 (fun H_3 locs hP2 hD2 hS2 => ?_)
  rw [Wd_si sg_1 (by decide) rfl] at hP2 hD2
  obtain ⟨z_4, ez_4⟩ : ∃ w, w = si z h0 4 0 := ⟨_, rfl⟩
  rw [← ez_4] at hP2 hD2
  replace hf := lt_at ez_4 hf
  clear ez_4
  replace hP := hP2
  replace hD := hD2
  replace hS := hS2
  clear hP2 hD2 hS2
  refine lv_aload_n hx hb dX11_begin_10 rfl (lv_at hl 1 rfl) ?_
  refine lv_iconst (v := 0) hx hb dX11_begin_11 (by decide) ?_
  refine va_put (D := (dC, dI)) (ci := 11) (v := .int 0) (ty := .int) (C := RX11) (T := TX11) (N := 13) hx hb hts iwd_X11_begin_X11 tyX11 tyX11_ok nmX11 hown hK hP hD hS h0 (Wd_ob kg_1 sg_1 (by decide)) rfl 5 (by decide) (hts _ md_X11_begin_2) (fun _ h9 => h9) rfl (by decide +kernel) rfl rfl (by rw [fl_len]; decide) dX11_begin_12 (fun H_5 locs hP2 hD2 hS2 => ?_)
  rw [Wd_si sg_1 (by decide) rfl] at hP2 hD2
  obtain ⟨z_6, ez_6⟩ : ∃ w, w = si z_4 h0 5 0 := ⟨_, rfl⟩
  rw [← ez_6] at hP2 hD2
  replace hf := lt_at ez_6 hf
  clear ez_6
  replace hP := hP2
  replace hD := hD2
  replace hS := hS2
  clear hP2 hD2 hS2
  refine lv_iload_n hx hb dX11_begin_15 rfl (lv_at hl 0 rfl) ?_
  obtain ⟨h8, h9⟩ := ret_some hf
  rw [h8, h9]
  exact W.iret (v := v_2) hx hb hr (fun t ht hW => ⟨⟨v_2, (), rfl, rfl, by rw [ht]; exact hP, va_K.moved hW.alike hK, hD⟩, hS.F ht⟩) hS.2.2 dX11_begin_16

theorem md_X16_fail_1 : (.fieldLink RX16 36 "ResourceLedgerModel$Unit" "fault" "I" : Cond) ∈ wsX16_fail := List.mem_of_getElem? (i := 1) rfl
theorem iwd_X16_fail_X16 : ∀ w ∈ wsX160, w ∈ wsX16_fail := fun _ h => List.mem_cons_of_mem _ (List.mem_append_right _ h)
theorem md_X16_fail_2 : (.fieldLink RX16 40 "ResourceLedgerModel$Unit" "where" "I" : Cond) ∈ wsX16_fail := List.mem_of_getElem? (i := 2) rfl
set_option maxHeartbeats 4000000 in
set_option maxRecDepth 100000 in
theorem de_X16_fail (l : Launch) (dC : Nat → ClassId) (dI : Nat → Nat → Nat) (cy : Nat → ClassId) (a : Nat → Nat) (sh : Nat → Nat × Nat) (n sz : Nat) (F : Nat) (z : St) (h0 : Nat) (x0 : Int32) (x1 : Int32) {z8 : St} {r8 : Unit} (hf : fn_X16_fail F sh n z h0 x0 x1 = some (z8, r8)) : Met l yX16_fail wsX16_fail ({ frames := 0, cells := 0, slots := 0, locals := 0 }) (va_Pc [.ref (a h0), .int x0, .int x1] (fun U => U.heap.size = sz ∧ va_P (dC, dI) vwCl (Wd cy a sh n z) U.heap ∧ va_K (dC, dI) vwCl (TYS cy) U ∧ va_D (fun _ => True) (Wd cy a sh n z) ∧ NK U)) (va_Qv (fun u : Unit => True) (fun u t => va_P (dC, dI) vwCl (Wd cy a sh n z8) t.heap ∧ va_K (dC, dI) vwCl (TYS cy) t ∧ va_D (va_A (Wd cy a sh n z) sz) (Wd cy a sh n z8)) (va_A (Wd cy a sh n z) sz)) 0 0 (va_A (Wd cy a sh n z) sz) := by
  refine Met.ofW (cc := cX16_fail) (maxL := 3) (ret := none) (by decide) rfl ?_
  intro p e s m args below meth c s₁ B hml hv
  obtain ⟨rfl, hsz, hP, hK, hD0, hN⟩ := hv
  have hx := B.exec
  have hb := B.bytes
  have hr := B.returns
  have hts := atoms_spec (ws := wsX16_fail) B.pre
  have hown : s.vm.findClass RX16 = some m.cls := findClass_of_methodNamed B.named
  have hlocks := B.notSynchronized
  subst hsz
  have hD := hD0.self (sz := s.heap.size)
  clear hD0
  generalize hAe : va_A (Wd cy a sh n z) s.heap.size = A at hD ⊢
  have hA : ∀ q : Nat, s.heap.size ≤ q → A q := fun q h => by rw [← hAe]; exact Or.inr h
  clear hAe
  have hS : va_S A s.heap s.heap [] := va_S.rf
  have hl := lv_entry ([.ref (a h0), .int x0, .int x1]) (n := 3) (Nat.le_of_ble_eq_true rfl)
  rw [lg_entry_eq]
  generalize (lg_sl ([.ref (a h0), .int x0, .int x1]) ++ List.replicate (3 - (lg_sl ([.ref (a h0), .int x0, .int x1])).length) Slot.unset).toArray = ls at hl ⊢
  replace hl : lv_has ls 3 [(0, .ref (a h0)), (1, .int x0), (2, .int x1)] := hl
  unfold fn_X16_fail at hf
  refine de_start hS hP (fun H locs hS hP => ?_)
  refine lv_aload_n hx hb dX16_fail_0 rfl (lv_at hl 0 rfl) ?_
  obtain ⟨g_1, hf⟩ := grd_some hf
  obtain ⟨kg_1, sg_1⟩ := okO_at g_1
  refine va_get (D := (dC, dI)) (ci := 16) (v := .int (z.1 h0 3)) (C := RX16) (T := TX16) (N := 18) hx hb hts iwd_X16_fail_X16 hown hK hP h0 (Wd_ob kg_1 sg_1 (by decide)) rfl 3 (by decide) (hts _ md_X16_fail_1) (fun _ h9 => h9) (fl_at (t := 0) rfl) dX16_fail_1 ?_
  refine lv_if_eq (tgt := 8) hx hb dX16_fail_4 (by decide) (fun c_2 => ?_) (fun c_2 => ?_)
  · skip
    rw [if_pos c_2] at hf
    refine lv_aload_n hx hb dX16_fail_8 rfl (lv_at hl 0 rfl) ?_
    refine lv_iload_n hx hb dX16_fail_9 rfl (lv_at hl 1 rfl) ?_
    refine va_put (D := (dC, dI)) (ci := 16) (v := .int x0) (ty := .int) (C := RX16) (T := TX16) (N := 18) hx hb hts iwd_X16_fail_X16 tyX16 tyX16_ok nmX16 hown hK hP hD hS h0 (Wd_ob kg_1 sg_1 (by decide)) rfl 3 (by decide) (hts _ md_X16_fail_1) (fun _ h9 => h9) rfl (by decide +kernel) rfl rfl (by rw [fl_len]; decide) dX16_fail_10 (fun H_3 locs hP2 hD2 hS2 => ?_)
    rw [Wd_si sg_1 (by decide) rfl] at hP2 hD2
    obtain ⟨z_4, ez_4⟩ : ∃ w, w = si z h0 3 x0 := ⟨_, rfl⟩
    rw [← ez_4] at hP2 hD2
    replace hf := lt_at ez_4 hf
    clear ez_4
    replace hP := hP2
    replace hD := hD2
    replace hS := hS2
    clear hP2 hD2 hS2
    refine lv_aload_n hx hb dX16_fail_13 rfl (lv_at hl 0 rfl) ?_
    refine lv_iload_n hx hb dX16_fail_14 rfl (lv_at hl 2 rfl) ?_
    refine va_put (D := (dC, dI)) (ci := 16) (v := .int x1) (ty := .int) (C := RX16) (T := TX16) (N := 18) hx hb hts iwd_X16_fail_X16 tyX16 tyX16_ok nmX16 hown hK hP hD hS h0 (Wd_ob kg_1 sg_1 (by decide)) rfl 4 (by decide) (hts _ md_X16_fail_2) (fun _ h9 => h9) rfl (by decide +kernel) rfl rfl (by rw [fl_len]; decide) dX16_fail_15 (fun H_5 locs hP2 hD2 hS2 => ?_)
    rw [Wd_si sg_1 (by decide) rfl] at hP2 hD2
    obtain ⟨z_6, ez_6⟩ : ∃ w, w = si z_4 h0 4 x1 := ⟨_, rfl⟩
    rw [← ez_6] at hP2 hD2
    replace hf := lt_at ez_6 hf
    clear ez_6
    replace hP := hP2
    replace hD := hD2
    replace hS := hS2
    clear hP2 hD2 hS2
    obtain ⟨h8, h9⟩ := ret_some hf
    rw [h8]
    exact W.vret hx hb hr (fun t ht hW => ⟨⟨(), rfl, trivial, by rw [ht]; exact hP, va_K.moved hW.alike hK, hD⟩, hS.F ht⟩) hS.2.2 dX16_fail_18
  · skip
    rw [if_neg c_2] at hf
    obtain ⟨h8, h9⟩ := ret_some hf
    rw [h8]
    exact W.vret hx hb hr (fun t ht hW => ⟨⟨(), rfl, trivial, by rw [ht]; exact hP, va_K.moved hW.alike hK, hD⟩, hS.F ht⟩) hS.2.2 dX16_fail_7

theorem md_X18_begin_1 : (.fieldLink RX18 626 "ResourceLedgerModel" "count" "I" : Cond) ∈ wsX18_begin := List.mem_of_getElem? (i := 1) rfl
theorem iwd_X18_begin_X18 : ∀ w ∈ wsX180, w ∈ wsX18_begin := fun _ h => List.mem_cons_of_mem _ (List.mem_append_right _ h)
theorem md_X18_begin_2 : (.fieldLink RX18 628 "ResourceLedgerModel" "done" "I" : Cond) ∈ wsX18_begin := List.mem_of_getElem? (i := 2) rfl
set_option maxHeartbeats 4000000 in
set_option maxRecDepth 100000 in
theorem de_X18_begin (l : Launch) (dC : Nat → ClassId) (dI : Nat → Nat → Nat) (cy : Nat → ClassId) (a : Nat → Nat) (sh : Nat → Nat × Nat) (n sz : Nat) (F : Nat) (z : St) (h0 : Nat) {z8 : St} {r8 : Int32} (hf : fn_X18_begin F sh n z h0 = some (z8, r8)) : Met l yX18_begin wsX18_begin ({ frames := 0, cells := 0, slots := 0, locals := 0 }) (va_Pc [.ref (a h0)] (fun U => U.heap.size = sz ∧ va_P (dC, dI) vwCl (Wd cy a sh n z) U.heap ∧ va_K (dC, dI) vwCl (TYS cy) U ∧ va_D (fun _ => True) (Wd cy a sh n z) ∧ NK U)) (va_Qi (fun (r9 : Int32) (u : Unit) => r9 = r8) (fun u t => va_P (dC, dI) vwCl (Wd cy a sh n z8) t.heap ∧ va_K (dC, dI) vwCl (TYS cy) t ∧ va_D (va_A (Wd cy a sh n z) sz) (Wd cy a sh n z8)) (va_A (Wd cy a sh n z) sz)) 0 0 (va_A (Wd cy a sh n z) sz) := by
  refine Met.ofW (cc := cX18_begin) (maxL := 2) (ret := (some .int)) (by decide) rfl ?_
  intro p e s m args below meth c s₁ B hml hv
  obtain ⟨rfl, hsz, hP, hK, hD0, hN⟩ := hv
  have hx := B.exec
  have hb := B.bytes
  have hr := B.returns
  have hts := atoms_spec (ws := wsX18_begin) B.pre
  have hown : s.vm.findClass RX18 = some m.cls := findClass_of_methodNamed B.named
  have hlocks := B.notSynchronized
  subst hsz
  have hD := hD0.self (sz := s.heap.size)
  clear hD0
  generalize hAe : va_A (Wd cy a sh n z) s.heap.size = A at hD ⊢
  have hA : ∀ q : Nat, s.heap.size ≤ q → A q := fun q h => by rw [← hAe]; exact Or.inr h
  clear hAe
  have hS : va_S A s.heap s.heap [] := va_S.rf
  have hl := lv_entry ([.ref (a h0)]) (n := 2) (Nat.le_of_ble_eq_true rfl)
  rw [lg_entry_eq]
  generalize (lg_sl ([.ref (a h0)]) ++ List.replicate (2 - (lg_sl ([.ref (a h0)])).length) Slot.unset).toArray = ls at hl ⊢
  replace hl : lv_has ls 2 [(0, .ref (a h0))] := hl
  unfold fn_X18_begin at hf
  refine de_start hS hP (fun H locs hS hP => ?_)
  refine lv_aload_n hx hb dX18_begin_0 rfl (lv_at hl 0 rfl) ?_
  obtain ⟨g_1, hf⟩ := grd_some hf
  obtain ⟨kg_1, sg_1⟩ := okO_at g_1
  refine va_get (D := (dC, dI)) (ci := 18) (v := .int (z.1 h0 52)) (C := RX18) (T := TX18) (N := 78) hx hb hts iwd_X18_begin_X18 hown hK hP h0 (Wd_ob kg_1 sg_1 (by decide)) rfl 52 (by decide) (hts _ md_X18_begin_1) (fun _ h9 => h9) (fl_at (t := 0) rfl) dX18_begin_1 ?_
  refine lv_topi (fun v_2 ev_2 => ?_)
  replace hf := lt_at ev_2 hf
  clear ev_2
  refine lv_istore_n (lv' := [(1, .int v_2), (0, .ref (a h0))]) hx hb dX18_begin_4 rfl hl (by decide) rfl (fun ls hl2 => ?_)
  replace hl := hl2
  clear hl2
  refine lv_aload_n hx hb dX18_begin_5 rfl (lv_at hl 1 rfl) ?_
  refine lv_iconst (v := 0) hx hb dX18_begin_6 (by decide) ?_
  refine va_put (D := (dC, dI)) (ci := 18) (v := .int 0) (ty := .int) (C := RX18) (T := TX18) (N := 78) hx hb hts iwd_X18_begin_X18 tyX18 tyX18_ok nmX18 hown hK hP hD hS h0 (Wd_ob kg_1 sg_1 (by decide)) rfl 52 (by decide) (hts _ md_X18_begin_1) (fun _ h9 => h9) rfl (by decide +kernel) rfl rfl (by rw [fl_len]; decide) dX18_begin_7 (fun H_3 locs hP2 hD2 hS2 => ?_)
  rw [Wd_si sg_1 (by decide) rfl] at hP2 hD2
  obtain ⟨z_4, ez_4⟩ : ∃ w, w = si z h0 52 0 := ⟨_, rfl⟩
  rw [← ez_4] at hP2 hD2
  replace hf := lt_at ez_4 hf
  clear ez_4
  replace hP := hP2
  replace hD := hD2
  replace hS := hS2
  clear hP2 hD2 hS2
  refine lv_aload_n hx hb dX18_begin_10 rfl (lv_at hl 1 rfl) ?_
  refine lv_iconst (v := 0) hx hb dX18_begin_11 (by decide) ?_
  refine va_put (D := (dC, dI)) (ci := 18) (v := .int 0) (ty := .int) (C := RX18) (T := TX18) (N := 78) hx hb hts iwd_X18_begin_X18 tyX18 tyX18_ok nmX18 hown hK hP hD hS h0 (Wd_ob kg_1 sg_1 (by decide)) rfl 53 (by decide) (hts _ md_X18_begin_2) (fun _ h9 => h9) rfl (by decide +kernel) rfl rfl (by rw [fl_len]; decide) dX18_begin_12 (fun H_5 locs hP2 hD2 hS2 => ?_)
  rw [Wd_si sg_1 (by decide) rfl] at hP2 hD2
  obtain ⟨z_6, ez_6⟩ : ∃ w, w = si z_4 h0 53 0 := ⟨_, rfl⟩
  rw [← ez_6] at hP2 hD2
  replace hf := lt_at ez_6 hf
  clear ez_6
  replace hP := hP2
  replace hD := hD2
  replace hS := hS2
  clear hP2 hD2 hS2
  refine lv_iload_n hx hb dX18_begin_15 rfl (lv_at hl 0 rfl) ?_
  obtain ⟨h8, h9⟩ := ret_some hf
  rw [h8, h9]
  exact W.iret (v := v_2) hx hb hr (fun t ht hW => ⟨⟨v_2, (), rfl, rfl, by rw [ht]; exact hP, va_K.moved hW.alike hK, hD⟩, hS.F ht⟩) hS.2.2 dX18_begin_16

theorem md_X18_end_1 : (.fieldLink RX18 250 "ResourceLedgerModel" "outcome" "I" : Cond) ∈ wsX18_end := List.mem_of_getElem? (i := 1) rfl
theorem iwd_X18_end_X18 : ∀ w ∈ wsX180, w ∈ wsX18_end := fun _ h => List.mem_cons_of_mem _ (List.mem_append_right _ h)
theorem md_X18_end_2 : (.fieldLink RX18 253 "ResourceLedgerModel" "code" "J" : Cond) ∈ wsX18_end := List.mem_of_getElem? (i := 2) rfl
set_option maxHeartbeats 4000000 in
set_option maxRecDepth 100000 in
theorem de_X18_end (l : Launch) (dC : Nat → ClassId) (dI : Nat → Nat → Nat) (cy : Nat → ClassId) (a : Nat → Nat) (sh : Nat → Nat × Nat) (n sz : Nat) (F : Nat) (z : St) (h0 : Nat) (x0 : Int32) (x1 : Int64) {z8 : St} {r8 : Unit} (hf : fn_X18_end F sh n z h0 x0 x1 = some (z8, r8)) : Met l yX18_end wsX18_end ({ frames := 0, cells := 0, slots := 0, locals := 0 }) (va_Pc [.ref (a h0), .int x0, .long x1] (fun U => U.heap.size = sz ∧ va_P (dC, dI) vwCl (Wd cy a sh n z) U.heap ∧ va_K (dC, dI) vwCl (TYS cy) U ∧ va_D (fun _ => True) (Wd cy a sh n z) ∧ NK U)) (va_Qv (fun u : Unit => True) (fun u t => va_P (dC, dI) vwCl (Wd cy a sh n z8) t.heap ∧ va_K (dC, dI) vwCl (TYS cy) t ∧ va_D (va_A (Wd cy a sh n z) sz) (Wd cy a sh n z8)) (va_A (Wd cy a sh n z) sz)) 0 0 (va_A (Wd cy a sh n z) sz) := by
  refine Met.ofW (cc := cX18_end) (maxL := 4) (ret := none) (by decide) rfl ?_
  intro p e s m args below meth c s₁ B hml hv
  obtain ⟨rfl, hsz, hP, hK, hD0, hN⟩ := hv
  have hx := B.exec
  have hb := B.bytes
  have hr := B.returns
  have hts := atoms_spec (ws := wsX18_end) B.pre
  have hown : s.vm.findClass RX18 = some m.cls := findClass_of_methodNamed B.named
  have hlocks := B.notSynchronized
  subst hsz
  have hD := hD0.self (sz := s.heap.size)
  clear hD0
  generalize hAe : va_A (Wd cy a sh n z) s.heap.size = A at hD ⊢
  have hA : ∀ q : Nat, s.heap.size ≤ q → A q := fun q h => by rw [← hAe]; exact Or.inr h
  clear hAe
  have hS : va_S A s.heap s.heap [] := va_S.rf
  have hl := lv_entry ([.ref (a h0), .int x0, .long x1]) (n := 4) (Nat.le_of_ble_eq_true rfl)
  rw [lg_entry_eq]
  generalize (lg_sl ([.ref (a h0), .int x0, .long x1]) ++ List.replicate (4 - (lg_sl ([.ref (a h0), .int x0, .long x1])).length) Slot.unset).toArray = ls at hl ⊢
  replace hl : lv_has ls 4 [(0, .ref (a h0)), (1, .int x0), (2, .long x1)] := hl
  unfold fn_X18_end at hf
  refine de_start hS hP (fun H locs hS hP => ?_)
  refine lv_aload_n hx hb dX18_end_0 rfl (lv_at hl 0 rfl) ?_
  obtain ⟨g_1, hf⟩ := grd_some hf
  obtain ⟨kg_1, sg_1⟩ := okO_at g_1
  refine va_get (D := (dC, dI)) (ci := 18) (v := .int (z.1 h0 27)) (C := RX18) (T := TX18) (N := 78) hx hb hts iwd_X18_end_X18 hown hK hP h0 (Wd_ob kg_1 sg_1 (by decide)) rfl 27 (by decide) (hts _ md_X18_end_1) (fun _ h9 => h9) (fl_at (t := 0) rfl) dX18_end_1 ?_
  refine lv_if_lt (tgt := 8) hx hb dX18_end_4 (by decide) (fun c_2 => ?_) (fun c_2 => ?_)
  · skip
    rw [if_pos c_2] at hf
    refine lv_aload_n hx hb dX18_end_8 rfl (lv_at hl 0 rfl) ?_
    refine lv_iload_n hx hb dX18_end_9 rfl (lv_at hl 1 rfl) ?_
    refine va_put (D := (dC, dI)) (ci := 18) (v := .int x0) (ty := .int) (C := RX18) (T := TX18) (N := 78) hx hb hts iwd_X18_end_X18 tyX18 tyX18_ok nmX18 hown hK hP hD hS h0 (Wd_ob kg_1 sg_1 (by decide)) rfl 27 (by decide) (hts _ md_X18_end_1) (fun _ h9 => h9) rfl (by decide +kernel) rfl rfl (by rw [fl_len]; decide) dX18_end_10 (fun H_3 locs hP2 hD2 hS2 => ?_)
    rw [Wd_si sg_1 (by decide) rfl] at hP2 hD2
    obtain ⟨z_4, ez_4⟩ : ∃ w, w = si z h0 27 x0 := ⟨_, rfl⟩
    rw [← ez_4] at hP2 hD2
    replace hf := lt_at ez_4 hf
    clear ez_4
    replace hP := hP2
    replace hD := hD2
    replace hS := hS2
    clear hP2 hD2 hS2
    refine lv_aload_n hx hb dX18_end_13 rfl (lv_at hl 0 rfl) ?_
    refine lv_lload_n hx hb dX18_end_14 rfl (lv_at hl 2 rfl) ?_
    refine va_put (D := (dC, dI)) (ci := 18) (v := .long x1) (ty := .long) (C := RX18) (T := TX18) (N := 78) hx hb hts iwd_X18_end_X18 tyX18 tyX18_ok nmX18 hown hK hP hD hS h0 (Wd_ob kg_1 sg_1 (by decide)) rfl 28 (by decide) (hts _ md_X18_end_2) (fun _ h9 => h9) rfl (by decide +kernel) rfl rfl (by rw [fl_len]; decide) dX18_end_15 (fun H_5 locs hP2 hD2 hS2 => ?_)
    rw [Wd_sl sg_1 (by decide) rfl] at hP2 hD2
    obtain ⟨z_6, ez_6⟩ : ∃ w, w = sl z_4 h0 28 x1 := ⟨_, rfl⟩
    rw [← ez_6] at hP2 hD2
    replace hf := lt_at ez_6 hf
    clear ez_6
    replace hP := hP2
    replace hD := hD2
    replace hS := hS2
    clear hP2 hD2 hS2
    obtain ⟨h8, h9⟩ := ret_some hf
    rw [h8]
    exact W.vret hx hb hr (fun t ht hW => ⟨⟨(), rfl, trivial, by rw [ht]; exact hP, va_K.moved hW.alike hK, hD⟩, hS.F ht⟩) hS.2.2 dX18_end_18
  · skip
    rw [if_neg c_2] at hf
    obtain ⟨h8, h9⟩ := ret_some hf
    rw [h8]
    exact W.vret hx hb hr (fun t ht hW => ⟨⟨(), rfl, trivial, by rw [ht]; exact hP, va_K.moved hW.alike hK, hD⟩, hS.F ht⟩) hS.2.2 dX18_end_7

theorem md_X10_below_1 : (.constantLong RX10 9 (-9223372036854775808) : Cond) ∈ wsX10_below := List.mem_of_getElem? (i := 1) rfl
set_option maxHeartbeats 4000000 in
set_option maxRecDepth 100000 in
theorem de_X10_below (l : Launch) (dC : Nat → ClassId) (dI : Nat → Nat → Nat) (cy : Nat → ClassId) (a : Nat → Nat) (sh : Nat → Nat × Nat) (n sz : Nat) (F : Nat) (z : St) (x0 : Int64) (x1 : Int64) {z8 : St} {r8 : Int32} (hf : fn_X10_below F sh n z x0 x1 = some (z8, r8)) : Met l yX10_below wsX10_below ({ frames := 0, cells := 0, slots := 0, locals := 0 }) (va_Pc [.long x0, .long x1] (fun U => U.heap.size = sz ∧ va_P (dC, dI) vwCl (Wd cy a sh n z) U.heap ∧ va_K (dC, dI) vwCl (TYS cy) U ∧ va_D (fun _ => True) (Wd cy a sh n z) ∧ NK U)) (va_Qi (fun (r9 : Int32) (u : Unit) => r9 = r8) (fun u t => va_P (dC, dI) vwCl (Wd cy a sh n z8) t.heap ∧ va_K (dC, dI) vwCl (TYS cy) t ∧ va_D (va_A (Wd cy a sh n z) sz) (Wd cy a sh n z8)) (va_A (Wd cy a sh n z) sz)) 0 0 (va_A (Wd cy a sh n z) sz) := by
  refine Met.ofW (cc := cX10_below) (maxL := 4) (ret := (some .boolean)) (by decide) rfl ?_
  intro p e s m args below meth c s₁ B hml hv
  obtain ⟨rfl, hsz, hP, hK, hD0, hN⟩ := hv
  have hx := B.exec
  have hb := B.bytes
  have hr := B.returns
  have hts := atoms_spec (ws := wsX10_below) B.pre
  have hown : s.vm.findClass RX10 = some m.cls := findClass_of_methodNamed B.named
  have hlocks := B.notSynchronized
  subst hsz
  have hD := hD0.self (sz := s.heap.size)
  clear hD0
  generalize hAe : va_A (Wd cy a sh n z) s.heap.size = A at hD ⊢
  have hA : ∀ q : Nat, s.heap.size ≤ q → A q := fun q h => by rw [← hAe]; exact Or.inr h
  clear hAe
  have hS : va_S A s.heap s.heap [] := va_S.rf
  have hl := lv_entry ([.long x0, .long x1]) (n := 4) (Nat.le_of_ble_eq_true rfl)
  rw [lg_entry_eq]
  generalize (lg_sl ([.long x0, .long x1]) ++ List.replicate (4 - (lg_sl ([.long x0, .long x1])).length) Slot.unset).toArray = ls at hl ⊢
  replace hl : lv_has ls 4 [(0, .long x0), (2, .long x1)] := hl
  unfold fn_X10_below at hf
  refine de_start hS hP (fun H locs hS hP => ?_)
  refine lv_lload_n hx hb dX10_below_0 rfl (lv_at hl 0 rfl) ?_
  refine lv_ldc2 hx hb hown (hts _ md_X10_below_1) dX10_below_1 ?_
  refine lv_lxor hx hb dX10_below_4 ?_
  refine lv_lload_n hx hb dX10_below_5 rfl (lv_at hl 1 rfl) ?_
  refine lv_ldc2 hx hb hown (hts _ md_X10_below_1) dX10_below_6 ?_
  refine lv_lxor hx hb dX10_below_9 ?_
  refine W.lcmp hx hb dX10_below_10 ?_
  refine lv_if_ge (tgt := 18) hx hb dX10_below_11 (by decide) (fun c_1 => ?_) (fun c_1 => ?_)
  · skip
    rw [lg_cmp_ge] at c_1
    rw [if_pos c_1] at hf
    refine lv_iconst (v := 0) hx hb dX10_below_18 (by decide) ?_
    obtain ⟨h8, h9⟩ := ret_some hf
    rw [h8, h9]
    exact W.zret (v := 0) hx hb hr rfl (fun t ht hW => ⟨⟨0, (), rfl, rfl, by rw [ht]; exact hP, va_K.moved hW.alike hK, hD⟩, hS.F ht⟩) hS.2.2 dX10_below_19
  · skip
    rw [lg_cmp_ge] at c_1
    rw [if_neg c_1] at hf
    refine lv_iconst (v := 1) hx hb dX10_below_14 (by decide) ?_
    refine lv_goto (tgt := 19) hx hb dX10_below_15 (by decide) ?_
    obtain ⟨h8, h9⟩ := ret_some hf
    rw [h8, h9]
    exact W.zret (v := 1) hx hb hr rfl (fun t ht hW => ⟨⟨1, (), rfl, rfl, by rw [ht]; exact hP, va_K.moved hW.alike hK, hD⟩, hS.F ht⟩) hS.2.2 dX10_below_19

set_option maxHeartbeats 4000000 in
set_option maxRecDepth 100000 in
theorem de_X10_bitsOf (l : Launch) (dC : Nat → ClassId) (dI : Nat → Nat → Nat) (cy : Nat → ClassId) (a : Nat → Nat) (sh : Nat → Nat × Nat) (n sz : Nat) (F : Nat) (z : St) (x0 : Int32) {z8 : St} {r8 : Int32} (hf : fn_X10_bitsOf F sh n z x0 = some (z8, r8)) : Met l yX10_bitsOf wsX10_bitsOf ({ frames := 0, cells := 0, slots := 0, locals := 0 }) (va_Pc [.int x0] (fun U => U.heap.size = sz ∧ va_P (dC, dI) vwCl (Wd cy a sh n z) U.heap ∧ va_K (dC, dI) vwCl (TYS cy) U ∧ va_D (fun _ => True) (Wd cy a sh n z) ∧ NK U)) (va_Qi (fun (r9 : Int32) (u : Unit) => r9 = r8) (fun u t => va_P (dC, dI) vwCl (Wd cy a sh n z8) t.heap ∧ va_K (dC, dI) vwCl (TYS cy) t ∧ va_D (va_A (Wd cy a sh n z) sz) (Wd cy a sh n z8)) (va_A (Wd cy a sh n z) sz)) 0 0 (va_A (Wd cy a sh n z) sz) := by
  refine Met.ofW (cc := cX10_bitsOf) (maxL := 1) (ret := (some .int)) (by decide) rfl ?_
  intro p e s m args below meth c s₁ B hml hv
  obtain ⟨rfl, hsz, hP, hK, hD0, hN⟩ := hv
  have hx := B.exec
  have hb := B.bytes
  have hr := B.returns
  have hts := atoms_spec (ws := wsX10_bitsOf) B.pre
  have hown : s.vm.findClass RX10 = some m.cls := findClass_of_methodNamed B.named
  have hlocks := B.notSynchronized
  subst hsz
  have hD := hD0.self (sz := s.heap.size)
  clear hD0
  generalize hAe : va_A (Wd cy a sh n z) s.heap.size = A at hD ⊢
  have hA : ∀ q : Nat, s.heap.size ≤ q → A q := fun q h => by rw [← hAe]; exact Or.inr h
  clear hAe
  have hS : va_S A s.heap s.heap [] := va_S.rf
  have hl := lv_entry ([.int x0]) (n := 1) (Nat.le_of_ble_eq_true rfl)
  rw [lg_entry_eq]
  generalize (lg_sl ([.int x0]) ++ List.replicate (1 - (lg_sl ([.int x0])).length) Slot.unset).toArray = ls at hl ⊢
  replace hl : lv_has ls 1 [(0, .int x0)] := hl
  unfold fn_X10_bitsOf at hf
  refine de_start hS hP (fun H locs hS hP => ?_)
  refine lv_iload_n hx hb dX10_bitsOf_0 rfl (lv_at hl 0 rfl) ?_
  refine lv_iconst (v := 2) hx hb dX10_bitsOf_1 (by decide) ?_
  refine lv_icmp_ne (tgt := 10) hx hb dX10_bitsOf_2 (by decide) (fun c_1 => ?_) (fun c_1 => ?_)
  · skip
    rw [if_neg c_1] at hf
    refine lv_iload_n hx hb dX10_bitsOf_10 rfl (lv_at hl 0 rfl) ?_
    refine lv_iconst (v := 3) hx hb dX10_bitsOf_11 (by decide) ?_
    refine lv_icmp_ne (tgt := 20) hx hb dX10_bitsOf_12 (by decide) (fun c_2 => ?_) (fun c_2 => ?_)
    · skip
      rw [if_neg c_2] at hf
      refine lv_sipush (v := 128) hx hb dX10_bitsOf_20 (by decide) ?_
      obtain ⟨h8, h9⟩ := ret_some hf
      rw [h8, h9]
      exact W.iret (v := 128) hx hb hr (fun t ht hW => ⟨⟨128, (), rfl, rfl, by rw [ht]; exact hP, va_K.moved hW.alike hK, hD⟩, hS.F ht⟩) hS.2.2 dX10_bitsOf_23
    · skip
      rw [if_pos c_2] at hf
      refine lv_bipush (v := 64) hx hb dX10_bitsOf_15 (by decide) ?_
      refine lv_goto (tgt := 23) hx hb dX10_bitsOf_17 (by decide) ?_
      obtain ⟨h8, h9⟩ := ret_some hf
      rw [h8, h9]
      exact W.iret (v := 64) hx hb hr (fun t ht hW => ⟨⟨64, (), rfl, rfl, by rw [ht]; exact hP, va_K.moved hW.alike hK, hD⟩, hS.F ht⟩) hS.2.2 dX10_bitsOf_23
  · skip
    rw [if_pos c_1] at hf
    refine lv_bipush (v := 8) hx hb dX10_bitsOf_5 (by decide) ?_
    refine lv_goto (tgt := 23) hx hb dX10_bitsOf_7 (by decide) ?_
    obtain ⟨h8, h9⟩ := ret_some hf
    rw [h8, h9]
    exact W.iret (v := 8) hx hb hr (fun t ht hW => ⟨⟨8, (), rfl, rfl, by rw [ht]; exact hP, va_K.moved hW.alike hK, hD⟩, hS.F ht⟩) hS.2.2 dX10_bitsOf_23

theorem md_X12_turned_1 : (.constantLong RX12 28 (4294967295) : Cond) ∈ wsX12_turned := List.mem_of_getElem? (i := 1) rfl
set_option maxHeartbeats 4000000 in
set_option maxRecDepth 100000 in
theorem de_X12_turned (l : Launch) (dC : Nat → ClassId) (dI : Nat → Nat → Nat) (cy : Nat → ClassId) (a : Nat → Nat) (sh : Nat → Nat × Nat) (n sz : Nat) (F : Nat) (z : St) (x0 : Int64) (x1 : Int32) {z8 : St} {r8 : Int64} (hf : fn_X12_turned F sh n z x0 x1 = some (z8, r8)) : Met l yX12_turned wsX12_turned ({ frames := 0, cells := 0, slots := 0, locals := 0 }) (va_Pc [.long x0, .int x1] (fun U => U.heap.size = sz ∧ va_P (dC, dI) vwCl (Wd cy a sh n z) U.heap ∧ va_K (dC, dI) vwCl (TYS cy) U ∧ va_D (fun _ => True) (Wd cy a sh n z) ∧ NK U)) (va_Ql (fun (r9 : Int64) (u : Unit) => r9 = r8) (fun u t => va_P (dC, dI) vwCl (Wd cy a sh n z8) t.heap ∧ va_K (dC, dI) vwCl (TYS cy) t ∧ va_D (va_A (Wd cy a sh n z) sz) (Wd cy a sh n z8)) (va_A (Wd cy a sh n z) sz)) 0 0 (va_A (Wd cy a sh n z) sz) := by
  refine Met.ofW (cc := cX12_turned) (maxL := 3) (ret := (some .long)) (by decide) rfl ?_
  intro p e s m args below meth c s₁ B hml hv
  obtain ⟨rfl, hsz, hP, hK, hD0, hN⟩ := hv
  have hx := B.exec
  have hb := B.bytes
  have hr := B.returns
  have hts := atoms_spec (ws := wsX12_turned) B.pre
  have hown : s.vm.findClass RX12 = some m.cls := findClass_of_methodNamed B.named
  have hlocks := B.notSynchronized
  subst hsz
  have hD := hD0.self (sz := s.heap.size)
  clear hD0
  generalize hAe : va_A (Wd cy a sh n z) s.heap.size = A at hD ⊢
  have hA : ∀ q : Nat, s.heap.size ≤ q → A q := fun q h => by rw [← hAe]; exact Or.inr h
  clear hAe
  have hS : va_S A s.heap s.heap [] := va_S.rf
  have hl := lv_entry ([.long x0, .int x1]) (n := 3) (Nat.le_of_ble_eq_true rfl)
  rw [lg_entry_eq]
  generalize (lg_sl ([.long x0, .int x1]) ++ List.replicate (3 - (lg_sl ([.long x0, .int x1])).length) Slot.unset).toArray = ls at hl ⊢
  replace hl : lv_has ls 3 [(0, .long x0), (2, .int x1)] := hl
  unfold fn_X12_turned at hf
  refine de_start hS hP (fun H locs hS hP => ?_)
  refine lv_lload_n hx hb dX12_turned_0 rfl (lv_at hl 0 rfl) ?_
  refine lv_iload_n hx hb dX12_turned_1 rfl (lv_at hl 1 rfl) ?_
  refine lv_lshr (v := (x0 >>> ((x1 : Int32).toInt64 &&& 63))) hx hb dX12_turned_2 rfl ?_
  refine lv_lload_n hx hb dX12_turned_3 rfl (lv_at hl 0 rfl) ?_
  refine lv_bipush (v := 32) hx hb dX12_turned_4 (by decide) ?_
  refine lv_iload_n hx hb dX12_turned_6 rfl (lv_at hl 1 rfl) ?_
  refine lv_isub hx hb dX12_turned_7 ?_
  refine lv_lshl (v := (x0 <<< (((32 - x1) : Int32).toInt64 &&& 63))) hx hb dX12_turned_8 rfl ?_
  refine lv_lor hx hb dX12_turned_9 ?_
  refine lv_ldc2 hx hb hown (hts _ md_X12_turned_1) dX12_turned_10 ?_
  refine lv_land hx hb dX12_turned_13 ?_
  obtain ⟨h8, h9⟩ := ret_some hf
  rw [h8, h9]
  exact W.lret (v := ((((x0 >>> ((x1 : Int32).toInt64 &&& 63))) ||| ((x0 <<< (((32 - x1) : Int32).toInt64 &&& 63)))) &&& 4294967295)) hx hb hr (fun t ht hW => ⟨⟨((((x0 >>> ((x1 : Int32).toInt64 &&& 63))) ||| ((x0 <<< (((32 - x1) : Int32).toInt64 &&& 63)))) &&& 4294967295), (), rfl, rfl, by rw [ht]; exact hP, va_K.moved hW.alike hK, hD⟩, hS.F ht⟩) hS.2.2 dX12_turned_14

theorem md_X16_instructions_1 : (.fieldLink RX16 26 "ResourceLedgerModel$Unit" "firsts" "[I" : Cond) ∈ wsX16_instructions := List.mem_of_getElem? (i := 1) rfl
theorem iwd_X16_instructions_X16 : ∀ w ∈ wsX160, w ∈ wsX16_instructions := fun _ h => List.mem_cons_of_mem _ (List.mem_append_right _ h)
set_option maxHeartbeats 4000000 in
set_option maxRecDepth 100000 in
theorem de_X16_instructions (l : Launch) (dC : Nat → ClassId) (dI : Nat → Nat → Nat) (cy : Nat → ClassId) (a : Nat → Nat) (sh : Nat → Nat × Nat) (n sz : Nat) (F : Nat) (z : St) (h0 : Nat) (x0 : Int32) {z8 : St} {r8 : Int32} (hf : fn_X16_instructions F sh n z h0 x0 = some (z8, r8)) : Met l yX16_instructions wsX16_instructions ({ frames := 0, cells := 0, slots := 0, locals := 0 }) (va_Pc [.ref (a h0), .int x0] (fun U => U.heap.size = sz ∧ va_P (dC, dI) vwCl (Wd cy a sh n z) U.heap ∧ va_K (dC, dI) vwCl (TYS cy) U ∧ va_D (fun _ => True) (Wd cy a sh n z) ∧ NK U)) (va_Qi (fun (r9 : Int32) (u : Unit) => r9 = r8) (fun u t => va_P (dC, dI) vwCl (Wd cy a sh n z8) t.heap ∧ va_K (dC, dI) vwCl (TYS cy) t ∧ va_D (va_A (Wd cy a sh n z) sz) (Wd cy a sh n z8)) (va_A (Wd cy a sh n z) sz)) 0 0 (va_A (Wd cy a sh n z) sz) := by
  refine Met.ofW (cc := cX16_instructions) (maxL := 2) (ret := (some .int)) (by decide) rfl ?_
  intro p e s m args below meth c s₁ B hml hv
  obtain ⟨rfl, hsz, hP, hK, hD0, hN⟩ := hv
  have hx := B.exec
  have hb := B.bytes
  have hr := B.returns
  have hts := atoms_spec (ws := wsX16_instructions) B.pre
  have hown : s.vm.findClass RX16 = some m.cls := findClass_of_methodNamed B.named
  have hlocks := B.notSynchronized
  subst hsz
  have hD := hD0.self (sz := s.heap.size)
  clear hD0
  generalize hAe : va_A (Wd cy a sh n z) s.heap.size = A at hD ⊢
  have hA : ∀ q : Nat, s.heap.size ≤ q → A q := fun q h => by rw [← hAe]; exact Or.inr h
  clear hAe
  have hS : va_S A s.heap s.heap [] := va_S.rf
  have hl := lv_entry ([.ref (a h0), .int x0]) (n := 2) (Nat.le_of_ble_eq_true rfl)
  rw [lg_entry_eq]
  generalize (lg_sl ([.ref (a h0), .int x0]) ++ List.replicate (2 - (lg_sl ([.ref (a h0), .int x0])).length) Slot.unset).toArray = ls at hl ⊢
  replace hl : lv_has ls 2 [(0, .ref (a h0)), (1, .int x0)] := hl
  unfold fn_X16_instructions at hf
  refine de_start hS hP (fun H locs hS hP => ?_)
  refine lv_aload_n hx hb dX16_instructions_0 rfl (lv_at hl 0 rfl) ?_
  obtain ⟨g_1, hf⟩ := grd_some hf
  obtain ⟨kg_1, sg_1⟩ := okO_at g_1
  obtain ⟨k_2, ek_2, hf⟩ := lnk_some hf
  refine va_get (D := (dC, dI)) (ci := 16) (v := .ref (a k_2)) (C := RX16) (T := TX16) (N := 18) hx hb hts iwd_X16_instructions_X16 hown hK hP h0 (Wd_ob kg_1 sg_1 (by decide)) rfl 15 (by decide) (hts _ md_X16_instructions_1) (fun _ h9 => h9) (fl_q rfl ek_2) dX16_instructions_1 ?_
  refine lv_iload_n hx hb dX16_instructions_4 rfl (lv_at hl 1 rfl) ?_
  refine lv_iconst (v := 1) hx hb dX16_instructions_5 (by decide) ?_
  refine lv_iadd hx hb dX16_instructions_6 ?_
  obtain ⟨g_3, hf⟩ := grd_some hf
  obtain ⟨kg_3, sg_3, ig_3⟩ := okA_at g_3
  refine va_iald hx hb hK hP k_2 1 (Wd_ai kg_3 sg_3) rfl ig_3 dX16_instructions_7 ?_
  refine lv_aload_n hx hb dX16_instructions_8 rfl (lv_at hl 0 rfl) ?_
  obtain ⟨k_4, ek_4, hf⟩ := lnk_some hf
  refine va_get (D := (dC, dI)) (ci := 16) (v := .ref (a k_4)) (C := RX16) (T := TX16) (N := 18) hx hb hts iwd_X16_instructions_X16 hown hK hP h0 (Wd_ob kg_1 sg_1 (by decide)) rfl 15 (by decide) (hts _ md_X16_instructions_1) (fun _ h9 => h9) (fl_q rfl ek_4) dX16_instructions_9 ?_
  refine lv_iload_n hx hb dX16_instructions_12 rfl (lv_at hl 1 rfl) ?_
  obtain ⟨g_5, hf⟩ := grd_some hf
  obtain ⟨kg_5, sg_5, ig_5⟩ := okA_at g_5
  refine va_iald hx hb hK hP k_4 1 (Wd_ai kg_5 sg_5) rfl ig_5 dX16_instructions_13 ?_
  refine lv_isub hx hb dX16_instructions_14 ?_
  obtain ⟨h8, h9⟩ := ret_some hf
  rw [h8, h9]
  exact W.iret (v := ((z.1 k_2 (x0 + 1).toNatClampNeg) - (z.1 k_4 x0.toNatClampNeg))) hx hb hr (fun t ht hW => ⟨⟨((z.1 k_2 (x0 + 1).toNatClampNeg) - (z.1 k_4 x0.toNatClampNeg)), (), rfl, rfl, by rw [ht]; exact hP, va_K.moved hW.alike hK, hD⟩, hS.F ht⟩) hS.2.2 dX16_instructions_15

set_option maxHeartbeats 4000000 in
set_option maxRecDepth 100000 in
theorem de_X18_bitsOf (l : Launch) (dC : Nat → ClassId) (dI : Nat → Nat → Nat) (cy : Nat → ClassId) (a : Nat → Nat) (sh : Nat → Nat × Nat) (n sz : Nat) (F : Nat) (z : St) (x0 : Int32) {z8 : St} {r8 : Int32} (hf : fn_X18_bitsOf F sh n z x0 = some (z8, r8)) : Met l yX18_bitsOf wsX18_bitsOf ({ frames := 0, cells := 0, slots := 0, locals := 0 }) (va_Pc [.int x0] (fun U => U.heap.size = sz ∧ va_P (dC, dI) vwCl (Wd cy a sh n z) U.heap ∧ va_K (dC, dI) vwCl (TYS cy) U ∧ va_D (fun _ => True) (Wd cy a sh n z) ∧ NK U)) (va_Qi (fun (r9 : Int32) (u : Unit) => r9 = r8) (fun u t => va_P (dC, dI) vwCl (Wd cy a sh n z8) t.heap ∧ va_K (dC, dI) vwCl (TYS cy) t ∧ va_D (va_A (Wd cy a sh n z) sz) (Wd cy a sh n z8)) (va_A (Wd cy a sh n z) sz)) 0 0 (va_A (Wd cy a sh n z) sz) := by
  refine Met.ofW (cc := cX18_bitsOf) (maxL := 1) (ret := (some .int)) (by decide) rfl ?_
  intro p e s m args below meth c s₁ B hml hv
  obtain ⟨rfl, hsz, hP, hK, hD0, hN⟩ := hv
  have hx := B.exec
  have hb := B.bytes
  have hr := B.returns
  have hts := atoms_spec (ws := wsX18_bitsOf) B.pre
  have hown : s.vm.findClass RX18 = some m.cls := findClass_of_methodNamed B.named
  have hlocks := B.notSynchronized
  subst hsz
  have hD := hD0.self (sz := s.heap.size)
  clear hD0
  generalize hAe : va_A (Wd cy a sh n z) s.heap.size = A at hD ⊢
  have hA : ∀ q : Nat, s.heap.size ≤ q → A q := fun q h => by rw [← hAe]; exact Or.inr h
  clear hAe
  have hS : va_S A s.heap s.heap [] := va_S.rf
  have hl := lv_entry ([.int x0]) (n := 1) (Nat.le_of_ble_eq_true rfl)
  rw [lg_entry_eq]
  generalize (lg_sl ([.int x0]) ++ List.replicate (1 - (lg_sl ([.int x0])).length) Slot.unset).toArray = ls at hl ⊢
  replace hl : lv_has ls 1 [(0, .int x0)] := hl
  unfold fn_X18_bitsOf at hf
  refine de_start hS hP (fun H locs hS hP => ?_)
  refine lv_iload_n hx hb dX18_bitsOf_0 rfl (lv_at hl 0 rfl) ?_
  refine lv_iconst (v := 2) hx hb dX18_bitsOf_1 (by decide) ?_
  refine lv_icmp_ne (tgt := 10) hx hb dX18_bitsOf_2 (by decide) (fun c_1 => ?_) (fun c_1 => ?_)
  · skip
    rw [if_neg c_1] at hf
    refine lv_iload_n hx hb dX18_bitsOf_10 rfl (lv_at hl 0 rfl) ?_
    refine lv_iconst (v := 4) hx hb dX18_bitsOf_11 (by decide) ?_
    refine lv_icmp_ne (tgt := 21) hx hb dX18_bitsOf_12 (by decide) (fun c_2 => ?_) (fun c_2 => ?_)
    · skip
      rw [if_neg c_2] at hf
      refine lv_bipush (v := 64) hx hb dX18_bitsOf_21 (by decide) ?_
      obtain ⟨h8, h9⟩ := ret_some hf
      rw [h8, h9]
      exact W.iret (v := 64) hx hb hr (fun t ht hW => ⟨⟨64, (), rfl, rfl, by rw [ht]; exact hP, va_K.moved hW.alike hK, hD⟩, hS.F ht⟩) hS.2.2 dX18_bitsOf_23
    · skip
      rw [if_pos c_2] at hf
      refine lv_sipush (v := 128) hx hb dX18_bitsOf_15 (by decide) ?_
      refine lv_goto (tgt := 23) hx hb dX18_bitsOf_18 (by decide) ?_
      obtain ⟨h8, h9⟩ := ret_some hf
      rw [h8, h9]
      exact W.iret (v := 128) hx hb hr (fun t ht hW => ⟨⟨128, (), rfl, rfl, by rw [ht]; exact hP, va_K.moved hW.alike hK, hD⟩, hS.F ht⟩) hS.2.2 dX18_bitsOf_23
  · skip
    rw [if_pos c_1] at hf
    refine lv_bipush (v := 8) hx hb dX18_bitsOf_5 (by decide) ?_
    refine lv_goto (tgt := 23) hx hb dX18_bitsOf_7 (by decide) ?_
    obtain ⟨h8, h9⟩ := ret_some hf
    rw [h8, h9]
    exact W.iret (v := 8) hx hb hr (fun t ht hW => ⟨⟨8, (), rfl, rfl, by rw [ht]; exact hP, va_K.moved hW.alike hK, hD⟩, hS.F ht⟩) hS.2.2 dX18_bitsOf_23

theorem md_X18_isBelow_1 : (.constantLong RX18 457 (-9223372036854775808) : Cond) ∈ wsX18_isBelow := List.mem_of_getElem? (i := 1) rfl
set_option maxHeartbeats 4000000 in
set_option maxRecDepth 100000 in
theorem de_X18_isBelow (l : Launch) (dC : Nat → ClassId) (dI : Nat → Nat → Nat) (cy : Nat → ClassId) (a : Nat → Nat) (sh : Nat → Nat × Nat) (n sz : Nat) (F : Nat) (z : St) (x0 : Int64) (x1 : Int64) {z8 : St} {r8 : Int32} (hf : fn_X18_isBelow F sh n z x0 x1 = some (z8, r8)) : Met l yX18_isBelow wsX18_isBelow ({ frames := 0, cells := 0, slots := 0, locals := 0 }) (va_Pc [.long x0, .long x1] (fun U => U.heap.size = sz ∧ va_P (dC, dI) vwCl (Wd cy a sh n z) U.heap ∧ va_K (dC, dI) vwCl (TYS cy) U ∧ va_D (fun _ => True) (Wd cy a sh n z) ∧ NK U)) (va_Qi (fun (r9 : Int32) (u : Unit) => r9 = r8) (fun u t => va_P (dC, dI) vwCl (Wd cy a sh n z8) t.heap ∧ va_K (dC, dI) vwCl (TYS cy) t ∧ va_D (va_A (Wd cy a sh n z) sz) (Wd cy a sh n z8)) (va_A (Wd cy a sh n z) sz)) 0 0 (va_A (Wd cy a sh n z) sz) := by
  refine Met.ofW (cc := cX18_isBelow) (maxL := 4) (ret := (some .boolean)) (by decide) rfl ?_
  intro p e s m args below meth c s₁ B hml hv
  obtain ⟨rfl, hsz, hP, hK, hD0, hN⟩ := hv
  have hx := B.exec
  have hb := B.bytes
  have hr := B.returns
  have hts := atoms_spec (ws := wsX18_isBelow) B.pre
  have hown : s.vm.findClass RX18 = some m.cls := findClass_of_methodNamed B.named
  have hlocks := B.notSynchronized
  subst hsz
  have hD := hD0.self (sz := s.heap.size)
  clear hD0
  generalize hAe : va_A (Wd cy a sh n z) s.heap.size = A at hD ⊢
  have hA : ∀ q : Nat, s.heap.size ≤ q → A q := fun q h => by rw [← hAe]; exact Or.inr h
  clear hAe
  have hS : va_S A s.heap s.heap [] := va_S.rf
  have hl := lv_entry ([.long x0, .long x1]) (n := 4) (Nat.le_of_ble_eq_true rfl)
  rw [lg_entry_eq]
  generalize (lg_sl ([.long x0, .long x1]) ++ List.replicate (4 - (lg_sl ([.long x0, .long x1])).length) Slot.unset).toArray = ls at hl ⊢
  replace hl : lv_has ls 4 [(0, .long x0), (2, .long x1)] := hl
  unfold fn_X18_isBelow at hf
  refine de_start hS hP (fun H locs hS hP => ?_)
  refine lv_lload_n hx hb dX18_isBelow_0 rfl (lv_at hl 0 rfl) ?_
  refine lv_ldc2 hx hb hown (hts _ md_X18_isBelow_1) dX18_isBelow_1 ?_
  refine lv_ladd hx hb dX18_isBelow_4 ?_
  refine lv_lload_n hx hb dX18_isBelow_5 rfl (lv_at hl 1 rfl) ?_
  refine lv_ldc2 hx hb hown (hts _ md_X18_isBelow_1) dX18_isBelow_6 ?_
  refine lv_ladd hx hb dX18_isBelow_9 ?_
  refine W.lcmp hx hb dX18_isBelow_10 ?_
  refine lv_if_ge (tgt := 18) hx hb dX18_isBelow_11 (by decide) (fun c_1 => ?_) (fun c_1 => ?_)
  · skip
    rw [lg_cmp_ge] at c_1
    rw [if_pos c_1] at hf
    refine lv_iconst (v := 0) hx hb dX18_isBelow_18 (by decide) ?_
    obtain ⟨h8, h9⟩ := ret_some hf
    rw [h8, h9]
    exact W.zret (v := 0) hx hb hr rfl (fun t ht hW => ⟨⟨0, (), rfl, rfl, by rw [ht]; exact hP, va_K.moved hW.alike hK, hD⟩, hS.F ht⟩) hS.2.2 dX18_isBelow_19
  · skip
    rw [lg_cmp_ge] at c_1
    rw [if_neg c_1] at hf
    refine lv_iconst (v := 1) hx hb dX18_isBelow_14 (by decide) ?_
    refine lv_goto (tgt := 19) hx hb dX18_isBelow_15 (by decide) ?_
    obtain ⟨h8, h9⟩ := ret_some hf
    rw [h8, h9]
    exact W.zret (v := 1) hx hb hr rfl (fun t ht hW => ⟨⟨1, (), rfl, rfl, by rw [ht]; exact hP, va_K.moved hW.alike hK, hD⟩, hS.F ht⟩) hS.2.2 dX18_isBelow_19

theorem md_X3_isNumber_1 : (.constantLong RX3 190 (2) : Cond) ∈ wsX3_isNumber := List.mem_of_getElem? (i := 1) rfl
theorem md_X3_isNumber_2 : (.constantLong RX3 192 (4) : Cond) ∈ wsX3_isNumber := List.mem_of_getElem? (i := 2) rfl
set_option maxHeartbeats 4000000 in
set_option maxRecDepth 100000 in
theorem de_X3_isNumber (l : Launch) (dC : Nat → ClassId) (dI : Nat → Nat → Nat) (cy : Nat → ClassId) (a : Nat → Nat) (sh : Nat → Nat × Nat) (n sz : Nat) (F : Nat) (z : St) (x0 : Int64) {z8 : St} {r8 : Int32} (hf : fn_X3_isNumber F sh n z x0 = some (z8, r8)) : Met l yX3_isNumber wsX3_isNumber ({ frames := 0, cells := 0, slots := 0, locals := 0 }) (va_Pc [.long x0] (fun U => U.heap.size = sz ∧ va_P (dC, dI) vwCl (Wd cy a sh n z) U.heap ∧ va_K (dC, dI) vwCl (TYS cy) U ∧ va_D (fun _ => True) (Wd cy a sh n z) ∧ NK U)) (va_Qi (fun (r9 : Int32) (u : Unit) => r9 = r8) (fun u t => va_P (dC, dI) vwCl (Wd cy a sh n z8) t.heap ∧ va_K (dC, dI) vwCl (TYS cy) t ∧ va_D (va_A (Wd cy a sh n z) sz) (Wd cy a sh n z8)) (va_A (Wd cy a sh n z) sz)) 0 0 (va_A (Wd cy a sh n z) sz) := by
  refine Met.ofW (cc := cX3_isNumber) (maxL := 2) (ret := (some .boolean)) (by decide) rfl ?_
  intro p e s m args below meth c s₁ B hml hv
  obtain ⟨rfl, hsz, hP, hK, hD0, hN⟩ := hv
  have hx := B.exec
  have hb := B.bytes
  have hr := B.returns
  have hts := atoms_spec (ws := wsX3_isNumber) B.pre
  have hown : s.vm.findClass RX3 = some m.cls := findClass_of_methodNamed B.named
  have hlocks := B.notSynchronized
  subst hsz
  have hD := hD0.self (sz := s.heap.size)
  clear hD0
  generalize hAe : va_A (Wd cy a sh n z) s.heap.size = A at hD ⊢
  have hA : ∀ q : Nat, s.heap.size ≤ q → A q := fun q h => by rw [← hAe]; exact Or.inr h
  clear hAe
  have hS : va_S A s.heap s.heap [] := va_S.rf
  have hl := lv_entry ([.long x0]) (n := 2) (Nat.le_of_ble_eq_true rfl)
  rw [lg_entry_eq]
  generalize (lg_sl ([.long x0]) ++ List.replicate (2 - (lg_sl ([.long x0])).length) Slot.unset).toArray = ls at hl ⊢
  replace hl : lv_has ls 2 [(0, .long x0)] := hl
  unfold fn_X3_isNumber at hf
  refine de_start hS hP (fun H locs hS hP => ?_)
  refine lv_lload_n hx hb dX3_isNumber_0 rfl (lv_at hl 0 rfl) ?_
  refine lv_ldc2 hx hb hown (hts _ md_X3_isNumber_1) dX3_isNumber_1 ?_
  refine W.lcmp hx hb dX3_isNumber_4 ?_
  refine lv_if_lt (tgt := 20) hx hb dX3_isNumber_5 (by decide) (fun c_1 => ?_) (fun c_1 => ?_)
  · skip
    rw [lg_cmp_lt] at c_1
    rw [if_pos c_1] at hf
    refine lv_iconst (v := 0) hx hb dX3_isNumber_20 (by decide) ?_
    obtain ⟨h8, h9⟩ := ret_some hf
    rw [h8, h9]
    exact W.zret (v := 0) hx hb hr rfl (fun t ht hW => ⟨⟨0, (), rfl, rfl, by rw [ht]; exact hP, va_K.moved hW.alike hK, hD⟩, hS.F ht⟩) hS.2.2 dX3_isNumber_21
  · skip
    rw [lg_cmp_lt] at c_1
    rw [if_neg c_1] at hf
    refine lv_lload_n hx hb dX3_isNumber_8 rfl (lv_at hl 0 rfl) ?_
    refine lv_ldc2 hx hb hown (hts _ md_X3_isNumber_2) dX3_isNumber_9 ?_
    refine W.lcmp hx hb dX3_isNumber_12 ?_
    refine lv_if_gt (tgt := 20) hx hb dX3_isNumber_13 (by decide) (fun c_2 => ?_) (fun c_2 => ?_)
    · skip
      rw [lg_cmp_gt] at c_2
      rw [if_pos c_2] at hf
      refine lv_iconst (v := 0) hx hb dX3_isNumber_20 (by decide) ?_
      obtain ⟨h8, h9⟩ := ret_some hf
      rw [h8, h9]
      exact W.zret (v := 0) hx hb hr rfl (fun t ht hW => ⟨⟨0, (), rfl, rfl, by rw [ht]; exact hP, va_K.moved hW.alike hK, hD⟩, hS.F ht⟩) hS.2.2 dX3_isNumber_21
    · skip
      rw [lg_cmp_gt] at c_2
      rw [if_neg c_2] at hf
      refine lv_iconst (v := 1) hx hb dX3_isNumber_16 (by decide) ?_
      refine lv_goto (tgt := 21) hx hb dX3_isNumber_17 (by decide) ?_
      obtain ⟨h8, h9⟩ := ret_some hf
      rw [h8, h9]
      exact W.zret (v := 1) hx hb hr rfl (fun t ht hW => ⟨⟨1, (), rfl, rfl, by rw [ht]; exact hP, va_K.moved hW.alike hK, hD⟩, hS.F ht⟩) hS.2.2 dX3_isNumber_21

theorem md_X5_endsInStructure_1 : (.constantLong RX5 85 (255) : Cond) ∈ wsX5_endsInStructure := List.mem_of_getElem? (i := 1) rfl
theorem md_X5_endsInStructure_2 : (.constantLong RX5 87 (6) : Cond) ∈ wsX5_endsInStructure := List.mem_of_getElem? (i := 2) rfl
set_option maxHeartbeats 4000000 in
set_option maxRecDepth 100000 in
theorem de_X5_endsInStructure (l : Launch) (dC : Nat → ClassId) (dI : Nat → Nat → Nat) (cy : Nat → ClassId) (a : Nat → Nat) (sh : Nat → Nat × Nat) (n sz : Nat) (F : Nat) (z : St) (x0 : Int64) {z8 : St} {r8 : Int32} (hf : fn_X5_endsInStructure F sh n z x0 = some (z8, r8)) : Met l yX5_endsInStructure wsX5_endsInStructure ({ frames := 0, cells := 0, slots := 0, locals := 0 }) (va_Pc [.long x0] (fun U => U.heap.size = sz ∧ va_P (dC, dI) vwCl (Wd cy a sh n z) U.heap ∧ va_K (dC, dI) vwCl (TYS cy) U ∧ va_D (fun _ => True) (Wd cy a sh n z) ∧ NK U)) (va_Qi (fun (r9 : Int32) (u : Unit) => r9 = r8) (fun u t => va_P (dC, dI) vwCl (Wd cy a sh n z8) t.heap ∧ va_K (dC, dI) vwCl (TYS cy) t ∧ va_D (va_A (Wd cy a sh n z) sz) (Wd cy a sh n z8)) (va_A (Wd cy a sh n z) sz)) 0 0 (va_A (Wd cy a sh n z) sz) := by
  refine Met.ofW (cc := cX5_endsInStructure) (maxL := 2) (ret := (some .boolean)) (by decide) rfl ?_
  intro p e s m args below meth c s₁ B hml hv
  obtain ⟨rfl, hsz, hP, hK, hD0, hN⟩ := hv
  have hx := B.exec
  have hb := B.bytes
  have hr := B.returns
  have hts := atoms_spec (ws := wsX5_endsInStructure) B.pre
  have hown : s.vm.findClass RX5 = some m.cls := findClass_of_methodNamed B.named
  have hlocks := B.notSynchronized
  subst hsz
  have hD := hD0.self (sz := s.heap.size)
  clear hD0
  generalize hAe : va_A (Wd cy a sh n z) s.heap.size = A at hD ⊢
  have hA : ∀ q : Nat, s.heap.size ≤ q → A q := fun q h => by rw [← hAe]; exact Or.inr h
  clear hAe
  have hS : va_S A s.heap s.heap [] := va_S.rf
  have hl := lv_entry ([.long x0]) (n := 2) (Nat.le_of_ble_eq_true rfl)
  rw [lg_entry_eq]
  generalize (lg_sl ([.long x0]) ++ List.replicate (2 - (lg_sl ([.long x0])).length) Slot.unset).toArray = ls at hl ⊢
  replace hl : lv_has ls 2 [(0, .long x0)] := hl
  unfold fn_X5_endsInStructure at hf
  refine de_start hS hP (fun H locs hS hP => ?_)
  refine lv_lload_n hx hb dX5_endsInStructure_0 rfl (lv_at hl 0 rfl) ?_
  refine lv_bipush (v := 8) hx hb dX5_endsInStructure_1 (by decide) ?_
  refine lv_lushr (v := ((x0 : Int64).toUInt64 >>> ((8 : Int32).toInt64.toUInt64 &&& Int64.toUInt64 63)).toInt64) hx hb dX5_endsInStructure_3 rfl ?_
  refine lv_ldc2 hx hb hown (hts _ md_X5_endsInStructure_1) dX5_endsInStructure_4 ?_
  refine lv_land hx hb dX5_endsInStructure_7 ?_
  refine lv_ldc2 hx hb hown (hts _ md_X5_endsInStructure_2) dX5_endsInStructure_8 ?_
  refine W.lcmp hx hb dX5_endsInStructure_11 ?_
  refine lv_if_ne (tgt := 19) hx hb dX5_endsInStructure_12 (by decide) (fun c_1 => ?_) (fun c_1 => ?_)
  · skip
    rw [lg_cmp_eq] at c_1
    rw [if_neg c_1] at hf
    refine lv_iconst (v := 0) hx hb dX5_endsInStructure_19 (by decide) ?_
    obtain ⟨h8, h9⟩ := ret_some hf
    rw [h8, h9]
    exact W.zret (v := 0) hx hb hr rfl (fun t ht hW => ⟨⟨0, (), rfl, rfl, by rw [ht]; exact hP, va_K.moved hW.alike hK, hD⟩, hS.F ht⟩) hS.2.2 dX5_endsInStructure_20
  · skip
    rw [lg_cmp_eq] at c_1
    rw [if_pos c_1] at hf
    refine lv_iconst (v := 1) hx hb dX5_endsInStructure_15 (by decide) ?_
    refine lv_goto (tgt := 20) hx hb dX5_endsInStructure_16 (by decide) ?_
    obtain ⟨h8, h9⟩ := ret_some hf
    rw [h8, h9]
    exact W.zret (v := 1) hx hb hr rfl (fun t ht hW => ⟨⟨1, (), rfl, rfl, by rw [ht]; exact hP, va_K.moved hW.alike hK, hD⟩, hS.F ht⟩) hS.2.2 dX5_endsInStructure_20

theorem tbd_1_7 {x : Int32} (h1 : ¬ x = 1) (h2 : ¬ x = 2) (h3 : ¬ x = 3) (h4 : ¬ x = 4) (h5 : ¬ x = 5) (h6 : ¬ x = 6) (h7 : ¬ x = 7) : x.toInt < 1 ∨ 7 < x.toInt := by
  have a1 : x.toInt ≠ 1 := tbd_ne h1
  have a2 : x.toInt ≠ 2 := tbd_ne h2
  have a3 : x.toInt ≠ 3 := tbd_ne h3
  have a4 : x.toInt ≠ 4 := tbd_ne h4
  have a5 : x.toInt ≠ 5 := tbd_ne h5
  have a6 : x.toInt ≠ 6 := tbd_ne h6
  have a7 : x.toInt ≠ 7 := tbd_ne h7
  omega
set_option maxHeartbeats 4000000 in
set_option maxRecDepth 100000 in
theorem de_X7_widthOf (l : Launch) (dC : Nat → ClassId) (dI : Nat → Nat → Nat) (cy : Nat → ClassId) (a : Nat → Nat) (sh : Nat → Nat × Nat) (n sz : Nat) (F : Nat) (z : St) (x0 : Int32) {z8 : St} {r8 : Int32} (hf : fn_X7_widthOf F sh n z x0 = some (z8, r8)) : Met l yX7_widthOf wsX7_widthOf ({ frames := 0, cells := 0, slots := 0, locals := 0 }) (va_Pc [.int x0] (fun U => U.heap.size = sz ∧ va_P (dC, dI) vwCl (Wd cy a sh n z) U.heap ∧ va_K (dC, dI) vwCl (TYS cy) U ∧ va_D (fun _ => True) (Wd cy a sh n z) ∧ NK U)) (va_Qi (fun (r9 : Int32) (u : Unit) => r9 = r8) (fun u t => va_P (dC, dI) vwCl (Wd cy a sh n z8) t.heap ∧ va_K (dC, dI) vwCl (TYS cy) t ∧ va_D (va_A (Wd cy a sh n z) sz) (Wd cy a sh n z8)) (va_A (Wd cy a sh n z) sz)) 0 0 (va_A (Wd cy a sh n z) sz) := by
  refine Met.ofW (cc := cX7_widthOf) (maxL := 1) (ret := (some .int)) (by decide) rfl ?_
  intro p e s m args below meth c s₁ B hml hv
  obtain ⟨rfl, hsz, hP, hK, hD0, hN⟩ := hv
  have hx := B.exec
  have hb := B.bytes
  have hr := B.returns
  have hts := atoms_spec (ws := wsX7_widthOf) B.pre
  have hown : s.vm.findClass RX7 = some m.cls := findClass_of_methodNamed B.named
  have hlocks := B.notSynchronized
  subst hsz
  have hD := hD0.self (sz := s.heap.size)
  clear hD0
  generalize hAe : va_A (Wd cy a sh n z) s.heap.size = A at hD ⊢
  have hA : ∀ q : Nat, s.heap.size ≤ q → A q := fun q h => by rw [← hAe]; exact Or.inr h
  clear hAe
  have hS : va_S A s.heap s.heap [] := va_S.rf
  have hl := lv_entry ([.int x0]) (n := 1) (Nat.le_of_ble_eq_true rfl)
  rw [lg_entry_eq]
  generalize (lg_sl ([.int x0]) ++ List.replicate (1 - (lg_sl ([.int x0])).length) Slot.unset).toArray = ls at hl ⊢
  replace hl : lv_has ls 1 [(0, .int x0)] := hl
  unfold fn_X7_widthOf at hf
  refine de_start hS hP (fun H locs hS hP => ?_)
  refine lv_iload_n hx hb dX7_widthOf_0 rfl (lv_at hl 0 rfl) ?_
  by_cases c_1 : x0 = 1
  · skip
    rw [if_pos c_1] at hf
    refine lv_tableIn (tgt := 44) hx hb dX7_widthOf_1 (by rw [c_1]; decide) (by rw [c_1]; decide) (by rw [c_1]; rfl) (by decide) ?_
    refine lv_iconst (v := 1) hx hb dX7_widthOf_44 (by decide) ?_
    obtain ⟨h8, h9⟩ := ret_some hf
    rw [h8, h9]
    exact W.iret (v := 1) hx hb hr (fun t ht hW => ⟨⟨1, (), rfl, rfl, by rw [ht]; exact hP, va_K.moved hW.alike hK, hD⟩, hS.F ht⟩) hS.2.2 dX7_widthOf_45
  rw [if_neg c_1] at hf
  by_cases c_2 : x0 = 2
  · skip
    rw [if_pos c_2] at hf
    refine lv_tableIn (tgt := 44) hx hb dX7_widthOf_1 (by rw [c_2]; decide) (by rw [c_2]; decide) (by rw [c_2]; rfl) (by decide) ?_
    refine lv_iconst (v := 1) hx hb dX7_widthOf_44 (by decide) ?_
    obtain ⟨h8, h9⟩ := ret_some hf
    rw [h8, h9]
    exact W.iret (v := 1) hx hb hr (fun t ht hW => ⟨⟨1, (), rfl, rfl, by rw [ht]; exact hP, va_K.moved hW.alike hK, hD⟩, hS.F ht⟩) hS.2.2 dX7_widthOf_45
  rw [if_neg c_2] at hf
  by_cases c_3 : x0 = 3
  · skip
    rw [if_pos c_3] at hf
    refine lv_tableIn (tgt := 53) hx hb dX7_widthOf_1 (by rw [c_3]; decide) (by rw [c_3]; decide) (by rw [c_3]; rfl) (by decide) ?_
    refine lv_bipush (v := 8) hx hb dX7_widthOf_53 (by decide) ?_
    obtain ⟨h8, h9⟩ := ret_some hf
    rw [h8, h9]
    exact W.iret (v := 8) hx hb hr (fun t ht hW => ⟨⟨8, (), rfl, rfl, by rw [ht]; exact hP, va_K.moved hW.alike hK, hD⟩, hS.F ht⟩) hS.2.2 dX7_widthOf_55
  rw [if_neg c_3] at hf
  by_cases c_4 : x0 = 4
  · skip
    rw [if_pos c_4] at hf
    refine lv_tableIn (tgt := 48) hx hb dX7_widthOf_1 (by rw [c_4]; decide) (by rw [c_4]; decide) (by rw [c_4]; rfl) (by decide) ?_
    refine lv_bipush (v := 16) hx hb dX7_widthOf_48 (by decide) ?_
    obtain ⟨h8, h9⟩ := ret_some hf
    rw [h8, h9]
    exact W.iret (v := 16) hx hb hr (fun t ht hW => ⟨⟨16, (), rfl, rfl, by rw [ht]; exact hP, va_K.moved hW.alike hK, hD⟩, hS.F ht⟩) hS.2.2 dX7_widthOf_50
  rw [if_neg c_4] at hf
  by_cases c_5 : x0 = 5
  · skip
    rw [if_pos c_5] at hf
    refine lv_tableIn (tgt := 53) hx hb dX7_widthOf_1 (by rw [c_5]; decide) (by rw [c_5]; decide) (by rw [c_5]; rfl) (by decide) ?_
    refine lv_bipush (v := 8) hx hb dX7_widthOf_53 (by decide) ?_
    obtain ⟨h8, h9⟩ := ret_some hf
    rw [h8, h9]
    exact W.iret (v := 8) hx hb hr (fun t ht hW => ⟨⟨8, (), rfl, rfl, by rw [ht]; exact hP, va_K.moved hW.alike hK, hD⟩, hS.F ht⟩) hS.2.2 dX7_widthOf_55
  rw [if_neg c_5] at hf
  by_cases c_6 : x0 = 6
  · skip
    rw [if_pos c_6] at hf
    refine lv_tableIn (tgt := 51) hx hb dX7_widthOf_1 (by rw [c_6]; decide) (by rw [c_6]; decide) (by rw [c_6]; rfl) (by decide) ?_
    refine lv_iconst (v := 0) hx hb dX7_widthOf_51 (by decide) ?_
    obtain ⟨h8, h9⟩ := ret_some hf
    rw [h8, h9]
    exact W.iret (v := 0) hx hb hr (fun t ht hW => ⟨⟨0, (), rfl, rfl, by rw [ht]; exact hP, va_K.moved hW.alike hK, hD⟩, hS.F ht⟩) hS.2.2 dX7_widthOf_52
  rw [if_neg c_6] at hf
  by_cases c_7 : x0 = 7
  · skip
    rw [if_pos c_7] at hf
    refine lv_tableIn (tgt := 46) hx hb dX7_widthOf_1 (by rw [c_7]; decide) (by rw [c_7]; decide) (by rw [c_7]; rfl) (by decide) ?_
    refine lv_iconst (v := 2) hx hb dX7_widthOf_46 (by decide) ?_
    obtain ⟨h8, h9⟩ := ret_some hf
    rw [h8, h9]
    exact W.iret (v := 2) hx hb hr (fun t ht hW => ⟨⟨2, (), rfl, rfl, by rw [ht]; exact hP, va_K.moved hW.alike hK, hD⟩, hS.F ht⟩) hS.2.2 dX7_widthOf_47
  rw [if_neg c_7] at hf
  refine lv_tableOut (tgt := 53) hx hb dX7_widthOf_1 (tbd_1_7 c_1 c_2 c_3 c_4 c_5 c_6 c_7) (by decide) ?_
  refine lv_bipush (v := 8) hx hb dX7_widthOf_53 (by decide) ?_
  obtain ⟨h8, h9⟩ := ret_some hf
  rw [h8, h9]
  exact W.iret (v := 8) hx hb hr (fun t ht hW => ⟨⟨8, (), rfl, rfl, by rw [ht]; exact hP, va_K.moved hW.alike hK, hD⟩, hS.F ht⟩) hS.2.2 dX7_widthOf_55

theorem md_X16_byteAt_1 : (.fieldLink RX16 43 "ResourceLedgerModel$Unit" "length" "I" : Cond) ∈ wsX16_byteAt := List.mem_of_getElem? (i := 1) rfl
theorem iwd_X16_byteAt_X16 : ∀ w ∈ wsX160, w ∈ wsX16_byteAt := fun _ h => List.mem_cons_of_mem _ (List.mem_append_right _ h)
theorem md_X16_byteAt_2 : (.fieldLink RX16 7 "ResourceLedgerModel$Unit" "bytes" "[B" : Cond) ∈ wsX16_byteAt := List.mem_of_getElem? (i := 2) rfl
set_option maxHeartbeats 4000000 in
set_option maxRecDepth 100000 in
theorem de_X16_byteAt (l : Launch) (dC : Nat → ClassId) (dI : Nat → Nat → Nat) (cy : Nat → ClassId) (a : Nat → Nat) (sh : Nat → Nat × Nat) (n sz : Nat) (F : Nat) (z : St) (h0 : Nat) (x0 : Int32) {z8 : St} {r8 : Int32} (hf : fn_X16_byteAt F sh n z h0 x0 = some (z8, r8)) : Met l yX16_byteAt wsX16_byteAt ({ frames := 0, cells := 0, slots := 0, locals := 0 }) (va_Pc [.ref (a h0), .int x0] (fun U => U.heap.size = sz ∧ va_P (dC, dI) vwCl (Wd cy a sh n z) U.heap ∧ va_K (dC, dI) vwCl (TYS cy) U ∧ va_D (fun _ => True) (Wd cy a sh n z) ∧ NK U)) (va_Qi (fun (r9 : Int32) (u : Unit) => r9 = r8) (fun u t => va_P (dC, dI) vwCl (Wd cy a sh n z8) t.heap ∧ va_K (dC, dI) vwCl (TYS cy) t ∧ va_D (va_A (Wd cy a sh n z) sz) (Wd cy a sh n z8)) (va_A (Wd cy a sh n z) sz)) 0 0 (va_A (Wd cy a sh n z) sz) := by
  refine Met.ofW (cc := cX16_byteAt) (maxL := 2) (ret := (some .int)) (by decide) rfl ?_
  intro p e s m args below meth c s₁ B hml hv
  obtain ⟨rfl, hsz, hP, hK, hD0, hN⟩ := hv
  have hx := B.exec
  have hb := B.bytes
  have hr := B.returns
  have hts := atoms_spec (ws := wsX16_byteAt) B.pre
  have hown : s.vm.findClass RX16 = some m.cls := findClass_of_methodNamed B.named
  have hlocks := B.notSynchronized
  subst hsz
  have hD := hD0.self (sz := s.heap.size)
  clear hD0
  generalize hAe : va_A (Wd cy a sh n z) s.heap.size = A at hD ⊢
  have hA : ∀ q : Nat, s.heap.size ≤ q → A q := fun q h => by rw [← hAe]; exact Or.inr h
  clear hAe
  have hS : va_S A s.heap s.heap [] := va_S.rf
  have hl := lv_entry ([.ref (a h0), .int x0]) (n := 2) (Nat.le_of_ble_eq_true rfl)
  rw [lg_entry_eq]
  generalize (lg_sl ([.ref (a h0), .int x0]) ++ List.replicate (2 - (lg_sl ([.ref (a h0), .int x0])).length) Slot.unset).toArray = ls at hl ⊢
  replace hl : lv_has ls 2 [(0, .ref (a h0)), (1, .int x0)] := hl
  unfold fn_X16_byteAt at hf
  refine de_start hS hP (fun H locs hS hP => ?_)
  refine lv_iload_n hx hb dX16_byteAt_0 rfl (lv_at hl 1 rfl) ?_
  refine lv_aload_n hx hb dX16_byteAt_1 rfl (lv_at hl 0 rfl) ?_
  obtain ⟨g_1, hf⟩ := grd_some hf
  obtain ⟨kg_1, sg_1⟩ := okO_at g_1
  refine va_get (D := (dC, dI)) (ci := 16) (v := .int (z.1 h0 1)) (C := RX16) (T := TX16) (N := 18) hx hb hts iwd_X16_byteAt_X16 hown hK hP h0 (Wd_ob kg_1 sg_1 (by decide)) rfl 1 (by decide) (hts _ md_X16_byteAt_1) (fun _ h9 => h9) (fl_at (t := 0) rfl) dX16_byteAt_2 ?_
  refine lv_icmp_ge (tgt := 21) hx hb dX16_byteAt_5 (by decide) (fun c_2 => ?_) (fun c_2 => ?_)
  · skip
    rw [if_pos c_2] at hf
    refine lv_iconst (v := 0) hx hb dX16_byteAt_21 (by decide) ?_
    obtain ⟨h8, h9⟩ := ret_some hf
    rw [h8, h9]
    exact W.iret (v := 0) hx hb hr (fun t ht hW => ⟨⟨0, (), rfl, rfl, by rw [ht]; exact hP, va_K.moved hW.alike hK, hD⟩, hS.F ht⟩) hS.2.2 dX16_byteAt_22
  · skip
    rw [if_neg c_2] at hf
    refine lv_aload_n hx hb dX16_byteAt_8 rfl (lv_at hl 0 rfl) ?_
    obtain ⟨k_3, ek_3, hf⟩ := lnk_some hf
    refine va_get (D := (dC, dI)) (ci := 16) (v := .ref (a k_3)) (C := RX16) (T := TX16) (N := 18) hx hb hts iwd_X16_byteAt_X16 hown hK hP h0 (Wd_ob kg_1 sg_1 (by decide)) rfl 0 (by decide) (hts _ md_X16_byteAt_2) (fun _ h9 => h9) (fl_q rfl ek_3) dX16_byteAt_9 ?_
    refine lv_iload_n hx hb dX16_byteAt_12 rfl (lv_at hl 1 rfl) ?_
    obtain ⟨g_4, hf⟩ := grd_some hf
    obtain ⟨kg_4, sg_4, ig_4⟩ := okA_at g_4
    refine va_bald hx hb hK hP k_3 0 (Wd_ab kg_4 sg_4) rfl ig_4 dX16_byteAt_13 ?_
    refine lv_sipush (v := 255) hx hb dX16_byteAt_14 (by decide) ?_
    refine lv_iand hx hb dX16_byteAt_17 ?_
    refine lv_goto (tgt := 22) hx hb dX16_byteAt_18 (by decide) ?_
    obtain ⟨h8, h9⟩ := ret_some hf
    rw [h8, h9]
    exact W.iret (v := ((z.1 k_3 x0.toNatClampNeg) &&& 255)) hx hb hr (fun t ht hW => ⟨⟨((z.1 k_3 x0.toNatClampNeg) &&& 255), (), rfl, rfl, by rw [ht]; exact hP, va_K.moved hW.alike hK, hD⟩, hS.F ht⟩) hS.2.2 dX16_byteAt_22

theorem md_X17_clear_1 : (.fieldLink RX17 16 "ResourceLedgerModel$Wide" "\x72" "[I" : Cond) ∈ wsX17_clear := List.mem_of_getElem? (i := 1) rfl
theorem iwd_X17_clear_X17 : ∀ w ∈ wsX170, w ∈ wsX17_clear := fun _ h => List.mem_cons_of_mem _ (List.mem_append_right _ h)
set_option maxHeartbeats 4000000 in
set_option maxRecDepth 100000 in
theorem de_X17_clear (l : Launch) (dC : Nat → ClassId) (dI : Nat → Nat → Nat) (cy : Nat → ClassId) (a : Nat → Nat) (sh : Nat → Nat × Nat) (n sz : Nat) (F : Nat) (z : St) (h0 : Nat) {z8 : St} {r8 : Unit} (hf : fn_X17_clear F sh n z h0 = some (z8, r8)) : Met l yX17_clear wsX17_clear ({ frames := 0, cells := 0, slots := 0, locals := 0 }) (va_Pc [.ref (a h0)] (fun U => U.heap.size = sz ∧ va_P (dC, dI) vwCl (Wd cy a sh n z) U.heap ∧ va_K (dC, dI) vwCl (TYS cy) U ∧ va_D (fun _ => True) (Wd cy a sh n z) ∧ NK U)) (va_Qv (fun u : Unit => True) (fun u t => va_P (dC, dI) vwCl (Wd cy a sh n z8) t.heap ∧ va_K (dC, dI) vwCl (TYS cy) t ∧ va_D (va_A (Wd cy a sh n z) sz) (Wd cy a sh n z8)) (va_A (Wd cy a sh n z) sz)) 0 0 (va_A (Wd cy a sh n z) sz) := by
  refine Met.ofW (cc := cX17_clear) (maxL := 2) (ret := none) (by decide) rfl ?_
  intro p e s m args below meth c s₁ B hml hv
  obtain ⟨rfl, hsz, hP, hK, hD0, hN⟩ := hv
  have hx := B.exec
  have hb := B.bytes
  have hr := B.returns
  have hts := atoms_spec (ws := wsX17_clear) B.pre
  have hown : s.vm.findClass RX17 = some m.cls := findClass_of_methodNamed B.named
  have hlocks := B.notSynchronized
  subst hsz
  have hD := hD0.self (sz := s.heap.size)
  clear hD0
  generalize hAe : va_A (Wd cy a sh n z) s.heap.size = A at hD ⊢
  have hA : ∀ q : Nat, s.heap.size ≤ q → A q := fun q h => by rw [← hAe]; exact Or.inr h
  clear hAe
  have hS : va_S A s.heap s.heap [] := va_S.rf
  have hl := lv_entry ([.ref (a h0)]) (n := 2) (Nat.le_of_ble_eq_true rfl)
  rw [lg_entry_eq]
  generalize (lg_sl ([.ref (a h0)]) ++ List.replicate (2 - (lg_sl ([.ref (a h0)])).length) Slot.unset).toArray = ls at hl ⊢
  replace hl : lv_has ls 2 [(0, .ref (a h0))] := hl
  unfold fn_X17_clear at hf
  refine de_start hS hP (fun H locs hS hP => ?_)
  refine lv_iconst (v := 0) hx hb dX17_clear_0 (by decide) ?_
  refine lv_istore_n (lv' := [(1, .int 0), (0, .ref (a h0))]) hx hb dX17_clear_1 rfl hl (by decide) rfl (fun ls hl2 => ?_)
  replace hl := hl2
  clear hl2
  have hl0 : lv_has ls 2 [(1, .int 0), (0, .ref (a h0))] := lv_sub hl [0, 1] rfl
  refine de_loop (h := 2) (fun (x : St × Int32) ls H locs => lv_has ls 2 [(1, .int x.2), (0, .ref (a h0))] ∧ va_P (dC, dI) vwCl (Wd cy a sh n x.1) H ∧ va_D A (Wd cy a sh n x.1) ∧ va_S A s.heap H locs) (fun f x => fn_X17_clear_L2 F sh n h0 f x.1 x.2) (z8, r8) ?_ (fun _ => rfl) F (z, 0) ls H locs ⟨hl0, hP, hD, hS⟩ hf
  intro f_3 x ls H locs ih2 hI hf
  obtain ⟨z_2, p_1⟩ := x
  obtain ⟨hl2, hP2, hD2, hS2⟩ := hI
  replace hl : lv_has ls 2 [(1, .int p_1), (0, .ref (a h0))] := hl2
  replace hP := hP2
  replace hD := hD2
  replace hS := hS2
  clear hl2 hP2 hD2 hS2 hl0
  replace hf := fn_X17_clear_L2_s hf
  refine lv_iload_n hx hb dX17_clear_2 rfl (lv_at hl 0 rfl) ?_
  refine lv_bipush (v := 33) hx hb dX17_clear_3 (by decide) ?_
  refine lv_icmp_ge (tgt := 21) hx hb dX17_clear_5 (by decide) (fun c_4 => ?_) (fun c_4 => ?_)
  · skip
    rw [if_pos c_4] at hf
    obtain ⟨h8, h9⟩ := ret_some hf
    rw [h8]
    exact W.vret hx hb hr (fun t ht hW => ⟨⟨(), rfl, trivial, by rw [ht]; exact hP, va_K.moved hW.alike hK, hD⟩, hS.F ht⟩) hS.2.2 dX17_clear_21
  · skip
    rw [if_neg c_4] at hf
    refine lv_aload_n hx hb dX17_clear_8 rfl (lv_at hl 1 rfl) ?_
    obtain ⟨g_5, hf⟩ := grd_some hf
    obtain ⟨kg_5, sg_5⟩ := okO_at g_5
    obtain ⟨k_6, ek_6, hf⟩ := lnk_some hf
    refine va_get (D := (dC, dI)) (ci := 17) (v := .ref (a k_6)) (C := RX17) (T := TX17) (N := 5) hx hb hts iwd_X17_clear_X17 hown hK hP h0 (Wd_ob kg_5 sg_5 (by decide)) rfl 2 (by decide) (hts _ md_X17_clear_1) (fun _ h9 => h9) (fl_q rfl ek_6) dX17_clear_9 ?_
    refine lv_iload_n hx hb dX17_clear_12 rfl (lv_at hl 0 rfl) ?_
    refine lv_iconst (v := 0) hx hb dX17_clear_13 (by decide) ?_
    obtain ⟨g_7, hf⟩ := grd_some hf
    obtain ⟨kg_7, sg_7, ig_7⟩ := okA_at g_7
    refine va_iast hx hb hK hP hD hS k_6 1 (Wd_ai kg_7 sg_7) rfl ig_7 dX17_clear_14 (fun H_8 locs hP2 hD2 hS2 => ?_)
    rw [Wd_ti sg_7] at hP2 hD2
    obtain ⟨z_9, ez_9⟩ : ∃ w, w = si z_2 k_6 p_1.toNatClampNeg 0 := ⟨_, rfl⟩
    rw [← ez_9] at hP2 hD2
    replace hf := lt_at ez_9 hf
    clear ez_9
    replace hP := hP2
    replace hD := hD2
    replace hS := hS2
    clear hP2 hD2 hS2
    refine lv_iinc (v := (p_1 + 1)) (lv' := [(1, .int (p_1 + 1)), (0, .ref (a h0))]) hx hb dX17_clear_15 hl (k := 0) rfl rfl (by decide) rfl (fun ls hl2 => ?_)
    replace hl := hl2
    clear hl2
    refine lv_goto (tgt := 2) hx hb dX17_clear_18 (by decide) ?_
    exact ih2 (z_9, (p_1 + 1)) ls H_8 locs ⟨lv_sub hl [0, 1] rfl, hP, hD, hS⟩ hf

theorem md_X3_isThere_1 : (.fieldLink RX3 105 "ResourceLedger$Looker" "there" "J" : Cond) ∈ wsX3_isThere := List.mem_of_getElem? (i := 1) rfl
theorem iwd_X3_isThere_X3 : ∀ w ∈ wsX30, w ∈ wsX3_isThere := fun _ h => List.mem_cons_of_mem _ (List.mem_append_right _ h)
set_option maxHeartbeats 4000000 in
set_option maxRecDepth 100000 in
theorem de_X3_isThere (l : Launch) (dC : Nat → ClassId) (dI : Nat → Nat → Nat) (cy : Nat → ClassId) (a : Nat → Nat) (sh : Nat → Nat × Nat) (n sz : Nat) (F : Nat) (z : St) (h0 : Nat) (x0 : Int32) {z8 : St} {r8 : Int32} (hf : fn_X3_isThere F sh n z h0 x0 = some (z8, r8)) : Met l yX3_isThere wsX3_isThere ({ frames := 0, cells := 0, slots := 0, locals := 0 }) (va_Pc [.ref (a h0), .int x0] (fun U => U.heap.size = sz ∧ va_P (dC, dI) vwCl (Wd cy a sh n z) U.heap ∧ va_K (dC, dI) vwCl (TYS cy) U ∧ va_D (fun _ => True) (Wd cy a sh n z) ∧ NK U)) (va_Qi (fun (r9 : Int32) (u : Unit) => r9 = r8) (fun u t => va_P (dC, dI) vwCl (Wd cy a sh n z8) t.heap ∧ va_K (dC, dI) vwCl (TYS cy) t ∧ va_D (va_A (Wd cy a sh n z) sz) (Wd cy a sh n z8)) (va_A (Wd cy a sh n z) sz)) 0 0 (va_A (Wd cy a sh n z) sz) := by
  refine Met.ofW (cc := cX3_isThere) (maxL := 2) (ret := (some .boolean)) (by decide) rfl ?_
  intro p e s m args below meth c s₁ B hml hv
  obtain ⟨rfl, hsz, hP, hK, hD0, hN⟩ := hv
  have hx := B.exec
  have hb := B.bytes
  have hr := B.returns
  have hts := atoms_spec (ws := wsX3_isThere) B.pre
  have hown : s.vm.findClass RX3 = some m.cls := findClass_of_methodNamed B.named
  have hlocks := B.notSynchronized
  subst hsz
  have hD := hD0.self (sz := s.heap.size)
  clear hD0
  generalize hAe : va_A (Wd cy a sh n z) s.heap.size = A at hD ⊢
  have hA : ∀ q : Nat, s.heap.size ≤ q → A q := fun q h => by rw [← hAe]; exact Or.inr h
  clear hAe
  have hS : va_S A s.heap s.heap [] := va_S.rf
  have hl := lv_entry ([.ref (a h0), .int x0]) (n := 2) (Nat.le_of_ble_eq_true rfl)
  rw [lg_entry_eq]
  generalize (lg_sl ([.ref (a h0), .int x0]) ++ List.replicate (2 - (lg_sl ([.ref (a h0), .int x0])).length) Slot.unset).toArray = ls at hl ⊢
  replace hl : lv_has ls 2 [(0, .ref (a h0)), (1, .int x0)] := hl
  unfold fn_X3_isThere at hf
  refine de_start hS hP (fun H locs hS hP => ?_)
  refine lv_aload_n hx hb dX3_isThere_0 rfl (lv_at hl 0 rfl) ?_
  obtain ⟨g_1, hf⟩ := grd_some hf
  obtain ⟨kg_1, sg_1⟩ := okO_at g_1
  refine va_get (D := (dC, dI)) (ci := 3) (v := .long (z.2.1 h0 12)) (C := RX3) (T := TX3) (N := 22) hx hb hts iwd_X3_isThere_X3 hown hK hP h0 (Wd_ob kg_1 sg_1 (by decide)) rfl 12 (by decide) (hts _ md_X3_isThere_1) (fun _ h9 => h9) (fl_at (t := 1) rfl) dX3_isThere_1 ?_
  refine lv_iload_n hx hb dX3_isThere_4 rfl (lv_at hl 1 rfl) ?_
  refine lv_lushr (v := (((z.2.1 h0 12) : Int64).toUInt64 >>> ((x0 : Int32).toInt64.toUInt64 &&& Int64.toUInt64 63)).toInt64) hx hb dX3_isThere_5 rfl ?_
  refine lv_lconst (v := 1) hx hb dX3_isThere_6 (by decide) ?_
  refine lv_land hx hb dX3_isThere_7 ?_
  refine lv_lconst (v := 0) hx hb dX3_isThere_8 (by decide) ?_
  refine W.lcmp hx hb dX3_isThere_9 ?_
  refine lv_if_eq (tgt := 17) hx hb dX3_isThere_10 (by decide) (fun c_2 => ?_) (fun c_2 => ?_)
  · skip
    rw [lg_cmp_eq] at c_2
    rw [if_pos c_2] at hf
    refine lv_iconst (v := 0) hx hb dX3_isThere_17 (by decide) ?_
    obtain ⟨h8, h9⟩ := ret_some hf
    rw [h8, h9]
    exact W.zret (v := 0) hx hb hr rfl (fun t ht hW => ⟨⟨0, (), rfl, rfl, by rw [ht]; exact hP, va_K.moved hW.alike hK, hD⟩, hS.F ht⟩) hS.2.2 dX3_isThere_18
  · skip
    rw [lg_cmp_eq] at c_2
    rw [if_neg c_2] at hf
    refine lv_iconst (v := 1) hx hb dX3_isThere_13 (by decide) ?_
    refine lv_goto (tgt := 18) hx hb dX3_isThere_14 (by decide) ?_
    obtain ⟨h8, h9⟩ := ret_some hf
    rw [h8, h9]
    exact W.zret (v := 1) hx hb hr rfl (fun t ht hW => ⟨⟨1, (), rfl, rfl, by rw [ht]; exact hP, va_K.moved hW.alike hK, hD⟩, hS.F ht⟩) hS.2.2 dX3_isThere_18

theorem md_X5_clear_1 : (.fieldLink RX5 36 "ResourceLedger$Program" "number" "I" : Cond) ∈ wsX5_clear := List.mem_of_getElem? (i := 1) rfl
theorem iwd_X5_clear_X5 : ∀ w ∈ wsX50, w ∈ wsX5_clear := fun _ h => List.mem_cons_of_mem _ (List.mem_append_right _ h)
theorem md_X5_clear_2 : (.fieldLink RX5 39 "ResourceLedger$Program" "typeCount" "I" : Cond) ∈ wsX5_clear := List.mem_of_getElem? (i := 2) rfl
theorem md_X5_clear_3 : (.fieldLink RX5 42 "ResourceLedger$Program" "startCount" "I" : Cond) ∈ wsX5_clear := List.mem_of_getElem? (i := 3) rfl
theorem md_X5_clear_4 : (.fieldLink RX5 45 "ResourceLedger$Program" "foreignFunctions" "I" : Cond) ∈ wsX5_clear := List.mem_of_getElem? (i := 4) rfl
set_option maxHeartbeats 4000000 in
set_option maxRecDepth 100000 in
theorem de_X5_clear (l : Launch) (dC : Nat → ClassId) (dI : Nat → Nat → Nat) (cy : Nat → ClassId) (a : Nat → Nat) (sh : Nat → Nat × Nat) (n sz : Nat) (F : Nat) (z : St) (h0 : Nat) {z8 : St} {r8 : Unit} (hf : fn_X5_clear F sh n z h0 = some (z8, r8)) : Met l yX5_clear wsX5_clear ({ frames := 0, cells := 0, slots := 0, locals := 0 }) (va_Pc [.ref (a h0)] (fun U => U.heap.size = sz ∧ va_P (dC, dI) vwCl (Wd cy a sh n z) U.heap ∧ va_K (dC, dI) vwCl (TYS cy) U ∧ va_D (fun _ => True) (Wd cy a sh n z) ∧ NK U)) (va_Qv (fun u : Unit => True) (fun u t => va_P (dC, dI) vwCl (Wd cy a sh n z8) t.heap ∧ va_K (dC, dI) vwCl (TYS cy) t ∧ va_D (va_A (Wd cy a sh n z) sz) (Wd cy a sh n z8)) (va_A (Wd cy a sh n z) sz)) 0 0 (va_A (Wd cy a sh n z) sz) := by
  refine Met.ofW (cc := cX5_clear) (maxL := 1) (ret := none) (by decide) rfl ?_
  intro p e s m args below meth c s₁ B hml hv
  obtain ⟨rfl, hsz, hP, hK, hD0, hN⟩ := hv
  have hx := B.exec
  have hb := B.bytes
  have hr := B.returns
  have hts := atoms_spec (ws := wsX5_clear) B.pre
  have hown : s.vm.findClass RX5 = some m.cls := findClass_of_methodNamed B.named
  have hlocks := B.notSynchronized
  subst hsz
  have hD := hD0.self (sz := s.heap.size)
  clear hD0
  generalize hAe : va_A (Wd cy a sh n z) s.heap.size = A at hD ⊢
  have hA : ∀ q : Nat, s.heap.size ≤ q → A q := fun q h => by rw [← hAe]; exact Or.inr h
  clear hAe
  have hS : va_S A s.heap s.heap [] := va_S.rf
  have hl := lv_entry ([.ref (a h0)]) (n := 1) (Nat.le_of_ble_eq_true rfl)
  rw [lg_entry_eq]
  generalize (lg_sl ([.ref (a h0)]) ++ List.replicate (1 - (lg_sl ([.ref (a h0)])).length) Slot.unset).toArray = ls at hl ⊢
  replace hl : lv_has ls 1 [(0, .ref (a h0))] := hl
  unfold fn_X5_clear at hf
  refine de_start hS hP (fun H locs hS hP => ?_)
  refine lv_aload_n hx hb dX5_clear_0 rfl (lv_at hl 0 rfl) ?_
  refine lv_iconst (v := 0) hx hb dX5_clear_1 (by decide) ?_
  obtain ⟨g_1, hf⟩ := grd_some hf
  obtain ⟨kg_1, sg_1⟩ := okO_at g_1
  refine va_put (D := (dC, dI)) (ci := 5) (v := .int 0) (ty := .int) (C := RX5) (T := TX5) (N := 15) hx hb hts iwd_X5_clear_X5 tyX5 tyX5_ok nmX5 hown hK hP hD hS h0 (Wd_ob kg_1 sg_1 (by decide)) rfl 2 (by decide) (hts _ md_X5_clear_1) (fun _ h9 => h9) rfl (by decide +kernel) rfl rfl (by rw [fl_len]; decide) dX5_clear_2 (fun H_2 locs hP2 hD2 hS2 => ?_)
  rw [Wd_si sg_1 (by decide) rfl] at hP2 hD2
  obtain ⟨z_3, ez_3⟩ : ∃ w, w = si z h0 2 0 := ⟨_, rfl⟩
  rw [← ez_3] at hP2 hD2
  replace hf := lt_at ez_3 hf
  clear ez_3
  replace hP := hP2
  replace hD := hD2
  replace hS := hS2
  clear hP2 hD2 hS2
  refine lv_aload_n hx hb dX5_clear_5 rfl (lv_at hl 0 rfl) ?_
  refine lv_iconst (v := 0) hx hb dX5_clear_6 (by decide) ?_
  refine va_put (D := (dC, dI)) (ci := 5) (v := .int 0) (ty := .int) (C := RX5) (T := TX5) (N := 15) hx hb hts iwd_X5_clear_X5 tyX5 tyX5_ok nmX5 hown hK hP hD hS h0 (Wd_ob kg_1 sg_1 (by decide)) rfl 4 (by decide) (hts _ md_X5_clear_2) (fun _ h9 => h9) rfl (by decide +kernel) rfl rfl (by rw [fl_len]; decide) dX5_clear_7 (fun H_4 locs hP2 hD2 hS2 => ?_)
  rw [Wd_si sg_1 (by decide) rfl] at hP2 hD2
  obtain ⟨z_5, ez_5⟩ : ∃ w, w = si z_3 h0 4 0 := ⟨_, rfl⟩
  rw [← ez_5] at hP2 hD2
  replace hf := lt_at ez_5 hf
  clear ez_5
  replace hP := hP2
  replace hD := hD2
  replace hS := hS2
  clear hP2 hD2 hS2
  refine lv_aload_n hx hb dX5_clear_10 rfl (lv_at hl 0 rfl) ?_
  refine lv_iconst (v := 0) hx hb dX5_clear_11 (by decide) ?_
  refine va_put (D := (dC, dI)) (ci := 5) (v := .int 0) (ty := .int) (C := RX5) (T := TX5) (N := 15) hx hb hts iwd_X5_clear_X5 tyX5 tyX5_ok nmX5 hown hK hP hD hS h0 (Wd_ob kg_1 sg_1 (by decide)) rfl 6 (by decide) (hts _ md_X5_clear_3) (fun _ h9 => h9) rfl (by decide +kernel) rfl rfl (by rw [fl_len]; decide) dX5_clear_12 (fun H_6 locs hP2 hD2 hS2 => ?_)
  rw [Wd_si sg_1 (by decide) rfl] at hP2 hD2
  obtain ⟨z_7, ez_7⟩ : ∃ w, w = si z_5 h0 6 0 := ⟨_, rfl⟩
  rw [← ez_7] at hP2 hD2
  replace hf := lt_at ez_7 hf
  clear ez_7
  replace hP := hP2
  replace hD := hD2
  replace hS := hS2
  clear hP2 hD2 hS2
  refine lv_aload_n hx hb dX5_clear_15 rfl (lv_at hl 0 rfl) ?_
  refine lv_iconst (v := 0) hx hb dX5_clear_16 (by decide) ?_
  refine va_put (D := (dC, dI)) (ci := 5) (v := .int 0) (ty := .int) (C := RX5) (T := TX5) (N := 15) hx hb hts iwd_X5_clear_X5 tyX5 tyX5_ok nmX5 hown hK hP hD hS h0 (Wd_ob kg_1 sg_1 (by decide)) rfl 12 (by decide) (hts _ md_X5_clear_4) (fun _ h9 => h9) rfl (by decide +kernel) rfl rfl (by rw [fl_len]; decide) dX5_clear_17 (fun H_8 locs hP2 hD2 hS2 => ?_)
  rw [Wd_si sg_1 (by decide) rfl] at hP2 hD2
  obtain ⟨z_9, ez_9⟩ : ∃ w, w = si z_7 h0 12 0 := ⟨_, rfl⟩
  rw [← ez_9] at hP2 hD2
  replace hf := lt_at ez_9 hf
  clear ez_9
  replace hP := hP2
  replace hD := hD2
  replace hS := hS2
  clear hP2 hD2 hS2
  obtain ⟨h8, h9⟩ := ret_some hf
  rw [h8]
  exact W.vret hx hb hr (fun t ht hW => ⟨⟨(), rfl, trivial, by rw [ht]; exact hP, va_K.moved hW.alike hK, hD⟩, hS.F ht⟩) hS.2.2 dX5_clear_20

theorem md_X5_typeAt_1 : (.fieldLink RX5 39 "ResourceLedger$Program" "typeCount" "I" : Cond) ∈ wsX5_typeAt := List.mem_of_getElem? (i := 1) rfl
theorem iwd_X5_typeAt_X5 : ∀ w ∈ wsX50, w ∈ wsX5_typeAt := fun _ h => List.mem_cons_of_mem _ (List.mem_append_right _ h)
theorem md_X5_typeAt_2 : (.fieldLink RX5 9 "ResourceLedger$Program" "types" "[J" : Cond) ∈ wsX5_typeAt := List.mem_of_getElem? (i := 2) rfl
set_option maxHeartbeats 4000000 in
set_option maxRecDepth 100000 in
theorem de_X5_typeAt (l : Launch) (dC : Nat → ClassId) (dI : Nat → Nat → Nat) (cy : Nat → ClassId) (a : Nat → Nat) (sh : Nat → Nat × Nat) (n sz : Nat) (F : Nat) (z : St) (h0 : Nat) (x0 : Int32) {z8 : St} {r8 : Int64} (hf : fn_X5_typeAt F sh n z h0 x0 = some (z8, r8)) : Met l yX5_typeAt wsX5_typeAt ({ frames := 0, cells := 0, slots := 0, locals := 0 }) (va_Pc [.ref (a h0), .int x0] (fun U => U.heap.size = sz ∧ va_P (dC, dI) vwCl (Wd cy a sh n z) U.heap ∧ va_K (dC, dI) vwCl (TYS cy) U ∧ va_D (fun _ => True) (Wd cy a sh n z) ∧ NK U)) (va_Ql (fun (r9 : Int64) (u : Unit) => r9 = r8) (fun u t => va_P (dC, dI) vwCl (Wd cy a sh n z8) t.heap ∧ va_K (dC, dI) vwCl (TYS cy) t ∧ va_D (va_A (Wd cy a sh n z) sz) (Wd cy a sh n z8)) (va_A (Wd cy a sh n z) sz)) 0 0 (va_A (Wd cy a sh n z) sz) := by
  refine Met.ofW (cc := cX5_typeAt) (maxL := 2) (ret := (some .long)) (by decide) rfl ?_
  intro p e s m args below meth c s₁ B hml hv
  obtain ⟨rfl, hsz, hP, hK, hD0, hN⟩ := hv
  have hx := B.exec
  have hb := B.bytes
  have hr := B.returns
  have hts := atoms_spec (ws := wsX5_typeAt) B.pre
  have hown : s.vm.findClass RX5 = some m.cls := findClass_of_methodNamed B.named
  have hlocks := B.notSynchronized
  subst hsz
  have hD := hD0.self (sz := s.heap.size)
  clear hD0
  generalize hAe : va_A (Wd cy a sh n z) s.heap.size = A at hD ⊢
  have hA : ∀ q : Nat, s.heap.size ≤ q → A q := fun q h => by rw [← hAe]; exact Or.inr h
  clear hAe
  have hS : va_S A s.heap s.heap [] := va_S.rf
  have hl := lv_entry ([.ref (a h0), .int x0]) (n := 2) (Nat.le_of_ble_eq_true rfl)
  rw [lg_entry_eq]
  generalize (lg_sl ([.ref (a h0), .int x0]) ++ List.replicate (2 - (lg_sl ([.ref (a h0), .int x0])).length) Slot.unset).toArray = ls at hl ⊢
  replace hl : lv_has ls 2 [(0, .ref (a h0)), (1, .int x0)] := hl
  unfold fn_X5_typeAt at hf
  refine de_start hS hP (fun H locs hS hP => ?_)
  refine lv_iload_n hx hb dX5_typeAt_0 rfl (lv_at hl 1 rfl) ?_
  refine lv_if_lt (tgt := 12) hx hb dX5_typeAt_1 (by decide) (fun c_1 => ?_) (fun c_1 => ?_)
  · skip
    rw [if_pos c_1] at hf
    refine lv_lconst (v := 0) hx hb dX5_typeAt_12 (by decide) ?_
    refine lv_goto (tgt := 22) hx hb dX5_typeAt_13 (by decide) ?_
    obtain ⟨h8, h9⟩ := ret_some hf
    rw [h8, h9]
    exact W.lret (v := 0) hx hb hr (fun t ht hW => ⟨⟨0, (), rfl, rfl, by rw [ht]; exact hP, va_K.moved hW.alike hK, hD⟩, hS.F ht⟩) hS.2.2 dX5_typeAt_22
  · skip
    rw [if_neg c_1] at hf
    refine lv_iload_n hx hb dX5_typeAt_4 rfl (lv_at hl 1 rfl) ?_
    refine lv_aload_n hx hb dX5_typeAt_5 rfl (lv_at hl 0 rfl) ?_
    obtain ⟨g_2, hf⟩ := grd_some hf
    obtain ⟨kg_2, sg_2⟩ := okO_at g_2
    refine va_get (D := (dC, dI)) (ci := 5) (v := .int (z.1 h0 4)) (C := RX5) (T := TX5) (N := 15) hx hb hts iwd_X5_typeAt_X5 hown hK hP h0 (Wd_ob kg_2 sg_2 (by decide)) rfl 4 (by decide) (hts _ md_X5_typeAt_1) (fun _ h9 => h9) (fl_at (t := 0) rfl) dX5_typeAt_6 ?_
    refine lv_icmp_lt (tgt := 16) hx hb dX5_typeAt_9 (by decide) (fun c_3 => ?_) (fun c_3 => ?_)
    · skip
      rw [if_pos c_3] at hf
      refine lv_aload_n hx hb dX5_typeAt_16 rfl (lv_at hl 0 rfl) ?_
      obtain ⟨k_4, ek_4, hf⟩ := lnk_some hf
      refine va_get (D := (dC, dI)) (ci := 5) (v := .ref (a k_4)) (C := RX5) (T := TX5) (N := 15) hx hb hts iwd_X5_typeAt_X5 hown hK hP h0 (Wd_ob kg_2 sg_2 (by decide)) rfl 3 (by decide) (hts _ md_X5_typeAt_2) (fun _ h9 => h9) (fl_q rfl ek_4) dX5_typeAt_17 ?_
      refine lv_iload_n hx hb dX5_typeAt_20 rfl (lv_at hl 1 rfl) ?_
      obtain ⟨g_5, hf⟩ := grd_some hf
      obtain ⟨kg_5, sg_5, ig_5⟩ := okA_at g_5
      refine va_lald hx hb hK hP k_4 2 (Wd_al kg_5 sg_5) rfl ig_5 dX5_typeAt_21 ?_
      obtain ⟨h8, h9⟩ := ret_some hf
      rw [h8, h9]
      exact W.lret (v := (z.2.1 k_4 x0.toNatClampNeg)) hx hb hr (fun t ht hW => ⟨⟨(z.2.1 k_4 x0.toNatClampNeg), (), rfl, rfl, by rw [ht]; exact hP, va_K.moved hW.alike hK, hD⟩, hS.F ht⟩) hS.2.2 dX5_typeAt_22
    · skip
      rw [if_neg c_3] at hf
      refine lv_lconst (v := 0) hx hb dX5_typeAt_12 (by decide) ?_
      refine lv_goto (tgt := 22) hx hb dX5_typeAt_13 (by decide) ?_
      obtain ⟨h8, h9⟩ := ret_some hf
      rw [h8, h9]
      exact W.lret (v := 0) hx hb hr (fun t ht hW => ⟨⟨0, (), rfl, rfl, by rw [ht]; exact hP, va_K.moved hW.alike hK, hD⟩, hS.F ht⟩) hS.2.2 dX5_typeAt_22

theorem md_X0_start_1 : (.fieldLink RX0 16 "ResourceLedger$Digest" "FIRST" "[I" : Cond) ∈ wsX0_start := List.mem_of_getElem? (i := 1) rfl
theorem md_X0_start_2 : (.fieldLink RX0 7 "ResourceLedger$Digest" "words" "[I" : Cond) ∈ wsX0_start := List.mem_of_getElem? (i := 2) rfl
theorem iwd_X0_start_X0 : ∀ w ∈ wsX00, w ∈ wsX0_start := fun _ h => List.mem_cons_of_mem _ (List.mem_append_right _ h)
theorem md_X0_start_3 : (.methodLink RX0 19 arraycopyName : Cond) ∈ wsX0_start := List.mem_of_getElem? (i := 3) rfl
theorem md_X0_start_4 : (.native arraycopyName : Cond) ∈ wsX0_start := List.mem_of_getElem? (i := 4) rfl
theorem md_X0_start_5 : (.static arraycopyName : Cond) ∈ wsX0_start := List.mem_of_getElem? (i := 5) rfl
theorem md_X0_start_6 : (.initialized "java/lang/System" : Cond) ∈ wsX0_start := List.mem_of_getElem? (i := 6) rfl
theorem md_X0_start_7 : (.fieldLink RX0 25 "ResourceLedger$Digest" "filled" "I" : Cond) ∈ wsX0_start := List.mem_of_getElem? (i := 7) rfl
theorem md_X0_start_8 : (.fieldLink RX0 29 "ResourceLedger$Digest" "total" "J" : Cond) ∈ wsX0_start := List.mem_of_getElem? (i := 8) rfl
set_option maxHeartbeats 4000000 in
set_option maxRecDepth 100000 in
theorem de_X0_start (l : Launch) (dC : Nat → ClassId) (dI : Nat → Nat → Nat) (cy : Nat → ClassId) (a : Nat → Nat) (sh : Nat → Nat × Nat) (n sz : Nat) (F : Nat) (sk : Nat → Nat) (z : St) (h0 : Nat) {z8 : St} {r8 : Unit} (hf : fn_X0_start F sh n z h0 = some (z8, r8)) : Met l yX0_start wsX0_start ({ frames := 1, cells := 0, slots := 0, locals := 40 }) (va_Pc [.ref (a h0)] (fun U => U.heap.size = sz ∧ va_P (dC, dI) vwCl (Wd cy a sh n z) U.heap ∧ va_K (dC, dI) vwCl (TYS cy) U ∧ va_D (fun _ => True) (Wd cy a sh n z) ∧ NK U ∧ SKs sk (a CBK) (va_A (Wd cy a sh n z) sz) U U.heap)) (va_Qv (fun u : Unit => True) (fun u t => va_P (dC, dI) vwCl (Wd cy a sh n z8) t.heap ∧ va_K (dC, dI) vwCl (TYS cy) t ∧ va_D (va_A (Wd cy a sh n z) sz) (Wd cy a sh n z8)) (va_A (Wd cy a sh n z) sz)) 0 0 (va_A (Wd cy a sh n z) sz) := by
  refine Met.ofW (cc := cX0_start) (maxL := 1) (ret := none) (by decide) rfl ?_
  intro p e s m args below meth c s₁ B hml hv
  obtain ⟨rfl, hsz, hP, hK, hD0, hN, hSK⟩ := hv
  have hx := B.exec
  have hb := B.bytes
  have hr := B.returns
  have hts := atoms_spec (ws := wsX0_start) B.pre
  have hown : s.vm.findClass RX0 = some m.cls := findClass_of_methodNamed B.named
  have hlocks := B.notSynchronized
  subst hsz
  have hD := hD0.self (sz := s.heap.size)
  clear hD0
  generalize hAe : va_A (Wd cy a sh n z) s.heap.size = A at hD hSK ⊢
  have hA : ∀ q : Nat, s.heap.size ≤ q → A q := fun q h => by rw [← hAe]; exact Or.inr h
  clear hAe
  have hS : va_S A s.heap s.heap [] := va_S.rf
  have hl := lv_entry ([.ref (a h0)]) (n := 1) (Nat.le_of_ble_eq_true rfl)
  rw [lg_entry_eq]
  generalize (lg_sl ([.ref (a h0)]) ++ List.replicate (1 - (lg_sl ([.ref (a h0)])).length) Slot.unset).toArray = ls at hl ⊢
  replace hl : lv_has ls 1 [(0, .ref (a h0))] := hl
  unfold fn_X0_start at hf
  refine de_start hS hP (fun H locs hS hP => ?_)
  refine va_gets hx hb hSK.2.1.1 hS hown (hts _ md_X0_start_1) (fun _ h => h) dX0_start_0 ?_
  refine lv_iconst (v := 0) hx hb dX0_start_3 (by decide) ?_
  refine lv_aload_n hx hb dX0_start_4 rfl (lv_at hl 0 rfl) ?_
  obtain ⟨g_1, hf⟩ := grd_some hf
  obtain ⟨kg_1, sg_1⟩ := okO_at g_1
  obtain ⟨k_2, ek_2, hf⟩ := lnk_some hf
  refine va_get (D := (dC, dI)) (ci := 0) (v := .ref (a k_2)) (C := RX0) (T := TX0) (N := 4) hx hb hts iwd_X0_start_X0 hown hK hP h0 (Wd_ob kg_1 sg_1 (by decide)) rfl 0 (by decide) (hts _ md_X0_start_2) (fun _ h9 => h9) (fl_q rfl ek_2) dX0_start_5 ?_
  refine lv_iconst (v := 0) hx hb dX0_start_8 (by decide) ?_
  refine lv_bipush (v := 8) hx hb dX0_start_9 (by decide) ?_
  obtain ⟨g_3, hf⟩ := grd_some hf
  obtain ⟨kg_3, sg_3⟩ := okO_at g_3
  obtain ⟨g_4, hf⟩ := grd_some hf
  obtain ⟨ag_4, bg_4, cg_4, dg_4, eg_4⟩ := okC_at g_4
  refine de_copyt hx hb (hml.trans hl.1.symm) hown (hts _ md_X0_start_3) (hts _ md_X0_start_4) (hts _ md_X0_start_5) (hts _ md_X0_start_6) hK hP hD hS hSK.2.1.2 k_2 1 (Wd_ai kg_3 sg_3) rfl ag_4 bg_4 cg_4 dg_4 eg_4 (Nat.le_of_ble_eq_true rfl) (Nat.le_of_ble_eq_true rfl) dX0_start_11 (fun H_5 locs hP2 hD2 hS2 => ?_)
  rw [Wd_sc sg_3] at hP2 hD2
  obtain ⟨z_6, ez_6⟩ : ∃ w, w = sc z k_2 fs_FIRST (0 : Int32).toNatClampNeg (0 : Int32).toNatClampNeg (8 : Int32).toNatClampNeg := ⟨_, rfl⟩
  rw [← ez_6] at hP2 hD2
  replace hf := lt_at ez_6 hf
  clear ez_6
  replace hP := hP2
  replace hD := hD2
  replace hS := hS2
  clear hP2 hD2 hS2
  refine lv_aload_n hx hb dX0_start_14 rfl (lv_at hl 0 rfl) ?_
  refine lv_iconst (v := 0) hx hb dX0_start_15 (by decide) ?_
  refine va_put (D := (dC, dI)) (ci := 0) (v := .int 0) (ty := .int) (C := RX0) (T := TX0) (N := 4) hx hb hts iwd_X0_start_X0 tyX0 tyX0_ok nmX0 hown hK hP hD hS h0 (Wd_ob kg_1 sg_1 (by decide)) rfl 2 (by decide) (hts _ md_X0_start_7) (fun _ h9 => h9) rfl (by decide +kernel) rfl rfl (by rw [fl_len]; decide) dX0_start_16 (fun H_7 locs hP2 hD2 hS2 => ?_)
  rw [Wd_si sg_1 (by decide) rfl] at hP2 hD2
  obtain ⟨z_8, ez_8⟩ : ∃ w, w = si z_6 h0 2 0 := ⟨_, rfl⟩
  rw [← ez_8] at hP2 hD2
  replace hf := lt_at ez_8 hf
  clear ez_8
  replace hP := hP2
  replace hD := hD2
  replace hS := hS2
  clear hP2 hD2 hS2
  refine lv_aload_n hx hb dX0_start_19 rfl (lv_at hl 0 rfl) ?_
  refine lv_lconst (v := 0) hx hb dX0_start_20 (by decide) ?_
  refine va_put (D := (dC, dI)) (ci := 0) (v := .long 0) (ty := .long) (C := RX0) (T := TX0) (N := 4) hx hb hts iwd_X0_start_X0 tyX0 tyX0_ok nmX0 hown hK hP hD hS h0 (Wd_ob kg_1 sg_1 (by decide)) rfl 3 (by decide) (hts _ md_X0_start_8) (fun _ h9 => h9) rfl (by decide +kernel) rfl rfl (by rw [fl_len]; decide) dX0_start_21 (fun H_9 locs hP2 hD2 hS2 => ?_)
  rw [Wd_sl sg_1 (by decide) rfl] at hP2 hD2
  obtain ⟨z_10, ez_10⟩ : ∃ w, w = sl z_8 h0 3 0 := ⟨_, rfl⟩
  rw [← ez_10] at hP2 hD2
  replace hf := lt_at ez_10 hf
  clear ez_10
  replace hP := hP2
  replace hD := hD2
  replace hS := hS2
  clear hP2 hD2 hS2
  obtain ⟨h8, h9⟩ := ret_some hf
  rw [h8]
  exact W.vret hx hb hr (fun t ht hW => ⟨⟨(), rfl, trivial, by rw [ht]; exact hP, va_K.moved hW.alike hK, hD⟩, hS.F ht⟩) hS.2.2 dX0_start_24

theorem md_X11_code_1 : (.fieldLink RX11 115 "ResourceLedger" "doneLength" "I" : Cond) ∈ wsX11_code := List.mem_of_getElem? (i := 1) rfl
theorem iwd_X11_code_X11 : ∀ w ∈ wsX110, w ∈ wsX11_code := fun _ h => List.mem_cons_of_mem _ (List.mem_append_left _ (List.mem_append_right _ h))
theorem md_X11_code_2 : (.fieldLink RX11 15 "ResourceLedger" "block" "[LResourceLedger$Transaction;" : Cond) ∈ wsX11_code := List.mem_of_getElem? (i := 2) rfl
theorem md_X11_code_3 : (.fieldLink RX11 248 "ResourceLedger$Transaction" "code" "J" : Cond) ∈ wsX11_code := List.mem_of_getElem? (i := 3) rfl
theorem iwd_X11_code_X8 : ∀ w ∈ wsX80, w ∈ wsX11_code := fun _ h => List.mem_cons_of_mem _ (List.mem_append_right _ h)
set_option maxHeartbeats 4000000 in
set_option maxRecDepth 100000 in
theorem de_X11_code (l : Launch) (dC : Nat → ClassId) (dI : Nat → Nat → Nat) (cy : Nat → ClassId) (a : Nat → Nat) (sh : Nat → Nat × Nat) (n sz : Nat) (F : Nat) (z : St) (h0 : Nat) (x0 : Int32) {z8 : St} {r8 : Int64} (hf : fn_X11_code F sh n z h0 x0 = some (z8, r8)) : Met l yX11_code wsX11_code ({ frames := 0, cells := 0, slots := 0, locals := 0 }) (va_Pc [.ref (a h0), .int x0] (fun U => U.heap.size = sz ∧ va_P (dC, dI) vwCl (Wd cy a sh n z) U.heap ∧ va_K (dC, dI) vwCl (TYS cy) U ∧ va_D (fun _ => True) (Wd cy a sh n z) ∧ NK U)) (va_Ql (fun (r9 : Int64) (u : Unit) => r9 = r8) (fun u t => va_P (dC, dI) vwCl (Wd cy a sh n z8) t.heap ∧ va_K (dC, dI) vwCl (TYS cy) t ∧ va_D (va_A (Wd cy a sh n z) sz) (Wd cy a sh n z8)) (va_A (Wd cy a sh n z) sz)) 0 0 (va_A (Wd cy a sh n z) sz) := by
  refine Met.ofW (cc := cX11_code) (maxL := 2) (ret := (some .long)) (by decide) rfl ?_
  intro p e s m args below meth c s₁ B hml hv
  obtain ⟨rfl, hsz, hP, hK, hD0, hN⟩ := hv
  have hx := B.exec
  have hb := B.bytes
  have hr := B.returns
  have hts := atoms_spec (ws := wsX11_code) B.pre
  have hown : s.vm.findClass RX11 = some m.cls := findClass_of_methodNamed B.named
  have hlocks := B.notSynchronized
  subst hsz
  have hD := hD0.self (sz := s.heap.size)
  clear hD0
  generalize hAe : va_A (Wd cy a sh n z) s.heap.size = A at hD ⊢
  have hA : ∀ q : Nat, s.heap.size ≤ q → A q := fun q h => by rw [← hAe]; exact Or.inr h
  clear hAe
  have hS : va_S A s.heap s.heap [] := va_S.rf
  have hl := lv_entry ([.ref (a h0), .int x0]) (n := 2) (Nat.le_of_ble_eq_true rfl)
  rw [lg_entry_eq]
  generalize (lg_sl ([.ref (a h0), .int x0]) ++ List.replicate (2 - (lg_sl ([.ref (a h0), .int x0])).length) Slot.unset).toArray = ls at hl ⊢
  replace hl : lv_has ls 2 [(0, .ref (a h0)), (1, .int x0)] := hl
  unfold fn_X11_code at hf
  refine de_start hS hP (fun H locs hS hP => ?_)
  refine lv_iload_n hx hb dX11_code_0 rfl (lv_at hl 1 rfl) ?_
  refine lv_if_lt (tgt := 12) hx hb dX11_code_1 (by decide) (fun c_1 => ?_) (fun c_1 => ?_)
  · skip
    rw [if_pos c_1] at hf
    refine lv_lconst (v := 0) hx hb dX11_code_12 (by decide) ?_
    refine lv_goto (tgt := 25) hx hb dX11_code_13 (by decide) ?_
    obtain ⟨h8, h9⟩ := ret_some hf
    rw [h8, h9]
    exact W.lret (v := 0) hx hb hr (fun t ht hW => ⟨⟨0, (), rfl, rfl, by rw [ht]; exact hP, va_K.moved hW.alike hK, hD⟩, hS.F ht⟩) hS.2.2 dX11_code_25
  · skip
    rw [if_neg c_1] at hf
    refine lv_iload_n hx hb dX11_code_4 rfl (lv_at hl 1 rfl) ?_
    refine lv_aload_n hx hb dX11_code_5 rfl (lv_at hl 0 rfl) ?_
    obtain ⟨g_2, hf⟩ := grd_some hf
    obtain ⟨kg_2, sg_2⟩ := okO_at g_2
    refine va_get (D := (dC, dI)) (ci := 11) (v := .int (z.1 h0 5)) (C := RX11) (T := TX11) (N := 13) hx hb hts iwd_X11_code_X11 hown hK hP h0 (Wd_ob kg_2 sg_2 (by decide)) rfl 5 (by decide) (hts _ md_X11_code_1) (fun _ h9 => h9) (fl_at (t := 0) rfl) dX11_code_6 ?_
    refine lv_icmp_lt (tgt := 16) hx hb dX11_code_9 (by decide) (fun c_3 => ?_) (fun c_3 => ?_)
    · skip
      rw [if_pos c_3] at hf
      refine lv_aload_n hx hb dX11_code_16 rfl (lv_at hl 0 rfl) ?_
      obtain ⟨k_4, ek_4, hf⟩ := lnk_some hf
      refine va_get (D := (dC, dI)) (ci := 11) (v := .ref (a k_4)) (C := RX11) (T := TX11) (N := 13) hx hb hts iwd_X11_code_X11 hown hK hP h0 (Wd_ob kg_2 sg_2 (by decide)) rfl 3 (by decide) (hts _ md_X11_code_2) (fun _ h9 => h9) (fl_q rfl ek_4) dX11_code_17 ?_
      refine lv_iload_n hx hb dX11_code_20 rfl (lv_at hl 1 rfl) ?_
      obtain ⟨g_5, hf⟩ := grd_some hf
      obtain ⟨kg_5, sg_5, ig_5⟩ := okA_at g_5
      obtain ⟨k_6, ek_6, hf⟩ := lnk_some hf
      refine va_aldq (C := RX8) hx hb hK hP k_4 5 (Wd_aq kg_5 sg_5 (by decide)) rfl ig_5 dX11_code_21 ?_
      refine W.eq (g2 := F0 m 22 ls [.ref (a k_6)]) (by rw [ek_6]; rfl) ?_
      obtain ⟨g_7, hf⟩ := grd_some hf
      obtain ⟨kg_7, sg_7⟩ := okO_at g_7
      refine va_get (D := (dC, dI)) (ci := 8) (v := .long (z.2.1 k_6 12)) (C := RX8) (T := TX8) (N := 19) hx hb hts iwd_X11_code_X8 hown hK hP k_6 (Wd_ob kg_7 sg_7 (by decide)) rfl 12 (by decide) (hts _ md_X11_code_3) (fun _ h9 => h9) (fl_at (t := 1) rfl) dX11_code_22 ?_
      obtain ⟨h8, h9⟩ := ret_some hf
      rw [h8, h9]
      exact W.lret (v := (z.2.1 k_6 12)) hx hb hr (fun t ht hW => ⟨⟨(z.2.1 k_6 12), (), rfl, rfl, by rw [ht]; exact hP, va_K.moved hW.alike hK, hD⟩, hS.F ht⟩) hS.2.2 dX11_code_25
    · skip
      rw [if_neg c_3] at hf
      refine lv_lconst (v := 0) hx hb dX11_code_12 (by decide) ?_
      refine lv_goto (tgt := 25) hx hb dX11_code_13 (by decide) ?_
      obtain ⟨h8, h9⟩ := ret_some hf
      rw [h8, h9]
      exact W.lret (v := 0) hx hb hr (fun t ht hW => ⟨⟨0, (), rfl, rfl, by rw [ht]; exact hP, va_K.moved hW.alike hK, hD⟩, hS.F ht⟩) hS.2.2 dX11_code_25

theorem md_X12_add_1 : (.fieldLink RX12 7 "ResourceLedgerModel$Digester" "message" "[B" : Cond) ∈ wsX12_add := List.mem_of_getElem? (i := 1) rfl
theorem iwd_X12_add_X12 : ∀ w ∈ wsX120, w ∈ wsX12_add := fun _ h => List.mem_cons_of_mem _ (List.mem_append_right _ h)
theorem md_X12_add_2 : (.fieldLink RX12 20 "ResourceLedgerModel$Digester" "size" "I" : Cond) ∈ wsX12_add := List.mem_of_getElem? (i := 2) rfl
set_option maxHeartbeats 4000000 in
set_option maxRecDepth 100000 in
theorem de_X12_add (l : Launch) (dC : Nat → ClassId) (dI : Nat → Nat → Nat) (cy : Nat → ClassId) (a : Nat → Nat) (sh : Nat → Nat × Nat) (n sz : Nat) (F : Nat) (z : St) (h0 : Nat) (x0 : Int32) {z8 : St} {r8 : Unit} (hf : fn_X12_add F sh n z h0 x0 = some (z8, r8)) : Met l yX12_add wsX12_add ({ frames := 0, cells := 0, slots := 0, locals := 0 }) (va_Pc [.ref (a h0), .int x0] (fun U => U.heap.size = sz ∧ va_P (dC, dI) vwCl (Wd cy a sh n z) U.heap ∧ va_K (dC, dI) vwCl (TYS cy) U ∧ va_D (fun _ => True) (Wd cy a sh n z) ∧ NK U)) (va_Qv (fun u : Unit => True) (fun u t => va_P (dC, dI) vwCl (Wd cy a sh n z8) t.heap ∧ va_K (dC, dI) vwCl (TYS cy) t ∧ va_D (va_A (Wd cy a sh n z) sz) (Wd cy a sh n z8)) (va_A (Wd cy a sh n z) sz)) 0 0 (va_A (Wd cy a sh n z) sz) := by
  refine Met.ofW (cc := cX12_add) (maxL := 2) (ret := none) (by decide) rfl ?_
  intro p e s m args below meth c s₁ B hml hv
  obtain ⟨rfl, hsz, hP, hK, hD0, hN⟩ := hv
  have hx := B.exec
  have hb := B.bytes
  have hr := B.returns
  have hts := atoms_spec (ws := wsX12_add) B.pre
  have hown : s.vm.findClass RX12 = some m.cls := findClass_of_methodNamed B.named
  have hlocks := B.notSynchronized
  subst hsz
  have hD := hD0.self (sz := s.heap.size)
  clear hD0
  generalize hAe : va_A (Wd cy a sh n z) s.heap.size = A at hD ⊢
  have hA : ∀ q : Nat, s.heap.size ≤ q → A q := fun q h => by rw [← hAe]; exact Or.inr h
  clear hAe
  have hS : va_S A s.heap s.heap [] := va_S.rf
  have hl := lv_entry ([.ref (a h0), .int x0]) (n := 2) (Nat.le_of_ble_eq_true rfl)
  rw [lg_entry_eq]
  generalize (lg_sl ([.ref (a h0), .int x0]) ++ List.replicate (2 - (lg_sl ([.ref (a h0), .int x0])).length) Slot.unset).toArray = ls at hl ⊢
  replace hl : lv_has ls 2 [(0, .ref (a h0)), (1, .int x0)] := hl
  unfold fn_X12_add at hf
  refine de_start hS hP (fun H locs hS hP => ?_)
  refine lv_aload_n hx hb dX12_add_0 rfl (lv_at hl 0 rfl) ?_
  obtain ⟨g_1, hf⟩ := grd_some hf
  obtain ⟨kg_1, sg_1⟩ := okO_at g_1
  obtain ⟨k_2, ek_2, hf⟩ := lnk_some hf
  refine va_get (D := (dC, dI)) (ci := 12) (v := .ref (a k_2)) (C := RX12) (T := TX12) (N := 4) hx hb hts iwd_X12_add_X12 hown hK hP h0 (Wd_ob kg_1 sg_1 (by decide)) rfl 0 (by decide) (hts _ md_X12_add_1) (fun _ h9 => h9) (fl_q rfl ek_2) dX12_add_1 ?_
  refine lv_aload_n hx hb dX12_add_4 rfl (lv_at hl 0 rfl) ?_
  refine va_get (D := (dC, dI)) (ci := 12) (v := .int (z.1 h0 1)) (C := RX12) (T := TX12) (N := 4) hx hb hts iwd_X12_add_X12 hown hK hP h0 (Wd_ob kg_1 sg_1 (by decide)) rfl 1 (by decide) (hts _ md_X12_add_2) (fun _ h9 => h9) (fl_at (t := 0) rfl) dX12_add_5 ?_
  refine lv_iload_n hx hb dX12_add_8 rfl (lv_at hl 1 rfl) ?_
  refine lv_i2b (v := (x0 : Int32).toInt8.toInt32) hx hb dX12_add_9 rfl ?_
  obtain ⟨g_3, hf⟩ := grd_some hf
  obtain ⟨kg_3, sg_3, ig_3⟩ := okA_at g_3
  refine va_bast hx hb hK hP hD hS k_2 0 (Wd_ab kg_3 sg_3) rfl ig_3 dX12_add_10 (fun H_4 locs hP2 hD2 hS2 => ?_)
  rw [Wd_tb sg_3] at hP2 hD2
  obtain ⟨z_5, ez_5⟩ : ∃ w, w = si z k_2 (z.1 h0 1).toNatClampNeg (vp_nar .byte ((x0 : Int32).toInt8.toInt32)) := ⟨_, rfl⟩
  rw [← ez_5] at hP2 hD2
  replace hf := lt_at ez_5 hf
  clear ez_5
  replace hP := hP2
  replace hD := hD2
  replace hS := hS2
  clear hP2 hD2 hS2
  refine lv_aload_n hx hb dX12_add_11 rfl (lv_at hl 0 rfl) ?_
  refine lv_dup hx hb dX12_add_12 rfl ?_
  refine va_get (D := (dC, dI)) (ci := 12) (v := .int (z_5.1 h0 1)) (C := RX12) (T := TX12) (N := 4) hx hb hts iwd_X12_add_X12 hown hK hP h0 (Wd_ob kg_1 sg_1 (by decide)) rfl 1 (by decide) (hts _ md_X12_add_2) (fun _ h9 => h9) (fl_at (t := 0) rfl) dX12_add_13 ?_
  refine lv_iconst (v := 1) hx hb dX12_add_16 (by decide) ?_
  refine lv_iadd hx hb dX12_add_17 ?_
  refine va_put (D := (dC, dI)) (ci := 12) (v := .int ((z_5.1 h0 1) + 1)) (ty := .int) (C := RX12) (T := TX12) (N := 4) hx hb hts iwd_X12_add_X12 tyX12 tyX12_ok nmX12 hown hK hP hD hS h0 (Wd_ob kg_1 sg_1 (by decide)) rfl 1 (by decide) (hts _ md_X12_add_2) (fun _ h9 => h9) rfl (by decide +kernel) rfl rfl (by rw [fl_len]; decide) dX12_add_18 (fun H_6 locs hP2 hD2 hS2 => ?_)
  rw [Wd_si sg_1 (by decide) rfl] at hP2 hD2
  obtain ⟨z_7, ez_7⟩ : ∃ w, w = si z_5 h0 1 ((z_5.1 h0 1) + 1) := ⟨_, rfl⟩
  rw [← ez_7] at hP2 hD2
  replace hf := lt_at ez_7 hf
  clear ez_7
  replace hP := hP2
  replace hD := hD2
  replace hS := hS2
  clear hP2 hD2 hS2
  obtain ⟨h8, h9⟩ := ret_some hf
  rw [h8]
  exact W.vret hx hb hr (fun t ht hW => ⟨⟨(), rfl, trivial, by rw [ht]; exact hP, va_K.moved hW.alike hK, hD⟩, hS.F ht⟩) hS.2.2 dX12_add_21

set_option maxHeartbeats 4000000 in
set_option maxRecDepth 100000 in
theorem de_X5_headShift (l : Launch) (dC : Nat → ClassId) (dI : Nat → Nat → Nat) (cy : Nat → ClassId) (a : Nat → Nat) (sh : Nat → Nat × Nat) (n sz : Nat) (F : Nat) (z : St) (x0 : Int64) {z8 : St} {r8 : Int32} (hf : fn_X5_headShift F sh n z x0 = some (z8, r8)) : Met l yX5_headShift wsX5_headShift ({ frames := 0, cells := 0, slots := 0, locals := 0 }) (va_Pc [.long x0] (fun U => U.heap.size = sz ∧ va_P (dC, dI) vwCl (Wd cy a sh n z) U.heap ∧ va_K (dC, dI) vwCl (TYS cy) U ∧ va_D (fun _ => True) (Wd cy a sh n z) ∧ NK U)) (va_Qi (fun (r9 : Int32) (u : Unit) => r9 = r8) (fun u t => va_P (dC, dI) vwCl (Wd cy a sh n z8) t.heap ∧ va_K (dC, dI) vwCl (TYS cy) t ∧ va_D (va_A (Wd cy a sh n z) sz) (Wd cy a sh n z8)) (va_A (Wd cy a sh n z) sz)) 0 0 (va_A (Wd cy a sh n z) sz) := by
  refine Met.ofW (cc := cX5_headShift) (maxL := 3) (ret := (some .int)) (by decide) rfl ?_
  intro p e s m args below meth c s₁ B hml hv
  obtain ⟨rfl, hsz, hP, hK, hD0, hN⟩ := hv
  have hx := B.exec
  have hb := B.bytes
  have hr := B.returns
  have hts := atoms_spec (ws := wsX5_headShift) B.pre
  have hown : s.vm.findClass RX5 = some m.cls := findClass_of_methodNamed B.named
  have hlocks := B.notSynchronized
  subst hsz
  have hD := hD0.self (sz := s.heap.size)
  clear hD0
  generalize hAe : va_A (Wd cy a sh n z) s.heap.size = A at hD ⊢
  have hA : ∀ q : Nat, s.heap.size ≤ q → A q := fun q h => by rw [← hAe]; exact Or.inr h
  clear hAe
  have hS : va_S A s.heap s.heap [] := va_S.rf
  have hl := lv_entry ([.long x0]) (n := 3) (Nat.le_of_ble_eq_true rfl)
  rw [lg_entry_eq]
  generalize (lg_sl ([.long x0]) ++ List.replicate (3 - (lg_sl ([.long x0])).length) Slot.unset).toArray = ls at hl ⊢
  replace hl : lv_has ls 3 [(0, .long x0)] := hl
  unfold fn_X5_headShift at hf
  refine de_start hS hP (fun H locs hS hP => ?_)
  refine lv_bipush (v := 56) hx hb dX5_headShift_0 (by decide) ?_
  refine lv_istore_n (lv' := [(2, .int 56), (0, .long x0)]) hx hb dX5_headShift_2 rfl hl (by decide) rfl (fun ls hl2 => ?_)
  replace hl := hl2
  clear hl2
  have hl0 : lv_has ls 3 [(2, .int 56), (0, .long x0)] := lv_sub hl [0, 1] rfl
  refine de_loop (h := 3) (fun (x : St × Int32) ls H locs => lv_has ls 3 [(2, .int x.2), (0, .long x0)] ∧ va_P (dC, dI) vwCl (Wd cy a sh n x.1) H ∧ va_D A (Wd cy a sh n x.1) ∧ va_S A s.heap H locs) (fun f x => fn_X5_headShift_L3 F sh n x0 f x.1 x.2) (z8, r8) ?_ (fun _ => rfl) F (z, 56) ls H locs ⟨hl0, hP, hD, hS⟩ hf
  intro f_3 x ls H locs ih3 hI hf
  obtain ⟨z_2, p_1⟩ := x
  obtain ⟨hl2, hP2, hD2, hS2⟩ := hI
  replace hl : lv_has ls 3 [(2, .int p_1), (0, .long x0)] := hl2
  replace hP := hP2
  replace hD := hD2
  replace hS := hS2
  clear hl2 hP2 hD2 hS2 hl0
  replace hf := fn_X5_headShift_L3_s hf
  refine lv_iload_n hx hb dX5_headShift_3 rfl (lv_at hl 0 rfl) ?_
  refine lv_if_le (tgt := 21) hx hb dX5_headShift_4 (by decide) (fun c_4 => ?_) (fun c_4 => ?_)
  · skip
    rw [if_pos c_4] at hf
    refine lv_iload_n hx hb dX5_headShift_21 rfl (lv_at hl 0 rfl) ?_
    obtain ⟨h8, h9⟩ := ret_some hf
    rw [h8, h9]
    exact W.iret (v := p_1) hx hb hr (fun t ht hW => ⟨⟨p_1, (), rfl, rfl, by rw [ht]; exact hP, va_K.moved hW.alike hK, hD⟩, hS.F ht⟩) hS.2.2 dX5_headShift_22
  · skip
    rw [if_neg c_4] at hf
    refine lv_lload_n hx hb dX5_headShift_7 rfl (lv_at hl 1 rfl) ?_
    refine lv_iload_n hx hb dX5_headShift_8 rfl (lv_at hl 0 rfl) ?_
    refine lv_lushr (v := ((x0 : Int64).toUInt64 >>> ((p_1 : Int32).toInt64.toUInt64 &&& Int64.toUInt64 63)).toInt64) hx hb dX5_headShift_9 rfl ?_
    refine lv_lconst (v := 0) hx hb dX5_headShift_10 (by decide) ?_
    refine W.lcmp hx hb dX5_headShift_11 ?_
    refine lv_if_ne (tgt := 21) hx hb dX5_headShift_12 (by decide) (fun c_5 => ?_) (fun c_5 => ?_)
    · skip
      rw [lg_cmp_eq] at c_5
      rw [if_neg c_5] at hf
      refine lv_iload_n hx hb dX5_headShift_21 rfl (lv_at hl 0 rfl) ?_
      obtain ⟨h8, h9⟩ := ret_some hf
      rw [h8, h9]
      exact W.iret (v := p_1) hx hb hr (fun t ht hW => ⟨⟨p_1, (), rfl, rfl, by rw [ht]; exact hP, va_K.moved hW.alike hK, hD⟩, hS.F ht⟩) hS.2.2 dX5_headShift_22
    · skip
      rw [lg_cmp_eq] at c_5
      rw [if_pos c_5] at hf
      refine lv_iinc (v := (p_1 + (-8))) (lv' := [(2, .int (p_1 + (-8))), (0, .long x0)]) hx hb dX5_headShift_15 hl (k := 0) rfl rfl (by decide) rfl (fun ls hl2 => ?_)
      replace hl := hl2
      clear hl2
      refine lv_goto (tgt := 3) hx hb dX5_headShift_18 (by decide) ?_
      exact ih3 (z_2, (p_1 + (-8))) ls H locs ⟨lv_sub hl [0, 1] rfl, hP, hD, hS⟩ hf

theorem md_X11_byteOf_1 : (.fieldLink RX11 274 "ResourceLedger" "askedLength" "I" : Cond) ∈ wsX11_byteOf := List.mem_of_getElem? (i := 1) rfl
theorem iwd_X11_byteOf_X11 : ∀ w ∈ wsX110, w ∈ wsX11_byteOf := fun _ h => List.mem_cons_of_mem _ (List.mem_append_right _ h)
theorem md_X11_byteOf_2 : (.fieldLink RX11 47 "ResourceLedger" "asked" "[B" : Cond) ∈ wsX11_byteOf := List.mem_of_getElem? (i := 2) rfl
set_option maxHeartbeats 4000000 in
set_option maxRecDepth 100000 in
theorem de_X11_byteOf (l : Launch) (dC : Nat → ClassId) (dI : Nat → Nat → Nat) (cy : Nat → ClassId) (a : Nat → Nat) (sh : Nat → Nat × Nat) (n sz : Nat) (F : Nat) (z : St) (h0 : Nat) (x0 : Int32) {z8 : St} {r8 : Int32} (hf : fn_X11_byteOf F sh n z h0 x0 = some (z8, r8)) : Met l yX11_byteOf wsX11_byteOf ({ frames := 0, cells := 0, slots := 0, locals := 0 }) (va_Pc [.ref (a h0), .int x0] (fun U => U.heap.size = sz ∧ va_P (dC, dI) vwCl (Wd cy a sh n z) U.heap ∧ va_K (dC, dI) vwCl (TYS cy) U ∧ va_D (fun _ => True) (Wd cy a sh n z) ∧ NK U)) (va_Qi (fun (r9 : Int32) (u : Unit) => r9 = r8) (fun u t => va_P (dC, dI) vwCl (Wd cy a sh n z8) t.heap ∧ va_K (dC, dI) vwCl (TYS cy) t ∧ va_D (va_A (Wd cy a sh n z) sz) (Wd cy a sh n z8)) (va_A (Wd cy a sh n z) sz)) 0 0 (va_A (Wd cy a sh n z) sz) := by
  refine Met.ofW (cc := cX11_byteOf) (maxL := 2) (ret := (some .int)) (by decide) rfl ?_
  intro p e s m args below meth c s₁ B hml hv
  obtain ⟨rfl, hsz, hP, hK, hD0, hN⟩ := hv
  have hx := B.exec
  have hb := B.bytes
  have hr := B.returns
  have hts := atoms_spec (ws := wsX11_byteOf) B.pre
  have hown : s.vm.findClass RX11 = some m.cls := findClass_of_methodNamed B.named
  have hlocks := B.notSynchronized
  subst hsz
  have hD := hD0.self (sz := s.heap.size)
  clear hD0
  generalize hAe : va_A (Wd cy a sh n z) s.heap.size = A at hD ⊢
  have hA : ∀ q : Nat, s.heap.size ≤ q → A q := fun q h => by rw [← hAe]; exact Or.inr h
  clear hAe
  have hS : va_S A s.heap s.heap [] := va_S.rf
  have hl := lv_entry ([.ref (a h0), .int x0]) (n := 2) (Nat.le_of_ble_eq_true rfl)
  rw [lg_entry_eq]
  generalize (lg_sl ([.ref (a h0), .int x0]) ++ List.replicate (2 - (lg_sl ([.ref (a h0), .int x0])).length) Slot.unset).toArray = ls at hl ⊢
  replace hl : lv_has ls 2 [(0, .ref (a h0)), (1, .int x0)] := hl
  unfold fn_X11_byteOf at hf
  refine de_start hS hP (fun H locs hS hP => ?_)
  refine lv_iload_n hx hb dX11_byteOf_0 rfl (lv_at hl 1 rfl) ?_
  refine lv_if_lt (tgt := 12) hx hb dX11_byteOf_1 (by decide) (fun c_1 => ?_) (fun c_1 => ?_)
  · skip
    rw [if_pos c_1] at hf
    refine lv_iconst (v := (-1)) hx hb dX11_byteOf_12 (by decide) ?_
    refine lv_goto (tgt := 26) hx hb dX11_byteOf_13 (by decide) ?_
    obtain ⟨h8, h9⟩ := ret_some hf
    rw [h8, h9]
    exact W.iret (v := (-1)) hx hb hr (fun t ht hW => ⟨⟨(-1), (), rfl, rfl, by rw [ht]; exact hP, va_K.moved hW.alike hK, hD⟩, hS.F ht⟩) hS.2.2 dX11_byteOf_26
  · skip
    rw [if_neg c_1] at hf
    refine lv_iload_n hx hb dX11_byteOf_4 rfl (lv_at hl 1 rfl) ?_
    refine lv_aload_n hx hb dX11_byteOf_5 rfl (lv_at hl 0 rfl) ?_
    obtain ⟨g_2, hf⟩ := grd_some hf
    obtain ⟨kg_2, sg_2⟩ := okO_at g_2
    refine va_get (D := (dC, dI)) (ci := 11) (v := .int (z.1 h0 12)) (C := RX11) (T := TX11) (N := 13) hx hb hts iwd_X11_byteOf_X11 hown hK hP h0 (Wd_ob kg_2 sg_2 (by decide)) rfl 12 (by decide) (hts _ md_X11_byteOf_1) (fun _ h9 => h9) (fl_at (t := 0) rfl) dX11_byteOf_6 ?_
    refine lv_icmp_lt (tgt := 16) hx hb dX11_byteOf_9 (by decide) (fun c_3 => ?_) (fun c_3 => ?_)
    · skip
      rw [if_pos c_3] at hf
      refine lv_aload_n hx hb dX11_byteOf_16 rfl (lv_at hl 0 rfl) ?_
      obtain ⟨k_4, ek_4, hf⟩ := lnk_some hf
      refine va_get (D := (dC, dI)) (ci := 11) (v := .ref (a k_4)) (C := RX11) (T := TX11) (N := 13) hx hb hts iwd_X11_byteOf_X11 hown hK hP h0 (Wd_ob kg_2 sg_2 (by decide)) rfl 11 (by decide) (hts _ md_X11_byteOf_2) (fun _ h9 => h9) (fl_q rfl ek_4) dX11_byteOf_17 ?_
      refine lv_iload_n hx hb dX11_byteOf_20 rfl (lv_at hl 1 rfl) ?_
      obtain ⟨g_5, hf⟩ := grd_some hf
      obtain ⟨kg_5, sg_5, ig_5⟩ := okA_at g_5
      refine va_bald hx hb hK hP k_4 0 (Wd_ab kg_5 sg_5) rfl ig_5 dX11_byteOf_21 ?_
      refine lv_sipush (v := 255) hx hb dX11_byteOf_22 (by decide) ?_
      refine lv_iand hx hb dX11_byteOf_25 ?_
      obtain ⟨h8, h9⟩ := ret_some hf
      rw [h8, h9]
      exact W.iret (v := ((z.1 k_4 x0.toNatClampNeg) &&& 255)) hx hb hr (fun t ht hW => ⟨⟨((z.1 k_4 x0.toNatClampNeg) &&& 255), (), rfl, rfl, by rw [ht]; exact hP, va_K.moved hW.alike hK, hD⟩, hS.F ht⟩) hS.2.2 dX11_byteOf_26
    · skip
      rw [if_neg c_3] at hf
      refine lv_iconst (v := (-1)) hx hb dX11_byteOf_12 (by decide) ?_
      refine lv_goto (tgt := 26) hx hb dX11_byteOf_13 (by decide) ?_
      obtain ⟨h8, h9⟩ := ret_some hf
      rw [h8, h9]
      exact W.iret (v := (-1)) hx hb hr (fun t ht hW => ⟨⟨(-1), (), rfl, rfl, by rw [ht]; exact hP, va_K.moved hW.alike hK, hD⟩, hS.F ht⟩) hS.2.2 dX11_byteOf_26

theorem md_X18_byteOf_1 : (.fieldLink RX18 684 "ResourceLedgerModel" "shownSize" "I" : Cond) ∈ wsX18_byteOf := List.mem_of_getElem? (i := 1) rfl
theorem iwd_X18_byteOf_X18 : ∀ w ∈ wsX180, w ∈ wsX18_byteOf := fun _ h => List.mem_cons_of_mem _ (List.mem_append_right _ h)
theorem md_X18_byteOf_2 : (.fieldLink RX18 599 "ResourceLedgerModel" "shown" "[B" : Cond) ∈ wsX18_byteOf := List.mem_of_getElem? (i := 2) rfl
set_option maxHeartbeats 4000000 in
set_option maxRecDepth 100000 in
theorem de_X18_byteOf (l : Launch) (dC : Nat → ClassId) (dI : Nat → Nat → Nat) (cy : Nat → ClassId) (a : Nat → Nat) (sh : Nat → Nat × Nat) (n sz : Nat) (F : Nat) (z : St) (h0 : Nat) (x0 : Int32) {z8 : St} {r8 : Int32} (hf : fn_X18_byteOf F sh n z h0 x0 = some (z8, r8)) : Met l yX18_byteOf wsX18_byteOf ({ frames := 0, cells := 0, slots := 0, locals := 0 }) (va_Pc [.ref (a h0), .int x0] (fun U => U.heap.size = sz ∧ va_P (dC, dI) vwCl (Wd cy a sh n z) U.heap ∧ va_K (dC, dI) vwCl (TYS cy) U ∧ va_D (fun _ => True) (Wd cy a sh n z) ∧ NK U)) (va_Qi (fun (r9 : Int32) (u : Unit) => r9 = r8) (fun u t => va_P (dC, dI) vwCl (Wd cy a sh n z8) t.heap ∧ va_K (dC, dI) vwCl (TYS cy) t ∧ va_D (va_A (Wd cy a sh n z) sz) (Wd cy a sh n z8)) (va_A (Wd cy a sh n z) sz)) 0 0 (va_A (Wd cy a sh n z) sz) := by
  refine Met.ofW (cc := cX18_byteOf) (maxL := 2) (ret := (some .int)) (by decide) rfl ?_
  intro p e s m args below meth c s₁ B hml hv
  obtain ⟨rfl, hsz, hP, hK, hD0, hN⟩ := hv
  have hx := B.exec
  have hb := B.bytes
  have hr := B.returns
  have hts := atoms_spec (ws := wsX18_byteOf) B.pre
  have hown : s.vm.findClass RX18 = some m.cls := findClass_of_methodNamed B.named
  have hlocks := B.notSynchronized
  subst hsz
  have hD := hD0.self (sz := s.heap.size)
  clear hD0
  generalize hAe : va_A (Wd cy a sh n z) s.heap.size = A at hD ⊢
  have hA : ∀ q : Nat, s.heap.size ≤ q → A q := fun q h => by rw [← hAe]; exact Or.inr h
  clear hAe
  have hS : va_S A s.heap s.heap [] := va_S.rf
  have hl := lv_entry ([.ref (a h0), .int x0]) (n := 2) (Nat.le_of_ble_eq_true rfl)
  rw [lg_entry_eq]
  generalize (lg_sl ([.ref (a h0), .int x0]) ++ List.replicate (2 - (lg_sl ([.ref (a h0), .int x0])).length) Slot.unset).toArray = ls at hl ⊢
  replace hl : lv_has ls 2 [(0, .ref (a h0)), (1, .int x0)] := hl
  unfold fn_X18_byteOf at hf
  refine de_start hS hP (fun H locs hS hP => ?_)
  refine lv_iload_n hx hb dX18_byteOf_0 rfl (lv_at hl 1 rfl) ?_
  refine lv_if_lt (tgt := 25) hx hb dX18_byteOf_1 (by decide) (fun c_1 => ?_) (fun c_1 => ?_)
  · skip
    rw [if_pos c_1] at hf
    refine lv_iconst (v := (-1)) hx hb dX18_byteOf_25 (by decide) ?_
    obtain ⟨h8, h9⟩ := ret_some hf
    rw [h8, h9]
    exact W.iret (v := (-1)) hx hb hr (fun t ht hW => ⟨⟨(-1), (), rfl, rfl, by rw [ht]; exact hP, va_K.moved hW.alike hK, hD⟩, hS.F ht⟩) hS.2.2 dX18_byteOf_26
  · skip
    rw [if_neg c_1] at hf
    refine lv_iload_n hx hb dX18_byteOf_4 rfl (lv_at hl 1 rfl) ?_
    refine lv_aload_n hx hb dX18_byteOf_5 rfl (lv_at hl 0 rfl) ?_
    obtain ⟨g_2, hf⟩ := grd_some hf
    obtain ⟨kg_2, sg_2⟩ := okO_at g_2
    refine va_get (D := (dC, dI)) (ci := 18) (v := .int (z.1 h0 75)) (C := RX18) (T := TX18) (N := 78) hx hb hts iwd_X18_byteOf_X18 hown hK hP h0 (Wd_ob kg_2 sg_2 (by decide)) rfl 75 (by decide) (hts _ md_X18_byteOf_1) (fun _ h9 => h9) (fl_at (t := 0) rfl) dX18_byteOf_6 ?_
    refine lv_icmp_ge (tgt := 25) hx hb dX18_byteOf_9 (by decide) (fun c_3 => ?_) (fun c_3 => ?_)
    · skip
      rw [if_pos c_3] at hf
      refine lv_iconst (v := (-1)) hx hb dX18_byteOf_25 (by decide) ?_
      obtain ⟨h8, h9⟩ := ret_some hf
      rw [h8, h9]
      exact W.iret (v := (-1)) hx hb hr (fun t ht hW => ⟨⟨(-1), (), rfl, rfl, by rw [ht]; exact hP, va_K.moved hW.alike hK, hD⟩, hS.F ht⟩) hS.2.2 dX18_byteOf_26
    · skip
      rw [if_neg c_3] at hf
      refine lv_aload_n hx hb dX18_byteOf_12 rfl (lv_at hl 0 rfl) ?_
      obtain ⟨k_4, ek_4, hf⟩ := lnk_some hf
      refine va_get (D := (dC, dI)) (ci := 18) (v := .ref (a k_4)) (C := RX18) (T := TX18) (N := 78) hx hb hts iwd_X18_byteOf_X18 hown hK hP h0 (Wd_ob kg_2 sg_2 (by decide)) rfl 74 (by decide) (hts _ md_X18_byteOf_2) (fun _ h9 => h9) (fl_q rfl ek_4) dX18_byteOf_13 ?_
      refine lv_iload_n hx hb dX18_byteOf_16 rfl (lv_at hl 1 rfl) ?_
      obtain ⟨g_5, hf⟩ := grd_some hf
      obtain ⟨kg_5, sg_5, ig_5⟩ := okA_at g_5
      refine va_bald hx hb hK hP k_4 0 (Wd_ab kg_5 sg_5) rfl ig_5 dX18_byteOf_17 ?_
      refine lv_sipush (v := 255) hx hb dX18_byteOf_18 (by decide) ?_
      refine lv_iand hx hb dX18_byteOf_21 ?_
      refine lv_goto (tgt := 26) hx hb dX18_byteOf_22 (by decide) ?_
      obtain ⟨h8, h9⟩ := ret_some hf
      rw [h8, h9]
      exact W.iret (v := ((z.1 k_4 x0.toNatClampNeg) &&& 255)) hx hb hr (fun t ht hW => ⟨⟨((z.1 k_4 x0.toNatClampNeg) &&& 255), (), rfl, rfl, by rw [ht]; exact hP, va_K.moved hW.alike hK, hD⟩, hS.F ht⟩) hS.2.2 dX18_byteOf_26

theorem md_X5_at_1 : (.fieldLink RX5 29 "ResourceLedger$Program" "length" "I" : Cond) ∈ wsX5_at := List.mem_of_getElem? (i := 1) rfl
theorem iwd_X5_at_X5 : ∀ w ∈ wsX50, w ∈ wsX5_at := fun _ h => List.mem_cons_of_mem _ (List.mem_append_right _ h)
theorem md_X5_at_2 : (.fieldLink RX5 25 "ResourceLedger$Program" "bytes" "[B" : Cond) ∈ wsX5_at := List.mem_of_getElem? (i := 2) rfl
set_option maxHeartbeats 4000000 in
set_option maxRecDepth 100000 in
theorem de_X5_at (l : Launch) (dC : Nat → ClassId) (dI : Nat → Nat → Nat) (cy : Nat → ClassId) (a : Nat → Nat) (sh : Nat → Nat × Nat) (n sz : Nat) (F : Nat) (sk : Nat → Nat) (z : St) (h0 : Nat) (x0 : Int32) {z8 : St} {r8 : Int32} (hf : fn_X5_at F sh n z h0 x0 = some (z8, r8)) : Met l yX5_at wsX5_at ({ frames := 0, cells := 0, slots := 0, locals := 0 }) (va_Pc [.ref (a h0), .int x0] (fun U => U.heap.size = sz ∧ va_P (dC, dI) vwCl (Wd cy a sh n z) U.heap ∧ va_K (dC, dI) vwCl (TYS cy) U ∧ va_D (fun _ => True) (Wd cy a sh n z) ∧ NK U ∧ SKs sk (a CBK) (va_A (Wd cy a sh n z) sz) U U.heap)) (va_Qi (fun (r9 : Int32) (u : Unit) => r9 = r8) (fun u t => va_P (dC, dI) vwCl (Wd cy a sh n z8) t.heap ∧ va_K (dC, dI) vwCl (TYS cy) t ∧ va_D (va_A (Wd cy a sh n z) sz) (Wd cy a sh n z8)) (va_A (Wd cy a sh n z) sz)) 0 0 (va_A (Wd cy a sh n z) sz) := by
  refine Met.ofW (cc := cX5_at) (maxL := 2) (ret := (some .int)) (by decide) rfl ?_
  intro p e s m args below meth c s₁ B hml hv
  obtain ⟨rfl, hsz, hP, hK, hD0, hN, hSK⟩ := hv
  have hx := B.exec
  have hb := B.bytes
  have hr := B.returns
  have hts := atoms_spec (ws := wsX5_at) B.pre
  have hown : s.vm.findClass RX5 = some m.cls := findClass_of_methodNamed B.named
  have hlocks := B.notSynchronized
  subst hsz
  have hD := hD0.self (sz := s.heap.size)
  clear hD0
  generalize hAe : va_A (Wd cy a sh n z) s.heap.size = A at hD hSK ⊢
  have hA : ∀ q : Nat, s.heap.size ≤ q → A q := fun q h => by rw [← hAe]; exact Or.inr h
  clear hAe
  have hS : va_S A s.heap s.heap [] := va_S.rf
  have hl := lv_entry ([.ref (a h0), .int x0]) (n := 2) (Nat.le_of_ble_eq_true rfl)
  rw [lg_entry_eq]
  generalize (lg_sl ([.ref (a h0), .int x0]) ++ List.replicate (2 - (lg_sl ([.ref (a h0), .int x0])).length) Slot.unset).toArray = ls at hl ⊢
  replace hl : lv_has ls 2 [(0, .ref (a h0)), (1, .int x0)] := hl
  unfold fn_X5_at at hf
  refine de_start hS hP (fun H locs hS hP => ?_)
  refine lv_iload_n hx hb dX5_at_0 rfl (lv_at hl 1 rfl) ?_
  refine lv_if_lt (tgt := 12) hx hb dX5_at_1 (by decide) (fun c_1 => ?_) (fun c_1 => ?_)
  · skip
    rw [if_pos c_1] at hf
    refine lv_iconst (v := 0) hx hb dX5_at_12 (by decide) ?_
    refine lv_goto (tgt := 26) hx hb dX5_at_13 (by decide) ?_
    obtain ⟨h8, h9⟩ := ret_some hf
    rw [h8, h9]
    exact W.iret (v := 0) hx hb hr (fun t ht hW => ⟨⟨0, (), rfl, rfl, by rw [ht]; exact hP, va_K.moved hW.alike hK, hD⟩, hS.F ht⟩) hS.2.2 dX5_at_26
  · skip
    rw [if_neg c_1] at hf
    refine lv_iload_n hx hb dX5_at_4 rfl (lv_at hl 1 rfl) ?_
    refine lv_aload_n hx hb dX5_at_5 rfl (lv_at hl 0 rfl) ?_
    obtain ⟨g_2, hf⟩ := grd_some hf
    obtain ⟨kg_2, sg_2⟩ := okO_at g_2
    refine va_get (D := (dC, dI)) (ci := 5) (v := .int (z.1 h0 1)) (C := RX5) (T := TX5) (N := 15) hx hb hts iwd_X5_at_X5 hown hK hP h0 (Wd_ob kg_2 sg_2 (by decide)) rfl 1 (by decide) (hts _ md_X5_at_1) (fun _ h9 => h9) (fl_at (t := 0) rfl) dX5_at_6 ?_
    refine lv_icmp_lt (tgt := 16) hx hb dX5_at_9 (by decide) (fun c_3 => ?_) (fun c_3 => ?_)
    · skip
      rw [if_pos c_3] at hf
      refine lv_aload_n hx hb dX5_at_16 rfl (lv_at hl 0 rfl) ?_
      obtain ⟨k_4, ek_4, hf⟩ := lnk_some hf
      refine va_get (D := (dC, dI)) (ci := 5) (v := .ref (a k_4)) (C := RX5) (T := TX5) (N := 15) hx hb hts iwd_X5_at_X5 hown hK hP h0 (Wd_ob kg_2 sg_2 (by decide)) rfl 0 (by decide) (hts _ md_X5_at_2) (fun _ h9 => h9) (fl_q rfl ek_4) dX5_at_17 ?_
      refine lv_iload_n hx hb dX5_at_20 rfl (lv_at hl 1 rfl) ?_
      obtain ⟨v_5, ev_5, hf⟩ := bnd_some hf
      refine de_rb hx hb hK hP hS hSK ev_5 dX5_at_21 ?_
      refine lv_sipush (v := 255) hx hb dX5_at_22 (by decide) ?_
      refine lv_iand hx hb dX5_at_25 ?_
      obtain ⟨h8, h9⟩ := ret_some hf
      rw [h8, h9]
      exact W.iret (v := (v_5 &&& 255)) hx hb hr (fun t ht hW => ⟨⟨(v_5 &&& 255), (), rfl, rfl, by rw [ht]; exact hP, va_K.moved hW.alike hK, hD⟩, hS.F ht⟩) hS.2.2 dX5_at_26
    · skip
      rw [if_neg c_3] at hf
      refine lv_iconst (v := 0) hx hb dX5_at_12 (by decide) ?_
      refine lv_goto (tgt := 26) hx hb dX5_at_13 (by decide) ?_
      obtain ⟨h8, h9⟩ := ret_some hf
      rw [h8, h9]
      exact W.iret (v := 0) hx hb hr (fun t ht hW => ⟨⟨0, (), rfl, rfl, by rw [ht]; exact hP, va_K.moved hW.alike hK, hD⟩, hS.F ht⟩) hS.2.2 dX5_at_26

theorem md_X5_setFunction_1 : (.fieldLink RX5 22 "ResourceLedger$Program" "functionRows" "[I" : Cond) ∈ wsX5_setFunction := List.mem_of_getElem? (i := 1) rfl
theorem iwd_X5_setFunction_X5 : ∀ w ∈ wsX50, w ∈ wsX5_setFunction := fun _ h => List.mem_cons_of_mem _ (List.mem_append_right _ h)
set_option maxHeartbeats 4000000 in
set_option maxRecDepth 100000 in
theorem de_X5_setFunction (l : Launch) (dC : Nat → ClassId) (dI : Nat → Nat → Nat) (cy : Nat → ClassId) (a : Nat → Nat) (sh : Nat → Nat × Nat) (n sz : Nat) (F : Nat) (z : St) (h0 : Nat) (x0 : Int32) (x1 : Int32) (x2 : Int32) {z8 : St} {r8 : Unit} (hf : fn_X5_setFunction F sh n z h0 x0 x1 x2 = some (z8, r8)) : Met l yX5_setFunction wsX5_setFunction ({ frames := 0, cells := 0, slots := 0, locals := 0 }) (va_Pc [.ref (a h0), .int x0, .int x1, .int x2] (fun U => U.heap.size = sz ∧ va_P (dC, dI) vwCl (Wd cy a sh n z) U.heap ∧ va_K (dC, dI) vwCl (TYS cy) U ∧ va_D (fun _ => True) (Wd cy a sh n z) ∧ NK U)) (va_Qv (fun u : Unit => True) (fun u t => va_P (dC, dI) vwCl (Wd cy a sh n z8) t.heap ∧ va_K (dC, dI) vwCl (TYS cy) t ∧ va_D (va_A (Wd cy a sh n z) sz) (Wd cy a sh n z8)) (va_A (Wd cy a sh n z) sz)) 0 0 (va_A (Wd cy a sh n z) sz) := by
  refine Met.ofW (cc := cX5_setFunction) (maxL := 4) (ret := none) (by decide) rfl ?_
  intro p e s m args below meth c s₁ B hml hv
  obtain ⟨rfl, hsz, hP, hK, hD0, hN⟩ := hv
  have hx := B.exec
  have hb := B.bytes
  have hr := B.returns
  have hts := atoms_spec (ws := wsX5_setFunction) B.pre
  have hown : s.vm.findClass RX5 = some m.cls := findClass_of_methodNamed B.named
  have hlocks := B.notSynchronized
  subst hsz
  have hD := hD0.self (sz := s.heap.size)
  clear hD0
  generalize hAe : va_A (Wd cy a sh n z) s.heap.size = A at hD ⊢
  have hA : ∀ q : Nat, s.heap.size ≤ q → A q := fun q h => by rw [← hAe]; exact Or.inr h
  clear hAe
  have hS : va_S A s.heap s.heap [] := va_S.rf
  have hl := lv_entry ([.ref (a h0), .int x0, .int x1, .int x2]) (n := 4) (Nat.le_of_ble_eq_true rfl)
  rw [lg_entry_eq]
  generalize (lg_sl ([.ref (a h0), .int x0, .int x1, .int x2]) ++ List.replicate (4 - (lg_sl ([.ref (a h0), .int x0, .int x1, .int x2])).length) Slot.unset).toArray = ls at hl ⊢
  replace hl : lv_has ls 4 [(0, .ref (a h0)), (1, .int x0), (2, .int x1), (3, .int x2)] := hl
  unfold fn_X5_setFunction at hf
  refine de_start hS hP (fun H locs hS hP => ?_)
  refine lv_iload_n hx hb dX5_setFunction_0 rfl (lv_at hl 1 rfl) ?_
  refine lv_if_lt (tgt := 22) hx hb dX5_setFunction_1 (by decide) (fun c_1 => ?_) (fun c_1 => ?_)
  · skip
    rw [if_pos c_1] at hf
    obtain ⟨h8, h9⟩ := ret_some hf
    rw [h8]
    exact W.vret hx hb hr (fun t ht hW => ⟨⟨(), rfl, trivial, by rw [ht]; exact hP, va_K.moved hW.alike hK, hD⟩, hS.F ht⟩) hS.2.2 dX5_setFunction_22
  · skip
    rw [if_neg c_1] at hf
    refine lv_iload_n hx hb dX5_setFunction_4 rfl (lv_at hl 1 rfl) ?_
    refine lv_bipush (v := 96) hx hb dX5_setFunction_5 (by decide) ?_
    refine lv_icmp_ge (tgt := 22) hx hb dX5_setFunction_7 (by decide) (fun c_2 => ?_) (fun c_2 => ?_)
    · skip
      rw [if_pos c_2] at hf
      obtain ⟨h8, h9⟩ := ret_some hf
      rw [h8]
      exact W.vret hx hb hr (fun t ht hW => ⟨⟨(), rfl, trivial, by rw [ht]; exact hP, va_K.moved hW.alike hK, hD⟩, hS.F ht⟩) hS.2.2 dX5_setFunction_22
    · skip
      rw [if_neg c_2] at hf
      refine lv_aload_n hx hb dX5_setFunction_10 rfl (lv_at hl 0 rfl) ?_
      obtain ⟨g_3, hf⟩ := grd_some hf
      obtain ⟨kg_3, sg_3⟩ := okO_at g_3
      obtain ⟨k_4, ek_4, hf⟩ := lnk_some hf
      refine va_get (D := (dC, dI)) (ci := 5) (v := .ref (a k_4)) (C := RX5) (T := TX5) (N := 15) hx hb hts iwd_X5_setFunction_X5 hown hK hP h0 (Wd_ob kg_3 sg_3 (by decide)) rfl 10 (by decide) (hts _ md_X5_setFunction_1) (fun _ h9 => h9) (fl_q rfl ek_4) dX5_setFunction_11 ?_
      refine lv_iload_n hx hb dX5_setFunction_14 rfl (lv_at hl 1 rfl) ?_
      refine lv_bipush (v := 9) hx hb dX5_setFunction_15 (by decide) ?_
      refine lv_imul hx hb dX5_setFunction_17 ?_
      refine lv_iload_n hx hb dX5_setFunction_18 rfl (lv_at hl 2 rfl) ?_
      refine lv_iadd hx hb dX5_setFunction_19 ?_
      refine lv_iload_n hx hb dX5_setFunction_20 rfl (lv_at hl 3 rfl) ?_
      obtain ⟨g_5, hf⟩ := grd_some hf
      obtain ⟨kg_5, sg_5, ig_5⟩ := okA_at g_5
      refine va_iast hx hb hK hP hD hS k_4 1 (Wd_ai kg_5 sg_5) rfl ig_5 dX5_setFunction_21 (fun H_6 locs hP2 hD2 hS2 => ?_)
      rw [Wd_ti sg_5] at hP2 hD2
      obtain ⟨z_7, ez_7⟩ : ∃ w, w = si z k_4 ((x0 * 9) + x1).toNatClampNeg x2 := ⟨_, rfl⟩
      rw [← ez_7] at hP2 hD2
      replace hf := lt_at ez_7 hf
      clear ez_7
      replace hP := hP2
      replace hD := hD2
      replace hS := hS2
      clear hP2 hD2 hS2
      obtain ⟨h8, h9⟩ := ret_some hf
      rw [h8]
      exact W.vret hx hb hr (fun t ht hW => ⟨⟨(), rfl, trivial, by rw [ht]; exact hP, va_K.moved hW.alike hK, hD⟩, hS.F ht⟩) hS.2.2 dX5_setFunction_22

theorem md_X5_setStructure_1 : (.fieldLink RX5 19 "ResourceLedger$Program" "structureRows" "[I" : Cond) ∈ wsX5_setStructure := List.mem_of_getElem? (i := 1) rfl
theorem iwd_X5_setStructure_X5 : ∀ w ∈ wsX50, w ∈ wsX5_setStructure := fun _ h => List.mem_cons_of_mem _ (List.mem_append_right _ h)
set_option maxHeartbeats 4000000 in
set_option maxRecDepth 100000 in
theorem de_X5_setStructure (l : Launch) (dC : Nat → ClassId) (dI : Nat → Nat → Nat) (cy : Nat → ClassId) (a : Nat → Nat) (sh : Nat → Nat × Nat) (n sz : Nat) (F : Nat) (z : St) (h0 : Nat) (x0 : Int32) (x1 : Int32) (x2 : Int32) {z8 : St} {r8 : Unit} (hf : fn_X5_setStructure F sh n z h0 x0 x1 x2 = some (z8, r8)) : Met l yX5_setStructure wsX5_setStructure ({ frames := 0, cells := 0, slots := 0, locals := 0 }) (va_Pc [.ref (a h0), .int x0, .int x1, .int x2] (fun U => U.heap.size = sz ∧ va_P (dC, dI) vwCl (Wd cy a sh n z) U.heap ∧ va_K (dC, dI) vwCl (TYS cy) U ∧ va_D (fun _ => True) (Wd cy a sh n z) ∧ NK U)) (va_Qv (fun u : Unit => True) (fun u t => va_P (dC, dI) vwCl (Wd cy a sh n z8) t.heap ∧ va_K (dC, dI) vwCl (TYS cy) t ∧ va_D (va_A (Wd cy a sh n z) sz) (Wd cy a sh n z8)) (va_A (Wd cy a sh n z) sz)) 0 0 (va_A (Wd cy a sh n z) sz) := by
  refine Met.ofW (cc := cX5_setStructure) (maxL := 4) (ret := none) (by decide) rfl ?_
  intro p e s m args below meth c s₁ B hml hv
  obtain ⟨rfl, hsz, hP, hK, hD0, hN⟩ := hv
  have hx := B.exec
  have hb := B.bytes
  have hr := B.returns
  have hts := atoms_spec (ws := wsX5_setStructure) B.pre
  have hown : s.vm.findClass RX5 = some m.cls := findClass_of_methodNamed B.named
  have hlocks := B.notSynchronized
  subst hsz
  have hD := hD0.self (sz := s.heap.size)
  clear hD0
  generalize hAe : va_A (Wd cy a sh n z) s.heap.size = A at hD ⊢
  have hA : ∀ q : Nat, s.heap.size ≤ q → A q := fun q h => by rw [← hAe]; exact Or.inr h
  clear hAe
  have hS : va_S A s.heap s.heap [] := va_S.rf
  have hl := lv_entry ([.ref (a h0), .int x0, .int x1, .int x2]) (n := 4) (Nat.le_of_ble_eq_true rfl)
  rw [lg_entry_eq]
  generalize (lg_sl ([.ref (a h0), .int x0, .int x1, .int x2]) ++ List.replicate (4 - (lg_sl ([.ref (a h0), .int x0, .int x1, .int x2])).length) Slot.unset).toArray = ls at hl ⊢
  replace hl : lv_has ls 4 [(0, .ref (a h0)), (1, .int x0), (2, .int x1), (3, .int x2)] := hl
  unfold fn_X5_setStructure at hf
  refine de_start hS hP (fun H locs hS hP => ?_)
  refine lv_iload_n hx hb dX5_setStructure_0 rfl (lv_at hl 1 rfl) ?_
  refine lv_if_lt (tgt := 22) hx hb dX5_setStructure_1 (by decide) (fun c_1 => ?_) (fun c_1 => ?_)
  · skip
    rw [if_pos c_1] at hf
    obtain ⟨h8, h9⟩ := ret_some hf
    rw [h8]
    exact W.vret hx hb hr (fun t ht hW => ⟨⟨(), rfl, trivial, by rw [ht]; exact hP, va_K.moved hW.alike hK, hD⟩, hS.F ht⟩) hS.2.2 dX5_setStructure_22
  · skip
    rw [if_neg c_1] at hf
    refine lv_iload_n hx hb dX5_setStructure_4 rfl (lv_at hl 1 rfl) ?_
    refine lv_bipush (v := 64) hx hb dX5_setStructure_5 (by decide) ?_
    refine lv_icmp_ge (tgt := 22) hx hb dX5_setStructure_7 (by decide) (fun c_2 => ?_) (fun c_2 => ?_)
    · skip
      rw [if_pos c_2] at hf
      obtain ⟨h8, h9⟩ := ret_some hf
      rw [h8]
      exact W.vret hx hb hr (fun t ht hW => ⟨⟨(), rfl, trivial, by rw [ht]; exact hP, va_K.moved hW.alike hK, hD⟩, hS.F ht⟩) hS.2.2 dX5_setStructure_22
    · skip
      rw [if_neg c_2] at hf
      refine lv_aload_n hx hb dX5_setStructure_10 rfl (lv_at hl 0 rfl) ?_
      obtain ⟨g_3, hf⟩ := grd_some hf
      obtain ⟨kg_3, sg_3⟩ := okO_at g_3
      obtain ⟨k_4, ek_4, hf⟩ := lnk_some hf
      refine va_get (D := (dC, dI)) (ci := 5) (v := .ref (a k_4)) (C := RX5) (T := TX5) (N := 15) hx hb hts iwd_X5_setStructure_X5 hown hK hP h0 (Wd_ob kg_3 sg_3 (by decide)) rfl 7 (by decide) (hts _ md_X5_setStructure_1) (fun _ h9 => h9) (fl_q rfl ek_4) dX5_setStructure_11 ?_
      refine lv_iload_n hx hb dX5_setStructure_14 rfl (lv_at hl 1 rfl) ?_
      refine lv_bipush (v := 7) hx hb dX5_setStructure_15 (by decide) ?_
      refine lv_imul hx hb dX5_setStructure_17 ?_
      refine lv_iload_n hx hb dX5_setStructure_18 rfl (lv_at hl 2 rfl) ?_
      refine lv_iadd hx hb dX5_setStructure_19 ?_
      refine lv_iload_n hx hb dX5_setStructure_20 rfl (lv_at hl 3 rfl) ?_
      obtain ⟨g_5, hf⟩ := grd_some hf
      obtain ⟨kg_5, sg_5, ig_5⟩ := okA_at g_5
      refine va_iast hx hb hK hP hD hS k_4 1 (Wd_ai kg_5 sg_5) rfl ig_5 dX5_setStructure_21 (fun H_6 locs hP2 hD2 hS2 => ?_)
      rw [Wd_ti sg_5] at hP2 hD2
      obtain ⟨z_7, ez_7⟩ : ∃ w, w = si z k_4 ((x0 * 7) + x1).toNatClampNeg x2 := ⟨_, rfl⟩
      rw [← ez_7] at hP2 hD2
      replace hf := lt_at ez_7 hf
      clear ez_7
      replace hP := hP2
      replace hD := hD2
      replace hS := hS2
      clear hP2 hD2 hS2
      obtain ⟨h8, h9⟩ := ret_some hf
      rw [h8]
      exact W.vret hx hb hr (fun t ht hW => ⟨⟨(), rfl, trivial, by rw [ht]; exact hP, va_K.moved hW.alike hK, hD⟩, hS.F ht⟩) hS.2.2 dX5_setStructure_22

theorem md_X10_cut_2 : (.fieldLink RX10 21 "ResourceLedger$Wide" "low" "J" : Cond) ∈ wsX10_cut := List.mem_of_getElem? (i := 2) rfl
theorem iwd_X10_cut_X10 : ∀ w ∈ wsX100, w ∈ wsX10_cut := fun _ h => List.mem_cons_of_mem _ (List.mem_append_right _ h)
theorem md_X10_cut_3 : (.constantLong RX10 44 (255) : Cond) ∈ wsX10_cut := List.mem_of_getElem? (i := 3) rfl
theorem md_X10_cut_1 : (.fieldLink RX10 17 "ResourceLedger$Wide" "high" "J" : Cond) ∈ wsX10_cut := List.mem_of_getElem? (i := 1) rfl
set_option maxHeartbeats 4000000 in
set_option maxRecDepth 100000 in
theorem de_X10_cut (l : Launch) (dC : Nat → ClassId) (dI : Nat → Nat → Nat) (cy : Nat → ClassId) (a : Nat → Nat) (sh : Nat → Nat × Nat) (n sz : Nat) (F : Nat) (z : St) (h0 : Nat) (x0 : Int32) {z8 : St} {r8 : Unit} (hf : fn_X10_cut F sh n z h0 x0 = some (z8, r8)) : Met l yX10_cut wsX10_cut ({ frames := 0, cells := 0, slots := 0, locals := 0 }) (va_Pc [.ref (a h0), .int x0] (fun U => U.heap.size = sz ∧ va_P (dC, dI) vwCl (Wd cy a sh n z) U.heap ∧ va_K (dC, dI) vwCl (TYS cy) U ∧ va_D (fun _ => True) (Wd cy a sh n z) ∧ NK U)) (va_Qv (fun u : Unit => True) (fun u t => va_P (dC, dI) vwCl (Wd cy a sh n z8) t.heap ∧ va_K (dC, dI) vwCl (TYS cy) t ∧ va_D (va_A (Wd cy a sh n z) sz) (Wd cy a sh n z8)) (va_A (Wd cy a sh n z) sz)) 0 0 (va_A (Wd cy a sh n z) sz) := by
  refine Met.ofW (cc := cX10_cut) (maxL := 2) (ret := none) (by decide) rfl ?_
  intro p e s m args below meth c s₁ B hml hv
  obtain ⟨rfl, hsz, hP, hK, hD0, hN⟩ := hv
  have hx := B.exec
  have hb := B.bytes
  have hr := B.returns
  have hts := atoms_spec (ws := wsX10_cut) B.pre
  have hown : s.vm.findClass RX10 = some m.cls := findClass_of_methodNamed B.named
  have hlocks := B.notSynchronized
  subst hsz
  have hD := hD0.self (sz := s.heap.size)
  clear hD0
  generalize hAe : va_A (Wd cy a sh n z) s.heap.size = A at hD ⊢
  have hA : ∀ q : Nat, s.heap.size ≤ q → A q := fun q h => by rw [← hAe]; exact Or.inr h
  clear hAe
  have hS : va_S A s.heap s.heap [] := va_S.rf
  have hl := lv_entry ([.ref (a h0), .int x0]) (n := 2) (Nat.le_of_ble_eq_true rfl)
  rw [lg_entry_eq]
  generalize (lg_sl ([.ref (a h0), .int x0]) ++ List.replicate (2 - (lg_sl ([.ref (a h0), .int x0])).length) Slot.unset).toArray = ls at hl ⊢
  replace hl : lv_has ls 2 [(0, .ref (a h0)), (1, .int x0)] := hl
  unfold fn_X10_cut at hf
  refine de_start hS hP (fun H locs hS hP => ?_)
  refine lv_iload_n hx hb dX10_cut_0 rfl (lv_at hl 1 rfl) ?_
  refine lv_iconst (v := 4) hx hb dX10_cut_1 (by decide) ?_
  refine de_cut (h := 10) (fun (x : St) => []) (fun x ls H locs => lv_has ls 2 [(0, .ref (a h0)), (1, .int x0)] ∧ va_P (dC, dI) vwCl (Wd cy a sh n x) H ∧ va_D A (Wd cy a sh n x) ∧ va_S A s.heap H locs) (fun x => fn_X10_cut_B10 F sh n x0 h0 x) (z8, r8) ?_ (fun B10 => ?_)
  · intro x ls H locs hI hf
    obtain ⟨z_1, ez⟩ : ∃ w, w = x := ⟨_, rfl⟩
    subst ez
    obtain ⟨hl2, hP2, hD2, hS2⟩ := hI
    replace hl : lv_has ls 2 [(0, .ref (a h0)), (1, .int x0)] := hl2
    replace hP := hP2
    replace hD := hD2
    replace hS := hS2
    clear hl2 hP2 hD2 hS2
    replace hf := fn_X10_cut_B10_s hf
    refine W.eq (g2 := F0 m 10 ls []) rfl ?_
    refine lv_iload_n hx hb dX10_cut_10 rfl (lv_at hl 1 rfl) ?_
    refine lv_iconst (v := 2) hx hb dX10_cut_11 (by decide) ?_
    refine lv_icmp_ne (tgt := 27) hx hb dX10_cut_12 (by decide) (fun c_2 => ?_) (fun c_2 => ?_)
    · skip
      rw [if_neg c_2] at hf
      obtain ⟨h8, h9⟩ := ret_some hf
      rw [h8]
      exact W.vret hx hb hr (fun t ht hW => ⟨⟨(), rfl, trivial, by rw [ht]; exact hP, va_K.moved hW.alike hK, hD⟩, hS.F ht⟩) hS.2.2 dX10_cut_27
    · skip
      rw [if_pos c_2] at hf
      refine lv_aload_n hx hb dX10_cut_15 rfl (lv_at hl 0 rfl) ?_
      refine lv_dup hx hb dX10_cut_16 rfl ?_
      obtain ⟨g_3, hf⟩ := grd_some hf
      obtain ⟨kg_3, sg_3⟩ := okO_at g_3
      refine va_get (D := (dC, dI)) (ci := 10) (v := .long (z_1.2.1 h0 1)) (C := RX10) (T := TX10) (N := 5) hx hb hts iwd_X10_cut_X10 hown hK hP h0 (Wd_ob kg_3 sg_3 (by decide)) rfl 1 (by decide) (hts _ md_X10_cut_2) (fun _ h9 => h9) (fl_at (t := 1) rfl) dX10_cut_17 ?_
      refine lv_ldc2 hx hb hown (hts _ md_X10_cut_3) dX10_cut_20 ?_
      refine lv_land hx hb dX10_cut_23 ?_
      refine va_put (D := (dC, dI)) (ci := 10) (v := .long ((z_1.2.1 h0 1) &&& 255)) (ty := .long) (C := RX10) (T := TX10) (N := 5) hx hb hts iwd_X10_cut_X10 tyX10 tyX10_ok nmX10 hown hK hP hD hS h0 (Wd_ob kg_3 sg_3 (by decide)) rfl 1 (by decide) (hts _ md_X10_cut_2) (fun _ h9 => h9) rfl (by decide +kernel) rfl rfl (by rw [fl_len]; decide) dX10_cut_24 (fun H_4 locs hP2 hD2 hS2 => ?_)
      rw [Wd_sl sg_3 (by decide) rfl] at hP2 hD2
      obtain ⟨z_5, ez_5⟩ : ∃ w, w = sl z_1 h0 1 ((z_1.2.1 h0 1) &&& 255) := ⟨_, rfl⟩
      rw [← ez_5] at hP2 hD2
      replace hf := lt_at ez_5 hf
      clear ez_5
      replace hP := hP2
      replace hD := hD2
      replace hS := hS2
      clear hP2 hD2 hS2
      obtain ⟨h8, h9⟩ := ret_some hf
      rw [h8]
      exact W.vret hx hb hr (fun t ht hW => ⟨⟨(), rfl, trivial, by rw [ht]; exact hP, va_K.moved hW.alike hK, hD⟩, hS.F ht⟩) hS.2.2 dX10_cut_27
  refine lv_icmp_eq (tgt := 10) hx hb dX10_cut_2 (by decide) (fun c_6 => ?_) (fun c_6 => ?_)
  · skip
    rw [if_pos c_6] at hf
    exact B10 (z) ls H locs ⟨lv_sub hl [0, 1] rfl, hP, hD, hS⟩ hf
  · skip
    rw [if_neg c_6] at hf
    refine lv_aload_n hx hb dX10_cut_5 rfl (lv_at hl 0 rfl) ?_
    refine lv_lconst (v := 0) hx hb dX10_cut_6 (by decide) ?_
    obtain ⟨g_7, hf⟩ := grd_some hf
    obtain ⟨kg_7, sg_7⟩ := okO_at g_7
    refine va_put (D := (dC, dI)) (ci := 10) (v := .long 0) (ty := .long) (C := RX10) (T := TX10) (N := 5) hx hb hts iwd_X10_cut_X10 tyX10 tyX10_ok nmX10 hown hK hP hD hS h0 (Wd_ob kg_7 sg_7 (by decide)) rfl 0 (by decide) (hts _ md_X10_cut_1) (fun _ h9 => h9) rfl (by decide +kernel) rfl rfl (by rw [fl_len]; decide) dX10_cut_7 (fun H_8 locs hP2 hD2 hS2 => ?_)
    rw [Wd_sl sg_7 (by decide) rfl] at hP2 hD2
    obtain ⟨z_9, ez_9⟩ : ∃ w, w = sl z h0 0 0 := ⟨_, rfl⟩
    rw [← ez_9] at hP2 hD2
    replace hf := lt_at ez_9 hf
    clear ez_9
    replace hP := hP2
    replace hD := hD2
    replace hS := hS2
    clear hP2 hD2 hS2
    exact B10 (z_9) ls H_8 locs ⟨lv_sub hl [0, 1] rfl, hP, hD, hS⟩ hf

theorem md_X13_isNumber_1 : (.constantLong RX13 124 (2) : Cond) ∈ wsX13_isNumber := List.mem_of_getElem? (i := 1) rfl
theorem md_X13_isNumber_2 : (.constantLong RX13 126 (3) : Cond) ∈ wsX13_isNumber := List.mem_of_getElem? (i := 2) rfl
theorem md_X13_isNumber_3 : (.constantLong RX13 128 (4) : Cond) ∈ wsX13_isNumber := List.mem_of_getElem? (i := 3) rfl
set_option maxHeartbeats 4000000 in
set_option maxRecDepth 100000 in
theorem de_X13_isNumber (l : Launch) (dC : Nat → ClassId) (dI : Nat → Nat → Nat) (cy : Nat → ClassId) (a : Nat → Nat) (sh : Nat → Nat × Nat) (n sz : Nat) (F : Nat) (z : St) (x0 : Int64) {z8 : St} {r8 : Int32} (hf : fn_X13_isNumber F sh n z x0 = some (z8, r8)) : Met l yX13_isNumber wsX13_isNumber ({ frames := 0, cells := 0, slots := 0, locals := 0 }) (va_Pc [.long x0] (fun U => U.heap.size = sz ∧ va_P (dC, dI) vwCl (Wd cy a sh n z) U.heap ∧ va_K (dC, dI) vwCl (TYS cy) U ∧ va_D (fun _ => True) (Wd cy a sh n z) ∧ NK U)) (va_Qi (fun (r9 : Int32) (u : Unit) => r9 = r8) (fun u t => va_P (dC, dI) vwCl (Wd cy a sh n z8) t.heap ∧ va_K (dC, dI) vwCl (TYS cy) t ∧ va_D (va_A (Wd cy a sh n z) sz) (Wd cy a sh n z8)) (va_A (Wd cy a sh n z) sz)) 0 0 (va_A (Wd cy a sh n z) sz) := by
  refine Met.ofW (cc := cX13_isNumber) (maxL := 2) (ret := (some .boolean)) (by decide) rfl ?_
  intro p e s m args below meth c s₁ B hml hv
  obtain ⟨rfl, hsz, hP, hK, hD0, hN⟩ := hv
  have hx := B.exec
  have hb := B.bytes
  have hr := B.returns
  have hts := atoms_spec (ws := wsX13_isNumber) B.pre
  have hown : s.vm.findClass RX13 = some m.cls := findClass_of_methodNamed B.named
  have hlocks := B.notSynchronized
  subst hsz
  have hD := hD0.self (sz := s.heap.size)
  clear hD0
  generalize hAe : va_A (Wd cy a sh n z) s.heap.size = A at hD ⊢
  have hA : ∀ q : Nat, s.heap.size ≤ q → A q := fun q h => by rw [← hAe]; exact Or.inr h
  clear hAe
  have hS : va_S A s.heap s.heap [] := va_S.rf
  have hl := lv_entry ([.long x0]) (n := 2) (Nat.le_of_ble_eq_true rfl)
  rw [lg_entry_eq]
  generalize (lg_sl ([.long x0]) ++ List.replicate (2 - (lg_sl ([.long x0])).length) Slot.unset).toArray = ls at hl ⊢
  replace hl : lv_has ls 2 [(0, .long x0)] := hl
  unfold fn_X13_isNumber at hf
  refine de_start hS hP (fun H locs hS hP => ?_)
  refine lv_lload_n hx hb dX13_isNumber_0 rfl (lv_at hl 0 rfl) ?_
  refine lv_ldc2 hx hb hown (hts _ md_X13_isNumber_1) dX13_isNumber_1 ?_
  refine W.lcmp hx hb dX13_isNumber_4 ?_
  refine lv_if_eq (tgt := 24) hx hb dX13_isNumber_5 (by decide) (fun c_1 => ?_) (fun c_1 => ?_)
  · skip
    rw [lg_cmp_eq] at c_1
    rw [if_pos c_1] at hf
    refine lv_iconst (v := 1) hx hb dX13_isNumber_24 (by decide) ?_
    refine lv_goto (tgt := 29) hx hb dX13_isNumber_25 (by decide) ?_
    obtain ⟨h8, h9⟩ := ret_some hf
    rw [h8, h9]
    exact W.zret (v := 1) hx hb hr rfl (fun t ht hW => ⟨⟨1, (), rfl, rfl, by rw [ht]; exact hP, va_K.moved hW.alike hK, hD⟩, hS.F ht⟩) hS.2.2 dX13_isNumber_29
  · skip
    rw [lg_cmp_eq] at c_1
    rw [if_neg c_1] at hf
    refine lv_lload_n hx hb dX13_isNumber_8 rfl (lv_at hl 0 rfl) ?_
    refine lv_ldc2 hx hb hown (hts _ md_X13_isNumber_2) dX13_isNumber_9 ?_
    refine W.lcmp hx hb dX13_isNumber_12 ?_
    refine lv_if_eq (tgt := 24) hx hb dX13_isNumber_13 (by decide) (fun c_2 => ?_) (fun c_2 => ?_)
    · skip
      rw [lg_cmp_eq] at c_2
      rw [if_pos c_2] at hf
      refine lv_iconst (v := 1) hx hb dX13_isNumber_24 (by decide) ?_
      refine lv_goto (tgt := 29) hx hb dX13_isNumber_25 (by decide) ?_
      obtain ⟨h8, h9⟩ := ret_some hf
      rw [h8, h9]
      exact W.zret (v := 1) hx hb hr rfl (fun t ht hW => ⟨⟨1, (), rfl, rfl, by rw [ht]; exact hP, va_K.moved hW.alike hK, hD⟩, hS.F ht⟩) hS.2.2 dX13_isNumber_29
    · skip
      rw [lg_cmp_eq] at c_2
      rw [if_neg c_2] at hf
      refine lv_lload_n hx hb dX13_isNumber_16 rfl (lv_at hl 0 rfl) ?_
      refine lv_ldc2 hx hb hown (hts _ md_X13_isNumber_3) dX13_isNumber_17 ?_
      refine W.lcmp hx hb dX13_isNumber_20 ?_
      refine lv_if_ne (tgt := 28) hx hb dX13_isNumber_21 (by decide) (fun c_3 => ?_) (fun c_3 => ?_)
      · skip
        rw [lg_cmp_eq] at c_3
        rw [if_neg c_3] at hf
        refine lv_iconst (v := 0) hx hb dX13_isNumber_28 (by decide) ?_
        obtain ⟨h8, h9⟩ := ret_some hf
        rw [h8, h9]
        exact W.zret (v := 0) hx hb hr rfl (fun t ht hW => ⟨⟨0, (), rfl, rfl, by rw [ht]; exact hP, va_K.moved hW.alike hK, hD⟩, hS.F ht⟩) hS.2.2 dX13_isNumber_29
      · skip
        rw [lg_cmp_eq] at c_3
        rw [if_pos c_3] at hf
        refine lv_iconst (v := 1) hx hb dX13_isNumber_24 (by decide) ?_
        refine lv_goto (tgt := 29) hx hb dX13_isNumber_25 (by decide) ?_
        obtain ⟨h8, h9⟩ := ret_some hf
        rw [h8, h9]
        exact W.zret (v := 1) hx hb hr rfl (fun t ht hW => ⟨⟨1, (), rfl, rfl, by rw [ht]; exact hP, va_K.moved hW.alike hK, hD⟩, hS.F ht⟩) hS.2.2 dX13_isNumber_29

theorem md_X18_endsInStructure_1 : (.constantLong RX18 146 (255) : Cond) ∈ wsX18_endsInStructure := List.mem_of_getElem? (i := 1) rfl
theorem md_X18_endsInStructure_2 : (.constantLong RX18 148 (6) : Cond) ∈ wsX18_endsInStructure := List.mem_of_getElem? (i := 2) rfl
set_option maxHeartbeats 4000000 in
set_option maxRecDepth 100000 in
theorem de_X18_endsInStructure (l : Launch) (dC : Nat → ClassId) (dI : Nat → Nat → Nat) (cy : Nat → ClassId) (a : Nat → Nat) (sh : Nat → Nat × Nat) (n sz : Nat) (F : Nat) (z : St) (x0 : Int64) {z8 : St} {r8 : Int32} (hf : fn_X18_endsInStructure F sh n z x0 = some (z8, r8)) : Met l yX18_endsInStructure wsX18_endsInStructure ({ frames := 0, cells := 0, slots := 0, locals := 0 }) (va_Pc [.long x0] (fun U => U.heap.size = sz ∧ va_P (dC, dI) vwCl (Wd cy a sh n z) U.heap ∧ va_K (dC, dI) vwCl (TYS cy) U ∧ va_D (fun _ => True) (Wd cy a sh n z) ∧ NK U)) (va_Qi (fun (r9 : Int32) (u : Unit) => r9 = r8) (fun u t => va_P (dC, dI) vwCl (Wd cy a sh n z8) t.heap ∧ va_K (dC, dI) vwCl (TYS cy) t ∧ va_D (va_A (Wd cy a sh n z) sz) (Wd cy a sh n z8)) (va_A (Wd cy a sh n z) sz)) 0 0 (va_A (Wd cy a sh n z) sz) := by
  refine Met.ofW (cc := cX18_endsInStructure) (maxL := 2) (ret := (some .boolean)) (by decide) rfl ?_
  intro p e s m args below meth c s₁ B hml hv
  obtain ⟨rfl, hsz, hP, hK, hD0, hN⟩ := hv
  have hx := B.exec
  have hb := B.bytes
  have hr := B.returns
  have hts := atoms_spec (ws := wsX18_endsInStructure) B.pre
  have hown : s.vm.findClass RX18 = some m.cls := findClass_of_methodNamed B.named
  have hlocks := B.notSynchronized
  subst hsz
  have hD := hD0.self (sz := s.heap.size)
  clear hD0
  generalize hAe : va_A (Wd cy a sh n z) s.heap.size = A at hD ⊢
  have hA : ∀ q : Nat, s.heap.size ≤ q → A q := fun q h => by rw [← hAe]; exact Or.inr h
  clear hAe
  have hS : va_S A s.heap s.heap [] := va_S.rf
  have hl := lv_entry ([.long x0]) (n := 2) (Nat.le_of_ble_eq_true rfl)
  rw [lg_entry_eq]
  generalize (lg_sl ([.long x0]) ++ List.replicate (2 - (lg_sl ([.long x0])).length) Slot.unset).toArray = ls at hl ⊢
  replace hl : lv_has ls 2 [(0, .long x0)] := hl
  unfold fn_X18_endsInStructure at hf
  refine de_start hS hP (fun H locs hS hP => ?_)
  refine lv_lload_n hx hb dX18_endsInStructure_0 rfl (lv_at hl 0 rfl) ?_
  refine lv_ldc2 hx hb hown (hts _ md_X18_endsInStructure_1) dX18_endsInStructure_1 ?_
  refine W.lcmp hx hb dX18_endsInStructure_4 ?_
  refine lv_if_le (tgt := 27) hx hb dX18_endsInStructure_5 (by decide) (fun c_1 => ?_) (fun c_1 => ?_)
  · skip
    rw [lg_cmp_le] at c_1
    rw [if_pos c_1] at hf
    refine lv_iconst (v := 0) hx hb dX18_endsInStructure_27 (by decide) ?_
    obtain ⟨h8, h9⟩ := ret_some hf
    rw [h8, h9]
    exact W.zret (v := 0) hx hb hr rfl (fun t ht hW => ⟨⟨0, (), rfl, rfl, by rw [ht]; exact hP, va_K.moved hW.alike hK, hD⟩, hS.F ht⟩) hS.2.2 dX18_endsInStructure_28
  · skip
    rw [lg_cmp_le] at c_1
    rw [if_neg c_1] at hf
    refine lv_lload_n hx hb dX18_endsInStructure_8 rfl (lv_at hl 0 rfl) ?_
    refine lv_bipush (v := 8) hx hb dX18_endsInStructure_9 (by decide) ?_
    refine lv_lshr (v := (x0 >>> ((8 : Int32).toInt64 &&& 63))) hx hb dX18_endsInStructure_11 rfl ?_
    refine lv_ldc2 hx hb hown (hts _ md_X18_endsInStructure_1) dX18_endsInStructure_12 ?_
    refine lv_land hx hb dX18_endsInStructure_15 ?_
    refine lv_ldc2 hx hb hown (hts _ md_X18_endsInStructure_2) dX18_endsInStructure_16 ?_
    refine W.lcmp hx hb dX18_endsInStructure_19 ?_
    refine lv_if_ne (tgt := 27) hx hb dX18_endsInStructure_20 (by decide) (fun c_2 => ?_) (fun c_2 => ?_)
    · skip
      rw [lg_cmp_eq] at c_2
      rw [if_neg c_2] at hf
      refine lv_iconst (v := 0) hx hb dX18_endsInStructure_27 (by decide) ?_
      obtain ⟨h8, h9⟩ := ret_some hf
      rw [h8, h9]
      exact W.zret (v := 0) hx hb hr rfl (fun t ht hW => ⟨⟨0, (), rfl, rfl, by rw [ht]; exact hP, va_K.moved hW.alike hK, hD⟩, hS.F ht⟩) hS.2.2 dX18_endsInStructure_28
    · skip
      rw [lg_cmp_eq] at c_2
      rw [if_pos c_2] at hf
      refine lv_iconst (v := 1) hx hb dX18_endsInStructure_23 (by decide) ?_
      refine lv_goto (tgt := 28) hx hb dX18_endsInStructure_24 (by decide) ?_
      obtain ⟨h8, h9⟩ := ret_some hf
      rw [h8, h9]
      exact W.zret (v := 1) hx hb hr rfl (fun t ht hW => ⟨⟨1, (), rfl, rfl, by rw [ht]; exact hP, va_K.moved hW.alike hK, hD⟩, hS.F ht⟩) hS.2.2 dX18_endsInStructure_28

theorem md_X7_freeSlot_1 : (.fieldLink RX7 37 "ResourceLedger$State" "nodeCount" "[I" : Cond) ∈ wsX7_freeSlot := List.mem_of_getElem? (i := 1) rfl
theorem iwd_X7_freeSlot_X7 : ∀ w ∈ wsX70, w ∈ wsX7_freeSlot := fun _ h => List.mem_cons_of_mem _ (List.mem_append_right _ h)
set_option maxHeartbeats 4000000 in
set_option maxRecDepth 100000 in
theorem de_X7_freeSlot (l : Launch) (dC : Nat → ClassId) (dI : Nat → Nat → Nat) (cy : Nat → ClassId) (a : Nat → Nat) (sh : Nat → Nat × Nat) (n sz : Nat) (F : Nat) (z : St) (h0 : Nat) {z8 : St} {r8 : Int32} (hf : fn_X7_freeSlot F sh n z h0 = some (z8, r8)) : Met l yX7_freeSlot wsX7_freeSlot ({ frames := 0, cells := 0, slots := 0, locals := 0 }) (va_Pc [.ref (a h0)] (fun U => U.heap.size = sz ∧ va_P (dC, dI) vwCl (Wd cy a sh n z) U.heap ∧ va_K (dC, dI) vwCl (TYS cy) U ∧ va_D (fun _ => True) (Wd cy a sh n z) ∧ NK U)) (va_Qi (fun (r9 : Int32) (u : Unit) => r9 = r8) (fun u t => va_P (dC, dI) vwCl (Wd cy a sh n z8) t.heap ∧ va_K (dC, dI) vwCl (TYS cy) t ∧ va_D (va_A (Wd cy a sh n z) sz) (Wd cy a sh n z8)) (va_A (Wd cy a sh n z) sz)) 0 0 (va_A (Wd cy a sh n z) sz) := by
  refine Met.ofW (cc := cX7_freeSlot) (maxL := 2) (ret := (some .int)) (by decide) rfl ?_
  intro p e s m args below meth c s₁ B hml hv
  obtain ⟨rfl, hsz, hP, hK, hD0, hN⟩ := hv
  have hx := B.exec
  have hb := B.bytes
  have hr := B.returns
  have hts := atoms_spec (ws := wsX7_freeSlot) B.pre
  have hown : s.vm.findClass RX7 = some m.cls := findClass_of_methodNamed B.named
  have hlocks := B.notSynchronized
  subst hsz
  have hD := hD0.self (sz := s.heap.size)
  clear hD0
  generalize hAe : va_A (Wd cy a sh n z) s.heap.size = A at hD ⊢
  have hA : ∀ q : Nat, s.heap.size ≤ q → A q := fun q h => by rw [← hAe]; exact Or.inr h
  clear hAe
  have hS : va_S A s.heap s.heap [] := va_S.rf
  have hl := lv_entry ([.ref (a h0)]) (n := 2) (Nat.le_of_ble_eq_true rfl)
  rw [lg_entry_eq]
  generalize (lg_sl ([.ref (a h0)]) ++ List.replicate (2 - (lg_sl ([.ref (a h0)])).length) Slot.unset).toArray = ls at hl ⊢
  replace hl : lv_has ls 2 [(0, .ref (a h0))] := hl
  unfold fn_X7_freeSlot at hf
  refine de_start hS hP (fun H locs hS hP => ?_)
  refine lv_iconst (v := 0) hx hb dX7_freeSlot_0 (by decide) ?_
  refine lv_istore_n (lv' := [(1, .int 0), (0, .ref (a h0))]) hx hb dX7_freeSlot_1 rfl hl (by decide) rfl (fun ls hl2 => ?_)
  replace hl := hl2
  clear hl2
  have hl0 : lv_has ls 2 [(1, .int 0), (0, .ref (a h0))] := lv_sub hl [0, 1] rfl
  refine de_loop (h := 2) (fun (x : St × Int32) ls H locs => lv_has ls 2 [(1, .int x.2), (0, .ref (a h0))] ∧ va_P (dC, dI) vwCl (Wd cy a sh n x.1) H ∧ va_D A (Wd cy a sh n x.1) ∧ va_S A s.heap H locs) (fun f x => fn_X7_freeSlot_L2 F sh n h0 f x.1 x.2) (z8, r8) ?_ (fun _ => rfl) F (z, 0) ls H locs ⟨hl0, hP, hD, hS⟩ hf
  intro f_3 x ls H locs ih2 hI hf
  obtain ⟨z_2, p_1⟩ := x
  obtain ⟨hl2, hP2, hD2, hS2⟩ := hI
  replace hl : lv_has ls 2 [(1, .int p_1), (0, .ref (a h0))] := hl2
  replace hP := hP2
  replace hD := hD2
  replace hS := hS2
  clear hl2 hP2 hD2 hS2 hl0
  replace hf := fn_X7_freeSlot_L2_s hf
  refine lv_iload_n hx hb dX7_freeSlot_2 rfl (lv_at hl 0 rfl) ?_
  refine lv_sipush (v := 256) hx hb dX7_freeSlot_3 (by decide) ?_
  refine lv_icmp_ge (tgt := 26) hx hb dX7_freeSlot_6 (by decide) (fun c_4 => ?_) (fun c_4 => ?_)
  · skip
    rw [if_pos c_4] at hf
    refine lv_iconst (v := (-1)) hx hb dX7_freeSlot_26 (by decide) ?_
    obtain ⟨h8, h9⟩ := ret_some hf
    rw [h8, h9]
    exact W.iret (v := (-1)) hx hb hr (fun t ht hW => ⟨⟨(-1), (), rfl, rfl, by rw [ht]; exact hP, va_K.moved hW.alike hK, hD⟩, hS.F ht⟩) hS.2.2 dX7_freeSlot_27
  · skip
    rw [if_neg c_4] at hf
    refine lv_aload_n hx hb dX7_freeSlot_9 rfl (lv_at hl 1 rfl) ?_
    obtain ⟨g_5, hf⟩ := grd_some hf
    obtain ⟨kg_5, sg_5⟩ := okO_at g_5
    obtain ⟨k_6, ek_6, hf⟩ := lnk_some hf
    refine va_get (D := (dC, dI)) (ci := 7) (v := .ref (a k_6)) (C := RX7) (T := TX7) (N := 16) hx hb hts iwd_X7_freeSlot_X7 hown hK hP h0 (Wd_ob kg_5 sg_5 (by decide)) rfl 9 (by decide) (hts _ md_X7_freeSlot_1) (fun _ h9 => h9) (fl_q rfl ek_6) dX7_freeSlot_10 ?_
    refine lv_iload_n hx hb dX7_freeSlot_13 rfl (lv_at hl 0 rfl) ?_
    obtain ⟨g_7, hf⟩ := grd_some hf
    obtain ⟨kg_7, sg_7, ig_7⟩ := okA_at g_7
    refine va_iald hx hb hK hP k_6 1 (Wd_ai kg_7 sg_7) rfl ig_7 dX7_freeSlot_14 ?_
    refine lv_if_ne (tgt := 20) hx hb dX7_freeSlot_15 (by decide) (fun c_8 => ?_) (fun c_8 => ?_)
    · skip
      rw [if_neg c_8] at hf
      refine lv_iinc (v := (p_1 + 1)) (lv' := [(1, .int (p_1 + 1)), (0, .ref (a h0))]) hx hb dX7_freeSlot_20 hl (k := 0) rfl rfl (by decide) rfl (fun ls hl2 => ?_)
      replace hl := hl2
      clear hl2
      refine lv_goto (tgt := 2) hx hb dX7_freeSlot_23 (by decide) ?_
      exact ih2 (z_2, (p_1 + 1)) ls H locs ⟨lv_sub hl [0, 1] rfl, hP, hD, hS⟩ hf
    · skip
      rw [if_pos c_8] at hf
      refine lv_iload_n hx hb dX7_freeSlot_18 rfl (lv_at hl 0 rfl) ?_
      obtain ⟨h8, h9⟩ := ret_some hf
      rw [h8, h9]
      exact W.iret (v := p_1) hx hb hr (fun t ht hW => ⟨⟨p_1, (), rfl, rfl, by rw [ht]; exact hP, va_K.moved hW.alike hK, hD⟩, hS.F ht⟩) hS.2.2 dX7_freeSlot_19

theorem md_X11_weave_1 : (.fieldLink RX11 150 "ResourceLedger" "weaveLength" "I" : Cond) ∈ wsX11_weave := List.mem_of_getElem? (i := 1) rfl
theorem iwd_X11_weave_X11 : ∀ w ∈ wsX110, w ∈ wsX11_weave := fun _ h => List.mem_cons_of_mem _ (List.mem_append_right _ h)
set_option maxHeartbeats 4000000 in
set_option maxRecDepth 100000 in
theorem de_X11_weave (l : Launch) (dC : Nat → ClassId) (dI : Nat → Nat → Nat) (cy : Nat → ClassId) (a : Nat → Nat) (sh : Nat → Nat × Nat) (n sz : Nat) (F : Nat) (z : St) (h0 : Nat) (x0 : Int64) {z8 : St} {r8 : Int32} (hf : fn_X11_weave F sh n z h0 x0 = some (z8, r8)) : Met l yX11_weave wsX11_weave ({ frames := 0, cells := 0, slots := 0, locals := 0 }) (va_Pc [.ref (a h0), .long x0] (fun U => U.heap.size = sz ∧ va_P (dC, dI) vwCl (Wd cy a sh n z) U.heap ∧ va_K (dC, dI) vwCl (TYS cy) U ∧ va_D (fun _ => True) (Wd cy a sh n z) ∧ NK U)) (va_Qi (fun (r9 : Int32) (u : Unit) => r9 = r8) (fun u t => va_P (dC, dI) vwCl (Wd cy a sh n z8) t.heap ∧ va_K (dC, dI) vwCl (TYS cy) t ∧ va_D (va_A (Wd cy a sh n z) sz) (Wd cy a sh n z8)) (va_A (Wd cy a sh n z) sz)) 0 0 (va_A (Wd cy a sh n z) sz) := by
  refine Met.ofW (cc := cX11_weave) (maxL := 3) (ret := (some .int)) (by decide) rfl ?_
  intro p e s m args below meth c s₁ B hml hv
  obtain ⟨rfl, hsz, hP, hK, hD0, hN⟩ := hv
  have hx := B.exec
  have hb := B.bytes
  have hr := B.returns
  have hts := atoms_spec (ws := wsX11_weave) B.pre
  have hown : s.vm.findClass RX11 = some m.cls := findClass_of_methodNamed B.named
  have hlocks := B.notSynchronized
  subst hsz
  have hD := hD0.self (sz := s.heap.size)
  clear hD0
  generalize hAe : va_A (Wd cy a sh n z) s.heap.size = A at hD ⊢
  have hA : ∀ q : Nat, s.heap.size ≤ q → A q := fun q h => by rw [← hAe]; exact Or.inr h
  clear hAe
  have hS : va_S A s.heap s.heap [] := va_S.rf
  have hl := lv_entry ([.ref (a h0), .long x0]) (n := 3) (Nat.le_of_ble_eq_true rfl)
  rw [lg_entry_eq]
  generalize (lg_sl ([.ref (a h0), .long x0]) ++ List.replicate (3 - (lg_sl ([.ref (a h0), .long x0])).length) Slot.unset).toArray = ls at hl ⊢
  replace hl : lv_has ls 3 [(0, .ref (a h0)), (1, .long x0)] := hl
  unfold fn_X11_weave at hf
  refine de_start hS hP (fun H locs hS hP => ?_)
  refine lv_aload_n hx hb dX11_weave_0 rfl (lv_at hl 0 rfl) ?_
  obtain ⟨g_1, hf⟩ := grd_some hf
  obtain ⟨kg_1, sg_1⟩ := okO_at g_1
  refine va_get (D := (dC, dI)) (ci := 11) (v := .int (z.1 h0 2)) (C := RX11) (T := TX11) (N := 13) hx hb hts iwd_X11_weave_X11 hown hK hP h0 (Wd_ob kg_1 sg_1 (by decide)) rfl 2 (by decide) (hts _ md_X11_weave_1) (fun _ h9 => h9) (fl_at (t := 0) rfl) dX11_weave_1 ?_
  refine lv_bipush (v := 16) hx hb dX11_weave_4 (by decide) ?_
  refine lv_iadd hx hb dX11_weave_6 ?_
  refine lv_sipush (v := 4096) hx hb dX11_weave_7 (by decide) ?_
  refine lv_icmp_le (tgt := 16) hx hb dX11_weave_10 (by decide) (fun c_2 => ?_) (fun c_2 => ?_)
  · skip
    rw [if_pos c_2] at hf
    refine lv_aload_n hx hb dX11_weave_16 rfl (lv_at hl 0 rfl) ?_
    refine lv_dup hx hb dX11_weave_17 rfl ?_
    refine va_get (D := (dC, dI)) (ci := 11) (v := .int (z.1 h0 2)) (C := RX11) (T := TX11) (N := 13) hx hb hts iwd_X11_weave_X11 hown hK hP h0 (Wd_ob kg_1 sg_1 (by decide)) rfl 2 (by decide) (hts _ md_X11_weave_1) (fun _ h9 => h9) (fl_at (t := 0) rfl) dX11_weave_18 ?_
    refine lv_bipush (v := 16) hx hb dX11_weave_21 (by decide) ?_
    refine lv_iadd hx hb dX11_weave_23 ?_
    refine va_put (D := (dC, dI)) (ci := 11) (v := .int ((z.1 h0 2) + 16)) (ty := .int) (C := RX11) (T := TX11) (N := 13) hx hb hts iwd_X11_weave_X11 tyX11 tyX11_ok nmX11 hown hK hP hD hS h0 (Wd_ob kg_1 sg_1 (by decide)) rfl 2 (by decide) (hts _ md_X11_weave_1) (fun _ h9 => h9) rfl (by decide +kernel) rfl rfl (by rw [fl_len]; decide) dX11_weave_24 (fun H_3 locs hP2 hD2 hS2 => ?_)
    rw [Wd_si sg_1 (by decide) rfl] at hP2 hD2
    obtain ⟨z_4, ez_4⟩ : ∃ w, w = si z h0 2 ((z.1 h0 2) + 16) := ⟨_, rfl⟩
    rw [← ez_4] at hP2 hD2
    replace hf := lt_at ez_4 hf
    clear ez_4
    replace hP := hP2
    replace hD := hD2
    replace hS := hS2
    clear hP2 hD2 hS2
    refine lv_aload_n hx hb dX11_weave_27 rfl (lv_at hl 0 rfl) ?_
    refine va_get (D := (dC, dI)) (ci := 11) (v := .int (z_4.1 h0 2)) (C := RX11) (T := TX11) (N := 13) hx hb hts iwd_X11_weave_X11 hown hK hP h0 (Wd_ob kg_1 sg_1 (by decide)) rfl 2 (by decide) (hts _ md_X11_weave_1) (fun _ h9 => h9) (fl_at (t := 0) rfl) dX11_weave_28 ?_
    obtain ⟨h8, h9⟩ := ret_some hf
    rw [h8, h9]
    exact W.iret (v := (z_4.1 h0 2)) hx hb hr (fun t ht hW => ⟨⟨(z_4.1 h0 2), (), rfl, rfl, by rw [ht]; exact hP, va_K.moved hW.alike hK, hD⟩, hS.F ht⟩) hS.2.2 dX11_weave_31
  · skip
    rw [if_neg c_2] at hf
    refine lv_bipush (v := (-3)) hx hb dX11_weave_13 (by decide) ?_
    obtain ⟨h8, h9⟩ := ret_some hf
    rw [h8, h9]
    exact W.iret (v := (-3)) hx hb hr (fun t ht hW => ⟨⟨(-3), (), rfl, rfl, by rw [ht]; exact hP, va_K.moved hW.alike hK, hD⟩, hS.F ht⟩) hS.2.2 dX11_weave_15

set_option maxHeartbeats 4000000 in
set_option maxRecDepth 100000 in
theorem de_X13_bytesOf (l : Launch) (dC : Nat → ClassId) (dI : Nat → Nat → Nat) (cy : Nat → ClassId) (a : Nat → Nat) (sh : Nat → Nat × Nat) (n sz : Nat) (F : Nat) (z : St) (x0 : Int64) {z8 : St} {r8 : Int32} (hf : fn_X13_bytesOf F sh n z x0 = some (z8, r8)) : Met l yX13_bytesOf wsX13_bytesOf ({ frames := 0, cells := 0, slots := 0, locals := 0 }) (va_Pc [.long x0] (fun U => U.heap.size = sz ∧ va_P (dC, dI) vwCl (Wd cy a sh n z) U.heap ∧ va_K (dC, dI) vwCl (TYS cy) U ∧ va_D (fun _ => True) (Wd cy a sh n z) ∧ NK U)) (va_Qi (fun (r9 : Int32) (u : Unit) => r9 = r8) (fun u t => va_P (dC, dI) vwCl (Wd cy a sh n z8) t.heap ∧ va_K (dC, dI) vwCl (TYS cy) t ∧ va_D (va_A (Wd cy a sh n z) sz) (Wd cy a sh n z8)) (va_A (Wd cy a sh n z) sz)) 0 0 (va_A (Wd cy a sh n z) sz) := by
  refine Met.ofW (cc := cX13_bytesOf) (maxL := 3) (ret := (some .int)) (by decide) rfl ?_
  intro p e s m args below meth c s₁ B hml hv
  obtain ⟨rfl, hsz, hP, hK, hD0, hN⟩ := hv
  have hx := B.exec
  have hb := B.bytes
  have hr := B.returns
  have hts := atoms_spec (ws := wsX13_bytesOf) B.pre
  have hown : s.vm.findClass RX13 = some m.cls := findClass_of_methodNamed B.named
  have hlocks := B.notSynchronized
  subst hsz
  have hD := hD0.self (sz := s.heap.size)
  clear hD0
  generalize hAe : va_A (Wd cy a sh n z) s.heap.size = A at hD ⊢
  have hA : ∀ q : Nat, s.heap.size ≤ q → A q := fun q h => by rw [← hAe]; exact Or.inr h
  clear hAe
  have hS : va_S A s.heap s.heap [] := va_S.rf
  have hl := lv_entry ([.long x0]) (n := 3) (Nat.le_of_ble_eq_true rfl)
  rw [lg_entry_eq]
  generalize (lg_sl ([.long x0]) ++ List.replicate (3 - (lg_sl ([.long x0])).length) Slot.unset).toArray = ls at hl ⊢
  replace hl : lv_has ls 3 [(0, .long x0)] := hl
  unfold fn_X13_bytesOf at hf
  refine de_start hS hP (fun H locs hS hP => ?_)
  refine lv_iconst (v := 0) hx hb dX13_bytesOf_0 (by decide) ?_
  refine lv_istore_n (lv' := [(2, .int 0), (0, .long x0)]) hx hb dX13_bytesOf_1 rfl hl (by decide) rfl (fun ls hl2 => ?_)
  replace hl := hl2
  clear hl2
  have hl0 : lv_has ls 3 [(2, .int 0), (0, .long x0)] := lv_sub hl [0, 1] rfl
  refine de_loop (h := 2) (fun (x : St × Int32) ls H locs => lv_has ls 3 [(2, .int x.2), (0, .long x0)] ∧ va_P (dC, dI) vwCl (Wd cy a sh n x.1) H ∧ va_D A (Wd cy a sh n x.1) ∧ va_S A s.heap H locs) (fun f x => fn_X13_bytesOf_L2 F sh n x0 f x.1 x.2) (z8, r8) ?_ (fun _ => rfl) F (z, 0) ls H locs ⟨hl0, hP, hD, hS⟩ hf
  intro f_3 x ls H locs ih2 hI hf
  obtain ⟨z_2, p_1⟩ := x
  obtain ⟨hl2, hP2, hD2, hS2⟩ := hI
  replace hl : lv_has ls 3 [(2, .int p_1), (0, .long x0)] := hl2
  replace hP := hP2
  replace hD := hD2
  replace hS := hS2
  clear hl2 hP2 hD2 hS2 hl0
  replace hf := fn_X13_bytesOf_L2_s hf
  refine lv_iload_n hx hb dX13_bytesOf_2 rfl (lv_at hl 0 rfl) ?_
  refine lv_bipush (v := 8) hx hb dX13_bytesOf_3 (by decide) ?_
  refine lv_icmp_ge (tgt := 25) hx hb dX13_bytesOf_5 (by decide) (fun c_4 => ?_) (fun c_4 => ?_)
  · skip
    rw [if_pos c_4] at hf
    refine lv_iload_n hx hb dX13_bytesOf_25 rfl (lv_at hl 0 rfl) ?_
    obtain ⟨h8, h9⟩ := ret_some hf
    rw [h8, h9]
    exact W.iret (v := p_1) hx hb hr (fun t ht hW => ⟨⟨p_1, (), rfl, rfl, by rw [ht]; exact hP, va_K.moved hW.alike hK, hD⟩, hS.F ht⟩) hS.2.2 dX13_bytesOf_26
  · skip
    rw [if_neg c_4] at hf
    refine lv_lload_n hx hb dX13_bytesOf_8 rfl (lv_at hl 1 rfl) ?_
    refine lv_bipush (v := 8) hx hb dX13_bytesOf_9 (by decide) ?_
    refine lv_iload_n hx hb dX13_bytesOf_11 rfl (lv_at hl 0 rfl) ?_
    refine lv_imul hx hb dX13_bytesOf_12 ?_
    refine lv_lushr (v := ((x0 : Int64).toUInt64 >>> (((8 * p_1) : Int32).toInt64.toUInt64 &&& Int64.toUInt64 63)).toInt64) hx hb dX13_bytesOf_13 rfl ?_
    refine lv_lconst (v := 0) hx hb dX13_bytesOf_14 (by decide) ?_
    refine W.lcmp hx hb dX13_bytesOf_15 ?_
    refine lv_if_eq (tgt := 25) hx hb dX13_bytesOf_16 (by decide) (fun c_5 => ?_) (fun c_5 => ?_)
    · skip
      rw [lg_cmp_eq] at c_5
      rw [if_pos c_5] at hf
      refine lv_iload_n hx hb dX13_bytesOf_25 rfl (lv_at hl 0 rfl) ?_
      obtain ⟨h8, h9⟩ := ret_some hf
      rw [h8, h9]
      exact W.iret (v := p_1) hx hb hr (fun t ht hW => ⟨⟨p_1, (), rfl, rfl, by rw [ht]; exact hP, va_K.moved hW.alike hK, hD⟩, hS.F ht⟩) hS.2.2 dX13_bytesOf_26
    · skip
      rw [lg_cmp_eq] at c_5
      rw [if_neg c_5] at hf
      refine lv_iinc (v := (p_1 + 1)) (lv' := [(2, .int (p_1 + 1)), (0, .long x0)]) hx hb dX13_bytesOf_19 hl (k := 0) rfl rfl (by decide) rfl (fun ls hl2 => ?_)
      replace hl := hl2
      clear hl2
      refine lv_goto (tgt := 2) hx hb dX13_bytesOf_22 (by decide) ?_
      exact ih2 (z_2, (p_1 + 1)) ls H locs ⟨lv_sub hl [0, 1] rfl, hP, hD, hS⟩ hf

theorem md_X18_weave_1 : (.fieldLink RX18 640 "ResourceLedgerModel" "woven" "I" : Cond) ∈ wsX18_weave := List.mem_of_getElem? (i := 1) rfl
theorem iwd_X18_weave_X18 : ∀ w ∈ wsX180, w ∈ wsX18_weave := fun _ h => List.mem_cons_of_mem _ (List.mem_append_right _ h)
set_option maxHeartbeats 4000000 in
set_option maxRecDepth 100000 in
theorem de_X18_weave (l : Launch) (dC : Nat → ClassId) (dI : Nat → Nat → Nat) (cy : Nat → ClassId) (a : Nat → Nat) (sh : Nat → Nat × Nat) (n sz : Nat) (F : Nat) (z : St) (h0 : Nat) (x0 : Int64) {z8 : St} {r8 : Int32} (hf : fn_X18_weave F sh n z h0 x0 = some (z8, r8)) : Met l yX18_weave wsX18_weave ({ frames := 0, cells := 0, slots := 0, locals := 0 }) (va_Pc [.ref (a h0), .long x0] (fun U => U.heap.size = sz ∧ va_P (dC, dI) vwCl (Wd cy a sh n z) U.heap ∧ va_K (dC, dI) vwCl (TYS cy) U ∧ va_D (fun _ => True) (Wd cy a sh n z) ∧ NK U)) (va_Qi (fun (r9 : Int32) (u : Unit) => r9 = r8) (fun u t => va_P (dC, dI) vwCl (Wd cy a sh n z8) t.heap ∧ va_K (dC, dI) vwCl (TYS cy) t ∧ va_D (va_A (Wd cy a sh n z) sz) (Wd cy a sh n z8)) (va_A (Wd cy a sh n z) sz)) 0 0 (va_A (Wd cy a sh n z) sz) := by
  refine Met.ofW (cc := cX18_weave) (maxL := 3) (ret := (some .int)) (by decide) rfl ?_
  intro p e s m args below meth c s₁ B hml hv
  obtain ⟨rfl, hsz, hP, hK, hD0, hN⟩ := hv
  have hx := B.exec
  have hb := B.bytes
  have hr := B.returns
  have hts := atoms_spec (ws := wsX18_weave) B.pre
  have hown : s.vm.findClass RX18 = some m.cls := findClass_of_methodNamed B.named
  have hlocks := B.notSynchronized
  subst hsz
  have hD := hD0.self (sz := s.heap.size)
  clear hD0
  generalize hAe : va_A (Wd cy a sh n z) s.heap.size = A at hD ⊢
  have hA : ∀ q : Nat, s.heap.size ≤ q → A q := fun q h => by rw [← hAe]; exact Or.inr h
  clear hAe
  have hS : va_S A s.heap s.heap [] := va_S.rf
  have hl := lv_entry ([.ref (a h0), .long x0]) (n := 3) (Nat.le_of_ble_eq_true rfl)
  rw [lg_entry_eq]
  generalize (lg_sl ([.ref (a h0), .long x0]) ++ List.replicate (3 - (lg_sl ([.ref (a h0), .long x0])).length) Slot.unset).toArray = ls at hl ⊢
  replace hl : lv_has ls 3 [(0, .ref (a h0)), (1, .long x0)] := hl
  unfold fn_X18_weave at hf
  refine de_start hS hP (fun H locs hS hP => ?_)
  refine lv_aload_n hx hb dX18_weave_0 rfl (lv_at hl 0 rfl) ?_
  obtain ⟨g_1, hf⟩ := grd_some hf
  obtain ⟨kg_1, sg_1⟩ := okO_at g_1
  refine va_get (D := (dC, dI)) (ci := 18) (v := .int (z.1 h0 51)) (C := RX18) (T := TX18) (N := 78) hx hb hts iwd_X18_weave_X18 hown hK hP h0 (Wd_ob kg_1 sg_1 (by decide)) rfl 51 (by decide) (hts _ md_X18_weave_1) (fun _ h9 => h9) (fl_at (t := 0) rfl) dX18_weave_1 ?_
  refine lv_bipush (v := 16) hx hb dX18_weave_4 (by decide) ?_
  refine lv_iadd hx hb dX18_weave_6 ?_
  refine lv_sipush (v := 4096) hx hb dX18_weave_7 (by decide) ?_
  refine lv_icmp_le (tgt := 16) hx hb dX18_weave_10 (by decide) (fun c_2 => ?_) (fun c_2 => ?_)
  · skip
    rw [if_pos c_2] at hf
    refine lv_aload_n hx hb dX18_weave_16 rfl (lv_at hl 0 rfl) ?_
    refine lv_dup hx hb dX18_weave_17 rfl ?_
    refine va_get (D := (dC, dI)) (ci := 18) (v := .int (z.1 h0 51)) (C := RX18) (T := TX18) (N := 78) hx hb hts iwd_X18_weave_X18 hown hK hP h0 (Wd_ob kg_1 sg_1 (by decide)) rfl 51 (by decide) (hts _ md_X18_weave_1) (fun _ h9 => h9) (fl_at (t := 0) rfl) dX18_weave_18 ?_
    refine lv_bipush (v := 16) hx hb dX18_weave_21 (by decide) ?_
    refine lv_iadd hx hb dX18_weave_23 ?_
    refine va_put (D := (dC, dI)) (ci := 18) (v := .int ((z.1 h0 51) + 16)) (ty := .int) (C := RX18) (T := TX18) (N := 78) hx hb hts iwd_X18_weave_X18 tyX18 tyX18_ok nmX18 hown hK hP hD hS h0 (Wd_ob kg_1 sg_1 (by decide)) rfl 51 (by decide) (hts _ md_X18_weave_1) (fun _ h9 => h9) rfl (by decide +kernel) rfl rfl (by rw [fl_len]; decide) dX18_weave_24 (fun H_3 locs hP2 hD2 hS2 => ?_)
    rw [Wd_si sg_1 (by decide) rfl] at hP2 hD2
    obtain ⟨z_4, ez_4⟩ : ∃ w, w = si z h0 51 ((z.1 h0 51) + 16) := ⟨_, rfl⟩
    rw [← ez_4] at hP2 hD2
    replace hf := lt_at ez_4 hf
    clear ez_4
    replace hP := hP2
    replace hD := hD2
    replace hS := hS2
    clear hP2 hD2 hS2
    refine lv_aload_n hx hb dX18_weave_27 rfl (lv_at hl 0 rfl) ?_
    refine va_get (D := (dC, dI)) (ci := 18) (v := .int (z_4.1 h0 51)) (C := RX18) (T := TX18) (N := 78) hx hb hts iwd_X18_weave_X18 hown hK hP h0 (Wd_ob kg_1 sg_1 (by decide)) rfl 51 (by decide) (hts _ md_X18_weave_1) (fun _ h9 => h9) (fl_at (t := 0) rfl) dX18_weave_28 ?_
    obtain ⟨h8, h9⟩ := ret_some hf
    rw [h8, h9]
    exact W.iret (v := (z_4.1 h0 51)) hx hb hr (fun t ht hW => ⟨⟨(z_4.1 h0 51), (), rfl, rfl, by rw [ht]; exact hP, va_K.moved hW.alike hK, hD⟩, hS.F ht⟩) hS.2.2 dX18_weave_31
  · skip
    rw [if_neg c_2] at hf
    refine lv_bipush (v := (-3)) hx hb dX18_weave_13 (by decide) ?_
    obtain ⟨h8, h9⟩ := ret_some hf
    rw [h8, h9]
    exact W.iret (v := (-3)) hx hb hr (fun t ht hW => ⟨⟨(-3), (), rfl, rfl, by rw [ht]; exact hP, va_K.moved hW.alike hK, hD⟩, hS.F ht⟩) hS.2.2 dX18_weave_15

theorem md_X5_structureColumn_1 : (.fieldLink RX5 52 "ResourceLedger$Program" "allStructures" "I" : Cond) ∈ wsX5_structureColumn := List.mem_of_getElem? (i := 1) rfl
theorem iwd_X5_structureColumn_X5 : ∀ w ∈ wsX50, w ∈ wsX5_structureColumn := fun _ h => List.mem_cons_of_mem _ (List.mem_append_right _ h)
theorem md_X5_structureColumn_2 : (.fieldLink RX5 19 "ResourceLedger$Program" "structureRows" "[I" : Cond) ∈ wsX5_structureColumn := List.mem_of_getElem? (i := 2) rfl
set_option maxHeartbeats 4000000 in
set_option maxRecDepth 100000 in
theorem de_X5_structureColumn (l : Launch) (dC : Nat → ClassId) (dI : Nat → Nat → Nat) (cy : Nat → ClassId) (a : Nat → Nat) (sh : Nat → Nat × Nat) (n sz : Nat) (F : Nat) (z : St) (h0 : Nat) (x0 : Int32) (x1 : Int32) {z8 : St} {r8 : Int32} (hf : fn_X5_structureColumn F sh n z h0 x0 x1 = some (z8, r8)) : Met l yX5_structureColumn wsX5_structureColumn ({ frames := 0, cells := 0, slots := 0, locals := 0 }) (va_Pc [.ref (a h0), .int x0, .int x1] (fun U => U.heap.size = sz ∧ va_P (dC, dI) vwCl (Wd cy a sh n z) U.heap ∧ va_K (dC, dI) vwCl (TYS cy) U ∧ va_D (fun _ => True) (Wd cy a sh n z) ∧ NK U)) (va_Qi (fun (r9 : Int32) (u : Unit) => r9 = r8) (fun u t => va_P (dC, dI) vwCl (Wd cy a sh n z8) t.heap ∧ va_K (dC, dI) vwCl (TYS cy) t ∧ va_D (va_A (Wd cy a sh n z) sz) (Wd cy a sh n z8)) (va_A (Wd cy a sh n z) sz)) 0 0 (va_A (Wd cy a sh n z) sz) := by
  refine Met.ofW (cc := cX5_structureColumn) (maxL := 3) (ret := (some .int)) (by decide) rfl ?_
  intro p e s m args below meth c s₁ B hml hv
  obtain ⟨rfl, hsz, hP, hK, hD0, hN⟩ := hv
  have hx := B.exec
  have hb := B.bytes
  have hr := B.returns
  have hts := atoms_spec (ws := wsX5_structureColumn) B.pre
  have hown : s.vm.findClass RX5 = some m.cls := findClass_of_methodNamed B.named
  have hlocks := B.notSynchronized
  subst hsz
  have hD := hD0.self (sz := s.heap.size)
  clear hD0
  generalize hAe : va_A (Wd cy a sh n z) s.heap.size = A at hD ⊢
  have hA : ∀ q : Nat, s.heap.size ≤ q → A q := fun q h => by rw [← hAe]; exact Or.inr h
  clear hAe
  have hS : va_S A s.heap s.heap [] := va_S.rf
  have hl := lv_entry ([.ref (a h0), .int x0, .int x1]) (n := 3) (Nat.le_of_ble_eq_true rfl)
  rw [lg_entry_eq]
  generalize (lg_sl ([.ref (a h0), .int x0, .int x1]) ++ List.replicate (3 - (lg_sl ([.ref (a h0), .int x0, .int x1])).length) Slot.unset).toArray = ls at hl ⊢
  replace hl : lv_has ls 3 [(0, .ref (a h0)), (1, .int x0), (2, .int x1)] := hl
  unfold fn_X5_structureColumn at hf
  refine de_start hS hP (fun H locs hS hP => ?_)
  refine lv_iload_n hx hb dX5_structureColumn_0 rfl (lv_at hl 1 rfl) ?_
  refine lv_if_lt (tgt := 12) hx hb dX5_structureColumn_1 (by decide) (fun c_1 => ?_) (fun c_1 => ?_)
  · skip
    rw [if_pos c_1] at hf
    refine lv_iconst (v := 0) hx hb dX5_structureColumn_12 (by decide) ?_
    refine lv_goto (tgt := 27) hx hb dX5_structureColumn_13 (by decide) ?_
    obtain ⟨h8, h9⟩ := ret_some hf
    rw [h8, h9]
    exact W.iret (v := 0) hx hb hr (fun t ht hW => ⟨⟨0, (), rfl, rfl, by rw [ht]; exact hP, va_K.moved hW.alike hK, hD⟩, hS.F ht⟩) hS.2.2 dX5_structureColumn_27
  · skip
    rw [if_neg c_1] at hf
    refine lv_iload_n hx hb dX5_structureColumn_4 rfl (lv_at hl 1 rfl) ?_
    refine lv_aload_n hx hb dX5_structureColumn_5 rfl (lv_at hl 0 rfl) ?_
    obtain ⟨g_2, hf⟩ := grd_some hf
    obtain ⟨kg_2, sg_2⟩ := okO_at g_2
    refine va_get (D := (dC, dI)) (ci := 5) (v := .int (z.1 h0 9)) (C := RX5) (T := TX5) (N := 15) hx hb hts iwd_X5_structureColumn_X5 hown hK hP h0 (Wd_ob kg_2 sg_2 (by decide)) rfl 9 (by decide) (hts _ md_X5_structureColumn_1) (fun _ h9 => h9) (fl_at (t := 0) rfl) dX5_structureColumn_6 ?_
    refine lv_icmp_lt (tgt := 16) hx hb dX5_structureColumn_9 (by decide) (fun c_3 => ?_) (fun c_3 => ?_)
    · skip
      rw [if_pos c_3] at hf
      refine lv_aload_n hx hb dX5_structureColumn_16 rfl (lv_at hl 0 rfl) ?_
      obtain ⟨k_4, ek_4, hf⟩ := lnk_some hf
      refine va_get (D := (dC, dI)) (ci := 5) (v := .ref (a k_4)) (C := RX5) (T := TX5) (N := 15) hx hb hts iwd_X5_structureColumn_X5 hown hK hP h0 (Wd_ob kg_2 sg_2 (by decide)) rfl 7 (by decide) (hts _ md_X5_structureColumn_2) (fun _ h9 => h9) (fl_q rfl ek_4) dX5_structureColumn_17 ?_
      refine lv_iload_n hx hb dX5_structureColumn_20 rfl (lv_at hl 1 rfl) ?_
      refine lv_bipush (v := 7) hx hb dX5_structureColumn_21 (by decide) ?_
      refine lv_imul hx hb dX5_structureColumn_23 ?_
      refine lv_iload_n hx hb dX5_structureColumn_24 rfl (lv_at hl 2 rfl) ?_
      refine lv_iadd hx hb dX5_structureColumn_25 ?_
      obtain ⟨g_5, hf⟩ := grd_some hf
      obtain ⟨kg_5, sg_5, ig_5⟩ := okA_at g_5
      refine va_iald hx hb hK hP k_4 1 (Wd_ai kg_5 sg_5) rfl ig_5 dX5_structureColumn_26 ?_
      obtain ⟨h8, h9⟩ := ret_some hf
      rw [h8, h9]
      exact W.iret (v := (z.1 k_4 ((x0 * 7) + x1).toNatClampNeg)) hx hb hr (fun t ht hW => ⟨⟨(z.1 k_4 ((x0 * 7) + x1).toNatClampNeg), (), rfl, rfl, by rw [ht]; exact hP, va_K.moved hW.alike hK, hD⟩, hS.F ht⟩) hS.2.2 dX5_structureColumn_27
    · skip
      rw [if_neg c_3] at hf
      refine lv_iconst (v := 0) hx hb dX5_structureColumn_12 (by decide) ?_
      refine lv_goto (tgt := 27) hx hb dX5_structureColumn_13 (by decide) ?_
      obtain ⟨h8, h9⟩ := ret_some hf
      rw [h8, h9]
      exact W.iret (v := 0) hx hb hr (fun t ht hW => ⟨⟨0, (), rfl, rfl, by rw [ht]; exact hP, va_K.moved hW.alike hK, hD⟩, hS.F ht⟩) hS.2.2 dX5_structureColumn_27

theorem md_X12_byteOf_1 : (.fieldLink RX12 13 "ResourceLedgerModel$Digester" "words" "[J" : Cond) ∈ wsX12_byteOf := List.mem_of_getElem? (i := 1) rfl
theorem iwd_X12_byteOf_X12 : ∀ w ∈ wsX120, w ∈ wsX12_byteOf := fun _ h => List.mem_cons_of_mem _ (List.mem_append_right _ h)
theorem md_X12_byteOf_2 : (.constantLong RX12 64 (255) : Cond) ∈ wsX12_byteOf := List.mem_of_getElem? (i := 2) rfl
set_option maxHeartbeats 4000000 in
set_option maxRecDepth 100000 in
theorem de_X12_byteOf (l : Launch) (dC : Nat → ClassId) (dI : Nat → Nat → Nat) (cy : Nat → ClassId) (a : Nat → Nat) (sh : Nat → Nat × Nat) (n sz : Nat) (F : Nat) (z : St) (h0 : Nat) (x0 : Int32) {z8 : St} {r8 : Int32} (hf : fn_X12_byteOf F sh n z h0 x0 = some (z8, r8)) : Met l yX12_byteOf wsX12_byteOf ({ frames := 0, cells := 0, slots := 0, locals := 0 }) (va_Pc [.ref (a h0), .int x0] (fun U => U.heap.size = sz ∧ va_P (dC, dI) vwCl (Wd cy a sh n z) U.heap ∧ va_K (dC, dI) vwCl (TYS cy) U ∧ va_D (fun _ => True) (Wd cy a sh n z) ∧ NK U)) (va_Qi (fun (r9 : Int32) (u : Unit) => r9 = r8) (fun u t => va_P (dC, dI) vwCl (Wd cy a sh n z8) t.heap ∧ va_K (dC, dI) vwCl (TYS cy) t ∧ va_D (va_A (Wd cy a sh n z) sz) (Wd cy a sh n z8)) (va_A (Wd cy a sh n z) sz)) 0 0 (va_A (Wd cy a sh n z) sz) := by
  refine Met.ofW (cc := cX12_byteOf) (maxL := 2) (ret := (some .int)) (by decide) rfl ?_
  intro p e s m args below meth c s₁ B hml hv
  obtain ⟨rfl, hsz, hP, hK, hD0, hN⟩ := hv
  have hx := B.exec
  have hb := B.bytes
  have hr := B.returns
  have hts := atoms_spec (ws := wsX12_byteOf) B.pre
  have hown : s.vm.findClass RX12 = some m.cls := findClass_of_methodNamed B.named
  have hlocks := B.notSynchronized
  subst hsz
  have hD := hD0.self (sz := s.heap.size)
  clear hD0
  generalize hAe : va_A (Wd cy a sh n z) s.heap.size = A at hD ⊢
  have hA : ∀ q : Nat, s.heap.size ≤ q → A q := fun q h => by rw [← hAe]; exact Or.inr h
  clear hAe
  have hS : va_S A s.heap s.heap [] := va_S.rf
  have hl := lv_entry ([.ref (a h0), .int x0]) (n := 2) (Nat.le_of_ble_eq_true rfl)
  rw [lg_entry_eq]
  generalize (lg_sl ([.ref (a h0), .int x0]) ++ List.replicate (2 - (lg_sl ([.ref (a h0), .int x0])).length) Slot.unset).toArray = ls at hl ⊢
  replace hl : lv_has ls 2 [(0, .ref (a h0)), (1, .int x0)] := hl
  unfold fn_X12_byteOf at hf
  refine de_start hS hP (fun H locs hS hP => ?_)
  refine lv_aload_n hx hb dX12_byteOf_0 rfl (lv_at hl 0 rfl) ?_
  obtain ⟨g_1, hf⟩ := grd_some hf
  obtain ⟨kg_1, sg_1⟩ := okO_at g_1
  obtain ⟨k_2, ek_2, hf⟩ := lnk_some hf
  refine va_get (D := (dC, dI)) (ci := 12) (v := .ref (a k_2)) (C := RX12) (T := TX12) (N := 4) hx hb hts iwd_X12_byteOf_X12 hown hK hP h0 (Wd_ob kg_1 sg_1 (by decide)) rfl 2 (by decide) (hts _ md_X12_byteOf_1) (fun _ h9 => h9) (fl_q rfl ek_2) dX12_byteOf_1 ?_
  refine lv_iload_n hx hb dX12_byteOf_4 rfl (lv_at hl 1 rfl) ?_
  refine lv_iconst (v := 4) hx hb dX12_byteOf_5 (by decide) ?_
  refine lv_idiv hx hb dX12_byteOf_6 (by decide) ?_
  obtain ⟨g_3, hf⟩ := grd_some hf
  obtain ⟨kg_3, sg_3, ig_3⟩ := okA_at g_3
  refine va_lald hx hb hK hP k_2 2 (Wd_al kg_3 sg_3) rfl ig_3 dX12_byteOf_7 ?_
  refine lv_bipush (v := 24) hx hb dX12_byteOf_8 (by decide) ?_
  refine lv_bipush (v := 8) hx hb dX12_byteOf_10 (by decide) ?_
  refine lv_iload_n hx hb dX12_byteOf_12 rfl (lv_at hl 1 rfl) ?_
  refine lv_iconst (v := 4) hx hb dX12_byteOf_13 (by decide) ?_
  refine lv_irem hx hb dX12_byteOf_14 (by decide) ?_
  refine lv_imul hx hb dX12_byteOf_15 ?_
  refine lv_isub hx hb dX12_byteOf_16 ?_
  refine lv_lshr (v := ((z.2.1 k_2 (x0 / 4).toNatClampNeg) >>> (((24 - (8 * (x0 - x0 / 4 * 4))) : Int32).toInt64 &&& 63))) hx hb dX12_byteOf_17 rfl ?_
  refine lv_ldc2 hx hb hown (hts _ md_X12_byteOf_2) dX12_byteOf_18 ?_
  refine lv_land hx hb dX12_byteOf_21 ?_
  refine lv_l2i (v := (((((z.2.1 k_2 (x0 / 4).toNatClampNeg) >>> (((24 - (8 * (x0 - x0 / 4 * 4))) : Int32).toInt64 &&& 63))) &&& 255) : Int64).toInt32) hx hb dX12_byteOf_22 rfl ?_
  obtain ⟨h8, h9⟩ := ret_some hf
  rw [h8, h9]
  exact W.iret (v := ((((((z.2.1 k_2 (x0 / 4).toNatClampNeg) >>> (((24 - (8 * (x0 - x0 / 4 * 4))) : Int32).toInt64 &&& 63))) &&& 255) : Int64).toInt32)) hx hb hr (fun t ht hW => ⟨⟨((((((z.2.1 k_2 (x0 / 4).toNatClampNeg) >>> (((24 - (8 * (x0 - x0 / 4 * 4))) : Int32).toInt64 &&& 63))) &&& 255) : Int64).toInt32), (), rfl, rfl, by rw [ht]; exact hP, va_K.moved hW.alike hK, hD⟩, hS.F ht⟩) hS.2.2 dX12_byteOf_23

theorem md_X12_four_1 : (.fieldLink RX12 13 "ResourceLedgerModel$Digester" "words" "[J" : Cond) ∈ wsX12_four := List.mem_of_getElem? (i := 1) rfl
theorem iwd_X12_four_X12 : ∀ w ∈ wsX120, w ∈ wsX12_four := fun _ h => List.mem_cons_of_mem _ (List.mem_append_right _ h)
set_option maxHeartbeats 4000000 in
set_option maxRecDepth 100000 in
theorem de_X12_four (l : Launch) (dC : Nat → ClassId) (dI : Nat → Nat → Nat) (cy : Nat → ClassId) (a : Nat → Nat) (sh : Nat → Nat × Nat) (n sz : Nat) (F : Nat) (z : St) (h0 : Nat) (x0 : Int32) {z8 : St} {r8 : Int64} (hf : fn_X12_four F sh n z h0 x0 = some (z8, r8)) : Met l yX12_four wsX12_four ({ frames := 0, cells := 0, slots := 0, locals := 0 }) (va_Pc [.ref (a h0), .int x0] (fun U => U.heap.size = sz ∧ va_P (dC, dI) vwCl (Wd cy a sh n z) U.heap ∧ va_K (dC, dI) vwCl (TYS cy) U ∧ va_D (fun _ => True) (Wd cy a sh n z) ∧ NK U)) (va_Ql (fun (r9 : Int64) (u : Unit) => r9 = r8) (fun u t => va_P (dC, dI) vwCl (Wd cy a sh n z8) t.heap ∧ va_K (dC, dI) vwCl (TYS cy) t ∧ va_D (va_A (Wd cy a sh n z) sz) (Wd cy a sh n z8)) (va_A (Wd cy a sh n z) sz)) 0 0 (va_A (Wd cy a sh n z) sz) := by
  refine Met.ofW (cc := cX12_four) (maxL := 2) (ret := (some .long)) (by decide) rfl ?_
  intro p e s m args below meth c s₁ B hml hv
  obtain ⟨rfl, hsz, hP, hK, hD0, hN⟩ := hv
  have hx := B.exec
  have hb := B.bytes
  have hr := B.returns
  have hts := atoms_spec (ws := wsX12_four) B.pre
  have hown : s.vm.findClass RX12 = some m.cls := findClass_of_methodNamed B.named
  have hlocks := B.notSynchronized
  subst hsz
  have hD := hD0.self (sz := s.heap.size)
  clear hD0
  generalize hAe : va_A (Wd cy a sh n z) s.heap.size = A at hD ⊢
  have hA : ∀ q : Nat, s.heap.size ≤ q → A q := fun q h => by rw [← hAe]; exact Or.inr h
  clear hAe
  have hS : va_S A s.heap s.heap [] := va_S.rf
  have hl := lv_entry ([.ref (a h0), .int x0]) (n := 2) (Nat.le_of_ble_eq_true rfl)
  rw [lg_entry_eq]
  generalize (lg_sl ([.ref (a h0), .int x0]) ++ List.replicate (2 - (lg_sl ([.ref (a h0), .int x0])).length) Slot.unset).toArray = ls at hl ⊢
  replace hl : lv_has ls 2 [(0, .ref (a h0)), (1, .int x0)] := hl
  unfold fn_X12_four at hf
  refine de_start hS hP (fun H locs hS hP => ?_)
  refine lv_aload_n hx hb dX12_four_0 rfl (lv_at hl 0 rfl) ?_
  obtain ⟨g_1, hf⟩ := grd_some hf
  obtain ⟨kg_1, sg_1⟩ := okO_at g_1
  obtain ⟨k_2, ek_2, hf⟩ := lnk_some hf
  refine va_get (D := (dC, dI)) (ci := 12) (v := .ref (a k_2)) (C := RX12) (T := TX12) (N := 4) hx hb hts iwd_X12_four_X12 hown hK hP h0 (Wd_ob kg_1 sg_1 (by decide)) rfl 2 (by decide) (hts _ md_X12_four_1) (fun _ h9 => h9) (fl_q rfl ek_2) dX12_four_1 ?_
  refine lv_iconst (v := 2) hx hb dX12_four_4 (by decide) ?_
  refine lv_iload_n hx hb dX12_four_5 rfl (lv_at hl 1 rfl) ?_
  refine lv_imul hx hb dX12_four_6 ?_
  obtain ⟨g_3, hf⟩ := grd_some hf
  obtain ⟨kg_3, sg_3, ig_3⟩ := okA_at g_3
  refine va_lald hx hb hK hP k_2 2 (Wd_al kg_3 sg_3) rfl ig_3 dX12_four_7 ?_
  refine lv_bipush (v := 32) hx hb dX12_four_8 (by decide) ?_
  refine lv_lshl (v := ((z.2.1 k_2 (2 * x0).toNatClampNeg) <<< ((32 : Int32).toInt64 &&& 63))) hx hb dX12_four_10 rfl ?_
  refine lv_aload_n hx hb dX12_four_11 rfl (lv_at hl 0 rfl) ?_
  obtain ⟨k_4, ek_4, hf⟩ := lnk_some hf
  refine va_get (D := (dC, dI)) (ci := 12) (v := .ref (a k_4)) (C := RX12) (T := TX12) (N := 4) hx hb hts iwd_X12_four_X12 hown hK hP h0 (Wd_ob kg_1 sg_1 (by decide)) rfl 2 (by decide) (hts _ md_X12_four_1) (fun _ h9 => h9) (fl_q rfl ek_4) dX12_four_12 ?_
  refine lv_iconst (v := 2) hx hb dX12_four_15 (by decide) ?_
  refine lv_iload_n hx hb dX12_four_16 rfl (lv_at hl 1 rfl) ?_
  refine lv_imul hx hb dX12_four_17 ?_
  refine lv_iconst (v := 1) hx hb dX12_four_18 (by decide) ?_
  refine lv_iadd hx hb dX12_four_19 ?_
  obtain ⟨g_5, hf⟩ := grd_some hf
  obtain ⟨kg_5, sg_5, ig_5⟩ := okA_at g_5
  refine va_lald hx hb hK hP k_4 2 (Wd_al kg_5 sg_5) rfl ig_5 dX12_four_20 ?_
  refine lv_lor hx hb dX12_four_21 ?_
  obtain ⟨h8, h9⟩ := ret_some hf
  rw [h8, h9]
  exact W.lret (v := ((((z.2.1 k_2 (2 * x0).toNatClampNeg) <<< ((32 : Int32).toInt64 &&& 63))) ||| (z.2.1 k_4 ((2 * x0) + 1).toNatClampNeg))) hx hb hr (fun t ht hW => ⟨⟨((((z.2.1 k_2 (2 * x0).toNatClampNeg) <<< ((32 : Int32).toInt64 &&& 63))) ||| (z.2.1 k_4 ((2 * x0) + 1).toNatClampNeg)), (), rfl, rfl, by rw [ht]; exact hP, va_K.moved hW.alike hK, hD⟩, hS.F ht⟩) hS.2.2 dX12_four_22

theorem md_X14_order_1 : (.constantLong RX14 45 (-9223372036854775808) : Cond) ∈ wsX14_order := List.mem_of_getElem? (i := 1) rfl
set_option maxHeartbeats 4000000 in
set_option maxRecDepth 100000 in
theorem de_X14_order (l : Launch) (dC : Nat → ClassId) (dI : Nat → Nat → Nat) (cy : Nat → ClassId) (a : Nat → Nat) (sh : Nat → Nat × Nat) (n sz : Nat) (F : Nat) (z : St) (x0 : Int64) (x1 : Int64) {z8 : St} {r8 : Int32} (hf : fn_X14_order F sh n z x0 x1 = some (z8, r8)) : Met l yX14_order wsX14_order ({ frames := 0, cells := 0, slots := 0, locals := 0 }) (va_Pc [.long x0, .long x1] (fun U => U.heap.size = sz ∧ va_P (dC, dI) vwCl (Wd cy a sh n z) U.heap ∧ va_K (dC, dI) vwCl (TYS cy) U ∧ va_D (fun _ => True) (Wd cy a sh n z) ∧ NK U)) (va_Qi (fun (r9 : Int32) (u : Unit) => r9 = r8) (fun u t => va_P (dC, dI) vwCl (Wd cy a sh n z8) t.heap ∧ va_K (dC, dI) vwCl (TYS cy) t ∧ va_D (va_A (Wd cy a sh n z) sz) (Wd cy a sh n z8)) (va_A (Wd cy a sh n z) sz)) 0 0 (va_A (Wd cy a sh n z) sz) := by
  refine Met.ofW (cc := cX14_order) (maxL := 4) (ret := (some .int)) (by decide) rfl ?_
  intro p e s m args below meth c s₁ B hml hv
  obtain ⟨rfl, hsz, hP, hK, hD0, hN⟩ := hv
  have hx := B.exec
  have hb := B.bytes
  have hr := B.returns
  have hts := atoms_spec (ws := wsX14_order) B.pre
  have hown : s.vm.findClass RX14 = some m.cls := findClass_of_methodNamed B.named
  have hlocks := B.notSynchronized
  subst hsz
  have hD := hD0.self (sz := s.heap.size)
  clear hD0
  generalize hAe : va_A (Wd cy a sh n z) s.heap.size = A at hD ⊢
  have hA : ∀ q : Nat, s.heap.size ≤ q → A q := fun q h => by rw [← hAe]; exact Or.inr h
  clear hAe
  have hS : va_S A s.heap s.heap [] := va_S.rf
  have hl := lv_entry ([.long x0, .long x1]) (n := 4) (Nat.le_of_ble_eq_true rfl)
  rw [lg_entry_eq]
  generalize (lg_sl ([.long x0, .long x1]) ++ List.replicate (4 - (lg_sl ([.long x0, .long x1])).length) Slot.unset).toArray = ls at hl ⊢
  replace hl : lv_has ls 4 [(0, .long x0), (2, .long x1)] := hl
  unfold fn_X14_order at hf
  refine de_start hS hP (fun H locs hS hP => ?_)
  refine lv_lload_n hx hb dX14_order_0 rfl (lv_at hl 0 rfl) ?_
  refine lv_lload_n hx hb dX14_order_1 rfl (lv_at hl 1 rfl) ?_
  refine W.lcmp hx hb dX14_order_2 ?_
  refine lv_if_ne (tgt := 10) hx hb dX14_order_3 (by decide) (fun c_1 => ?_) (fun c_1 => ?_)
  · skip
    rw [lg_cmp_eq] at c_1
    rw [if_neg c_1] at hf
    refine lv_lload_n hx hb dX14_order_10 rfl (lv_at hl 0 rfl) ?_
    refine lv_ldc2 hx hb hown (hts _ md_X14_order_1) dX14_order_11 ?_
    refine lv_ladd hx hb dX14_order_14 ?_
    refine lv_lload_n hx hb dX14_order_15 rfl (lv_at hl 1 rfl) ?_
    refine lv_ldc2 hx hb hown (hts _ md_X14_order_1) dX14_order_16 ?_
    refine lv_ladd hx hb dX14_order_19 ?_
    refine W.lcmp hx hb dX14_order_20 ?_
    refine lv_if_ge (tgt := 28) hx hb dX14_order_21 (by decide) (fun c_2 => ?_) (fun c_2 => ?_)
    · skip
      rw [lg_cmp_ge] at c_2
      rw [if_pos c_2] at hf
      refine lv_iconst (v := 1) hx hb dX14_order_28 (by decide) ?_
      obtain ⟨h8, h9⟩ := ret_some hf
      rw [h8, h9]
      exact W.iret (v := 1) hx hb hr (fun t ht hW => ⟨⟨1, (), rfl, rfl, by rw [ht]; exact hP, va_K.moved hW.alike hK, hD⟩, hS.F ht⟩) hS.2.2 dX14_order_29
    · skip
      rw [lg_cmp_ge] at c_2
      rw [if_neg c_2] at hf
      refine lv_iconst (v := (-1)) hx hb dX14_order_24 (by decide) ?_
      refine lv_goto (tgt := 29) hx hb dX14_order_25 (by decide) ?_
      obtain ⟨h8, h9⟩ := ret_some hf
      rw [h8, h9]
      exact W.iret (v := (-1)) hx hb hr (fun t ht hW => ⟨⟨(-1), (), rfl, rfl, by rw [ht]; exact hP, va_K.moved hW.alike hK, hD⟩, hS.F ht⟩) hS.2.2 dX14_order_29
  · skip
    rw [lg_cmp_eq] at c_1
    rw [if_pos c_1] at hf
    refine lv_iconst (v := 0) hx hb dX14_order_6 (by decide) ?_
    refine lv_goto (tgt := 29) hx hb dX14_order_7 (by decide) ?_
    obtain ⟨h8, h9⟩ := ret_some hf
    rw [h8, h9]
    exact W.iret (v := 0) hx hb hr (fun t ht hW => ⟨⟨0, (), rfl, rfl, by rw [ht]; exact hP, va_K.moved hW.alike hK, hD⟩, hS.F ht⟩) hS.2.2 dX14_order_29

theorem md_X5_addStart_1 : (.fieldLink RX5 42 "ResourceLedger$Program" "startCount" "I" : Cond) ∈ wsX5_addStart := List.mem_of_getElem? (i := 1) rfl
theorem iwd_X5_addStart_X5 : ∀ w ∈ wsX50, w ∈ wsX5_addStart := fun _ h => List.mem_cons_of_mem _ (List.mem_append_right _ h)
theorem md_X5_addStart_2 : (.fieldLink RX5 15 "ResourceLedger$Program" "starts" "[I" : Cond) ∈ wsX5_addStart := List.mem_of_getElem? (i := 2) rfl
set_option maxHeartbeats 4000000 in
set_option maxRecDepth 100000 in
theorem de_X5_addStart (l : Launch) (dC : Nat → ClassId) (dI : Nat → Nat → Nat) (cy : Nat → ClassId) (a : Nat → Nat) (sh : Nat → Nat × Nat) (n sz : Nat) (F : Nat) (z : St) (h0 : Nat) (x0 : Int32) {z8 : St} {r8 : Unit} (hf : fn_X5_addStart F sh n z h0 x0 = some (z8, r8)) : Met l yX5_addStart wsX5_addStart ({ frames := 0, cells := 0, slots := 0, locals := 0 }) (va_Pc [.ref (a h0), .int x0] (fun U => U.heap.size = sz ∧ va_P (dC, dI) vwCl (Wd cy a sh n z) U.heap ∧ va_K (dC, dI) vwCl (TYS cy) U ∧ va_D (fun _ => True) (Wd cy a sh n z) ∧ NK U)) (va_Qv (fun u : Unit => True) (fun u t => va_P (dC, dI) vwCl (Wd cy a sh n z8) t.heap ∧ va_K (dC, dI) vwCl (TYS cy) t ∧ va_D (va_A (Wd cy a sh n z) sz) (Wd cy a sh n z8)) (va_A (Wd cy a sh n z) sz)) 0 0 (va_A (Wd cy a sh n z) sz) := by
  refine Met.ofW (cc := cX5_addStart) (maxL := 2) (ret := none) (by decide) rfl ?_
  intro p e s m args below meth c s₁ B hml hv
  obtain ⟨rfl, hsz, hP, hK, hD0, hN⟩ := hv
  have hx := B.exec
  have hb := B.bytes
  have hr := B.returns
  have hts := atoms_spec (ws := wsX5_addStart) B.pre
  have hown : s.vm.findClass RX5 = some m.cls := findClass_of_methodNamed B.named
  have hlocks := B.notSynchronized
  subst hsz
  have hD := hD0.self (sz := s.heap.size)
  clear hD0
  generalize hAe : va_A (Wd cy a sh n z) s.heap.size = A at hD ⊢
  have hA : ∀ q : Nat, s.heap.size ≤ q → A q := fun q h => by rw [← hAe]; exact Or.inr h
  clear hAe
  have hS : va_S A s.heap s.heap [] := va_S.rf
  have hl := lv_entry ([.ref (a h0), .int x0]) (n := 2) (Nat.le_of_ble_eq_true rfl)
  rw [lg_entry_eq]
  generalize (lg_sl ([.ref (a h0), .int x0]) ++ List.replicate (2 - (lg_sl ([.ref (a h0), .int x0])).length) Slot.unset).toArray = ls at hl ⊢
  replace hl : lv_has ls 2 [(0, .ref (a h0)), (1, .int x0)] := hl
  unfold fn_X5_addStart at hf
  refine de_start hS hP (fun H locs hS hP => ?_)
  refine lv_aload_n hx hb dX5_addStart_0 rfl (lv_at hl 0 rfl) ?_
  obtain ⟨g_1, hf⟩ := grd_some hf
  obtain ⟨kg_1, sg_1⟩ := okO_at g_1
  refine va_get (D := (dC, dI)) (ci := 5) (v := .int (z.1 h0 6)) (C := RX5) (T := TX5) (N := 15) hx hb hts iwd_X5_addStart_X5 hown hK hP h0 (Wd_ob kg_1 sg_1 (by decide)) rfl 6 (by decide) (hts _ md_X5_addStart_1) (fun _ h9 => h9) (fl_at (t := 0) rfl) dX5_addStart_1 ?_
  refine lv_aload_n hx hb dX5_addStart_4 rfl (lv_at hl 0 rfl) ?_
  obtain ⟨k_2, ek_2, hf⟩ := lnk_some hf
  refine va_get (D := (dC, dI)) (ci := 5) (v := .ref (a k_2)) (C := RX5) (T := TX5) (N := 15) hx hb hts iwd_X5_addStart_X5 hown hK hP h0 (Wd_ob kg_1 sg_1 (by decide)) rfl 5 (by decide) (hts _ md_X5_addStart_2) (fun _ h9 => h9) (fl_q rfl ek_2) dX5_addStart_5 ?_
  obtain ⟨g_3, hf⟩ := grd_some hf
  obtain ⟨kg_3, sg_3⟩ := okO_at g_3
  refine va_alen (v := Int32.ofNat (sh k_2).2) hx hb hK hP k_2 1 (Wd_ai kg_3 sg_3) rfl rfl dX5_addStart_8 ?_
  refine lv_icmp_ge (tgt := 29) hx hb dX5_addStart_9 (by decide) (fun c_4 => ?_) (fun c_4 => ?_)
  · skip
    rw [if_pos c_4] at hf
    obtain ⟨h8, h9⟩ := ret_some hf
    rw [h8]
    exact W.vret hx hb hr (fun t ht hW => ⟨⟨(), rfl, trivial, by rw [ht]; exact hP, va_K.moved hW.alike hK, hD⟩, hS.F ht⟩) hS.2.2 dX5_addStart_29
  · skip
    rw [if_neg c_4] at hf
    refine lv_aload_n hx hb dX5_addStart_12 rfl (lv_at hl 0 rfl) ?_
    obtain ⟨k_5, ek_5, hf⟩ := lnk_some hf
    refine va_get (D := (dC, dI)) (ci := 5) (v := .ref (a k_5)) (C := RX5) (T := TX5) (N := 15) hx hb hts iwd_X5_addStart_X5 hown hK hP h0 (Wd_ob kg_1 sg_1 (by decide)) rfl 5 (by decide) (hts _ md_X5_addStart_2) (fun _ h9 => h9) (fl_q rfl ek_5) dX5_addStart_13 ?_
    refine lv_aload_n hx hb dX5_addStart_16 rfl (lv_at hl 0 rfl) ?_
    refine lv_dup hx hb dX5_addStart_17 rfl ?_
    refine va_get (D := (dC, dI)) (ci := 5) (v := .int (z.1 h0 6)) (C := RX5) (T := TX5) (N := 15) hx hb hts iwd_X5_addStart_X5 hown hK hP h0 (Wd_ob kg_1 sg_1 (by decide)) rfl 6 (by decide) (hts _ md_X5_addStart_1) (fun _ h9 => h9) (fl_at (t := 0) rfl) dX5_addStart_18 ?_
    refine lv_topi (fun v_6 ev_6 => ?_)
    replace hf := lt_at ev_6 hf
    clear ev_6
    refine lv_dup_x1 hx hb dX5_addStart_21 rfl rfl ?_
    refine lv_iconst (v := 1) hx hb dX5_addStart_22 (by decide) ?_
    refine lv_iadd hx hb dX5_addStart_23 ?_
    refine va_put (D := (dC, dI)) (ci := 5) (v := .int (v_6 + 1)) (ty := .int) (C := RX5) (T := TX5) (N := 15) hx hb hts iwd_X5_addStart_X5 tyX5 tyX5_ok nmX5 hown hK hP hD hS h0 (Wd_ob kg_1 sg_1 (by decide)) rfl 6 (by decide) (hts _ md_X5_addStart_1) (fun _ h9 => h9) rfl (by decide +kernel) rfl rfl (by rw [fl_len]; decide) dX5_addStart_24 (fun H_7 locs hP2 hD2 hS2 => ?_)
    rw [Wd_si sg_1 (by decide) rfl] at hP2 hD2
    obtain ⟨z_8, ez_8⟩ : ∃ w, w = si z h0 6 (v_6 + 1) := ⟨_, rfl⟩
    rw [← ez_8] at hP2 hD2
    replace hf := lt_at ez_8 hf
    clear ez_8
    replace hP := hP2
    replace hD := hD2
    replace hS := hS2
    clear hP2 hD2 hS2
    refine lv_iload_n hx hb dX5_addStart_27 rfl (lv_at hl 1 rfl) ?_
    obtain ⟨g_9, hf⟩ := grd_some hf
    obtain ⟨kg_9, sg_9, ig_9⟩ := okA_at g_9
    refine va_iast hx hb hK hP hD hS k_5 1 (Wd_ai kg_9 sg_9) rfl ig_9 dX5_addStart_28 (fun H_10 locs hP2 hD2 hS2 => ?_)
    rw [Wd_ti sg_9] at hP2 hD2
    obtain ⟨z_11, ez_11⟩ : ∃ w, w = si z_8 k_5 v_6.toNatClampNeg x0 := ⟨_, rfl⟩
    rw [← ez_11] at hP2 hD2
    replace hf := lt_at ez_11 hf
    clear ez_11
    replace hP := hP2
    replace hD := hD2
    replace hS := hS2
    clear hP2 hD2 hS2
    obtain ⟨h8, h9⟩ := ret_some hf
    rw [h8]
    exact W.vret hx hb hr (fun t ht hW => ⟨⟨(), rfl, trivial, by rw [ht]; exact hP, va_K.moved hW.alike hK, hD⟩, hS.F ht⟩) hS.2.2 dX5_addStart_29

theorem md_X5_addType_1 : (.fieldLink RX5 39 "ResourceLedger$Program" "typeCount" "I" : Cond) ∈ wsX5_addType := List.mem_of_getElem? (i := 1) rfl
theorem iwd_X5_addType_X5 : ∀ w ∈ wsX50, w ∈ wsX5_addType := fun _ h => List.mem_cons_of_mem _ (List.mem_append_right _ h)
theorem md_X5_addType_2 : (.fieldLink RX5 9 "ResourceLedger$Program" "types" "[J" : Cond) ∈ wsX5_addType := List.mem_of_getElem? (i := 2) rfl
set_option maxHeartbeats 4000000 in
set_option maxRecDepth 100000 in
theorem de_X5_addType (l : Launch) (dC : Nat → ClassId) (dI : Nat → Nat → Nat) (cy : Nat → ClassId) (a : Nat → Nat) (sh : Nat → Nat × Nat) (n sz : Nat) (F : Nat) (z : St) (h0 : Nat) (x0 : Int64) {z8 : St} {r8 : Unit} (hf : fn_X5_addType F sh n z h0 x0 = some (z8, r8)) : Met l yX5_addType wsX5_addType ({ frames := 0, cells := 0, slots := 0, locals := 0 }) (va_Pc [.ref (a h0), .long x0] (fun U => U.heap.size = sz ∧ va_P (dC, dI) vwCl (Wd cy a sh n z) U.heap ∧ va_K (dC, dI) vwCl (TYS cy) U ∧ va_D (fun _ => True) (Wd cy a sh n z) ∧ NK U)) (va_Qv (fun u : Unit => True) (fun u t => va_P (dC, dI) vwCl (Wd cy a sh n z8) t.heap ∧ va_K (dC, dI) vwCl (TYS cy) t ∧ va_D (va_A (Wd cy a sh n z) sz) (Wd cy a sh n z8)) (va_A (Wd cy a sh n z) sz)) 0 0 (va_A (Wd cy a sh n z) sz) := by
  refine Met.ofW (cc := cX5_addType) (maxL := 3) (ret := none) (by decide) rfl ?_
  intro p e s m args below meth c s₁ B hml hv
  obtain ⟨rfl, hsz, hP, hK, hD0, hN⟩ := hv
  have hx := B.exec
  have hb := B.bytes
  have hr := B.returns
  have hts := atoms_spec (ws := wsX5_addType) B.pre
  have hown : s.vm.findClass RX5 = some m.cls := findClass_of_methodNamed B.named
  have hlocks := B.notSynchronized
  subst hsz
  have hD := hD0.self (sz := s.heap.size)
  clear hD0
  generalize hAe : va_A (Wd cy a sh n z) s.heap.size = A at hD ⊢
  have hA : ∀ q : Nat, s.heap.size ≤ q → A q := fun q h => by rw [← hAe]; exact Or.inr h
  clear hAe
  have hS : va_S A s.heap s.heap [] := va_S.rf
  have hl := lv_entry ([.ref (a h0), .long x0]) (n := 3) (Nat.le_of_ble_eq_true rfl)
  rw [lg_entry_eq]
  generalize (lg_sl ([.ref (a h0), .long x0]) ++ List.replicate (3 - (lg_sl ([.ref (a h0), .long x0])).length) Slot.unset).toArray = ls at hl ⊢
  replace hl : lv_has ls 3 [(0, .ref (a h0)), (1, .long x0)] := hl
  unfold fn_X5_addType at hf
  refine de_start hS hP (fun H locs hS hP => ?_)
  refine lv_aload_n hx hb dX5_addType_0 rfl (lv_at hl 0 rfl) ?_
  obtain ⟨g_1, hf⟩ := grd_some hf
  obtain ⟨kg_1, sg_1⟩ := okO_at g_1
  refine va_get (D := (dC, dI)) (ci := 5) (v := .int (z.1 h0 4)) (C := RX5) (T := TX5) (N := 15) hx hb hts iwd_X5_addType_X5 hown hK hP h0 (Wd_ob kg_1 sg_1 (by decide)) rfl 4 (by decide) (hts _ md_X5_addType_1) (fun _ h9 => h9) (fl_at (t := 0) rfl) dX5_addType_1 ?_
  refine lv_aload_n hx hb dX5_addType_4 rfl (lv_at hl 0 rfl) ?_
  obtain ⟨k_2, ek_2, hf⟩ := lnk_some hf
  refine va_get (D := (dC, dI)) (ci := 5) (v := .ref (a k_2)) (C := RX5) (T := TX5) (N := 15) hx hb hts iwd_X5_addType_X5 hown hK hP h0 (Wd_ob kg_1 sg_1 (by decide)) rfl 3 (by decide) (hts _ md_X5_addType_2) (fun _ h9 => h9) (fl_q rfl ek_2) dX5_addType_5 ?_
  obtain ⟨g_3, hf⟩ := grd_some hf
  obtain ⟨kg_3, sg_3⟩ := okO_at g_3
  refine va_alen (v := Int32.ofNat (sh k_2).2) hx hb hK hP k_2 2 (Wd_al kg_3 sg_3) rfl rfl dX5_addType_8 ?_
  refine lv_icmp_ge (tgt := 29) hx hb dX5_addType_9 (by decide) (fun c_4 => ?_) (fun c_4 => ?_)
  · skip
    rw [if_pos c_4] at hf
    obtain ⟨h8, h9⟩ := ret_some hf
    rw [h8]
    exact W.vret hx hb hr (fun t ht hW => ⟨⟨(), rfl, trivial, by rw [ht]; exact hP, va_K.moved hW.alike hK, hD⟩, hS.F ht⟩) hS.2.2 dX5_addType_29
  · skip
    rw [if_neg c_4] at hf
    refine lv_aload_n hx hb dX5_addType_12 rfl (lv_at hl 0 rfl) ?_
    obtain ⟨k_5, ek_5, hf⟩ := lnk_some hf
    refine va_get (D := (dC, dI)) (ci := 5) (v := .ref (a k_5)) (C := RX5) (T := TX5) (N := 15) hx hb hts iwd_X5_addType_X5 hown hK hP h0 (Wd_ob kg_1 sg_1 (by decide)) rfl 3 (by decide) (hts _ md_X5_addType_2) (fun _ h9 => h9) (fl_q rfl ek_5) dX5_addType_13 ?_
    refine lv_aload_n hx hb dX5_addType_16 rfl (lv_at hl 0 rfl) ?_
    refine lv_dup hx hb dX5_addType_17 rfl ?_
    refine va_get (D := (dC, dI)) (ci := 5) (v := .int (z.1 h0 4)) (C := RX5) (T := TX5) (N := 15) hx hb hts iwd_X5_addType_X5 hown hK hP h0 (Wd_ob kg_1 sg_1 (by decide)) rfl 4 (by decide) (hts _ md_X5_addType_1) (fun _ h9 => h9) (fl_at (t := 0) rfl) dX5_addType_18 ?_
    refine lv_topi (fun v_6 ev_6 => ?_)
    replace hf := lt_at ev_6 hf
    clear ev_6
    refine lv_dup_x1 hx hb dX5_addType_21 rfl rfl ?_
    refine lv_iconst (v := 1) hx hb dX5_addType_22 (by decide) ?_
    refine lv_iadd hx hb dX5_addType_23 ?_
    refine va_put (D := (dC, dI)) (ci := 5) (v := .int (v_6 + 1)) (ty := .int) (C := RX5) (T := TX5) (N := 15) hx hb hts iwd_X5_addType_X5 tyX5 tyX5_ok nmX5 hown hK hP hD hS h0 (Wd_ob kg_1 sg_1 (by decide)) rfl 4 (by decide) (hts _ md_X5_addType_1) (fun _ h9 => h9) rfl (by decide +kernel) rfl rfl (by rw [fl_len]; decide) dX5_addType_24 (fun H_7 locs hP2 hD2 hS2 => ?_)
    rw [Wd_si sg_1 (by decide) rfl] at hP2 hD2
    obtain ⟨z_8, ez_8⟩ : ∃ w, w = si z h0 4 (v_6 + 1) := ⟨_, rfl⟩
    rw [← ez_8] at hP2 hD2
    replace hf := lt_at ez_8 hf
    clear ez_8
    replace hP := hP2
    replace hD := hD2
    replace hS := hS2
    clear hP2 hD2 hS2
    refine lv_lload_n hx hb dX5_addType_27 rfl (lv_at hl 1 rfl) ?_
    obtain ⟨g_9, hf⟩ := grd_some hf
    obtain ⟨kg_9, sg_9, ig_9⟩ := okA_at g_9
    refine va_last hx hb hK hP hD hS k_5 2 (Wd_al kg_9 sg_9) rfl ig_9 dX5_addType_28 (fun H_10 locs hP2 hD2 hS2 => ?_)
    rw [Wd_tl sg_9] at hP2 hD2
    obtain ⟨z_11, ez_11⟩ : ∃ w, w = sl z_8 k_5 v_6.toNatClampNeg x0 := ⟨_, rfl⟩
    rw [← ez_11] at hP2 hD2
    replace hf := lt_at ez_11 hf
    clear ez_11
    replace hP := hP2
    replace hD := hD2
    replace hS := hS2
    clear hP2 hD2 hS2
    obtain ⟨h8, h9⟩ := ret_some hf
    rw [h8]
    exact W.vret hx hb hr (fun t ht hW => ⟨⟨(), rfl, trivial, by rw [ht]; exact hP, va_K.moved hW.alike hK, hD⟩, hS.F ht⟩) hS.2.2 dX5_addType_29

theorem md_X15_count_1 : (.fieldLink RX15 20 "ResourceLedgerModel$Trees" "firsts" "[I" : Cond) ∈ wsX15_count := List.mem_of_getElem? (i := 1) rfl
theorem iwd_X15_count_X15 : ∀ w ∈ wsX150, w ∈ wsX15_count := fun _ h => List.mem_cons_of_mem _ (List.mem_append_right _ h)
theorem md_X15_count_2 : (.fieldLink RX15 24 "ResourceLedgerModel$Trees" "nexts" "[I" : Cond) ∈ wsX15_count := List.mem_of_getElem? (i := 2) rfl
set_option maxHeartbeats 4000000 in
set_option maxRecDepth 100000 in
theorem de_X15_count (l : Launch) (dC : Nat → ClassId) (dI : Nat → Nat → Nat) (cy : Nat → ClassId) (a : Nat → Nat) (sh : Nat → Nat × Nat) (n sz : Nat) (F : Nat) (z : St) (h0 : Nat) (x0 : Int32) {z8 : St} {r8 : Int32} (hf : fn_X15_count F sh n z h0 x0 = some (z8, r8)) : Met l yX15_count wsX15_count ({ frames := 0, cells := 0, slots := 0, locals := 0 }) (va_Pc [.ref (a h0), .int x0] (fun U => U.heap.size = sz ∧ va_P (dC, dI) vwCl (Wd cy a sh n z) U.heap ∧ va_K (dC, dI) vwCl (TYS cy) U ∧ va_D (fun _ => True) (Wd cy a sh n z) ∧ NK U)) (va_Qi (fun (r9 : Int32) (u : Unit) => r9 = r8) (fun u t => va_P (dC, dI) vwCl (Wd cy a sh n z8) t.heap ∧ va_K (dC, dI) vwCl (TYS cy) t ∧ va_D (va_A (Wd cy a sh n z) sz) (Wd cy a sh n z8)) (va_A (Wd cy a sh n z) sz)) 0 0 (va_A (Wd cy a sh n z) sz) := by
  refine Met.ofW (cc := cX15_count) (maxL := 4) (ret := (some .int)) (by decide) rfl ?_
  intro p e s m args below meth c s₁ B hml hv
  obtain ⟨rfl, hsz, hP, hK, hD0, hN⟩ := hv
  have hx := B.exec
  have hb := B.bytes
  have hr := B.returns
  have hts := atoms_spec (ws := wsX15_count) B.pre
  have hown : s.vm.findClass RX15 = some m.cls := findClass_of_methodNamed B.named
  have hlocks := B.notSynchronized
  subst hsz
  have hD := hD0.self (sz := s.heap.size)
  clear hD0
  generalize hAe : va_A (Wd cy a sh n z) s.heap.size = A at hD ⊢
  have hA : ∀ q : Nat, s.heap.size ≤ q → A q := fun q h => by rw [← hAe]; exact Or.inr h
  clear hAe
  have hS : va_S A s.heap s.heap [] := va_S.rf
  have hl := lv_entry ([.ref (a h0), .int x0]) (n := 4) (Nat.le_of_ble_eq_true rfl)
  rw [lg_entry_eq]
  generalize (lg_sl ([.ref (a h0), .int x0]) ++ List.replicate (4 - (lg_sl ([.ref (a h0), .int x0])).length) Slot.unset).toArray = ls at hl ⊢
  replace hl : lv_has ls 4 [(0, .ref (a h0)), (1, .int x0)] := hl
  unfold fn_X15_count at hf
  refine de_start hS hP (fun H locs hS hP => ?_)
  refine lv_iconst (v := 0) hx hb dX15_count_0 (by decide) ?_
  refine lv_istore_n (lv' := [(2, .int 0), (0, .ref (a h0)), (1, .int x0)]) hx hb dX15_count_1 rfl hl (by decide) rfl (fun ls hl2 => ?_)
  replace hl := hl2
  clear hl2
  refine lv_aload_n hx hb dX15_count_2 rfl (lv_at hl 1 rfl) ?_
  obtain ⟨g_1, hf⟩ := grd_some hf
  obtain ⟨kg_1, sg_1⟩ := okO_at g_1
  obtain ⟨k_2, ek_2, hf⟩ := lnk_some hf
  refine va_get (D := (dC, dI)) (ci := 15) (v := .ref (a k_2)) (C := RX15) (T := TX15) (N := 6) hx hb hts iwd_X15_count_X15 hown hK hP h0 (Wd_ob kg_1 sg_1 (by decide)) rfl 3 (by decide) (hts _ md_X15_count_1) (fun _ h9 => h9) (fl_q rfl ek_2) dX15_count_3 ?_
  refine lv_iload_n hx hb dX15_count_6 rfl (lv_at hl 2 rfl) ?_
  obtain ⟨g_3, hf⟩ := grd_some hf
  obtain ⟨kg_3, sg_3, ig_3⟩ := okA_at g_3
  refine va_iald hx hb hK hP k_2 1 (Wd_ai kg_3 sg_3) rfl ig_3 dX15_count_7 ?_
  refine lv_topi (fun v_4 ev_4 => ?_)
  replace hf := lt_at ev_4 hf
  clear ev_4
  refine lv_istore_n (lv' := [(3, .int v_4), (2, .int 0), (0, .ref (a h0)), (1, .int x0)]) hx hb dX15_count_8 rfl hl (by decide) rfl (fun ls hl2 => ?_)
  replace hl := hl2
  clear hl2
  have hl0 : lv_has ls 4 [(3, .int v_4), (2, .int 0), (0, .ref (a h0))] := lv_sub hl [0, 1, 2] rfl
  refine de_loop (h := 9) (fun (x : St × Int32 × Int32) ls H locs => lv_has ls 4 [(3, .int x.2.2), (2, .int x.2.1), (0, .ref (a h0))] ∧ va_P (dC, dI) vwCl (Wd cy a sh n x.1) H ∧ va_D A (Wd cy a sh n x.1) ∧ va_S A s.heap H locs) (fun f x => fn_X15_count_L9 F sh n h0 f x.1 x.2.1 x.2.2) (z8, r8) ?_ (fun _ => rfl) F (z, 0, v_4) ls H locs ⟨hl0, hP, hD, hS⟩ hf
  intro f_8 x ls H locs ih9 hI hf
  obtain ⟨z_7, p_5, p_6⟩ := x
  obtain ⟨hl2, hP2, hD2, hS2⟩ := hI
  replace hl : lv_has ls 4 [(3, .int p_6), (2, .int p_5), (0, .ref (a h0))] := hl2
  replace hP := hP2
  replace hD := hD2
  replace hS := hS2
  clear hl2 hP2 hD2 hS2 hl0
  replace hf := fn_X15_count_L9_s hf
  refine lv_iload_n hx hb dX15_count_9 rfl (lv_at hl 0 rfl) ?_
  refine lv_iconst (v := (-1)) hx hb dX15_count_10 (by decide) ?_
  refine lv_icmp_eq (tgt := 27) hx hb dX15_count_11 (by decide) (fun c_9 => ?_) (fun c_9 => ?_)
  · skip
    rw [if_pos c_9] at hf
    refine lv_iload_n hx hb dX15_count_27 rfl (lv_at hl 1 rfl) ?_
    obtain ⟨h8, h9⟩ := ret_some hf
    rw [h8, h9]
    exact W.iret (v := p_5) hx hb hr (fun t ht hW => ⟨⟨p_5, (), rfl, rfl, by rw [ht]; exact hP, va_K.moved hW.alike hK, hD⟩, hS.F ht⟩) hS.2.2 dX15_count_28
  · skip
    rw [if_neg c_9] at hf
    refine lv_iinc (v := (p_5 + 1)) (lv' := [(2, .int (p_5 + 1)), (3, .int p_6), (0, .ref (a h0))]) hx hb dX15_count_14 hl (k := 1) rfl rfl (by decide) rfl (fun ls hl2 => ?_)
    replace hl := hl2
    clear hl2
    refine lv_aload_n hx hb dX15_count_17 rfl (lv_at hl 2 rfl) ?_
    obtain ⟨k_10, ek_10, hf⟩ := lnk_some hf
    refine va_get (D := (dC, dI)) (ci := 15) (v := .ref (a k_10)) (C := RX15) (T := TX15) (N := 6) hx hb hts iwd_X15_count_X15 hown hK hP h0 (Wd_ob kg_1 sg_1 (by decide)) rfl 4 (by decide) (hts _ md_X15_count_2) (fun _ h9 => h9) (fl_q rfl ek_10) dX15_count_18 ?_
    refine lv_iload_n hx hb dX15_count_21 rfl (lv_at hl 1 rfl) ?_
    obtain ⟨g_11, hf⟩ := grd_some hf
    obtain ⟨kg_11, sg_11, ig_11⟩ := okA_at g_11
    refine va_iald hx hb hK hP k_10 1 (Wd_ai kg_11 sg_11) rfl ig_11 dX15_count_22 ?_
    refine lv_topi (fun v_12 ev_12 => ?_)
    replace hf := lt_at ev_12 hf
    clear ev_12
    refine lv_istore_n (lv' := [(3, .int v_12), (2, .int (p_5 + 1)), (0, .ref (a h0))]) hx hb dX15_count_23 rfl hl (by decide) rfl (fun ls hl2 => ?_)
    replace hl := hl2
    clear hl2
    refine lv_goto (tgt := 9) hx hb dX15_count_24 (by decide) ?_
    exact ih9 (z_7, (p_5 + 1), v_12) ls H locs ⟨lv_sub hl [0, 1, 2] rfl, hP, hD, hS⟩ hf

set_option maxHeartbeats 4000000 in
set_option maxRecDepth 100000 in
theorem de_X5_head (l : Launch) (dC : Nat → ClassId) (dI : Nat → Nat → Nat) (cy : Nat → ClassId) (a : Nat → Nat) (sh : Nat → Nat × Nat) (n sz : Nat) (F : Nat) (z : St) (x0 : Int64) {z8 : St} {r8 : Int32} (hf : fn_X5_head F sh n z x0 = some (z8, r8)) : Met l yX5_head wsX5_head ({ frames := 0, cells := 0, slots := 0, locals := 0 }) (va_Pc [.long x0] (fun U => U.heap.size = sz ∧ va_P (dC, dI) vwCl (Wd cy a sh n z) U.heap ∧ va_K (dC, dI) vwCl (TYS cy) U ∧ va_D (fun _ => True) (Wd cy a sh n z) ∧ NK U)) (va_Qi (fun (r9 : Int32) (u : Unit) => r9 = r8) (fun u t => va_P (dC, dI) vwCl (Wd cy a sh n z8) t.heap ∧ va_K (dC, dI) vwCl (TYS cy) t ∧ va_D (va_A (Wd cy a sh n z) sz) (Wd cy a sh n z8)) (va_A (Wd cy a sh n z) sz)) 0 0 (va_A (Wd cy a sh n z) sz) := by
  refine Met.ofW (cc := cX5_head) (maxL := 3) (ret := (some .int)) (by decide) rfl ?_
  intro p e s m args below meth c s₁ B hml hv
  obtain ⟨rfl, hsz, hP, hK, hD0, hN⟩ := hv
  have hx := B.exec
  have hb := B.bytes
  have hr := B.returns
  have hts := atoms_spec (ws := wsX5_head) B.pre
  have hown : s.vm.findClass RX5 = some m.cls := findClass_of_methodNamed B.named
  have hlocks := B.notSynchronized
  subst hsz
  have hD := hD0.self (sz := s.heap.size)
  clear hD0
  generalize hAe : va_A (Wd cy a sh n z) s.heap.size = A at hD ⊢
  have hA : ∀ q : Nat, s.heap.size ≤ q → A q := fun q h => by rw [← hAe]; exact Or.inr h
  clear hAe
  have hS : va_S A s.heap s.heap [] := va_S.rf
  have hl := lv_entry ([.long x0]) (n := 3) (Nat.le_of_ble_eq_true rfl)
  rw [lg_entry_eq]
  generalize (lg_sl ([.long x0]) ++ List.replicate (3 - (lg_sl ([.long x0])).length) Slot.unset).toArray = ls at hl ⊢
  replace hl : lv_has ls 3 [(0, .long x0)] := hl
  unfold fn_X5_head at hf
  refine de_start hS hP (fun H locs hS hP => ?_)
  refine lv_bipush (v := 56) hx hb dX5_head_0 (by decide) ?_
  refine lv_istore_n (lv' := [(2, .int 56), (0, .long x0)]) hx hb dX5_head_2 rfl hl (by decide) rfl (fun ls hl2 => ?_)
  replace hl := hl2
  clear hl2
  have hl0 : lv_has ls 3 [(2, .int 56), (0, .long x0)] := lv_sub hl [0, 1] rfl
  refine de_loop (h := 3) (fun (x : St × Int32) ls H locs => lv_has ls 3 [(2, .int x.2), (0, .long x0)] ∧ va_P (dC, dI) vwCl (Wd cy a sh n x.1) H ∧ va_D A (Wd cy a sh n x.1) ∧ va_S A s.heap H locs) (fun f x => fn_X5_head_L3 F sh n x0 f x.1 x.2) (z8, r8) ?_ (fun _ => rfl) F (z, 56) ls H locs ⟨hl0, hP, hD, hS⟩ hf
  intro f_3 x ls H locs ih3 hI hf
  obtain ⟨z_2, p_1⟩ := x
  obtain ⟨hl2, hP2, hD2, hS2⟩ := hI
  replace hl : lv_has ls 3 [(2, .int p_1), (0, .long x0)] := hl2
  replace hP := hP2
  replace hD := hD2
  replace hS := hS2
  clear hl2 hP2 hD2 hS2 hl0
  replace hf := fn_X5_head_L3_s hf
  refine lv_iload_n hx hb dX5_head_3 rfl (lv_at hl 0 rfl) ?_
  refine lv_if_le (tgt := 21) hx hb dX5_head_4 (by decide) (fun c_4 => ?_) (fun c_4 => ?_)
  · skip
    rw [if_pos c_4] at hf
    refine lv_lload_n hx hb dX5_head_21 rfl (lv_at hl 1 rfl) ?_
    refine lv_iload_n hx hb dX5_head_22 rfl (lv_at hl 0 rfl) ?_
    refine lv_lushr (v := ((x0 : Int64).toUInt64 >>> ((p_1 : Int32).toInt64.toUInt64 &&& Int64.toUInt64 63)).toInt64) hx hb dX5_head_23 rfl ?_
    refine lv_l2i (v := ((((x0 : Int64).toUInt64 >>> ((p_1 : Int32).toInt64.toUInt64 &&& Int64.toUInt64 63)).toInt64) : Int64).toInt32) hx hb dX5_head_24 rfl ?_
    refine lv_sipush (v := 255) hx hb dX5_head_25 (by decide) ?_
    refine lv_iand hx hb dX5_head_28 ?_
    obtain ⟨h8, h9⟩ := ret_some hf
    rw [h8, h9]
    exact W.iret (v := ((((((x0 : Int64).toUInt64 >>> ((p_1 : Int32).toInt64.toUInt64 &&& Int64.toUInt64 63)).toInt64) : Int64).toInt32) &&& 255)) hx hb hr (fun t ht hW => ⟨⟨((((((x0 : Int64).toUInt64 >>> ((p_1 : Int32).toInt64.toUInt64 &&& Int64.toUInt64 63)).toInt64) : Int64).toInt32) &&& 255), (), rfl, rfl, by rw [ht]; exact hP, va_K.moved hW.alike hK, hD⟩, hS.F ht⟩) hS.2.2 dX5_head_29
  · skip
    rw [if_neg c_4] at hf
    refine lv_lload_n hx hb dX5_head_7 rfl (lv_at hl 1 rfl) ?_
    refine lv_iload_n hx hb dX5_head_8 rfl (lv_at hl 0 rfl) ?_
    refine lv_lushr (v := ((x0 : Int64).toUInt64 >>> ((p_1 : Int32).toInt64.toUInt64 &&& Int64.toUInt64 63)).toInt64) hx hb dX5_head_9 rfl ?_
    refine lv_lconst (v := 0) hx hb dX5_head_10 (by decide) ?_
    refine W.lcmp hx hb dX5_head_11 ?_
    refine lv_if_ne (tgt := 21) hx hb dX5_head_12 (by decide) (fun c_5 => ?_) (fun c_5 => ?_)
    · skip
      rw [lg_cmp_eq] at c_5
      rw [if_neg c_5] at hf
      refine lv_lload_n hx hb dX5_head_21 rfl (lv_at hl 1 rfl) ?_
      refine lv_iload_n hx hb dX5_head_22 rfl (lv_at hl 0 rfl) ?_
      refine lv_lushr (v := ((x0 : Int64).toUInt64 >>> ((p_1 : Int32).toInt64.toUInt64 &&& Int64.toUInt64 63)).toInt64) hx hb dX5_head_23 rfl ?_
      refine lv_l2i (v := ((((x0 : Int64).toUInt64 >>> ((p_1 : Int32).toInt64.toUInt64 &&& Int64.toUInt64 63)).toInt64) : Int64).toInt32) hx hb dX5_head_24 rfl ?_
      refine lv_sipush (v := 255) hx hb dX5_head_25 (by decide) ?_
      refine lv_iand hx hb dX5_head_28 ?_
      obtain ⟨h8, h9⟩ := ret_some hf
      rw [h8, h9]
      exact W.iret (v := ((((((x0 : Int64).toUInt64 >>> ((p_1 : Int32).toInt64.toUInt64 &&& Int64.toUInt64 63)).toInt64) : Int64).toInt32) &&& 255)) hx hb hr (fun t ht hW => ⟨⟨((((((x0 : Int64).toUInt64 >>> ((p_1 : Int32).toInt64.toUInt64 &&& Int64.toUInt64 63)).toInt64) : Int64).toInt32) &&& 255), (), rfl, rfl, by rw [ht]; exact hP, va_K.moved hW.alike hK, hD⟩, hS.F ht⟩) hS.2.2 dX5_head_29
    · skip
      rw [lg_cmp_eq] at c_5
      rw [if_pos c_5] at hf
      refine lv_iinc (v := (p_1 + (-8))) (lv' := [(2, .int (p_1 + (-8))), (0, .long x0)]) hx hb dX5_head_15 hl (k := 0) rfl rfl (by decide) rfl (fun ls hl2 => ?_)
      replace hl := hl2
      clear hl2
      refine lv_goto (tgt := 3) hx hb dX5_head_18 (by decide) ?_
      exact ih3 (z_2, (p_1 + (-8))) ls H locs ⟨lv_sub hl [0, 1] rfl, hP, hD, hS⟩ hf

theorem md_X7_allBalances_1 : (.fieldLink RX7 51 "ResourceLedger$State" "accountCount" "I" : Cond) ∈ wsX7_allBalances := List.mem_of_getElem? (i := 1) rfl
theorem iwd_X7_allBalances_X7 : ∀ w ∈ wsX70, w ∈ wsX7_allBalances := fun _ h => List.mem_cons_of_mem _ (List.mem_append_right _ h)
theorem md_X7_allBalances_2 : (.fieldLink RX7 15 "ResourceLedger$State" "balance" "[J" : Cond) ∈ wsX7_allBalances := List.mem_of_getElem? (i := 2) rfl
set_option maxHeartbeats 4000000 in
set_option maxRecDepth 100000 in
theorem de_X7_allBalances (l : Launch) (dC : Nat → ClassId) (dI : Nat → Nat → Nat) (cy : Nat → ClassId) (a : Nat → Nat) (sh : Nat → Nat × Nat) (n sz : Nat) (F : Nat) (z : St) (h0 : Nat) {z8 : St} {r8 : Int64} (hf : fn_X7_allBalances F sh n z h0 = some (z8, r8)) : Met l yX7_allBalances wsX7_allBalances ({ frames := 0, cells := 0, slots := 0, locals := 0 }) (va_Pc [.ref (a h0)] (fun U => U.heap.size = sz ∧ va_P (dC, dI) vwCl (Wd cy a sh n z) U.heap ∧ va_K (dC, dI) vwCl (TYS cy) U ∧ va_D (fun _ => True) (Wd cy a sh n z) ∧ NK U)) (va_Ql (fun (r9 : Int64) (u : Unit) => r9 = r8) (fun u t => va_P (dC, dI) vwCl (Wd cy a sh n z8) t.heap ∧ va_K (dC, dI) vwCl (TYS cy) t ∧ va_D (va_A (Wd cy a sh n z) sz) (Wd cy a sh n z8)) (va_A (Wd cy a sh n z) sz)) 0 0 (va_A (Wd cy a sh n z) sz) := by
  refine Met.ofW (cc := cX7_allBalances) (maxL := 4) (ret := (some .long)) (by decide) rfl ?_
  intro p e s m args below meth c s₁ B hml hv
  obtain ⟨rfl, hsz, hP, hK, hD0, hN⟩ := hv
  have hx := B.exec
  have hb := B.bytes
  have hr := B.returns
  have hts := atoms_spec (ws := wsX7_allBalances) B.pre
  have hown : s.vm.findClass RX7 = some m.cls := findClass_of_methodNamed B.named
  have hlocks := B.notSynchronized
  subst hsz
  have hD := hD0.self (sz := s.heap.size)
  clear hD0
  generalize hAe : va_A (Wd cy a sh n z) s.heap.size = A at hD ⊢
  have hA : ∀ q : Nat, s.heap.size ≤ q → A q := fun q h => by rw [← hAe]; exact Or.inr h
  clear hAe
  have hS : va_S A s.heap s.heap [] := va_S.rf
  have hl := lv_entry ([.ref (a h0)]) (n := 4) (Nat.le_of_ble_eq_true rfl)
  rw [lg_entry_eq]
  generalize (lg_sl ([.ref (a h0)]) ++ List.replicate (4 - (lg_sl ([.ref (a h0)])).length) Slot.unset).toArray = ls at hl ⊢
  replace hl : lv_has ls 4 [(0, .ref (a h0))] := hl
  unfold fn_X7_allBalances at hf
  refine de_start hS hP (fun H locs hS hP => ?_)
  refine lv_lconst (v := 0) hx hb dX7_allBalances_0 (by decide) ?_
  refine lv_lstore_n (lv' := [(1, .long 0), (0, .ref (a h0))]) hx hb dX7_allBalances_1 rfl hl (by decide) rfl (fun ls hl2 => ?_)
  replace hl := hl2
  clear hl2
  refine lv_iconst (v := 0) hx hb dX7_allBalances_2 (by decide) ?_
  refine lv_istore_n (lv' := [(3, .int 0), (1, .long 0), (0, .ref (a h0))]) hx hb dX7_allBalances_3 rfl hl (by decide) rfl (fun ls hl2 => ?_)
  replace hl := hl2
  clear hl2
  have hl0 : lv_has ls 4 [(3, .int 0), (1, .long 0), (0, .ref (a h0))] := lv_sub hl [0, 1, 2] rfl
  refine de_loop (h := 4) (fun (x : St × Int64 × Int32) ls H locs => lv_has ls 4 [(3, .int x.2.2), (1, .long x.2.1), (0, .ref (a h0))] ∧ va_P (dC, dI) vwCl (Wd cy a sh n x.1) H ∧ va_D A (Wd cy a sh n x.1) ∧ va_S A s.heap H locs) (fun f x => fn_X7_allBalances_L4 F sh n h0 f x.1 x.2.1 x.2.2) (z8, r8) ?_ (fun _ => rfl) F (z, 0, 0) ls H locs ⟨hl0, hP, hD, hS⟩ hf
  intro f_4 x ls H locs ih4 hI hf
  obtain ⟨z_3, p_1, p_2⟩ := x
  obtain ⟨hl2, hP2, hD2, hS2⟩ := hI
  replace hl : lv_has ls 4 [(3, .int p_2), (1, .long p_1), (0, .ref (a h0))] := hl2
  replace hP := hP2
  replace hD := hD2
  replace hS := hS2
  clear hl2 hP2 hD2 hS2 hl0
  replace hf := fn_X7_allBalances_L4_s hf
  refine lv_iload_n hx hb dX7_allBalances_4 rfl (lv_at hl 0 rfl) ?_
  refine lv_aload_n hx hb dX7_allBalances_5 rfl (lv_at hl 2 rfl) ?_
  obtain ⟨g_5, hf⟩ := grd_some hf
  obtain ⟨kg_5, sg_5⟩ := okO_at g_5
  refine va_get (D := (dC, dI)) (ci := 7) (v := .int (z_3.1 h0 3)) (C := RX7) (T := TX7) (N := 16) hx hb hts iwd_X7_allBalances_X7 hown hK hP h0 (Wd_ob kg_5 sg_5 (by decide)) rfl 3 (by decide) (hts _ md_X7_allBalances_1) (fun _ h9 => h9) (fl_at (t := 0) rfl) dX7_allBalances_6 ?_
  refine lv_icmp_ge (tgt := 27) hx hb dX7_allBalances_9 (by decide) (fun c_6 => ?_) (fun c_6 => ?_)
  · skip
    rw [if_pos c_6] at hf
    refine lv_lload_n hx hb dX7_allBalances_27 rfl (lv_at hl 1 rfl) ?_
    obtain ⟨h8, h9⟩ := ret_some hf
    rw [h8, h9]
    exact W.lret (v := p_1) hx hb hr (fun t ht hW => ⟨⟨p_1, (), rfl, rfl, by rw [ht]; exact hP, va_K.moved hW.alike hK, hD⟩, hS.F ht⟩) hS.2.2 dX7_allBalances_28
  · skip
    rw [if_neg c_6] at hf
    refine lv_lload_n hx hb dX7_allBalances_12 rfl (lv_at hl 1 rfl) ?_
    refine lv_aload_n hx hb dX7_allBalances_13 rfl (lv_at hl 2 rfl) ?_
    obtain ⟨k_7, ek_7, hf⟩ := lnk_some hf
    refine va_get (D := (dC, dI)) (ci := 7) (v := .ref (a k_7)) (C := RX7) (T := TX7) (N := 16) hx hb hts iwd_X7_allBalances_X7 hown hK hP h0 (Wd_ob kg_5 sg_5 (by decide)) rfl 1 (by decide) (hts _ md_X7_allBalances_2) (fun _ h9 => h9) (fl_q rfl ek_7) dX7_allBalances_14 ?_
    refine lv_iload_n hx hb dX7_allBalances_17 rfl (lv_at hl 0 rfl) ?_
    obtain ⟨g_8, hf⟩ := grd_some hf
    obtain ⟨kg_8, sg_8, ig_8⟩ := okA_at g_8
    refine va_lald hx hb hK hP k_7 2 (Wd_al kg_8 sg_8) rfl ig_8 dX7_allBalances_18 ?_
    refine lv_ladd hx hb dX7_allBalances_19 ?_
    refine lv_topl (fun v_9 ev_9 => ?_)
    replace hf := lt_at ev_9 hf
    clear ev_9
    refine lv_lstore_n (lv' := [(1, .long v_9), (3, .int p_2), (0, .ref (a h0))]) hx hb dX7_allBalances_20 rfl hl (by decide) rfl (fun ls hl2 => ?_)
    replace hl := hl2
    clear hl2
    refine lv_iinc (v := (p_2 + 1)) (lv' := [(3, .int (p_2 + 1)), (1, .long v_9), (0, .ref (a h0))]) hx hb dX7_allBalances_21 hl (k := 1) rfl rfl (by decide) rfl (fun ls hl2 => ?_)
    replace hl := hl2
    clear hl2
    refine lv_goto (tgt := 4) hx hb dX7_allBalances_24 (by decide) ?_
    exact ih4 (z_3, v_9, (p_2 + 1)) ls H locs ⟨lv_sub hl [0, 1, 2] rfl, hP, hD, hS⟩ hf

theorem md_X7_findAccount_1 : (.fieldLink RX7 51 "ResourceLedger$State" "accountCount" "I" : Cond) ∈ wsX7_findAccount := List.mem_of_getElem? (i := 1) rfl
theorem iwd_X7_findAccount_X7 : ∀ w ∈ wsX70, w ∈ wsX7_findAccount := fun _ h => List.mem_cons_of_mem _ (List.mem_append_right _ h)
theorem md_X7_findAccount_2 : (.fieldLink RX7 9 "ResourceLedger$State" "accountAddress" "[J" : Cond) ∈ wsX7_findAccount := List.mem_of_getElem? (i := 2) rfl
set_option maxHeartbeats 4000000 in
set_option maxRecDepth 100000 in
theorem de_X7_findAccount (l : Launch) (dC : Nat → ClassId) (dI : Nat → Nat → Nat) (cy : Nat → ClassId) (a : Nat → Nat) (sh : Nat → Nat × Nat) (n sz : Nat) (F : Nat) (z : St) (h0 : Nat) (x0 : Int64) {z8 : St} {r8 : Int32} (hf : fn_X7_findAccount F sh n z h0 x0 = some (z8, r8)) : Met l yX7_findAccount wsX7_findAccount ({ frames := 0, cells := 0, slots := 0, locals := 0 }) (va_Pc [.ref (a h0), .long x0] (fun U => U.heap.size = sz ∧ va_P (dC, dI) vwCl (Wd cy a sh n z) U.heap ∧ va_K (dC, dI) vwCl (TYS cy) U ∧ va_D (fun _ => True) (Wd cy a sh n z) ∧ NK U)) (va_Qi (fun (r9 : Int32) (u : Unit) => r9 = r8) (fun u t => va_P (dC, dI) vwCl (Wd cy a sh n z8) t.heap ∧ va_K (dC, dI) vwCl (TYS cy) t ∧ va_D (va_A (Wd cy a sh n z) sz) (Wd cy a sh n z8)) (va_A (Wd cy a sh n z) sz)) 0 0 (va_A (Wd cy a sh n z) sz) := by
  refine Met.ofW (cc := cX7_findAccount) (maxL := 4) (ret := (some .int)) (by decide) rfl ?_
  intro p e s m args below meth c s₁ B hml hv
  obtain ⟨rfl, hsz, hP, hK, hD0, hN⟩ := hv
  have hx := B.exec
  have hb := B.bytes
  have hr := B.returns
  have hts := atoms_spec (ws := wsX7_findAccount) B.pre
  have hown : s.vm.findClass RX7 = some m.cls := findClass_of_methodNamed B.named
  have hlocks := B.notSynchronized
  subst hsz
  have hD := hD0.self (sz := s.heap.size)
  clear hD0
  generalize hAe : va_A (Wd cy a sh n z) s.heap.size = A at hD ⊢
  have hA : ∀ q : Nat, s.heap.size ≤ q → A q := fun q h => by rw [← hAe]; exact Or.inr h
  clear hAe
  have hS : va_S A s.heap s.heap [] := va_S.rf
  have hl := lv_entry ([.ref (a h0), .long x0]) (n := 4) (Nat.le_of_ble_eq_true rfl)
  rw [lg_entry_eq]
  generalize (lg_sl ([.ref (a h0), .long x0]) ++ List.replicate (4 - (lg_sl ([.ref (a h0), .long x0])).length) Slot.unset).toArray = ls at hl ⊢
  replace hl : lv_has ls 4 [(0, .ref (a h0)), (1, .long x0)] := hl
  unfold fn_X7_findAccount at hf
  refine de_start hS hP (fun H locs hS hP => ?_)
  refine lv_iconst (v := 0) hx hb dX7_findAccount_0 (by decide) ?_
  refine lv_istore_n (lv' := [(3, .int 0), (0, .ref (a h0)), (1, .long x0)]) hx hb dX7_findAccount_1 rfl hl (by decide) rfl (fun ls hl2 => ?_)
  replace hl := hl2
  clear hl2
  have hl0 : lv_has ls 4 [(3, .int 0), (0, .ref (a h0)), (1, .long x0)] := lv_sub hl [0, 1, 2] rfl
  refine de_loop (h := 2) (fun (x : St × Int32) ls H locs => lv_has ls 4 [(3, .int x.2), (0, .ref (a h0)), (1, .long x0)] ∧ va_P (dC, dI) vwCl (Wd cy a sh n x.1) H ∧ va_D A (Wd cy a sh n x.1) ∧ va_S A s.heap H locs) (fun f x => fn_X7_findAccount_L2 F sh n h0 x0 f x.1 x.2) (z8, r8) ?_ (fun _ => rfl) F (z, 0) ls H locs ⟨hl0, hP, hD, hS⟩ hf
  intro f_3 x ls H locs ih2 hI hf
  obtain ⟨z_2, p_1⟩ := x
  obtain ⟨hl2, hP2, hD2, hS2⟩ := hI
  replace hl : lv_has ls 4 [(3, .int p_1), (0, .ref (a h0)), (1, .long x0)] := hl2
  replace hP := hP2
  replace hD := hD2
  replace hS := hS2
  clear hl2 hP2 hD2 hS2 hl0
  replace hf := fn_X7_findAccount_L2_s hf
  refine lv_iload_n hx hb dX7_findAccount_2 rfl (lv_at hl 0 rfl) ?_
  refine lv_aload_n hx hb dX7_findAccount_3 rfl (lv_at hl 1 rfl) ?_
  obtain ⟨g_4, hf⟩ := grd_some hf
  obtain ⟨kg_4, sg_4⟩ := okO_at g_4
  refine va_get (D := (dC, dI)) (ci := 7) (v := .int (z_2.1 h0 3)) (C := RX7) (T := TX7) (N := 16) hx hb hts iwd_X7_findAccount_X7 hown hK hP h0 (Wd_ob kg_4 sg_4 (by decide)) rfl 3 (by decide) (hts _ md_X7_findAccount_1) (fun _ h9 => h9) (fl_at (t := 0) rfl) dX7_findAccount_4 ?_
  refine lv_icmp_ge (tgt := 29) hx hb dX7_findAccount_7 (by decide) (fun c_5 => ?_) (fun c_5 => ?_)
  · skip
    rw [if_pos c_5] at hf
    refine lv_iconst (v := (-1)) hx hb dX7_findAccount_29 (by decide) ?_
    obtain ⟨h8, h9⟩ := ret_some hf
    rw [h8, h9]
    exact W.iret (v := (-1)) hx hb hr (fun t ht hW => ⟨⟨(-1), (), rfl, rfl, by rw [ht]; exact hP, va_K.moved hW.alike hK, hD⟩, hS.F ht⟩) hS.2.2 dX7_findAccount_30
  · skip
    rw [if_neg c_5] at hf
    refine lv_aload_n hx hb dX7_findAccount_10 rfl (lv_at hl 1 rfl) ?_
    obtain ⟨k_6, ek_6, hf⟩ := lnk_some hf
    refine va_get (D := (dC, dI)) (ci := 7) (v := .ref (a k_6)) (C := RX7) (T := TX7) (N := 16) hx hb hts iwd_X7_findAccount_X7 hown hK hP h0 (Wd_ob kg_4 sg_4 (by decide)) rfl 0 (by decide) (hts _ md_X7_findAccount_2) (fun _ h9 => h9) (fl_q rfl ek_6) dX7_findAccount_11 ?_
    refine lv_iload_n hx hb dX7_findAccount_14 rfl (lv_at hl 0 rfl) ?_
    obtain ⟨g_7, hf⟩ := grd_some hf
    obtain ⟨kg_7, sg_7, ig_7⟩ := okA_at g_7
    refine va_lald hx hb hK hP k_6 2 (Wd_al kg_7 sg_7) rfl ig_7 dX7_findAccount_15 ?_
    refine lv_lload_n hx hb dX7_findAccount_16 rfl (lv_at hl 2 rfl) ?_
    refine W.lcmp hx hb dX7_findAccount_17 ?_
    refine lv_if_ne (tgt := 23) hx hb dX7_findAccount_18 (by decide) (fun c_8 => ?_) (fun c_8 => ?_)
    · skip
      rw [lg_cmp_eq] at c_8
      rw [if_neg c_8] at hf
      refine lv_iinc (v := (p_1 + 1)) (lv' := [(3, .int (p_1 + 1)), (0, .ref (a h0)), (1, .long x0)]) hx hb dX7_findAccount_23 hl (k := 0) rfl rfl (by decide) rfl (fun ls hl2 => ?_)
      replace hl := hl2
      clear hl2
      refine lv_goto (tgt := 2) hx hb dX7_findAccount_26 (by decide) ?_
      exact ih2 (z_2, (p_1 + 1)) ls H locs ⟨lv_sub hl [0, 1, 2] rfl, hP, hD, hS⟩ hf
    · skip
      rw [lg_cmp_eq] at c_8
      rw [if_pos c_8] at hf
      refine lv_iload_n hx hb dX7_findAccount_21 rfl (lv_at hl 0 rfl) ?_
      obtain ⟨h8, h9⟩ := ret_some hf
      rw [h8, h9]
      exact W.iret (v := p_1) hx hb hr (fun t ht hW => ⟨⟨p_1, (), rfl, rfl, by rw [ht]; exact hP, va_K.moved hW.alike hK, hD⟩, hS.F ht⟩) hS.2.2 dX7_findAccount_22

set_option maxHeartbeats 4000000 in
set_option maxRecDepth 100000 in
theorem de_X17_isOf (l : Launch) (dC : Nat → ClassId) (dI : Nat → Nat → Nat) (cy : Nat → ClassId) (a : Nat → Nat) (sh : Nat → Nat × Nat) (n sz : Nat) (F : Nat) (z : St) (x0 : Int64) (x1 : Int64) (x2 : Int32) {z8 : St} {r8 : Int32} (hf : fn_X17_isOf F sh n z x0 x1 x2 = some (z8, r8)) : Met l yX17_isOf wsX17_isOf ({ frames := 0, cells := 0, slots := 0, locals := 0 }) (va_Pc [.long x0, .long x1, .int x2] (fun U => U.heap.size = sz ∧ va_P (dC, dI) vwCl (Wd cy a sh n z) U.heap ∧ va_K (dC, dI) vwCl (TYS cy) U ∧ va_D (fun _ => True) (Wd cy a sh n z) ∧ NK U)) (va_Qi (fun (r9 : Int32) (u : Unit) => r9 = r8) (fun u t => va_P (dC, dI) vwCl (Wd cy a sh n z8) t.heap ∧ va_K (dC, dI) vwCl (TYS cy) t ∧ va_D (va_A (Wd cy a sh n z) sz) (Wd cy a sh n z8)) (va_A (Wd cy a sh n z) sz)) 0 0 (va_A (Wd cy a sh n z) sz) := by
  refine Met.ofW (cc := cX17_isOf) (maxL := 5) (ret := (some .boolean)) (by decide) rfl ?_
  intro p e s m args below meth c s₁ B hml hv
  obtain ⟨rfl, hsz, hP, hK, hD0, hN⟩ := hv
  have hx := B.exec
  have hb := B.bytes
  have hr := B.returns
  have hts := atoms_spec (ws := wsX17_isOf) B.pre
  have hown : s.vm.findClass RX17 = some m.cls := findClass_of_methodNamed B.named
  have hlocks := B.notSynchronized
  subst hsz
  have hD := hD0.self (sz := s.heap.size)
  clear hD0
  generalize hAe : va_A (Wd cy a sh n z) s.heap.size = A at hD ⊢
  have hA : ∀ q : Nat, s.heap.size ≤ q → A q := fun q h => by rw [← hAe]; exact Or.inr h
  clear hAe
  have hS : va_S A s.heap s.heap [] := va_S.rf
  have hl := lv_entry ([.long x0, .long x1, .int x2]) (n := 5) (Nat.le_of_ble_eq_true rfl)
  rw [lg_entry_eq]
  generalize (lg_sl ([.long x0, .long x1, .int x2]) ++ List.replicate (5 - (lg_sl ([.long x0, .long x1, .int x2])).length) Slot.unset).toArray = ls at hl ⊢
  replace hl : lv_has ls 5 [(0, .long x0), (2, .long x1), (4, .int x2)] := hl
  unfold fn_X17_isOf at hf
  refine de_start hS hP (fun H locs hS hP => ?_)
  refine lv_iload hx hb dX17_isOf_0 (lv_at hl 2 rfl) ?_
  refine lv_sipush (v := 128) hx hb dX17_isOf_2 (by decide) ?_
  refine lv_icmp_eq (tgt := 30) hx hb dX17_isOf_5 (by decide) (fun c_1 => ?_) (fun c_1 => ?_)
  · skip
    rw [if_pos c_1] at hf
    refine lv_iconst (v := 1) hx hb dX17_isOf_30 (by decide) ?_
    refine lv_goto (tgt := 35) hx hb dX17_isOf_31 (by decide) ?_
    obtain ⟨h8, h9⟩ := ret_some hf
    rw [h8, h9]
    exact W.zret (v := 1) hx hb hr rfl (fun t ht hW => ⟨⟨1, (), rfl, rfl, by rw [ht]; exact hP, va_K.moved hW.alike hK, hD⟩, hS.F ht⟩) hS.2.2 dX17_isOf_35
  · skip
    rw [if_neg c_1] at hf
    refine lv_lload_n hx hb dX17_isOf_8 rfl (lv_at hl 0 rfl) ?_
    refine lv_lconst (v := 0) hx hb dX17_isOf_9 (by decide) ?_
    refine W.lcmp hx hb dX17_isOf_10 ?_
    refine lv_if_ne (tgt := 34) hx hb dX17_isOf_11 (by decide) (fun c_2 => ?_) (fun c_2 => ?_)
    · skip
      rw [lg_cmp_eq] at c_2
      rw [if_neg c_2] at hf
      refine lv_iconst (v := 0) hx hb dX17_isOf_34 (by decide) ?_
      obtain ⟨h8, h9⟩ := ret_some hf
      rw [h8, h9]
      exact W.zret (v := 0) hx hb hr rfl (fun t ht hW => ⟨⟨0, (), rfl, rfl, by rw [ht]; exact hP, va_K.moved hW.alike hK, hD⟩, hS.F ht⟩) hS.2.2 dX17_isOf_35
    · skip
      rw [lg_cmp_eq] at c_2
      rw [if_pos c_2] at hf
      refine lv_iload hx hb dX17_isOf_14 (lv_at hl 2 rfl) ?_
      refine lv_bipush (v := 64) hx hb dX17_isOf_16 (by decide) ?_
      refine lv_icmp_eq (tgt := 30) hx hb dX17_isOf_18 (by decide) (fun c_3 => ?_) (fun c_3 => ?_)
      · skip
        rw [if_pos c_3] at hf
        refine lv_iconst (v := 1) hx hb dX17_isOf_30 (by decide) ?_
        refine lv_goto (tgt := 35) hx hb dX17_isOf_31 (by decide) ?_
        obtain ⟨h8, h9⟩ := ret_some hf
        rw [h8, h9]
        exact W.zret (v := 1) hx hb hr rfl (fun t ht hW => ⟨⟨1, (), rfl, rfl, by rw [ht]; exact hP, va_K.moved hW.alike hK, hD⟩, hS.F ht⟩) hS.2.2 dX17_isOf_35
      · skip
        rw [if_neg c_3] at hf
        refine lv_lload_n hx hb dX17_isOf_21 rfl (lv_at hl 1 rfl) ?_
        refine lv_bipush (v := 8) hx hb dX17_isOf_22 (by decide) ?_
        refine lv_lushr (v := ((x1 : Int64).toUInt64 >>> ((8 : Int32).toInt64.toUInt64 &&& Int64.toUInt64 63)).toInt64) hx hb dX17_isOf_24 rfl ?_
        refine lv_lconst (v := 0) hx hb dX17_isOf_25 (by decide) ?_
        refine W.lcmp hx hb dX17_isOf_26 ?_
        refine lv_if_ne (tgt := 34) hx hb dX17_isOf_27 (by decide) (fun c_4 => ?_) (fun c_4 => ?_)
        · skip
          rw [lg_cmp_eq] at c_4
          rw [if_neg c_4] at hf
          refine lv_iconst (v := 0) hx hb dX17_isOf_34 (by decide) ?_
          obtain ⟨h8, h9⟩ := ret_some hf
          rw [h8, h9]
          exact W.zret (v := 0) hx hb hr rfl (fun t ht hW => ⟨⟨0, (), rfl, rfl, by rw [ht]; exact hP, va_K.moved hW.alike hK, hD⟩, hS.F ht⟩) hS.2.2 dX17_isOf_35
        · skip
          rw [lg_cmp_eq] at c_4
          rw [if_pos c_4] at hf
          refine lv_iconst (v := 1) hx hb dX17_isOf_30 (by decide) ?_
          refine lv_goto (tgt := 35) hx hb dX17_isOf_31 (by decide) ?_
          obtain ⟨h8, h9⟩ := ret_some hf
          rw [h8, h9]
          exact W.zret (v := 1) hx hb hr rfl (fun t ht hW => ⟨⟨1, (), rfl, rfl, by rw [ht]; exact hP, va_K.moved hW.alike hK, hD⟩, hS.F ht⟩) hS.2.2 dX17_isOf_35

theorem md_X0_part_1 : (.fieldLink RX0 7 "ResourceLedger$Digest" "words" "[I" : Cond) ∈ wsX0_part := List.mem_of_getElem? (i := 1) rfl
theorem iwd_X0_part_X0 : ∀ w ∈ wsX00, w ∈ wsX0_part := fun _ h => List.mem_cons_of_mem _ (List.mem_append_right _ h)
theorem md_X0_part_2 : (.constantLong RX0 46 (4294967295) : Cond) ∈ wsX0_part := List.mem_of_getElem? (i := 2) rfl
set_option maxHeartbeats 4000000 in
set_option maxRecDepth 100000 in
theorem de_X0_part (l : Launch) (dC : Nat → ClassId) (dI : Nat → Nat → Nat) (cy : Nat → ClassId) (a : Nat → Nat) (sh : Nat → Nat × Nat) (n sz : Nat) (F : Nat) (z : St) (h0 : Nat) (x0 : Int32) {z8 : St} {r8 : Int64} (hf : fn_X0_part F sh n z h0 x0 = some (z8, r8)) : Met l yX0_part wsX0_part ({ frames := 0, cells := 0, slots := 0, locals := 0 }) (va_Pc [.ref (a h0), .int x0] (fun U => U.heap.size = sz ∧ va_P (dC, dI) vwCl (Wd cy a sh n z) U.heap ∧ va_K (dC, dI) vwCl (TYS cy) U ∧ va_D (fun _ => True) (Wd cy a sh n z) ∧ NK U)) (va_Ql (fun (r9 : Int64) (u : Unit) => r9 = r8) (fun u t => va_P (dC, dI) vwCl (Wd cy a sh n z8) t.heap ∧ va_K (dC, dI) vwCl (TYS cy) t ∧ va_D (va_A (Wd cy a sh n z) sz) (Wd cy a sh n z8)) (va_A (Wd cy a sh n z) sz)) 0 0 (va_A (Wd cy a sh n z) sz) := by
  refine Met.ofW (cc := cX0_part) (maxL := 2) (ret := (some .long)) (by decide) rfl ?_
  intro p e s m args below meth c s₁ B hml hv
  obtain ⟨rfl, hsz, hP, hK, hD0, hN⟩ := hv
  have hx := B.exec
  have hb := B.bytes
  have hr := B.returns
  have hts := atoms_spec (ws := wsX0_part) B.pre
  have hown : s.vm.findClass RX0 = some m.cls := findClass_of_methodNamed B.named
  have hlocks := B.notSynchronized
  subst hsz
  have hD := hD0.self (sz := s.heap.size)
  clear hD0
  generalize hAe : va_A (Wd cy a sh n z) s.heap.size = A at hD ⊢
  have hA : ∀ q : Nat, s.heap.size ≤ q → A q := fun q h => by rw [← hAe]; exact Or.inr h
  clear hAe
  have hS : va_S A s.heap s.heap [] := va_S.rf
  have hl := lv_entry ([.ref (a h0), .int x0]) (n := 2) (Nat.le_of_ble_eq_true rfl)
  rw [lg_entry_eq]
  generalize (lg_sl ([.ref (a h0), .int x0]) ++ List.replicate (2 - (lg_sl ([.ref (a h0), .int x0])).length) Slot.unset).toArray = ls at hl ⊢
  replace hl : lv_has ls 2 [(0, .ref (a h0)), (1, .int x0)] := hl
  unfold fn_X0_part at hf
  refine de_start hS hP (fun H locs hS hP => ?_)
  refine lv_aload_n hx hb dX0_part_0 rfl (lv_at hl 0 rfl) ?_
  obtain ⟨g_1, hf⟩ := grd_some hf
  obtain ⟨kg_1, sg_1⟩ := okO_at g_1
  obtain ⟨k_2, ek_2, hf⟩ := lnk_some hf
  refine va_get (D := (dC, dI)) (ci := 0) (v := .ref (a k_2)) (C := RX0) (T := TX0) (N := 4) hx hb hts iwd_X0_part_X0 hown hK hP h0 (Wd_ob kg_1 sg_1 (by decide)) rfl 0 (by decide) (hts _ md_X0_part_1) (fun _ h9 => h9) (fl_q rfl ek_2) dX0_part_1 ?_
  refine lv_iconst (v := 2) hx hb dX0_part_4 (by decide) ?_
  refine lv_iload_n hx hb dX0_part_5 rfl (lv_at hl 1 rfl) ?_
  refine lv_imul hx hb dX0_part_6 ?_
  obtain ⟨g_3, hf⟩ := grd_some hf
  obtain ⟨kg_3, sg_3, ig_3⟩ := okA_at g_3
  refine va_iald hx hb hK hP k_2 1 (Wd_ai kg_3 sg_3) rfl ig_3 dX0_part_7 ?_
  refine lv_i2l (v := ((z.1 k_2 (2 * x0).toNatClampNeg) : Int32).toInt64) hx hb dX0_part_8 rfl ?_
  refine lv_bipush (v := 32) hx hb dX0_part_9 (by decide) ?_
  refine lv_lshl (v := ((((z.1 k_2 (2 * x0).toNatClampNeg) : Int32).toInt64) <<< ((32 : Int32).toInt64 &&& 63))) hx hb dX0_part_11 rfl ?_
  refine lv_aload_n hx hb dX0_part_12 rfl (lv_at hl 0 rfl) ?_
  obtain ⟨k_4, ek_4, hf⟩ := lnk_some hf
  refine va_get (D := (dC, dI)) (ci := 0) (v := .ref (a k_4)) (C := RX0) (T := TX0) (N := 4) hx hb hts iwd_X0_part_X0 hown hK hP h0 (Wd_ob kg_1 sg_1 (by decide)) rfl 0 (by decide) (hts _ md_X0_part_1) (fun _ h9 => h9) (fl_q rfl ek_4) dX0_part_13 ?_
  refine lv_iconst (v := 2) hx hb dX0_part_16 (by decide) ?_
  refine lv_iload_n hx hb dX0_part_17 rfl (lv_at hl 1 rfl) ?_
  refine lv_imul hx hb dX0_part_18 ?_
  refine lv_iconst (v := 1) hx hb dX0_part_19 (by decide) ?_
  refine lv_iadd hx hb dX0_part_20 ?_
  obtain ⟨g_5, hf⟩ := grd_some hf
  obtain ⟨kg_5, sg_5, ig_5⟩ := okA_at g_5
  refine va_iald hx hb hK hP k_4 1 (Wd_ai kg_5 sg_5) rfl ig_5 dX0_part_21 ?_
  refine lv_i2l (v := ((z.1 k_4 ((2 * x0) + 1).toNatClampNeg) : Int32).toInt64) hx hb dX0_part_22 rfl ?_
  refine lv_ldc2 hx hb hown (hts _ md_X0_part_2) dX0_part_23 ?_
  refine lv_land hx hb dX0_part_26 ?_
  refine lv_lor hx hb dX0_part_27 ?_
  obtain ⟨h8, h9⟩ := ret_some hf
  rw [h8, h9]
  exact W.lret (v := ((((((z.1 k_2 (2 * x0).toNatClampNeg) : Int32).toInt64) <<< ((32 : Int32).toInt64 &&& 63))) ||| ((((z.1 k_4 ((2 * x0) + 1).toNatClampNeg) : Int32).toInt64) &&& 4294967295))) hx hb hr (fun t ht hW => ⟨⟨((((((z.1 k_2 (2 * x0).toNatClampNeg) : Int32).toInt64) <<< ((32 : Int32).toInt64 &&& 63))) ||| ((((z.1 k_4 ((2 * x0) + 1).toNatClampNeg) : Int32).toInt64) &&& 4294967295)), (), rfl, rfl, by rw [ht]; exact hP, va_K.moved hW.alike hK, hD⟩, hS.F ht⟩) hS.2.2 dX0_part_28

theorem md_X7_findProgram_1 : (.fieldLink RX7 55 "ResourceLedger$State" "moduleCount" "I" : Cond) ∈ wsX7_findProgram := List.mem_of_getElem? (i := 1) rfl
theorem iwd_X7_findProgram_X7 : ∀ w ∈ wsX70, w ∈ wsX7_findProgram := fun _ h => List.mem_cons_of_mem _ (List.mem_append_left _ (List.mem_append_right _ h))
theorem md_X7_findProgram_2 : (.fieldLink RX7 23 "ResourceLedger$State" "programs" "[LResourceLedger$Program;" : Cond) ∈ wsX7_findProgram := List.mem_of_getElem? (i := 2) rfl
theorem md_X7_findProgram_3 : (.fieldLink RX7 86 "ResourceLedger$Program" "number" "I" : Cond) ∈ wsX7_findProgram := List.mem_of_getElem? (i := 3) rfl
theorem iwd_X7_findProgram_X5 : ∀ w ∈ wsX50, w ∈ wsX7_findProgram := fun _ h => List.mem_cons_of_mem _ (List.mem_append_right _ h)
set_option maxHeartbeats 4000000 in
set_option maxRecDepth 100000 in
theorem de_X7_findProgram (l : Launch) (dC : Nat → ClassId) (dI : Nat → Nat → Nat) (cy : Nat → ClassId) (a : Nat → Nat) (sh : Nat → Nat × Nat) (n sz : Nat) (F : Nat) (z : St) (h0 : Nat) (x0 : Int32) {z8 : St} {r8 : Option Nat} (hf : fn_X7_findProgram F sh n z h0 x0 = some (z8, r8)) : Met l yX7_findProgram wsX7_findProgram ({ frames := 0, cells := 0, slots := 0, locals := 0 }) (va_Pc [.ref (a h0), .int x0] (fun U => U.heap.size = sz ∧ va_P (dC, dI) vwCl (Wd cy a sh n z) U.heap ∧ va_K (dC, dI) vwCl (TYS cy) U ∧ va_D (fun _ => True) (Wd cy a sh n z) ∧ NK U)) (va_Qq (fun (r9 : Option Nat) (u : Unit) => r9 = r8.map a) (fun u t => va_P (dC, dI) vwCl (Wd cy a sh n z8) t.heap ∧ va_K (dC, dI) vwCl (TYS cy) t ∧ va_D (va_A (Wd cy a sh n z) sz) (Wd cy a sh n z8)) (va_A (Wd cy a sh n z) sz)) 0 0 (va_A (Wd cy a sh n z) sz) := by
  refine Met.ofW (cc := cX7_findProgram) (maxL := 3) (ret := (some (.object "ResourceLedger$Program"))) (by decide) rfl ?_
  intro p e s m args below meth c s₁ B hml hv
  obtain ⟨rfl, hsz, hP, hK, hD0, hN⟩ := hv
  have hx := B.exec
  have hb := B.bytes
  have hr := B.returns
  have hts := atoms_spec (ws := wsX7_findProgram) B.pre
  have hown : s.vm.findClass RX7 = some m.cls := findClass_of_methodNamed B.named
  have hlocks := B.notSynchronized
  subst hsz
  have hD := hD0.self (sz := s.heap.size)
  clear hD0
  generalize hAe : va_A (Wd cy a sh n z) s.heap.size = A at hD ⊢
  have hA : ∀ q : Nat, s.heap.size ≤ q → A q := fun q h => by rw [← hAe]; exact Or.inr h
  clear hAe
  have hS : va_S A s.heap s.heap [] := va_S.rf
  have hl := lv_entry ([.ref (a h0), .int x0]) (n := 3) (Nat.le_of_ble_eq_true rfl)
  rw [lg_entry_eq]
  generalize (lg_sl ([.ref (a h0), .int x0]) ++ List.replicate (3 - (lg_sl ([.ref (a h0), .int x0])).length) Slot.unset).toArray = ls at hl ⊢
  replace hl : lv_has ls 3 [(0, .ref (a h0)), (1, .int x0)] := hl
  unfold fn_X7_findProgram at hf
  refine de_start hS hP (fun H locs hS hP => ?_)
  refine lv_iconst (v := 0) hx hb dX7_findProgram_0 (by decide) ?_
  refine lv_istore_n (lv' := [(2, .int 0), (0, .ref (a h0)), (1, .int x0)]) hx hb dX7_findProgram_1 rfl hl (by decide) rfl (fun ls hl2 => ?_)
  replace hl := hl2
  clear hl2
  have hl0 : lv_has ls 3 [(2, .int 0), (0, .ref (a h0)), (1, .int x0)] := lv_sub hl [0, 1, 2] rfl
  refine de_loop (h := 2) (fun (x : St × Int32) ls H locs => lv_has ls 3 [(2, .int x.2), (0, .ref (a h0)), (1, .int x0)] ∧ va_P (dC, dI) vwCl (Wd cy a sh n x.1) H ∧ va_D A (Wd cy a sh n x.1) ∧ va_S A s.heap H locs) (fun f x => fn_X7_findProgram_L2 F sh n h0 x0 f x.1 x.2) (z8, r8) ?_ (fun _ => rfl) F (z, 0) ls H locs ⟨hl0, hP, hD, hS⟩ hf
  intro f_3 x ls H locs ih2 hI hf
  obtain ⟨z_2, p_1⟩ := x
  obtain ⟨hl2, hP2, hD2, hS2⟩ := hI
  replace hl : lv_has ls 3 [(2, .int p_1), (0, .ref (a h0)), (1, .int x0)] := hl2
  replace hP := hP2
  replace hD := hD2
  replace hS := hS2
  clear hl2 hP2 hD2 hS2 hl0
  replace hf := fn_X7_findProgram_L2_s hf
  refine lv_iload_n hx hb dX7_findProgram_2 rfl (lv_at hl 0 rfl) ?_
  refine lv_aload_n hx hb dX7_findProgram_3 rfl (lv_at hl 1 rfl) ?_
  obtain ⟨g_4, hf⟩ := grd_some hf
  obtain ⟨kg_4, sg_4⟩ := okO_at g_4
  refine va_get (D := (dC, dI)) (ci := 7) (v := .int (z_2.1 h0 5)) (C := RX7) (T := TX7) (N := 16) hx hb hts iwd_X7_findProgram_X7 hown hK hP h0 (Wd_ob kg_4 sg_4 (by decide)) rfl 5 (by decide) (hts _ md_X7_findProgram_1) (fun _ h9 => h9) (fl_at (t := 0) rfl) dX7_findProgram_4 ?_
  refine lv_icmp_gt (tgt := 36) hx hb dX7_findProgram_7 (by decide) (fun c_5 => ?_) (fun c_5 => ?_)
  · skip
    rw [if_pos c_5] at hf
    refine lv_null hx hb dX7_findProgram_36 ?_
    obtain ⟨h8, h9⟩ := ret_some hf
    rw [h8, h9]
    exact W.aret (v := .null) hx hb hr (Or.inl ⟨_, rfl⟩) (Or.inl rfl) (fun t ht hW => ⟨⟨none, (), rfl, rfl, by rw [ht]; exact hP, va_K.moved hW.alike hK, hD⟩, hS.F ht⟩) hS.2.2 dX7_findProgram_37
  · skip
    rw [if_neg c_5] at hf
    refine lv_aload_n hx hb dX7_findProgram_10 rfl (lv_at hl 1 rfl) ?_
    obtain ⟨k_6, ek_6, hf⟩ := lnk_some hf
    refine va_get (D := (dC, dI)) (ci := 7) (v := .ref (a k_6)) (C := RX7) (T := TX7) (N := 16) hx hb hts iwd_X7_findProgram_X7 hown hK hP h0 (Wd_ob kg_4 sg_4 (by decide)) rfl 4 (by decide) (hts _ md_X7_findProgram_2) (fun _ h9 => h9) (fl_q rfl ek_6) dX7_findProgram_11 ?_
    refine lv_iload_n hx hb dX7_findProgram_14 rfl (lv_at hl 0 rfl) ?_
    obtain ⟨g_7, hf⟩ := grd_some hf
    obtain ⟨kg_7, sg_7, ig_7⟩ := okA_at g_7
    obtain ⟨k_8, ek_8, hf⟩ := lnk_some hf
    refine va_aldq (C := RX5) hx hb hK hP k_6 4 (Wd_aq kg_7 sg_7 (by decide)) rfl ig_7 dX7_findProgram_15 ?_
    refine W.eq (g2 := F0 m 16 ls [.ref (a k_8)]) (by rw [ek_8]; rfl) ?_
    obtain ⟨g_9, hf⟩ := grd_some hf
    obtain ⟨kg_9, sg_9⟩ := okO_at g_9
    refine va_get (D := (dC, dI)) (ci := 5) (v := .int (z_2.1 k_8 2)) (C := RX5) (T := TX5) (N := 15) hx hb hts iwd_X7_findProgram_X5 hown hK hP k_8 (Wd_ob kg_9 sg_9 (by decide)) rfl 2 (by decide) (hts _ md_X7_findProgram_3) (fun _ h9 => h9) (fl_at (t := 0) rfl) dX7_findProgram_16 ?_
    refine lv_iload_n hx hb dX7_findProgram_19 rfl (lv_at hl 2 rfl) ?_
    refine lv_icmp_ne (tgt := 30) hx hb dX7_findProgram_20 (by decide) (fun c_10 => ?_) (fun c_10 => ?_)
    · skip
      rw [if_neg c_10] at hf
      refine lv_iinc (v := (p_1 + 1)) (lv' := [(2, .int (p_1 + 1)), (0, .ref (a h0)), (1, .int x0)]) hx hb dX7_findProgram_30 hl (k := 0) rfl rfl (by decide) rfl (fun ls hl2 => ?_)
      replace hl := hl2
      clear hl2
      refine lv_goto (tgt := 2) hx hb dX7_findProgram_33 (by decide) ?_
      exact ih2 (z_2, (p_1 + 1)) ls H locs ⟨lv_sub hl [0, 1, 2] rfl, hP, hD, hS⟩ hf
    · skip
      rw [if_pos c_10] at hf
      refine lv_aload_n hx hb dX7_findProgram_23 rfl (lv_at hl 1 rfl) ?_
      obtain ⟨k_11, ek_11, hf⟩ := lnk_some hf
      refine va_get (D := (dC, dI)) (ci := 7) (v := .ref (a k_11)) (C := RX7) (T := TX7) (N := 16) hx hb hts iwd_X7_findProgram_X7 hown hK hP h0 (Wd_ob kg_4 sg_4 (by decide)) rfl 4 (by decide) (hts _ md_X7_findProgram_2) (fun _ h9 => h9) (fl_q rfl ek_11) dX7_findProgram_24 ?_
      refine lv_iload_n hx hb dX7_findProgram_27 rfl (lv_at hl 0 rfl) ?_
      obtain ⟨g_12, hf⟩ := grd_some hf
      obtain ⟨kg_12, sg_12, ig_12⟩ := okA_at g_12
      obtain ⟨k_13, ek_13, hf⟩ := lnk_some hf
      refine va_aldq (C := RX5) hx hb hK hP k_11 4 (Wd_aq kg_12 sg_12 (by decide)) rfl ig_12 dX7_findProgram_28 ?_
      refine W.eq (g2 := F0 m 29 ls [.ref (a k_13)]) (by rw [ek_13]; rfl) ?_
      obtain ⟨h8, h9⟩ := ret_some hf
      rw [h8, h9]
      exact W.aret (v := .ref (a k_13)) hx hb hr (Or.inl ⟨_, rfl⟩) (Or.inr ⟨_, rfl⟩) (fun t ht hW => ⟨⟨(some (a k_13)), (), rfl, rfl, by rw [ht]; exact hP, va_K.moved hW.alike hK, hD⟩, hS.F ht⟩) hS.2.2 dX7_findProgram_29

theorem md_X18_findAccount_1 : (.fieldLink RX18 1 "ResourceLedgerModel" "accounts" "I" : Cond) ∈ wsX18_findAccount := List.mem_of_getElem? (i := 1) rfl
theorem iwd_X18_findAccount_X18 : ∀ w ∈ wsX180, w ∈ wsX18_findAccount := fun _ h => List.mem_cons_of_mem _ (List.mem_append_right _ h)
theorem md_X18_findAccount_2 : (.fieldLink RX18 13 "ResourceLedgerModel" "addresses" "[J" : Cond) ∈ wsX18_findAccount := List.mem_of_getElem? (i := 2) rfl
set_option maxHeartbeats 4000000 in
set_option maxRecDepth 100000 in
theorem de_X18_findAccount (l : Launch) (dC : Nat → ClassId) (dI : Nat → Nat → Nat) (cy : Nat → ClassId) (a : Nat → Nat) (sh : Nat → Nat × Nat) (n sz : Nat) (F : Nat) (z : St) (h0 : Nat) (x0 : Int64) {z8 : St} {r8 : Int32} (hf : fn_X18_findAccount F sh n z h0 x0 = some (z8, r8)) : Met l yX18_findAccount wsX18_findAccount ({ frames := 0, cells := 0, slots := 0, locals := 0 }) (va_Pc [.ref (a h0), .long x0] (fun U => U.heap.size = sz ∧ va_P (dC, dI) vwCl (Wd cy a sh n z) U.heap ∧ va_K (dC, dI) vwCl (TYS cy) U ∧ va_D (fun _ => True) (Wd cy a sh n z) ∧ NK U)) (va_Qi (fun (r9 : Int32) (u : Unit) => r9 = r8) (fun u t => va_P (dC, dI) vwCl (Wd cy a sh n z8) t.heap ∧ va_K (dC, dI) vwCl (TYS cy) t ∧ va_D (va_A (Wd cy a sh n z) sz) (Wd cy a sh n z8)) (va_A (Wd cy a sh n z) sz)) 0 0 (va_A (Wd cy a sh n z) sz) := by
  refine Met.ofW (cc := cX18_findAccount) (maxL := 4) (ret := (some .int)) (by decide) rfl ?_
  intro p e s m args below meth c s₁ B hml hv
  obtain ⟨rfl, hsz, hP, hK, hD0, hN⟩ := hv
  have hx := B.exec
  have hb := B.bytes
  have hr := B.returns
  have hts := atoms_spec (ws := wsX18_findAccount) B.pre
  have hown : s.vm.findClass RX18 = some m.cls := findClass_of_methodNamed B.named
  have hlocks := B.notSynchronized
  subst hsz
  have hD := hD0.self (sz := s.heap.size)
  clear hD0
  generalize hAe : va_A (Wd cy a sh n z) s.heap.size = A at hD ⊢
  have hA : ∀ q : Nat, s.heap.size ≤ q → A q := fun q h => by rw [← hAe]; exact Or.inr h
  clear hAe
  have hS : va_S A s.heap s.heap [] := va_S.rf
  have hl := lv_entry ([.ref (a h0), .long x0]) (n := 4) (Nat.le_of_ble_eq_true rfl)
  rw [lg_entry_eq]
  generalize (lg_sl ([.ref (a h0), .long x0]) ++ List.replicate (4 - (lg_sl ([.ref (a h0), .long x0])).length) Slot.unset).toArray = ls at hl ⊢
  replace hl : lv_has ls 4 [(0, .ref (a h0)), (1, .long x0)] := hl
  unfold fn_X18_findAccount at hf
  refine de_start hS hP (fun H locs hS hP => ?_)
  refine lv_iconst (v := 0) hx hb dX18_findAccount_0 (by decide) ?_
  refine lv_istore_n (lv' := [(3, .int 0), (0, .ref (a h0)), (1, .long x0)]) hx hb dX18_findAccount_1 rfl hl (by decide) rfl (fun ls hl2 => ?_)
  replace hl := hl2
  clear hl2
  have hl0 : lv_has ls 4 [(3, .int 0), (0, .ref (a h0)), (1, .long x0)] := lv_sub hl [0, 1, 2] rfl
  refine de_loop (h := 2) (fun (x : St × Int32) ls H locs => lv_has ls 4 [(3, .int x.2), (0, .ref (a h0)), (1, .long x0)] ∧ va_P (dC, dI) vwCl (Wd cy a sh n x.1) H ∧ va_D A (Wd cy a sh n x.1) ∧ va_S A s.heap H locs) (fun f x => fn_X18_findAccount_L2 F sh n h0 x0 f x.1 x.2) (z8, r8) ?_ (fun _ => rfl) F (z, 0) ls H locs ⟨hl0, hP, hD, hS⟩ hf
  intro f_3 x ls H locs ih2 hI hf
  obtain ⟨z_2, p_1⟩ := x
  obtain ⟨hl2, hP2, hD2, hS2⟩ := hI
  replace hl : lv_has ls 4 [(3, .int p_1), (0, .ref (a h0)), (1, .long x0)] := hl2
  replace hP := hP2
  replace hD := hD2
  replace hS := hS2
  clear hl2 hP2 hD2 hS2 hl0
  replace hf := fn_X18_findAccount_L2_s hf
  refine lv_iload_n hx hb dX18_findAccount_2 rfl (lv_at hl 0 rfl) ?_
  refine lv_aload_n hx hb dX18_findAccount_3 rfl (lv_at hl 1 rfl) ?_
  obtain ⟨g_4, hf⟩ := grd_some hf
  obtain ⟨kg_4, sg_4⟩ := okO_at g_4
  refine va_get (D := (dC, dI)) (ci := 18) (v := .int (z_2.1 h0 3)) (C := RX18) (T := TX18) (N := 78) hx hb hts iwd_X18_findAccount_X18 hown hK hP h0 (Wd_ob kg_4 sg_4 (by decide)) rfl 3 (by decide) (hts _ md_X18_findAccount_1) (fun _ h9 => h9) (fl_at (t := 0) rfl) dX18_findAccount_4 ?_
  refine de_cut (h := 27) (fun (x : St × Int32) => []) (fun x ls H locs => lv_has ls 4 [(3, .int x.2), (0, .ref (a h0))] ∧ va_P (dC, dI) vwCl (Wd cy a sh n x.1) H ∧ va_D A (Wd cy a sh n x.1) ∧ va_S A s.heap H locs) (fun x => fn_X18_findAccount_B27 F sh n h0 x.1 x.2) (z8, r8) ?_ (fun B27 => ?_)
  · intro x ls H locs hI hf
    obtain ⟨z_6, p_5⟩ := x
    obtain ⟨hl2, hP2, hD2, hS2⟩ := hI
    replace hl : lv_has ls 4 [(3, .int p_5), (0, .ref (a h0))] := hl2
    replace hP := hP2
    replace hD := hD2
    replace hS := hS2
    clear hl2 hP2 hD2 hS2
    replace hf := fn_X18_findAccount_B27_s hf
    refine W.eq (g2 := F0 m 27 ls []) rfl ?_
    refine lv_iload_n hx hb dX18_findAccount_27 rfl (lv_at hl 0 rfl) ?_
    refine lv_aload_n hx hb dX18_findAccount_28 rfl (lv_at hl 1 rfl) ?_
    refine va_get (D := (dC, dI)) (ci := 18) (v := .int (z_6.1 h0 3)) (C := RX18) (T := TX18) (N := 78) hx hb hts iwd_X18_findAccount_X18 hown hK hP h0 (Wd_ob kg_4 sg_4 (by decide)) rfl 3 (by decide) (hts _ md_X18_findAccount_1) (fun _ h9 => h9) (fl_at (t := 0) rfl) dX18_findAccount_29 ?_
    refine lv_icmp_ge (tgt := 39) hx hb dX18_findAccount_32 (by decide) (fun c_7 => ?_) (fun c_7 => ?_)
    · skip
      rw [if_pos c_7] at hf
      refine lv_iconst (v := (-1)) hx hb dX18_findAccount_39 (by decide) ?_
      obtain ⟨h8, h9⟩ := ret_some hf
      rw [h8, h9]
      exact W.iret (v := (-1)) hx hb hr (fun t ht hW => ⟨⟨(-1), (), rfl, rfl, by rw [ht]; exact hP, va_K.moved hW.alike hK, hD⟩, hS.F ht⟩) hS.2.2 dX18_findAccount_40
    · skip
      rw [if_neg c_7] at hf
      refine lv_iload_n hx hb dX18_findAccount_35 rfl (lv_at hl 0 rfl) ?_
      refine lv_goto (tgt := 40) hx hb dX18_findAccount_36 (by decide) ?_
      obtain ⟨h8, h9⟩ := ret_some hf
      rw [h8, h9]
      exact W.iret (v := p_5) hx hb hr (fun t ht hW => ⟨⟨p_5, (), rfl, rfl, by rw [ht]; exact hP, va_K.moved hW.alike hK, hD⟩, hS.F ht⟩) hS.2.2 dX18_findAccount_40
  refine lv_icmp_ge (tgt := 27) hx hb dX18_findAccount_7 (by decide) (fun c_8 => ?_) (fun c_8 => ?_)
  · skip
    rw [if_pos c_8] at hf
    exact B27 (z_2, p_1) ls H locs ⟨lv_sub hl [0, 1] rfl, hP, hD, hS⟩ hf
  · skip
    rw [if_neg c_8] at hf
    refine lv_aload_n hx hb dX18_findAccount_10 rfl (lv_at hl 1 rfl) ?_
    obtain ⟨k_9, ek_9, hf⟩ := lnk_some hf
    refine va_get (D := (dC, dI)) (ci := 18) (v := .ref (a k_9)) (C := RX18) (T := TX18) (N := 78) hx hb hts iwd_X18_findAccount_X18 hown hK hP h0 (Wd_ob kg_4 sg_4 (by decide)) rfl 0 (by decide) (hts _ md_X18_findAccount_2) (fun _ h9 => h9) (fl_q rfl ek_9) dX18_findAccount_11 ?_
    refine lv_iload_n hx hb dX18_findAccount_14 rfl (lv_at hl 0 rfl) ?_
    obtain ⟨g_10, hf⟩ := grd_some hf
    obtain ⟨kg_10, sg_10, ig_10⟩ := okA_at g_10
    refine va_lald hx hb hK hP k_9 2 (Wd_al kg_10 sg_10) rfl ig_10 dX18_findAccount_15 ?_
    refine lv_lload_n hx hb dX18_findAccount_16 rfl (lv_at hl 2 rfl) ?_
    refine W.lcmp hx hb dX18_findAccount_17 ?_
    refine lv_if_eq (tgt := 27) hx hb dX18_findAccount_18 (by decide) (fun c_11 => ?_) (fun c_11 => ?_)
    · skip
      rw [lg_cmp_eq] at c_11
      rw [if_pos c_11] at hf
      exact B27 (z_2, p_1) ls H locs ⟨lv_sub hl [0, 1] rfl, hP, hD, hS⟩ hf
    · skip
      rw [lg_cmp_eq] at c_11
      rw [if_neg c_11] at hf
      refine lv_iinc (v := (p_1 + 1)) (lv' := [(3, .int (p_1 + 1)), (0, .ref (a h0)), (1, .long x0)]) hx hb dX18_findAccount_21 hl (k := 0) rfl rfl (by decide) rfl (fun ls hl2 => ?_)
      replace hl := hl2
      clear hl2
      refine lv_goto (tgt := 2) hx hb dX18_findAccount_24 (by decide) ?_
      exact ih2 (z_2, (p_1 + 1)) ls H locs ⟨lv_sub hl [0, 1, 2] rfl, hP, hD, hS⟩ hf

theorem md_X15_sizeOf_1 : (.fieldLink RX15 20 "ResourceLedgerModel$Trees" "firsts" "[I" : Cond) ∈ wsX15_sizeOf := List.mem_of_getElem? (i := 1) rfl
theorem iwd_X15_sizeOf_X15 : ∀ w ∈ wsX150, w ∈ wsX15_sizeOf := fun _ h => List.mem_cons_of_mem _ (List.mem_append_right _ h)
theorem md_X15_sizeOf_2 : (.fieldLink RX15 24 "ResourceLedgerModel$Trees" "nexts" "[I" : Cond) ∈ wsX15_sizeOf := List.mem_of_getElem? (i := 2) rfl
set_option maxHeartbeats 4000000 in
set_option maxRecDepth 100000 in
theorem de_X15_sizeOf (l : Launch) (dC : Nat → ClassId) (dI : Nat → Nat → Nat) (cy : Nat → ClassId) (a : Nat → Nat) (sh : Nat → Nat × Nat) (n F : Nat) : ∀ (d sz : Nat) (z : St) (h0 : Nat) (x0 : Int32) {z8 : St} {r8 : Int32} (_ : fn_X15_sizeOf F sh n d z h0 x0 = some (z8, r8)), Met l yX15_sizeOf wsX15_sizeOf ({ frames := d + 0, cells := 0, slots := 0, locals := d * 23 + 0 }) (va_Pc [.ref (a h0), .int x0] (fun U => U.heap.size = sz ∧ va_P (dC, dI) vwCl (Wd cy a sh n z) U.heap ∧ va_K (dC, dI) vwCl (TYS cy) U ∧ va_D (fun _ => True) (Wd cy a sh n z) ∧ NK U)) (va_Qi (fun (r9 : Int32) (u : Unit) => r9 = r8) (fun u t => va_P (dC, dI) vwCl (Wd cy a sh n z8) t.heap ∧ va_K (dC, dI) vwCl (TYS cy) t ∧ va_D (va_A (Wd cy a sh n z) sz) (Wd cy a sh n z8)) (va_A (Wd cy a sh n z) sz)) 0 0 (va_A (Wd cy a sh n z) sz) := by
  intro d
  induction d with
  | zero => intro sz z h0 x0 z8 r8 hf; exact absurd hf (by simp [fn_X15_sizeOf])
  | succ d ihd =>
  intro sz z h0 x0 z8 r8 hf
  refine Met.ofW (cc := cX15_sizeOf) (maxL := 4) (ret := (some .int)) (by decide) rfl ?_
  intro p e s m args below meth c s₁ B hml hv
  obtain ⟨rfl, hsz, hP, hK, hD0, hN⟩ := hv
  have hx := B.exec
  have hb := B.bytes
  have hr := B.returns
  have hts := atoms_spec (ws := wsX15_sizeOf) B.pre
  have hown : s.vm.findClass RX15 = some m.cls := findClass_of_methodNamed B.named
  have hlocks := B.notSynchronized
  subst hsz
  have hD := hD0.self (sz := s.heap.size)
  clear hD0
  generalize hAe : va_A (Wd cy a sh n z) s.heap.size = A at hD ⊢
  have hA : ∀ q : Nat, s.heap.size ≤ q → A q := fun q h => by rw [← hAe]; exact Or.inr h
  clear hAe
  have hS : va_S A s.heap s.heap [] := va_S.rf
  have hl := lv_entry ([.ref (a h0), .int x0]) (n := 4) (Nat.le_of_ble_eq_true rfl)
  rw [lg_entry_eq]
  generalize (lg_sl ([.ref (a h0), .int x0]) ++ List.replicate (4 - (lg_sl ([.ref (a h0), .int x0])).length) Slot.unset).toArray = ls at hl ⊢
  replace hl : lv_has ls 4 [(0, .ref (a h0)), (1, .int x0)] := hl
  replace hf := fn_X15_sizeOf_s hf
  refine de_start hS hP (fun H locs hS hP => ?_)
  refine lv_iconst (v := 1) hx hb dX15_sizeOf_0 (by decide) ?_
  refine lv_istore_n (lv' := [(2, .int 1), (0, .ref (a h0)), (1, .int x0)]) hx hb dX15_sizeOf_1 rfl hl (by decide) rfl (fun ls hl2 => ?_)
  replace hl := hl2
  clear hl2
  refine lv_aload_n hx hb dX15_sizeOf_2 rfl (lv_at hl 1 rfl) ?_
  obtain ⟨g_1, hf⟩ := grd_some hf
  obtain ⟨kg_1, sg_1⟩ := okO_at g_1
  obtain ⟨k_2, ek_2, hf⟩ := lnk_some hf
  refine va_get (D := (dC, dI)) (ci := 15) (v := .ref (a k_2)) (C := RX15) (T := TX15) (N := 6) hx hb hts iwd_X15_sizeOf_X15 hown hK hP h0 (Wd_ob kg_1 sg_1 (by decide)) rfl 3 (by decide) (hts _ md_X15_sizeOf_1) (fun _ h9 => h9) (fl_q rfl ek_2) dX15_sizeOf_3 ?_
  refine lv_iload_n hx hb dX15_sizeOf_6 rfl (lv_at hl 2 rfl) ?_
  obtain ⟨g_3, hf⟩ := grd_some hf
  obtain ⟨kg_3, sg_3, ig_3⟩ := okA_at g_3
  refine va_iald hx hb hK hP k_2 1 (Wd_ai kg_3 sg_3) rfl ig_3 dX15_sizeOf_7 ?_
  refine lv_topi (fun v_4 ev_4 => ?_)
  replace hf := lt_at ev_4 hf
  clear ev_4
  refine lv_istore_n (lv' := [(3, .int v_4), (2, .int 1), (0, .ref (a h0)), (1, .int x0)]) hx hb dX15_sizeOf_8 rfl hl (by decide) rfl (fun ls hl2 => ?_)
  replace hl := hl2
  clear hl2
  have hl0 : lv_has ls 4 [(3, .int v_4), (2, .int 1), (0, .ref (a h0))] := lv_sub hl [0, 1, 2] rfl
  refine de_loop (h := 9) (fun (x : St × Int32 × Int32) ls H locs => lv_has ls 4 [(3, .int x.2.2), (2, .int x.2.1), (0, .ref (a h0))] ∧ va_P (dC, dI) vwCl (Wd cy a sh n x.1) H ∧ va_D A (Wd cy a sh n x.1) ∧ va_S A s.heap H locs) (fun f x => fn_X15_sizeOf_L9 F sh n (fn_X15_sizeOf F sh n d) h0 f x.1 x.2.1 x.2.2) (z8, r8) ?_ (fun _ => rfl) F (z, 1, v_4) ls H locs ⟨hl0, hP, hD, hS⟩ hf
  intro f_8 x ls H locs ih9 hI hf
  obtain ⟨z_7, p_5, p_6⟩ := x
  obtain ⟨hl2, hP2, hD2, hS2⟩ := hI
  replace hl : lv_has ls 4 [(3, .int p_6), (2, .int p_5), (0, .ref (a h0))] := hl2
  replace hP := hP2
  replace hD := hD2
  replace hS := hS2
  clear hl2 hP2 hD2 hS2 hl0
  replace hf := fn_X15_sizeOf_L9_s hf
  refine lv_iload_n hx hb dX15_sizeOf_9 rfl (lv_at hl 0 rfl) ?_
  refine lv_iconst (v := (-1)) hx hb dX15_sizeOf_10 (by decide) ?_
  refine lv_icmp_eq (tgt := 32) hx hb dX15_sizeOf_11 (by decide) (fun c_9 => ?_) (fun c_9 => ?_)
  · skip
    rw [if_pos c_9] at hf
    refine lv_iload_n hx hb dX15_sizeOf_32 rfl (lv_at hl 1 rfl) ?_
    obtain ⟨h8, h9⟩ := ret_some hf
    rw [h8, h9]
    exact W.iret (v := p_5) hx hb hr (fun t ht hW => ⟨⟨p_5, (), rfl, rfl, by rw [ht]; exact hP, va_K.moved hW.alike hK, hD⟩, hS.F ht⟩) hS.2.2 dX15_sizeOf_33
  · skip
    rw [if_neg c_9] at hf
    refine lv_iload_n hx hb dX15_sizeOf_14 rfl (lv_at hl 1 rfl) ?_
    refine lv_aload_n hx hb dX15_sizeOf_15 rfl (lv_at hl 2 rfl) ?_
    refine lv_iload_n hx hb dX15_sizeOf_16 rfl (lv_at hl 0 rfl) ?_
    obtain ⟨z_10, r_11, hfc, hf⟩ := cal_some hf
    have hFc := de_free hD hS hA
    refine va_calli (va_runV (As := [.int p_6]) (rest := [.int p_5]) ⟨hx, hb, hml, hown, hts⟩ (ihd H.size z_7 h0 p_6 hfc) (cwV 1 hts gX15_sizeOf_X15_sizeOf rfl rfl rfl (by decide +kernel) ⟨by show _ ≤ d + 1 + 0; (try dsimp only); omega, by show _ ≤ (d + 1) * 23 + 0; (try dsimp only); omega⟩) ⟨fun a U g mk q => by obtain ⟨q0, q1, qP, qK, qD, qN⟩ := q; exact ⟨q0, q1, qP, va_K.moved (u := U) (U := U.calling g mk a) (Vm.Alike.refl U.vm) qK, qD, qN.same rfl⟩, va_recv hK hP (ci := 15) (q0 := h0) rfl (Wd_ob kg_1 sg_1 (by decide)), fun U hU hW => ⟨rfl, by rw [hU], by rw [hU]; exact hP, va_K.moved hW.alike hK, hD.weaken (fun _ _ _ _ => trivial), hN.warm hW⟩⟩ rfl rfl hl.1 rfl (lv_room (Nat.le_of_ble_eq_true rfl)) dX15_sizeOf_17 ⟨Nat.le_of_ble_eq_true rfl, Nat.le_of_ble_eq_true rfl⟩) hS (fun q _ h => hFc q h) hFc (fun rr u t H_12 locs ht hvm hw hB hz1 hk1 hS2 => ?_)
    rw [hw]
    clear hw
    obtain ⟨hP1, -, hD1⟩ := hB
    rw [ht] at hP1
    replace hD := hD1.weaken (fun _ _ _ h => hFc _ h)
    replace hP := hP1
    replace hS := hS2
    clear hP1 hD1 hS2 hFc hfc hz1 hk1 hvm ht
    refine lv_iadd hx hb dX15_sizeOf_20 ?_
    refine lv_topi (fun v_13 ev_13 => ?_)
    replace hf := lt_at ev_13 hf
    clear ev_13
    refine lv_istore_n (lv' := [(2, .int v_13), (3, .int p_6), (0, .ref (a h0))]) hx hb dX15_sizeOf_21 rfl hl (by decide) rfl (fun ls hl2 => ?_)
    replace hl := hl2
    clear hl2
    refine lv_aload_n hx hb dX15_sizeOf_22 rfl (lv_at hl 2 rfl) ?_
    obtain ⟨k_14, ek_14, hf⟩ := lnk_some hf
    refine va_get (D := (dC, dI)) (ci := 15) (v := .ref (a k_14)) (C := RX15) (T := TX15) (N := 6) hx hb hts iwd_X15_sizeOf_X15 hown hK hP h0 (Wd_ob kg_1 sg_1 (by decide)) rfl 4 (by decide) (hts _ md_X15_sizeOf_2) (fun _ h9 => h9) (fl_q rfl ek_14) dX15_sizeOf_23 ?_
    refine lv_iload_n hx hb dX15_sizeOf_26 rfl (lv_at hl 1 rfl) ?_
    obtain ⟨g_15, hf⟩ := grd_some hf
    obtain ⟨kg_15, sg_15, ig_15⟩ := okA_at g_15
    refine va_iald hx hb hK hP k_14 1 (Wd_ai kg_15 sg_15) rfl ig_15 dX15_sizeOf_27 ?_
    refine lv_topi (fun v_16 ev_16 => ?_)
    replace hf := lt_at ev_16 hf
    clear ev_16
    refine lv_istore_n (lv' := [(3, .int v_16), (2, .int v_13), (0, .ref (a h0))]) hx hb dX15_sizeOf_28 rfl hl (by decide) rfl (fun ls hl2 => ?_)
    replace hl := hl2
    clear hl2
    refine lv_goto (tgt := 9) hx hb dX15_sizeOf_29 (by decide) ?_
    exact ih9 (z_10, v_13, v_16) ls H_12 locs ⟨lv_sub hl [0, 1, 2] rfl, hP, hD, hS⟩ hf

theorem md_X3_setLocal_1 : (.fieldLink RX3 25 "ResourceLedger$Looker" "localOrigins" "[J" : Cond) ∈ wsX3_setLocal := List.mem_of_getElem? (i := 1) rfl
theorem iwd_X3_setLocal_X3 : ∀ w ∈ wsX30, w ∈ wsX3_setLocal := fun _ h => List.mem_cons_of_mem _ (List.mem_append_right _ h)
theorem md_X3_setLocal_2 : (.fieldLink RX3 98 "ResourceLedger$Looker" "inside" "J" : Cond) ∈ wsX3_setLocal := List.mem_of_getElem? (i := 2) rfl
theorem md_X3_setLocal_3 : (.constantLong RX3 185 (-1) : Cond) ∈ wsX3_setLocal := List.mem_of_getElem? (i := 3) rfl
set_option maxHeartbeats 4000000 in
set_option maxRecDepth 100000 in
theorem de_X3_setLocal (l : Launch) (dC : Nat → ClassId) (dI : Nat → Nat → Nat) (cy : Nat → ClassId) (a : Nat → Nat) (sh : Nat → Nat × Nat) (n sz : Nat) (F : Nat) (z : St) (h0 : Nat) (x0 : Int32) (x1 : Int64) (x2 : Int32) {z8 : St} {r8 : Unit} (hf : fn_X3_setLocal F sh n z h0 x0 x1 x2 = some (z8, r8)) : Met l yX3_setLocal wsX3_setLocal ({ frames := 0, cells := 0, slots := 0, locals := 0 }) (va_Pc [.ref (a h0), .int x0, .long x1, .int x2] (fun U => U.heap.size = sz ∧ va_P (dC, dI) vwCl (Wd cy a sh n z) U.heap ∧ va_K (dC, dI) vwCl (TYS cy) U ∧ va_D (fun _ => True) (Wd cy a sh n z) ∧ NK U)) (va_Qv (fun u : Unit => True) (fun u t => va_P (dC, dI) vwCl (Wd cy a sh n z8) t.heap ∧ va_K (dC, dI) vwCl (TYS cy) t ∧ va_D (va_A (Wd cy a sh n z) sz) (Wd cy a sh n z8)) (va_A (Wd cy a sh n z) sz)) 0 0 (va_A (Wd cy a sh n z) sz) := by
  refine Met.ofW (cc := cX3_setLocal) (maxL := 5) (ret := none) (by decide) rfl ?_
  intro p e s m args below meth c s₁ B hml hv
  obtain ⟨rfl, hsz, hP, hK, hD0, hN⟩ := hv
  have hx := B.exec
  have hb := B.bytes
  have hr := B.returns
  have hts := atoms_spec (ws := wsX3_setLocal) B.pre
  have hown : s.vm.findClass RX3 = some m.cls := findClass_of_methodNamed B.named
  have hlocks := B.notSynchronized
  subst hsz
  have hD := hD0.self (sz := s.heap.size)
  clear hD0
  generalize hAe : va_A (Wd cy a sh n z) s.heap.size = A at hD ⊢
  have hA : ∀ q : Nat, s.heap.size ≤ q → A q := fun q h => by rw [← hAe]; exact Or.inr h
  clear hAe
  have hS : va_S A s.heap s.heap [] := va_S.rf
  have hl := lv_entry ([.ref (a h0), .int x0, .long x1, .int x2]) (n := 5) (Nat.le_of_ble_eq_true rfl)
  rw [lg_entry_eq]
  generalize (lg_sl ([.ref (a h0), .int x0, .long x1, .int x2]) ++ List.replicate (5 - (lg_sl ([.ref (a h0), .int x0, .long x1, .int x2])).length) Slot.unset).toArray = ls at hl ⊢
  replace hl : lv_has ls 5 [(0, .ref (a h0)), (1, .int x0), (2, .long x1), (4, .int x2)] := hl
  unfold fn_X3_setLocal at hf
  refine de_start hS hP (fun H locs hS hP => ?_)
  refine lv_aload_n hx hb dX3_setLocal_0 rfl (lv_at hl 0 rfl) ?_
  obtain ⟨g_1, hf⟩ := grd_some hf
  obtain ⟨kg_1, sg_1⟩ := okO_at g_1
  obtain ⟨k_2, ek_2, hf⟩ := lnk_some hf
  refine va_get (D := (dC, dI)) (ci := 3) (v := .ref (a k_2)) (C := RX3) (T := TX3) (N := 22) hx hb hts iwd_X3_setLocal_X3 hown hK hP h0 (Wd_ob kg_1 sg_1 (by decide)) rfl 10 (by decide) (hts _ md_X3_setLocal_1) (fun _ h9 => h9) (fl_q rfl ek_2) dX3_setLocal_1 ?_
  refine lv_iload_n hx hb dX3_setLocal_4 rfl (lv_at hl 1 rfl) ?_
  refine lv_lload_n hx hb dX3_setLocal_5 rfl (lv_at hl 2 rfl) ?_
  obtain ⟨g_3, hf⟩ := grd_some hf
  obtain ⟨kg_3, sg_3, ig_3⟩ := okA_at g_3
  refine va_last hx hb hK hP hD hS k_2 2 (Wd_al kg_3 sg_3) rfl ig_3 dX3_setLocal_6 (fun H_4 locs hP2 hD2 hS2 => ?_)
  rw [Wd_tl sg_3] at hP2 hD2
  obtain ⟨z_5, ez_5⟩ : ∃ w, w = sl z k_2 x0.toNatClampNeg x1 := ⟨_, rfl⟩
  rw [← ez_5] at hP2 hD2
  replace hf := lt_at ez_5 hf
  clear ez_5
  replace hP := hP2
  replace hD := hD2
  replace hS := hS2
  clear hP2 hD2 hS2
  refine lv_aload_n hx hb dX3_setLocal_7 rfl (lv_at hl 0 rfl) ?_
  refine lv_iload hx hb dX3_setLocal_8 (lv_at hl 3 rfl) ?_
  refine lv_if_eq (tgt := 24) hx hb dX3_setLocal_10 (by decide) (fun c_6 => ?_) (fun c_6 => ?_)
  · skip
    rw [if_pos c_6] at hf
    refine lv_aload_n hx hb dX3_setLocal_24 rfl (lv_at hl 0 rfl) ?_
    refine va_get (D := (dC, dI)) (ci := 3) (v := .long (z_5.2.1 h0 13)) (C := RX3) (T := TX3) (N := 22) hx hb hts iwd_X3_setLocal_X3 hown hK hP h0 (Wd_ob kg_1 sg_1 (by decide)) rfl 13 (by decide) (hts _ md_X3_setLocal_2) (fun _ h9 => h9) (fl_at (t := 1) rfl) dX3_setLocal_25 ?_
    refine lv_lconst (v := 1) hx hb dX3_setLocal_28 (by decide) ?_
    refine lv_iload_n hx hb dX3_setLocal_29 rfl (lv_at hl 1 rfl) ?_
    refine lv_lshl (v := (1 <<< ((x0 : Int32).toInt64 &&& 63))) hx hb dX3_setLocal_30 rfl ?_
    refine lv_ldc2 hx hb hown (hts _ md_X3_setLocal_3) dX3_setLocal_31 ?_
    refine lv_lxor hx hb dX3_setLocal_34 ?_
    refine lv_land hx hb dX3_setLocal_35 ?_
    refine va_put (D := (dC, dI)) (ci := 3) (v := .long ((z_5.2.1 h0 13) &&& (((1 <<< ((x0 : Int32).toInt64 &&& 63))) ^^^ (-1)))) (ty := .long) (C := RX3) (T := TX3) (N := 22) hx hb hts iwd_X3_setLocal_X3 tyX3 tyX3_ok nmX3 hown hK hP hD hS h0 (Wd_ob kg_1 sg_1 (by decide)) rfl 13 (by decide) (hts _ md_X3_setLocal_2) (fun _ h9 => h9) rfl (by decide +kernel) rfl rfl (by rw [fl_len]; decide) dX3_setLocal_36 (fun H_7 locs hP2 hD2 hS2 => ?_)
    rw [Wd_sl sg_1 (by decide) rfl] at hP2 hD2
    obtain ⟨z_8, ez_8⟩ : ∃ w, w = sl z_5 h0 13 ((z_5.2.1 h0 13) &&& (((1 <<< ((x0 : Int32).toInt64 &&& 63))) ^^^ (-1))) := ⟨_, rfl⟩
    rw [← ez_8] at hP2 hD2
    replace hf := lt_at ez_8 hf
    clear ez_8
    replace hP := hP2
    replace hD := hD2
    replace hS := hS2
    clear hP2 hD2 hS2
    obtain ⟨h8, h9⟩ := ret_some hf
    rw [h8]
    exact W.vret hx hb hr (fun t ht hW => ⟨⟨(), rfl, trivial, by rw [ht]; exact hP, va_K.moved hW.alike hK, hD⟩, hS.F ht⟩) hS.2.2 dX3_setLocal_39
  · skip
    rw [if_neg c_6] at hf
    refine lv_aload_n hx hb dX3_setLocal_13 rfl (lv_at hl 0 rfl) ?_
    refine va_get (D := (dC, dI)) (ci := 3) (v := .long (z_5.2.1 h0 13)) (C := RX3) (T := TX3) (N := 22) hx hb hts iwd_X3_setLocal_X3 hown hK hP h0 (Wd_ob kg_1 sg_1 (by decide)) rfl 13 (by decide) (hts _ md_X3_setLocal_2) (fun _ h9 => h9) (fl_at (t := 1) rfl) dX3_setLocal_14 ?_
    refine lv_lconst (v := 1) hx hb dX3_setLocal_17 (by decide) ?_
    refine lv_iload_n hx hb dX3_setLocal_18 rfl (lv_at hl 1 rfl) ?_
    refine lv_lshl (v := (1 <<< ((x0 : Int32).toInt64 &&& 63))) hx hb dX3_setLocal_19 rfl ?_
    refine lv_lor hx hb dX3_setLocal_20 ?_
    refine lv_goto (tgt := 36) hx hb dX3_setLocal_21 (by decide) ?_
    refine va_put (D := (dC, dI)) (ci := 3) (v := .long ((z_5.2.1 h0 13) ||| ((1 <<< ((x0 : Int32).toInt64 &&& 63))))) (ty := .long) (C := RX3) (T := TX3) (N := 22) hx hb hts iwd_X3_setLocal_X3 tyX3 tyX3_ok nmX3 hown hK hP hD hS h0 (Wd_ob kg_1 sg_1 (by decide)) rfl 13 (by decide) (hts _ md_X3_setLocal_2) (fun _ h9 => h9) rfl (by decide +kernel) rfl rfl (by rw [fl_len]; decide) dX3_setLocal_36 (fun H_9 locs hP2 hD2 hS2 => ?_)
    rw [Wd_sl sg_1 (by decide) rfl] at hP2 hD2
    obtain ⟨z_10, ez_10⟩ : ∃ w, w = sl z_5 h0 13 ((z_5.2.1 h0 13) ||| ((1 <<< ((x0 : Int32).toInt64 &&& 63)))) := ⟨_, rfl⟩
    rw [← ez_10] at hP2 hD2
    replace hf := lt_at ez_10 hf
    clear ez_10
    replace hP := hP2
    replace hD := hD2
    replace hS := hS2
    clear hP2 hD2 hS2
    obtain ⟨h8, h9⟩ := ret_some hf
    rw [h8]
    exact W.vret hx hb hr (fun t ht hW => ⟨⟨(), rfl, trivial, by rw [ht]; exact hP, va_K.moved hW.alike hK, hD⟩, hS.F ht⟩) hS.2.2 dX3_setLocal_39

theorem md_X8_lay_1 : (.fieldLink RX8 31 "ResourceLedger$Transaction" "calls" "Z" : Cond) ∈ wsX8_lay := List.mem_of_getElem? (i := 1) rfl
theorem iwd_X8_lay_X8 : ∀ w ∈ wsX80, w ∈ wsX8_lay := fun _ h => List.mem_cons_of_mem _ (List.mem_append_right _ h)
theorem md_X8_lay_2 : (.fieldLink RX8 35 "ResourceLedger$Transaction" "sender" "J" : Cond) ∈ wsX8_lay := List.mem_of_getElem? (i := 2) rfl
theorem md_X8_lay_3 : (.fieldLink RX8 39 "ResourceLedger$Transaction" "sequence" "J" : Cond) ∈ wsX8_lay := List.mem_of_getElem? (i := 3) rfl
theorem md_X8_lay_4 : (.fieldLink RX8 42 "ResourceLedger$Transaction" "limit" "I" : Cond) ∈ wsX8_lay := List.mem_of_getElem? (i := 4) rfl
theorem md_X8_lay_5 : (.fieldLink RX8 46 "ResourceLedger$Transaction" "argumentCount" "I" : Cond) ∈ wsX8_lay := List.mem_of_getElem? (i := 5) rfl
theorem md_X8_lay_6 : (.fieldLink RX8 49 "ResourceLedger$Transaction" "resultCount" "I" : Cond) ∈ wsX8_lay := List.mem_of_getElem? (i := 6) rfl
theorem md_X8_lay_7 : (.fieldLink RX8 52 "ResourceLedger$Transaction" "place" "I" : Cond) ∈ wsX8_lay := List.mem_of_getElem? (i := 7) rfl
theorem md_X8_lay_8 : (.fieldLink RX8 55 "ResourceLedger$Transaction" "bytes" "[B" : Cond) ∈ wsX8_lay := List.mem_of_getElem? (i := 8) rfl
set_option maxHeartbeats 4000000 in
set_option maxRecDepth 100000 in
theorem de_X8_lay (l : Launch) (dC : Nat → ClassId) (dI : Nat → Nat → Nat) (cy : Nat → ClassId) (a : Nat → Nat) (sh : Nat → Nat × Nat) (n sz : Nat) (F : Nat) (z : St) (h0 : Nat) (x0 : Int64) (x1 : Int64) (x2 : Int32) {z8 : St} {r8 : Unit} (hf : fn_X8_lay F sh n z h0 x0 x1 x2 = some (z8, r8)) : Met l yX8_lay wsX8_lay ({ frames := 0, cells := 0, slots := 0, locals := 0 }) (va_Pc [.ref (a h0), .long x0, .long x1, .int x2] (fun U => U.heap.size = sz ∧ va_P (dC, dI) vwCl (Wd cy a sh n z) U.heap ∧ va_K (dC, dI) vwCl (TYS cy) U ∧ va_D (fun _ => True) (Wd cy a sh n z) ∧ NK U)) (va_Qv (fun u : Unit => True) (fun u t => va_P (dC, dI) vwCl (Wd cy a sh n z8) t.heap ∧ va_K (dC, dI) vwCl (TYS cy) t ∧ va_D (va_A (Wd cy a sh n z) sz) (Wd cy a sh n z8)) (va_A (Wd cy a sh n z) sz)) 0 0 (va_A (Wd cy a sh n z) sz) := by
  refine Met.ofW (cc := cX8_lay) (maxL := 6) (ret := none) (by decide) rfl ?_
  intro p e s m args below meth c s₁ B hml hv
  obtain ⟨rfl, hsz, hP, hK, hD0, hN⟩ := hv
  have hx := B.exec
  have hb := B.bytes
  have hr := B.returns
  have hts := atoms_spec (ws := wsX8_lay) B.pre
  have hown : s.vm.findClass RX8 = some m.cls := findClass_of_methodNamed B.named
  have hlocks := B.notSynchronized
  subst hsz
  have hD := hD0.self (sz := s.heap.size)
  clear hD0
  generalize hAe : va_A (Wd cy a sh n z) s.heap.size = A at hD ⊢
  have hA : ∀ q : Nat, s.heap.size ≤ q → A q := fun q h => by rw [← hAe]; exact Or.inr h
  clear hAe
  have hS : va_S A s.heap s.heap [] := va_S.rf
  have hl := lv_entry ([.ref (a h0), .long x0, .long x1, .int x2]) (n := 6) (Nat.le_of_ble_eq_true rfl)
  rw [lg_entry_eq]
  generalize (lg_sl ([.ref (a h0), .long x0, .long x1, .int x2]) ++ List.replicate (6 - (lg_sl ([.ref (a h0), .long x0, .long x1, .int x2])).length) Slot.unset).toArray = ls at hl ⊢
  replace hl : lv_has ls 6 [(0, .ref (a h0)), (1, .long x0), (3, .long x1), (5, .int x2)] := hl
  unfold fn_X8_lay at hf
  refine de_start hS hP (fun H locs hS hP => ?_)
  refine lv_aload_n hx hb dX8_lay_0 rfl (lv_at hl 0 rfl) ?_
  refine lv_iconst (v := 0) hx hb dX8_lay_1 (by decide) ?_
  obtain ⟨g_1, hf⟩ := grd_some hf
  obtain ⟨kg_1, sg_1⟩ := okO_at g_1
  refine va_put (D := (dC, dI)) (ci := 8) (v := .int 0) (ty := .boolean) (C := RX8) (T := TX8) (N := 19) hx hb hts iwd_X8_lay_X8 tyX8 tyX8_ok nmX8 hown hK hP hD hS h0 (Wd_ob kg_1 sg_1 (by decide)) rfl 0 (by decide) (hts _ md_X8_lay_1) (fun _ h9 => h9) rfl (by decide +kernel) rfl rfl (by rw [fl_len]; decide) dX8_lay_2 (fun H_2 locs hP2 hD2 hS2 => ?_)
  rw [Wd_si sg_1 (by decide) rfl] at hP2 hD2
  obtain ⟨z_3, ez_3⟩ : ∃ w, w = si z h0 0 0 := ⟨_, rfl⟩
  rw [← ez_3] at hP2 hD2
  replace hf := lt_at ez_3 hf
  clear ez_3
  replace hP := hP2
  replace hD := hD2
  replace hS := hS2
  clear hP2 hD2 hS2
  refine lv_aload_n hx hb dX8_lay_5 rfl (lv_at hl 0 rfl) ?_
  refine lv_lload_n hx hb dX8_lay_6 rfl (lv_at hl 1 rfl) ?_
  refine va_put (D := (dC, dI)) (ci := 8) (v := .long x0) (ty := .long) (C := RX8) (T := TX8) (N := 19) hx hb hts iwd_X8_lay_X8 tyX8 tyX8_ok nmX8 hown hK hP hD hS h0 (Wd_ob kg_1 sg_1 (by decide)) rfl 1 (by decide) (hts _ md_X8_lay_2) (fun _ h9 => h9) rfl (by decide +kernel) rfl rfl (by rw [fl_len]; decide) dX8_lay_7 (fun H_4 locs hP2 hD2 hS2 => ?_)
  rw [Wd_sl sg_1 (by decide) rfl] at hP2 hD2
  obtain ⟨z_5, ez_5⟩ : ∃ w, w = sl z_3 h0 1 x0 := ⟨_, rfl⟩
  rw [← ez_5] at hP2 hD2
  replace hf := lt_at ez_5 hf
  clear ez_5
  replace hP := hP2
  replace hD := hD2
  replace hS := hS2
  clear hP2 hD2 hS2
  refine lv_aload_n hx hb dX8_lay_10 rfl (lv_at hl 0 rfl) ?_
  refine lv_lload_n hx hb dX8_lay_11 rfl (lv_at hl 2 rfl) ?_
  refine va_put (D := (dC, dI)) (ci := 8) (v := .long x1) (ty := .long) (C := RX8) (T := TX8) (N := 19) hx hb hts iwd_X8_lay_X8 tyX8 tyX8_ok nmX8 hown hK hP hD hS h0 (Wd_ob kg_1 sg_1 (by decide)) rfl 2 (by decide) (hts _ md_X8_lay_3) (fun _ h9 => h9) rfl (by decide +kernel) rfl rfl (by rw [fl_len]; decide) dX8_lay_12 (fun H_6 locs hP2 hD2 hS2 => ?_)
  rw [Wd_sl sg_1 (by decide) rfl] at hP2 hD2
  obtain ⟨z_7, ez_7⟩ : ∃ w, w = sl z_5 h0 2 x1 := ⟨_, rfl⟩
  rw [← ez_7] at hP2 hD2
  replace hf := lt_at ez_7 hf
  clear ez_7
  replace hP := hP2
  replace hD := hD2
  replace hS := hS2
  clear hP2 hD2 hS2
  refine lv_aload_n hx hb dX8_lay_15 rfl (lv_at hl 0 rfl) ?_
  refine lv_iload hx hb dX8_lay_16 (lv_at hl 3 rfl) ?_
  refine va_put (D := (dC, dI)) (ci := 8) (v := .int x2) (ty := .int) (C := RX8) (T := TX8) (N := 19) hx hb hts iwd_X8_lay_X8 tyX8 tyX8_ok nmX8 hown hK hP hD hS h0 (Wd_ob kg_1 sg_1 (by decide)) rfl 3 (by decide) (hts _ md_X8_lay_4) (fun _ h9 => h9) rfl (by decide +kernel) rfl rfl (by rw [fl_len]; decide) dX8_lay_18 (fun H_8 locs hP2 hD2 hS2 => ?_)
  rw [Wd_si sg_1 (by decide) rfl] at hP2 hD2
  obtain ⟨z_9, ez_9⟩ : ∃ w, w = si z_7 h0 3 x2 := ⟨_, rfl⟩
  rw [← ez_9] at hP2 hD2
  replace hf := lt_at ez_9 hf
  clear ez_9
  replace hP := hP2
  replace hD := hD2
  replace hS := hS2
  clear hP2 hD2 hS2
  refine lv_aload_n hx hb dX8_lay_21 rfl (lv_at hl 0 rfl) ?_
  refine lv_iconst (v := 0) hx hb dX8_lay_22 (by decide) ?_
  refine va_put (D := (dC, dI)) (ci := 8) (v := .int 0) (ty := .int) (C := RX8) (T := TX8) (N := 19) hx hb hts iwd_X8_lay_X8 tyX8 tyX8_ok nmX8 hown hK hP hD hS h0 (Wd_ob kg_1 sg_1 (by decide)) rfl 7 (by decide) (hts _ md_X8_lay_5) (fun _ h9 => h9) rfl (by decide +kernel) rfl rfl (by rw [fl_len]; decide) dX8_lay_23 (fun H_10 locs hP2 hD2 hS2 => ?_)
  rw [Wd_si sg_1 (by decide) rfl] at hP2 hD2
  obtain ⟨z_11, ez_11⟩ : ∃ w, w = si z_9 h0 7 0 := ⟨_, rfl⟩
  rw [← ez_11] at hP2 hD2
  replace hf := lt_at ez_11 hf
  clear ez_11
  replace hP := hP2
  replace hD := hD2
  replace hS := hS2
  clear hP2 hD2 hS2
  refine lv_aload_n hx hb dX8_lay_26 rfl (lv_at hl 0 rfl) ?_
  refine lv_iconst (v := 0) hx hb dX8_lay_27 (by decide) ?_
  refine va_put (D := (dC, dI)) (ci := 8) (v := .int 0) (ty := .int) (C := RX8) (T := TX8) (N := 19) hx hb hts iwd_X8_lay_X8 tyX8 tyX8_ok nmX8 hown hK hP hD hS h0 (Wd_ob kg_1 sg_1 (by decide)) rfl 15 (by decide) (hts _ md_X8_lay_6) (fun _ h9 => h9) rfl (by decide +kernel) rfl rfl (by rw [fl_len]; decide) dX8_lay_28 (fun H_12 locs hP2 hD2 hS2 => ?_)
  rw [Wd_si sg_1 (by decide) rfl] at hP2 hD2
  obtain ⟨z_13, ez_13⟩ : ∃ w, w = si z_11 h0 15 0 := ⟨_, rfl⟩
  rw [← ez_13] at hP2 hD2
  replace hf := lt_at ez_13 hf
  clear ez_13
  replace hP := hP2
  replace hD := hD2
  replace hS := hS2
  clear hP2 hD2 hS2
  refine lv_aload_n hx hb dX8_lay_31 rfl (lv_at hl 0 rfl) ?_
  refine lv_iconst (v := 0) hx hb dX8_lay_32 (by decide) ?_
  refine va_put (D := (dC, dI)) (ci := 8) (v := .int 0) (ty := .int) (C := RX8) (T := TX8) (N := 19) hx hb hts iwd_X8_lay_X8 tyX8 tyX8_ok nmX8 hown hK hP hD hS h0 (Wd_ob kg_1 sg_1 (by decide)) rfl 14 (by decide) (hts _ md_X8_lay_7) (fun _ h9 => h9) rfl (by decide +kernel) rfl rfl (by rw [fl_len]; decide) dX8_lay_33 (fun H_14 locs hP2 hD2 hS2 => ?_)
  rw [Wd_si sg_1 (by decide) rfl] at hP2 hD2
  obtain ⟨z_15, ez_15⟩ : ∃ w, w = si z_13 h0 14 0 := ⟨_, rfl⟩
  rw [← ez_15] at hP2 hD2
  replace hf := lt_at ez_15 hf
  clear ez_15
  replace hP := hP2
  replace hD := hD2
  replace hS := hS2
  clear hP2 hD2 hS2
  refine lv_aload_n hx hb dX8_lay_36 rfl (lv_at hl 0 rfl) ?_
  refine lv_null hx hb dX8_lay_37 ?_
  refine va_put (D := (dC, dI)) (ci := 8) (v := .null) (ty := .array .byte) (C := RX8) (T := TX8) (N := 19) hx hb hts iwd_X8_lay_X8 tyX8 tyX8_ok nmX8 hown hK hP hD hS h0 (Wd_ob kg_1 sg_1 (by decide)) rfl 6 (by decide) (hts _ md_X8_lay_8) (fun _ h9 => h9) rfl (by decide +kernel) rfl rfl (by rw [fl_len]; decide) dX8_lay_38 (fun H_16 locs hP2 hD2 hS2 => ?_)
  rw [Wd_sq0 sg_1 (by decide) rfl] at hP2 hD2
  obtain ⟨z_17, ez_17⟩ : ∃ w, w = sq z_15 h0 6 none := ⟨_, rfl⟩
  rw [← ez_17] at hP2 hD2
  replace hf := lt_at ez_17 hf
  clear ez_17
  replace hP := hP2
  replace hD := hD2
  replace hS := hS2
  clear hP2 hD2 hS2
  obtain ⟨h8, h9⟩ := ret_some hf
  rw [h8]
  exact W.vret hx hb hr (fun t ht hW => ⟨⟨(), rfl, trivial, by rw [ht]; exact hP, va_K.moved hW.alike hK, hD⟩, hS.F ht⟩) hS.2.2 dX8_lay_41

theorem md_X10_fits_1 : (.fieldLink RX10 24 "ResourceLedger$Wide" "beyond" "Z" : Cond) ∈ wsX10_fits := List.mem_of_getElem? (i := 1) rfl
theorem iwd_X10_fits_X10 : ∀ w ∈ wsX100, w ∈ wsX10_fits := fun _ h => List.mem_cons_of_mem _ (List.mem_append_right _ h)
theorem md_X10_fits_2 : (.fieldLink RX10 17 "ResourceLedger$Wide" "high" "J" : Cond) ∈ wsX10_fits := List.mem_of_getElem? (i := 2) rfl
theorem md_X10_fits_3 : (.fieldLink RX10 21 "ResourceLedger$Wide" "low" "J" : Cond) ∈ wsX10_fits := List.mem_of_getElem? (i := 3) rfl
set_option maxHeartbeats 4000000 in
set_option maxRecDepth 100000 in
theorem de_X10_fits (l : Launch) (dC : Nat → ClassId) (dI : Nat → Nat → Nat) (cy : Nat → ClassId) (a : Nat → Nat) (sh : Nat → Nat × Nat) (n sz : Nat) (F : Nat) (z : St) (h0 : Nat) (x0 : Int32) {z8 : St} {r8 : Int32} (hf : fn_X10_fits F sh n z h0 x0 = some (z8, r8)) : Met l yX10_fits wsX10_fits ({ frames := 0, cells := 0, slots := 0, locals := 0 }) (va_Pc [.ref (a h0), .int x0] (fun U => U.heap.size = sz ∧ va_P (dC, dI) vwCl (Wd cy a sh n z) U.heap ∧ va_K (dC, dI) vwCl (TYS cy) U ∧ va_D (fun _ => True) (Wd cy a sh n z) ∧ NK U)) (va_Qi (fun (r9 : Int32) (u : Unit) => r9 = r8) (fun u t => va_P (dC, dI) vwCl (Wd cy a sh n z8) t.heap ∧ va_K (dC, dI) vwCl (TYS cy) t ∧ va_D (va_A (Wd cy a sh n z) sz) (Wd cy a sh n z8)) (va_A (Wd cy a sh n z) sz)) 0 0 (va_A (Wd cy a sh n z) sz) := by
  refine Met.ofW (cc := cX10_fits) (maxL := 2) (ret := (some .boolean)) (by decide) rfl ?_
  intro p e s m args below meth c s₁ B hml hv
  obtain ⟨rfl, hsz, hP, hK, hD0, hN⟩ := hv
  have hx := B.exec
  have hb := B.bytes
  have hr := B.returns
  have hts := atoms_spec (ws := wsX10_fits) B.pre
  have hown : s.vm.findClass RX10 = some m.cls := findClass_of_methodNamed B.named
  have hlocks := B.notSynchronized
  subst hsz
  have hD := hD0.self (sz := s.heap.size)
  clear hD0
  generalize hAe : va_A (Wd cy a sh n z) s.heap.size = A at hD ⊢
  have hA : ∀ q : Nat, s.heap.size ≤ q → A q := fun q h => by rw [← hAe]; exact Or.inr h
  clear hAe
  have hS : va_S A s.heap s.heap [] := va_S.rf
  have hl := lv_entry ([.ref (a h0), .int x0]) (n := 2) (Nat.le_of_ble_eq_true rfl)
  rw [lg_entry_eq]
  generalize (lg_sl ([.ref (a h0), .int x0]) ++ List.replicate (2 - (lg_sl ([.ref (a h0), .int x0])).length) Slot.unset).toArray = ls at hl ⊢
  replace hl : lv_has ls 2 [(0, .ref (a h0)), (1, .int x0)] := hl
  unfold fn_X10_fits at hf
  refine de_start hS hP (fun H locs hS hP => ?_)
  refine lv_aload_n hx hb dX10_fits_0 rfl (lv_at hl 0 rfl) ?_
  obtain ⟨g_1, hf⟩ := grd_some hf
  obtain ⟨kg_1, sg_1⟩ := okO_at g_1
  refine va_get (D := (dC, dI)) (ci := 10) (v := .int (z.1 h0 2)) (C := RX10) (T := TX10) (N := 5) hx hb hts iwd_X10_fits_X10 hown hK hP h0 (Wd_ob kg_1 sg_1 (by decide)) rfl 2 (by decide) (hts _ md_X10_fits_1) (fun _ h9 => h9) (fl_at (t := 0) rfl) dX10_fits_1 ?_
  refine lv_if_eq (tgt := 9) hx hb dX10_fits_4 (by decide) (fun c_2 => ?_) (fun c_2 => ?_)
  · skip
    rw [if_pos c_2] at hf
    refine lv_iload_n hx hb dX10_fits_9 rfl (lv_at hl 1 rfl) ?_
    refine lv_iconst (v := 4) hx hb dX10_fits_10 (by decide) ?_
    refine lv_icmp_eq (tgt := 40) hx hb dX10_fits_11 (by decide) (fun c_3 => ?_) (fun c_3 => ?_)
    · skip
      rw [if_pos c_3] at hf
      refine lv_iconst (v := 1) hx hb dX10_fits_40 (by decide) ?_
      refine lv_goto (tgt := 45) hx hb dX10_fits_41 (by decide) ?_
      obtain ⟨h8, h9⟩ := ret_some hf
      rw [h8, h9]
      exact W.zret (v := 1) hx hb hr rfl (fun t ht hW => ⟨⟨1, (), rfl, rfl, by rw [ht]; exact hP, va_K.moved hW.alike hK, hD⟩, hS.F ht⟩) hS.2.2 dX10_fits_45
    · skip
      rw [if_neg c_3] at hf
      refine lv_aload_n hx hb dX10_fits_14 rfl (lv_at hl 0 rfl) ?_
      refine va_get (D := (dC, dI)) (ci := 10) (v := .long (z.2.1 h0 0)) (C := RX10) (T := TX10) (N := 5) hx hb hts iwd_X10_fits_X10 hown hK hP h0 (Wd_ob kg_1 sg_1 (by decide)) rfl 0 (by decide) (hts _ md_X10_fits_2) (fun _ h9 => h9) (fl_at (t := 1) rfl) dX10_fits_15 ?_
      refine lv_lconst (v := 0) hx hb dX10_fits_18 (by decide) ?_
      refine W.lcmp hx hb dX10_fits_19 ?_
      refine lv_if_ne (tgt := 44) hx hb dX10_fits_20 (by decide) (fun c_4 => ?_) (fun c_4 => ?_)
      · skip
        rw [lg_cmp_eq] at c_4
        rw [if_neg c_4] at hf
        refine lv_iconst (v := 0) hx hb dX10_fits_44 (by decide) ?_
        obtain ⟨h8, h9⟩ := ret_some hf
        rw [h8, h9]
        exact W.zret (v := 0) hx hb hr rfl (fun t ht hW => ⟨⟨0, (), rfl, rfl, by rw [ht]; exact hP, va_K.moved hW.alike hK, hD⟩, hS.F ht⟩) hS.2.2 dX10_fits_45
      · skip
        rw [lg_cmp_eq] at c_4
        rw [if_pos c_4] at hf
        refine lv_iload_n hx hb dX10_fits_23 rfl (lv_at hl 1 rfl) ?_
        refine lv_iconst (v := 3) hx hb dX10_fits_24 (by decide) ?_
        refine lv_icmp_eq (tgt := 40) hx hb dX10_fits_25 (by decide) (fun c_5 => ?_) (fun c_5 => ?_)
        · skip
          rw [if_pos c_5] at hf
          refine lv_iconst (v := 1) hx hb dX10_fits_40 (by decide) ?_
          refine lv_goto (tgt := 45) hx hb dX10_fits_41 (by decide) ?_
          obtain ⟨h8, h9⟩ := ret_some hf
          rw [h8, h9]
          exact W.zret (v := 1) hx hb hr rfl (fun t ht hW => ⟨⟨1, (), rfl, rfl, by rw [ht]; exact hP, va_K.moved hW.alike hK, hD⟩, hS.F ht⟩) hS.2.2 dX10_fits_45
        · skip
          rw [if_neg c_5] at hf
          refine lv_aload_n hx hb dX10_fits_28 rfl (lv_at hl 0 rfl) ?_
          refine va_get (D := (dC, dI)) (ci := 10) (v := .long (z.2.1 h0 1)) (C := RX10) (T := TX10) (N := 5) hx hb hts iwd_X10_fits_X10 hown hK hP h0 (Wd_ob kg_1 sg_1 (by decide)) rfl 1 (by decide) (hts _ md_X10_fits_3) (fun _ h9 => h9) (fl_at (t := 1) rfl) dX10_fits_29 ?_
          refine lv_bipush (v := 8) hx hb dX10_fits_32 (by decide) ?_
          refine lv_lushr (v := (((z.2.1 h0 1) : Int64).toUInt64 >>> ((8 : Int32).toInt64.toUInt64 &&& Int64.toUInt64 63)).toInt64) hx hb dX10_fits_34 rfl ?_
          refine lv_lconst (v := 0) hx hb dX10_fits_35 (by decide) ?_
          refine W.lcmp hx hb dX10_fits_36 ?_
          refine lv_if_ne (tgt := 44) hx hb dX10_fits_37 (by decide) (fun c_6 => ?_) (fun c_6 => ?_)
          · skip
            rw [lg_cmp_eq] at c_6
            rw [if_neg c_6] at hf
            refine lv_iconst (v := 0) hx hb dX10_fits_44 (by decide) ?_
            obtain ⟨h8, h9⟩ := ret_some hf
            rw [h8, h9]
            exact W.zret (v := 0) hx hb hr rfl (fun t ht hW => ⟨⟨0, (), rfl, rfl, by rw [ht]; exact hP, va_K.moved hW.alike hK, hD⟩, hS.F ht⟩) hS.2.2 dX10_fits_45
          · skip
            rw [lg_cmp_eq] at c_6
            rw [if_pos c_6] at hf
            refine lv_iconst (v := 1) hx hb dX10_fits_40 (by decide) ?_
            refine lv_goto (tgt := 45) hx hb dX10_fits_41 (by decide) ?_
            obtain ⟨h8, h9⟩ := ret_some hf
            rw [h8, h9]
            exact W.zret (v := 1) hx hb hr rfl (fun t ht hW => ⟨⟨1, (), rfl, rfl, by rw [ht]; exact hP, va_K.moved hW.alike hK, hD⟩, hS.F ht⟩) hS.2.2 dX10_fits_45
  · skip
    rw [if_neg c_2] at hf
    refine lv_iconst (v := 0) hx hb dX10_fits_7 (by decide) ?_
    obtain ⟨h8, h9⟩ := ret_some hf
    rw [h8, h9]
    exact W.zret (v := 0) hx hb hr rfl (fun t ht hW => ⟨⟨0, (), rfl, rfl, by rw [ht]; exact hP, va_K.moved hW.alike hK, hD⟩, hS.F ht⟩) hS.2.2 dX10_fits_8

set_option maxHeartbeats 4000000 in
set_option maxRecDepth 100000 in
theorem de_X18_coinMany (l : Launch) (dC : Nat → ClassId) (dI : Nat → Nat → Nat) (cy : Nat → ClassId) (a : Nat → Nat) (sh : Nat → Nat × Nat) (n sz : Nat) (F : Nat) (z : St) (x0 : Int32) (x1 : Int32) {z8 : St} {r8 : Int32} (hf : fn_X18_coinMany F sh n z x0 x1 = some (z8, r8)) : Met l yX18_coinMany wsX18_coinMany ({ frames := 0, cells := 0, slots := 0, locals := 0 }) (va_Pc [.int x0, .int x1] (fun U => U.heap.size = sz ∧ va_P (dC, dI) vwCl (Wd cy a sh n z) U.heap ∧ va_K (dC, dI) vwCl (TYS cy) U ∧ va_D (fun _ => True) (Wd cy a sh n z) ∧ NK U)) (va_Qi (fun (r9 : Int32) (u : Unit) => r9 = r8) (fun u t => va_P (dC, dI) vwCl (Wd cy a sh n z8) t.heap ∧ va_K (dC, dI) vwCl (TYS cy) t ∧ va_D (va_A (Wd cy a sh n z) sz) (Wd cy a sh n z8)) (va_A (Wd cy a sh n z) sz)) 0 0 (va_A (Wd cy a sh n z) sz) := by
  refine Met.ofW (cc := cX18_coinMany) (maxL := 2) (ret := (some .int)) (by decide) rfl ?_
  intro p e s m args below meth c s₁ B hml hv
  obtain ⟨rfl, hsz, hP, hK, hD0, hN⟩ := hv
  have hx := B.exec
  have hb := B.bytes
  have hr := B.returns
  have hts := atoms_spec (ws := wsX18_coinMany) B.pre
  have hown : s.vm.findClass RX18 = some m.cls := findClass_of_methodNamed B.named
  have hlocks := B.notSynchronized
  subst hsz
  have hD := hD0.self (sz := s.heap.size)
  clear hD0
  generalize hAe : va_A (Wd cy a sh n z) s.heap.size = A at hD ⊢
  have hA : ∀ q : Nat, s.heap.size ≤ q → A q := fun q h => by rw [← hAe]; exact Or.inr h
  clear hAe
  have hS : va_S A s.heap s.heap [] := va_S.rf
  have hl := lv_entry ([.int x0, .int x1]) (n := 2) (Nat.le_of_ble_eq_true rfl)
  rw [lg_entry_eq]
  generalize (lg_sl ([.int x0, .int x1]) ++ List.replicate (2 - (lg_sl ([.int x0, .int x1])).length) Slot.unset).toArray = ls at hl ⊢
  replace hl : lv_has ls 2 [(0, .int x0), (1, .int x1)] := hl
  unfold fn_X18_coinMany at hf
  refine de_start hS hP (fun H locs hS hP => ?_)
  refine lv_iload_n hx hb dX18_coinMany_0 rfl (lv_at hl 1 rfl) ?_
  refine lv_if_ne (tgt := 25) hx hb dX18_coinMany_1 (by decide) (fun c_1 => ?_) (fun c_1 => ?_)
  · skip
    rw [if_neg c_1] at hf
    refine lv_iload_n hx hb dX18_coinMany_25 rfl (lv_at hl 0 rfl) ?_
    refine lv_iconst (v := 1) hx hb dX18_coinMany_26 (by decide) ?_
    refine lv_icmp_ne (tgt := 34) hx hb dX18_coinMany_27 (by decide) (fun c_2 => ?_) (fun c_2 => ?_)
    · skip
      rw [if_neg c_2] at hf
      refine lv_iload_n hx hb dX18_coinMany_34 rfl (lv_at hl 0 rfl) ?_
      refine lv_iconst (v := 4) hx hb dX18_coinMany_35 (by decide) ?_
      refine lv_icmp_ne (tgt := 43) hx hb dX18_coinMany_36 (by decide) (fun c_3 => ?_) (fun c_3 => ?_)
      · skip
        rw [if_neg c_3] at hf
        refine lv_iconst (v := 1) hx hb dX18_coinMany_43 (by decide) ?_
        obtain ⟨h8, h9⟩ := ret_some hf
        rw [h8, h9]
        exact W.iret (v := 1) hx hb hr (fun t ht hW => ⟨⟨1, (), rfl, rfl, by rw [ht]; exact hP, va_K.moved hW.alike hK, hD⟩, hS.F ht⟩) hS.2.2 dX18_coinMany_44
      · skip
        rw [if_pos c_3] at hf
        refine lv_iconst (v := 2) hx hb dX18_coinMany_39 (by decide) ?_
        refine lv_goto (tgt := 44) hx hb dX18_coinMany_40 (by decide) ?_
        obtain ⟨h8, h9⟩ := ret_some hf
        rw [h8, h9]
        exact W.iret (v := 2) hx hb hr (fun t ht hW => ⟨⟨2, (), rfl, rfl, by rw [ht]; exact hP, va_K.moved hW.alike hK, hD⟩, hS.F ht⟩) hS.2.2 dX18_coinMany_44
    · skip
      rw [if_pos c_2] at hf
      refine lv_iconst (v := 0) hx hb dX18_coinMany_30 (by decide) ?_
      refine lv_goto (tgt := 44) hx hb dX18_coinMany_31 (by decide) ?_
      obtain ⟨h8, h9⟩ := ret_some hf
      rw [h8, h9]
      exact W.iret (v := 0) hx hb hr (fun t ht hW => ⟨⟨0, (), rfl, rfl, by rw [ht]; exact hP, va_K.moved hW.alike hK, hD⟩, hS.F ht⟩) hS.2.2 dX18_coinMany_44
  · skip
    rw [if_pos c_1] at hf
    refine lv_iload_n hx hb dX18_coinMany_4 rfl (lv_at hl 0 rfl) ?_
    refine lv_iconst (v := 1) hx hb dX18_coinMany_5 (by decide) ?_
    refine lv_icmp_eq (tgt := 19) hx hb dX18_coinMany_6 (by decide) (fun c_4 => ?_) (fun c_4 => ?_)
    · skip
      rw [if_pos c_4] at hf
      refine lv_iconst (v := 2) hx hb dX18_coinMany_19 (by decide) ?_
      refine lv_goto (tgt := 24) hx hb dX18_coinMany_20 (by decide) ?_
      obtain ⟨h8, h9⟩ := ret_some hf
      rw [h8, h9]
      exact W.iret (v := 2) hx hb hr (fun t ht hW => ⟨⟨2, (), rfl, rfl, by rw [ht]; exact hP, va_K.moved hW.alike hK, hD⟩, hS.F ht⟩) hS.2.2 dX18_coinMany_24
    · skip
      rw [if_neg c_4] at hf
      refine lv_iload_n hx hb dX18_coinMany_9 rfl (lv_at hl 0 rfl) ?_
      refine lv_iconst (v := 3) hx hb dX18_coinMany_10 (by decide) ?_
      refine lv_icmp_eq (tgt := 19) hx hb dX18_coinMany_11 (by decide) (fun c_5 => ?_) (fun c_5 => ?_)
      · skip
        rw [if_pos c_5] at hf
        refine lv_iconst (v := 2) hx hb dX18_coinMany_19 (by decide) ?_
        refine lv_goto (tgt := 24) hx hb dX18_coinMany_20 (by decide) ?_
        obtain ⟨h8, h9⟩ := ret_some hf
        rw [h8, h9]
        exact W.iret (v := 2) hx hb hr (fun t ht hW => ⟨⟨2, (), rfl, rfl, by rw [ht]; exact hP, va_K.moved hW.alike hK, hD⟩, hS.F ht⟩) hS.2.2 dX18_coinMany_24
      · skip
        rw [if_neg c_5] at hf
        refine lv_iload_n hx hb dX18_coinMany_14 rfl (lv_at hl 0 rfl) ?_
        refine lv_iconst (v := 4) hx hb dX18_coinMany_15 (by decide) ?_
        refine lv_icmp_ne (tgt := 23) hx hb dX18_coinMany_16 (by decide) (fun c_6 => ?_) (fun c_6 => ?_)
        · skip
          rw [if_neg c_6] at hf
          refine lv_iconst (v := 1) hx hb dX18_coinMany_23 (by decide) ?_
          obtain ⟨h8, h9⟩ := ret_some hf
          rw [h8, h9]
          exact W.iret (v := 1) hx hb hr (fun t ht hW => ⟨⟨1, (), rfl, rfl, by rw [ht]; exact hP, va_K.moved hW.alike hK, hD⟩, hS.F ht⟩) hS.2.2 dX18_coinMany_24
        · skip
          rw [if_pos c_6] at hf
          refine lv_iconst (v := 2) hx hb dX18_coinMany_19 (by decide) ?_
          refine lv_goto (tgt := 24) hx hb dX18_coinMany_20 (by decide) ?_
          obtain ⟨h8, h9⟩ := ret_some hf
          rw [h8, h9]
          exact W.iret (v := 2) hx hb hr (fun t ht hW => ⟨⟨2, (), rfl, rfl, by rw [ht]; exact hP, va_K.moved hW.alike hK, hD⟩, hS.F ht⟩) hS.2.2 dX18_coinMany_24

theorem md_X7_openAccount_1 : (.fieldLink RX7 51 "ResourceLedger$State" "accountCount" "I" : Cond) ∈ wsX7_openAccount := List.mem_of_getElem? (i := 1) rfl
theorem iwd_X7_openAccount_X7 : ∀ w ∈ wsX70, w ∈ wsX7_openAccount := fun _ h => List.mem_cons_of_mem _ (List.mem_append_right _ h)
theorem md_X7_openAccount_2 : (.methodLink RX7 61 Lib.Math.min.name : Cond) ∈ wsX7_openAccount := List.mem_of_getElem? (i := 2) rfl
theorem md_X7_openAccount_3 : (.static Lib.Math.min.name : Cond) ∈ wsX7_openAccount := List.mem_of_getElem? (i := 3) rfl
theorem md_X7_openAccount_4 : (.initialized "java/lang/Math" : Cond) ∈ wsX7_openAccount := List.mem_of_getElem? (i := 4) rfl
theorem md_X7_openAccount_5 : (.code Lib.Math.min.name Lib.Math.min.code 2 (some .int) : Cond) ∈ wsX7_openAccount := List.mem_of_getElem? (i := 5) rfl
theorem md_X7_openAccount_6 : (.fieldLink RX7 9 "ResourceLedger$State" "accountAddress" "[J" : Cond) ∈ wsX7_openAccount := List.mem_of_getElem? (i := 6) rfl
theorem md_X7_openAccount_7 : (.fieldLink RX7 15 "ResourceLedger$State" "balance" "[J" : Cond) ∈ wsX7_openAccount := List.mem_of_getElem? (i := 7) rfl
theorem md_X7_openAccount_8 : (.fieldLink RX7 18 "ResourceLedger$State" "sequence" "[J" : Cond) ∈ wsX7_openAccount := List.mem_of_getElem? (i := 8) rfl
set_option maxHeartbeats 4000000 in
set_option maxRecDepth 100000 in
theorem de_X7_openAccount (l : Launch) (dC : Nat → ClassId) (dI : Nat → Nat → Nat) (cy : Nat → ClassId) (a : Nat → Nat) (sh : Nat → Nat × Nat) (n sz : Nat) (F : Nat) (z : St) (h0 : Nat) (x0 : Int64) {z8 : St} {r8 : Int32} (hf : fn_X7_openAccount F sh n z h0 x0 = some (z8, r8)) : Met l yX7_openAccount wsX7_openAccount ({ frames := 1, cells := 0, slots := 0, locals := 21 }) (va_Pc [.ref (a h0), .long x0] (fun U => U.heap.size = sz ∧ va_P (dC, dI) vwCl (Wd cy a sh n z) U.heap ∧ va_K (dC, dI) vwCl (TYS cy) U ∧ va_D (fun _ => True) (Wd cy a sh n z) ∧ NK U)) (va_Qi (fun (r9 : Int32) (u : Unit) => r9 = r8) (fun u t => va_P (dC, dI) vwCl (Wd cy a sh n z8) t.heap ∧ va_K (dC, dI) vwCl (TYS cy) t ∧ va_D (va_A (Wd cy a sh n z) sz) (Wd cy a sh n z8)) (va_A (Wd cy a sh n z) sz)) 0 0 (va_A (Wd cy a sh n z) sz) := by
  refine Met.ofW (cc := cX7_openAccount) (maxL := 4) (ret := (some .int)) (by decide) rfl ?_
  intro p e s m args below meth c s₁ B hml hv
  obtain ⟨rfl, hsz, hP, hK, hD0, hN⟩ := hv
  have hx := B.exec
  have hb := B.bytes
  have hr := B.returns
  have hts := atoms_spec (ws := wsX7_openAccount) B.pre
  have hown : s.vm.findClass RX7 = some m.cls := findClass_of_methodNamed B.named
  have hlocks := B.notSynchronized
  subst hsz
  have hD := hD0.self (sz := s.heap.size)
  clear hD0
  generalize hAe : va_A (Wd cy a sh n z) s.heap.size = A at hD ⊢
  have hA : ∀ q : Nat, s.heap.size ≤ q → A q := fun q h => by rw [← hAe]; exact Or.inr h
  clear hAe
  have hS : va_S A s.heap s.heap [] := va_S.rf
  have hl := lv_entry ([.ref (a h0), .long x0]) (n := 4) (Nat.le_of_ble_eq_true rfl)
  rw [lg_entry_eq]
  generalize (lg_sl ([.ref (a h0), .long x0]) ++ List.replicate (4 - (lg_sl ([.ref (a h0), .long x0])).length) Slot.unset).toArray = ls at hl ⊢
  replace hl : lv_has ls 4 [(0, .ref (a h0)), (1, .long x0)] := hl
  unfold fn_X7_openAccount at hf
  refine de_start hS hP (fun H locs hS hP => ?_)
  refine lv_aload_n hx hb dX7_openAccount_0 rfl (lv_at hl 0 rfl) ?_
  obtain ⟨g_1, hf⟩ := grd_some hf
  obtain ⟨kg_1, sg_1⟩ := okO_at g_1
  refine va_get (D := (dC, dI)) (ci := 7) (v := .int (z.1 h0 3)) (C := RX7) (T := TX7) (N := 16) hx hb hts iwd_X7_openAccount_X7 hown hK hP h0 (Wd_ob kg_1 sg_1 (by decide)) rfl 3 (by decide) (hts _ md_X7_openAccount_1) (fun _ h9 => h9) (fl_at (t := 0) rfl) dX7_openAccount_1 ?_
  refine lv_sipush (v := 255) hx hb dX7_openAccount_4 (by decide) ?_
  refine va_mmin hx hb (hml.trans hl.1.symm) hown (hts _ md_X7_openAccount_2) (hts _ md_X7_openAccount_3) (hts _ md_X7_openAccount_4) (hts _ md_X7_openAccount_5) (Nat.le_of_ble_eq_true rfl) (Nat.le_of_ble_eq_true rfl) (Nat.le_of_ble_eq_true rfl) (Nat.le_of_ble_eq_true rfl) dX7_openAccount_7 ?_
  refine lv_topi (fun v_2 ev_2 => ?_)
  replace hf := lt_at ev_2 hf
  clear ev_2
  refine lv_istore_n (lv' := [(3, .int v_2), (0, .ref (a h0)), (1, .long x0)]) hx hb dX7_openAccount_10 rfl hl (by decide) rfl (fun ls hl2 => ?_)
  replace hl := hl2
  clear hl2
  refine lv_aload_n hx hb dX7_openAccount_11 rfl (lv_at hl 1 rfl) ?_
  obtain ⟨k_3, ek_3, hf⟩ := lnk_some hf
  refine va_get (D := (dC, dI)) (ci := 7) (v := .ref (a k_3)) (C := RX7) (T := TX7) (N := 16) hx hb hts iwd_X7_openAccount_X7 hown hK hP h0 (Wd_ob kg_1 sg_1 (by decide)) rfl 0 (by decide) (hts _ md_X7_openAccount_6) (fun _ h9 => h9) (fl_q rfl ek_3) dX7_openAccount_12 ?_
  refine lv_iload_n hx hb dX7_openAccount_15 rfl (lv_at hl 0 rfl) ?_
  refine lv_lload_n hx hb dX7_openAccount_16 rfl (lv_at hl 2 rfl) ?_
  obtain ⟨g_4, hf⟩ := grd_some hf
  obtain ⟨kg_4, sg_4, ig_4⟩ := okA_at g_4
  refine va_last hx hb hK hP hD hS k_3 2 (Wd_al kg_4 sg_4) rfl ig_4 dX7_openAccount_17 (fun H_5 locs hP2 hD2 hS2 => ?_)
  rw [Wd_tl sg_4] at hP2 hD2
  obtain ⟨z_6, ez_6⟩ : ∃ w, w = sl z k_3 v_2.toNatClampNeg x0 := ⟨_, rfl⟩
  rw [← ez_6] at hP2 hD2
  replace hf := lt_at ez_6 hf
  clear ez_6
  replace hP := hP2
  replace hD := hD2
  replace hS := hS2
  clear hP2 hD2 hS2
  refine lv_aload_n hx hb dX7_openAccount_18 rfl (lv_at hl 1 rfl) ?_
  obtain ⟨k_7, ek_7, hf⟩ := lnk_some hf
  refine va_get (D := (dC, dI)) (ci := 7) (v := .ref (a k_7)) (C := RX7) (T := TX7) (N := 16) hx hb hts iwd_X7_openAccount_X7 hown hK hP h0 (Wd_ob kg_1 sg_1 (by decide)) rfl 1 (by decide) (hts _ md_X7_openAccount_7) (fun _ h9 => h9) (fl_q rfl ek_7) dX7_openAccount_19 ?_
  refine lv_iload_n hx hb dX7_openAccount_22 rfl (lv_at hl 0 rfl) ?_
  refine lv_lconst (v := 0) hx hb dX7_openAccount_23 (by decide) ?_
  obtain ⟨g_8, hf⟩ := grd_some hf
  obtain ⟨kg_8, sg_8, ig_8⟩ := okA_at g_8
  refine va_last hx hb hK hP hD hS k_7 2 (Wd_al kg_8 sg_8) rfl ig_8 dX7_openAccount_24 (fun H_9 locs hP2 hD2 hS2 => ?_)
  rw [Wd_tl sg_8] at hP2 hD2
  obtain ⟨z_10, ez_10⟩ : ∃ w, w = sl z_6 k_7 v_2.toNatClampNeg 0 := ⟨_, rfl⟩
  rw [← ez_10] at hP2 hD2
  replace hf := lt_at ez_10 hf
  clear ez_10
  replace hP := hP2
  replace hD := hD2
  replace hS := hS2
  clear hP2 hD2 hS2
  refine lv_aload_n hx hb dX7_openAccount_25 rfl (lv_at hl 1 rfl) ?_
  obtain ⟨k_11, ek_11, hf⟩ := lnk_some hf
  refine va_get (D := (dC, dI)) (ci := 7) (v := .ref (a k_11)) (C := RX7) (T := TX7) (N := 16) hx hb hts iwd_X7_openAccount_X7 hown hK hP h0 (Wd_ob kg_1 sg_1 (by decide)) rfl 2 (by decide) (hts _ md_X7_openAccount_8) (fun _ h9 => h9) (fl_q rfl ek_11) dX7_openAccount_26 ?_
  refine lv_iload_n hx hb dX7_openAccount_29 rfl (lv_at hl 0 rfl) ?_
  refine lv_lconst (v := 0) hx hb dX7_openAccount_30 (by decide) ?_
  obtain ⟨g_12, hf⟩ := grd_some hf
  obtain ⟨kg_12, sg_12, ig_12⟩ := okA_at g_12
  refine va_last hx hb hK hP hD hS k_11 2 (Wd_al kg_12 sg_12) rfl ig_12 dX7_openAccount_31 (fun H_13 locs hP2 hD2 hS2 => ?_)
  rw [Wd_tl sg_12] at hP2 hD2
  obtain ⟨z_14, ez_14⟩ : ∃ w, w = sl z_10 k_11 v_2.toNatClampNeg 0 := ⟨_, rfl⟩
  rw [← ez_14] at hP2 hD2
  replace hf := lt_at ez_14 hf
  clear ez_14
  replace hP := hP2
  replace hD := hD2
  replace hS := hS2
  clear hP2 hD2 hS2
  refine lv_aload_n hx hb dX7_openAccount_32 rfl (lv_at hl 1 rfl) ?_
  refine lv_iload_n hx hb dX7_openAccount_33 rfl (lv_at hl 0 rfl) ?_
  refine lv_iconst (v := 1) hx hb dX7_openAccount_34 (by decide) ?_
  refine lv_iadd hx hb dX7_openAccount_35 ?_
  refine va_put (D := (dC, dI)) (ci := 7) (v := .int (v_2 + 1)) (ty := .int) (C := RX7) (T := TX7) (N := 16) hx hb hts iwd_X7_openAccount_X7 tyX7 tyX7_ok nmX7 hown hK hP hD hS h0 (Wd_ob kg_1 sg_1 (by decide)) rfl 3 (by decide) (hts _ md_X7_openAccount_1) (fun _ h9 => h9) rfl (by decide +kernel) rfl rfl (by rw [fl_len]; decide) dX7_openAccount_36 (fun H_15 locs hP2 hD2 hS2 => ?_)
  rw [Wd_si sg_1 (by decide) rfl] at hP2 hD2
  obtain ⟨z_16, ez_16⟩ : ∃ w, w = si z_14 h0 3 (v_2 + 1) := ⟨_, rfl⟩
  rw [← ez_16] at hP2 hD2
  replace hf := lt_at ez_16 hf
  clear ez_16
  replace hP := hP2
  replace hD := hD2
  replace hS := hS2
  clear hP2 hD2 hS2
  refine lv_iload_n hx hb dX7_openAccount_39 rfl (lv_at hl 0 rfl) ?_
  obtain ⟨h8, h9⟩ := ret_some hf
  rw [h8, h9]
  exact W.iret (v := v_2) hx hb hr (fun t ht hW => ⟨⟨v_2, (), rfl, rfl, by rw [ht]; exact hP, va_K.moved hW.alike hK, hD⟩, hS.F ht⟩) hS.2.2 dX7_openAccount_40

theorem md_X1_assign_1 : (.fieldLink RX1 11 "ResourceLedger$Heap" "kind" "[B" : Cond) ∈ wsX1_assign := List.mem_of_getElem? (i := 1) rfl
theorem iwd_X1_assign_X1 : ∀ w ∈ wsX10, w ∈ wsX1_assign := fun _ h => List.mem_cons_of_mem _ (List.mem_append_right _ h)
theorem md_X1_assign_2 : (.fieldLink RX1 15 "ResourceLedger$Heap" "low" "[J" : Cond) ∈ wsX1_assign := List.mem_of_getElem? (i := 2) rfl
theorem md_X1_assign_3 : (.fieldLink RX1 19 "ResourceLedger$Heap" "high" "[J" : Cond) ∈ wsX1_assign := List.mem_of_getElem? (i := 3) rfl
set_option maxHeartbeats 4000000 in
set_option maxRecDepth 100000 in
theorem de_X1_assign (l : Launch) (dC : Nat → ClassId) (dI : Nat → Nat → Nat) (cy : Nat → ClassId) (a : Nat → Nat) (sh : Nat → Nat × Nat) (n sz : Nat) (F : Nat) (z : St) (h0 : Nat) (x0 : Int32) (x1 : Int32) {z8 : St} {r8 : Unit} (hf : fn_X1_assign F sh n z h0 x0 x1 = some (z8, r8)) : Met l yX1_assign wsX1_assign ({ frames := 0, cells := 0, slots := 0, locals := 0 }) (va_Pc [.ref (a h0), .int x0, .int x1] (fun U => U.heap.size = sz ∧ va_P (dC, dI) vwCl (Wd cy a sh n z) U.heap ∧ va_K (dC, dI) vwCl (TYS cy) U ∧ va_D (fun _ => True) (Wd cy a sh n z) ∧ NK U)) (va_Qv (fun u : Unit => True) (fun u t => va_P (dC, dI) vwCl (Wd cy a sh n z8) t.heap ∧ va_K (dC, dI) vwCl (TYS cy) t ∧ va_D (va_A (Wd cy a sh n z) sz) (Wd cy a sh n z8)) (va_A (Wd cy a sh n z) sz)) 0 0 (va_A (Wd cy a sh n z) sz) := by
  refine Met.ofW (cc := cX1_assign) (maxL := 3) (ret := none) (by decide) rfl ?_
  intro p e s m args below meth c s₁ B hml hv
  obtain ⟨rfl, hsz, hP, hK, hD0, hN⟩ := hv
  have hx := B.exec
  have hb := B.bytes
  have hr := B.returns
  have hts := atoms_spec (ws := wsX1_assign) B.pre
  have hown : s.vm.findClass RX1 = some m.cls := findClass_of_methodNamed B.named
  have hlocks := B.notSynchronized
  subst hsz
  have hD := hD0.self (sz := s.heap.size)
  clear hD0
  generalize hAe : va_A (Wd cy a sh n z) s.heap.size = A at hD ⊢
  have hA : ∀ q : Nat, s.heap.size ≤ q → A q := fun q h => by rw [← hAe]; exact Or.inr h
  clear hAe
  have hS : va_S A s.heap s.heap [] := va_S.rf
  have hl := lv_entry ([.ref (a h0), .int x0, .int x1]) (n := 3) (Nat.le_of_ble_eq_true rfl)
  rw [lg_entry_eq]
  generalize (lg_sl ([.ref (a h0), .int x0, .int x1]) ++ List.replicate (3 - (lg_sl ([.ref (a h0), .int x0, .int x1])).length) Slot.unset).toArray = ls at hl ⊢
  replace hl : lv_has ls 3 [(0, .ref (a h0)), (1, .int x0), (2, .int x1)] := hl
  unfold fn_X1_assign at hf
  refine de_start hS hP (fun H locs hS hP => ?_)
  refine lv_iload_n hx hb dX1_assign_0 rfl (lv_at hl 1 rfl) ?_
  refine lv_if_ne (tgt := 5) hx hb dX1_assign_1 (by decide) (fun c_1 => ?_) (fun c_1 => ?_)
  · skip
    rw [if_neg c_1] at hf
    refine lv_aload_n hx hb dX1_assign_5 rfl (lv_at hl 0 rfl) ?_
    obtain ⟨g_2, hf⟩ := grd_some hf
    obtain ⟨kg_2, sg_2⟩ := okO_at g_2
    obtain ⟨k_3, ek_3, hf⟩ := lnk_some hf
    refine va_get (D := (dC, dI)) (ci := 1) (v := .ref (a k_3)) (C := RX1) (T := TX1) (N := 7) hx hb hts iwd_X1_assign_X1 hown hK hP h0 (Wd_ob kg_2 sg_2 (by decide)) rfl 0 (by decide) (hts _ md_X1_assign_1) (fun _ h9 => h9) (fl_q rfl ek_3) dX1_assign_6 ?_
    refine lv_iload_n hx hb dX1_assign_9 rfl (lv_at hl 1 rfl) ?_
    refine lv_aload_n hx hb dX1_assign_10 rfl (lv_at hl 0 rfl) ?_
    obtain ⟨k_4, ek_4, hf⟩ := lnk_some hf
    refine va_get (D := (dC, dI)) (ci := 1) (v := .ref (a k_4)) (C := RX1) (T := TX1) (N := 7) hx hb hts iwd_X1_assign_X1 hown hK hP h0 (Wd_ob kg_2 sg_2 (by decide)) rfl 0 (by decide) (hts _ md_X1_assign_1) (fun _ h9 => h9) (fl_q rfl ek_4) dX1_assign_11 ?_
    refine lv_iload_n hx hb dX1_assign_14 rfl (lv_at hl 2 rfl) ?_
    obtain ⟨g_5, hf⟩ := grd_some hf
    obtain ⟨kg_5, sg_5, ig_5⟩ := okA_at g_5
    refine va_bald hx hb hK hP k_4 0 (Wd_ab kg_5 sg_5) rfl ig_5 dX1_assign_15 ?_
    obtain ⟨g_6, hf⟩ := grd_some hf
    obtain ⟨kg_6, sg_6, ig_6⟩ := okA_at g_6
    refine va_bast hx hb hK hP hD hS k_3 0 (Wd_ab kg_6 sg_6) rfl ig_6 dX1_assign_16 (fun H_7 locs hP2 hD2 hS2 => ?_)
    rw [Wd_tb sg_6] at hP2 hD2
    obtain ⟨z_8, ez_8⟩ : ∃ w, w = si z k_3 x0.toNatClampNeg (vp_nar .byte (z.1 k_4 x1.toNatClampNeg)) := ⟨_, rfl⟩
    rw [← ez_8] at hP2 hD2
    replace hf := lt_at ez_8 hf
    clear ez_8
    replace hP := hP2
    replace hD := hD2
    replace hS := hS2
    clear hP2 hD2 hS2
    refine lv_aload_n hx hb dX1_assign_17 rfl (lv_at hl 0 rfl) ?_
    obtain ⟨k_9, ek_9, hf⟩ := lnk_some hf
    refine va_get (D := (dC, dI)) (ci := 1) (v := .ref (a k_9)) (C := RX1) (T := TX1) (N := 7) hx hb hts iwd_X1_assign_X1 hown hK hP h0 (Wd_ob kg_2 sg_2 (by decide)) rfl 1 (by decide) (hts _ md_X1_assign_2) (fun _ h9 => h9) (fl_q rfl ek_9) dX1_assign_18 ?_
    refine lv_iload_n hx hb dX1_assign_21 rfl (lv_at hl 1 rfl) ?_
    refine lv_aload_n hx hb dX1_assign_22 rfl (lv_at hl 0 rfl) ?_
    obtain ⟨k_10, ek_10, hf⟩ := lnk_some hf
    refine va_get (D := (dC, dI)) (ci := 1) (v := .ref (a k_10)) (C := RX1) (T := TX1) (N := 7) hx hb hts iwd_X1_assign_X1 hown hK hP h0 (Wd_ob kg_2 sg_2 (by decide)) rfl 1 (by decide) (hts _ md_X1_assign_2) (fun _ h9 => h9) (fl_q rfl ek_10) dX1_assign_23 ?_
    refine lv_iload_n hx hb dX1_assign_26 rfl (lv_at hl 2 rfl) ?_
    obtain ⟨g_11, hf⟩ := grd_some hf
    obtain ⟨kg_11, sg_11, ig_11⟩ := okA_at g_11
    refine va_lald hx hb hK hP k_10 2 (Wd_al kg_11 sg_11) rfl ig_11 dX1_assign_27 ?_
    obtain ⟨g_12, hf⟩ := grd_some hf
    obtain ⟨kg_12, sg_12, ig_12⟩ := okA_at g_12
    refine va_last hx hb hK hP hD hS k_9 2 (Wd_al kg_12 sg_12) rfl ig_12 dX1_assign_28 (fun H_13 locs hP2 hD2 hS2 => ?_)
    rw [Wd_tl sg_12] at hP2 hD2
    obtain ⟨z_14, ez_14⟩ : ∃ w, w = sl z_8 k_9 x0.toNatClampNeg (z_8.2.1 k_10 x1.toNatClampNeg) := ⟨_, rfl⟩
    rw [← ez_14] at hP2 hD2
    replace hf := lt_at ez_14 hf
    clear ez_14
    replace hP := hP2
    replace hD := hD2
    replace hS := hS2
    clear hP2 hD2 hS2
    refine lv_aload_n hx hb dX1_assign_29 rfl (lv_at hl 0 rfl) ?_
    obtain ⟨k_15, ek_15, hf⟩ := lnk_some hf
    refine va_get (D := (dC, dI)) (ci := 1) (v := .ref (a k_15)) (C := RX1) (T := TX1) (N := 7) hx hb hts iwd_X1_assign_X1 hown hK hP h0 (Wd_ob kg_2 sg_2 (by decide)) rfl 2 (by decide) (hts _ md_X1_assign_3) (fun _ h9 => h9) (fl_q rfl ek_15) dX1_assign_30 ?_
    refine lv_iload_n hx hb dX1_assign_33 rfl (lv_at hl 1 rfl) ?_
    refine lv_aload_n hx hb dX1_assign_34 rfl (lv_at hl 0 rfl) ?_
    obtain ⟨k_16, ek_16, hf⟩ := lnk_some hf
    refine va_get (D := (dC, dI)) (ci := 1) (v := .ref (a k_16)) (C := RX1) (T := TX1) (N := 7) hx hb hts iwd_X1_assign_X1 hown hK hP h0 (Wd_ob kg_2 sg_2 (by decide)) rfl 2 (by decide) (hts _ md_X1_assign_3) (fun _ h9 => h9) (fl_q rfl ek_16) dX1_assign_35 ?_
    refine lv_iload_n hx hb dX1_assign_38 rfl (lv_at hl 2 rfl) ?_
    obtain ⟨g_17, hf⟩ := grd_some hf
    obtain ⟨kg_17, sg_17, ig_17⟩ := okA_at g_17
    refine va_lald hx hb hK hP k_16 2 (Wd_al kg_17 sg_17) rfl ig_17 dX1_assign_39 ?_
    obtain ⟨g_18, hf⟩ := grd_some hf
    obtain ⟨kg_18, sg_18, ig_18⟩ := okA_at g_18
    refine va_last hx hb hK hP hD hS k_15 2 (Wd_al kg_18 sg_18) rfl ig_18 dX1_assign_40 (fun H_19 locs hP2 hD2 hS2 => ?_)
    rw [Wd_tl sg_18] at hP2 hD2
    obtain ⟨z_20, ez_20⟩ : ∃ w, w = sl z_14 k_15 x0.toNatClampNeg (z_14.2.1 k_16 x1.toNatClampNeg) := ⟨_, rfl⟩
    rw [← ez_20] at hP2 hD2
    replace hf := lt_at ez_20 hf
    clear ez_20
    replace hP := hP2
    replace hD := hD2
    replace hS := hS2
    clear hP2 hD2 hS2
    obtain ⟨h8, h9⟩ := ret_some hf
    rw [h8]
    exact W.vret hx hb hr (fun t ht hW => ⟨⟨(), rfl, trivial, by rw [ht]; exact hP, va_K.moved hW.alike hK, hD⟩, hS.F ht⟩) hS.2.2 dX1_assign_41
  · skip
    rw [if_pos c_1] at hf
    obtain ⟨h8, h9⟩ := ret_some hf
    rw [h8]
    exact W.vret hx hb hr (fun t ht hW => ⟨⟨(), rfl, trivial, by rw [ht]; exact hP, va_K.moved hW.alike hK, hD⟩, hS.F ht⟩) hS.2.2 dX1_assign_4

theorem md_X18_findResource_1 : (.fieldLink RX18 10 "ResourceLedgerModel" "resources" "I" : Cond) ∈ wsX18_findResource := List.mem_of_getElem? (i := 1) rfl
theorem iwd_X18_findResource_X18 : ∀ w ∈ wsX180, w ∈ wsX18_findResource := fun _ h => List.mem_cons_of_mem _ (List.mem_append_right _ h)
theorem md_X18_findResource_2 : (.fieldLink RX18 27 "ResourceLedgerModel" "owners" "[J" : Cond) ∈ wsX18_findResource := List.mem_of_getElem? (i := 2) rfl
theorem md_X18_findResource_3 : (.fieldLink RX18 30 "ResourceLedgerModel" "kindsOf" "[I" : Cond) ∈ wsX18_findResource := List.mem_of_getElem? (i := 3) rfl
set_option maxHeartbeats 4000000 in
set_option maxRecDepth 100000 in
theorem de_X18_findResource (l : Launch) (dC : Nat → ClassId) (dI : Nat → Nat → Nat) (cy : Nat → ClassId) (a : Nat → Nat) (sh : Nat → Nat × Nat) (n sz : Nat) (F : Nat) (z : St) (h0 : Nat) (x0 : Int64) (x1 : Int32) {z8 : St} {r8 : Int32} (hf : fn_X18_findResource F sh n z h0 x0 x1 = some (z8, r8)) : Met l yX18_findResource wsX18_findResource ({ frames := 0, cells := 0, slots := 0, locals := 0 }) (va_Pc [.ref (a h0), .long x0, .int x1] (fun U => U.heap.size = sz ∧ va_P (dC, dI) vwCl (Wd cy a sh n z) U.heap ∧ va_K (dC, dI) vwCl (TYS cy) U ∧ va_D (fun _ => True) (Wd cy a sh n z) ∧ NK U)) (va_Qi (fun (r9 : Int32) (u : Unit) => r9 = r8) (fun u t => va_P (dC, dI) vwCl (Wd cy a sh n z8) t.heap ∧ va_K (dC, dI) vwCl (TYS cy) t ∧ va_D (va_A (Wd cy a sh n z) sz) (Wd cy a sh n z8)) (va_A (Wd cy a sh n z) sz)) 0 0 (va_A (Wd cy a sh n z) sz) := by
  refine Met.ofW (cc := cX18_findResource) (maxL := 5) (ret := (some .int)) (by decide) rfl ?_
  intro p e s m args below meth c s₁ B hml hv
  obtain ⟨rfl, hsz, hP, hK, hD0, hN⟩ := hv
  have hx := B.exec
  have hb := B.bytes
  have hr := B.returns
  have hts := atoms_spec (ws := wsX18_findResource) B.pre
  have hown : s.vm.findClass RX18 = some m.cls := findClass_of_methodNamed B.named
  have hlocks := B.notSynchronized
  subst hsz
  have hD := hD0.self (sz := s.heap.size)
  clear hD0
  generalize hAe : va_A (Wd cy a sh n z) s.heap.size = A at hD ⊢
  have hA : ∀ q : Nat, s.heap.size ≤ q → A q := fun q h => by rw [← hAe]; exact Or.inr h
  clear hAe
  have hS : va_S A s.heap s.heap [] := va_S.rf
  have hl := lv_entry ([.ref (a h0), .long x0, .int x1]) (n := 5) (Nat.le_of_ble_eq_true rfl)
  rw [lg_entry_eq]
  generalize (lg_sl ([.ref (a h0), .long x0, .int x1]) ++ List.replicate (5 - (lg_sl ([.ref (a h0), .long x0, .int x1])).length) Slot.unset).toArray = ls at hl ⊢
  replace hl : lv_has ls 5 [(0, .ref (a h0)), (1, .long x0), (3, .int x1)] := hl
  unfold fn_X18_findResource at hf
  refine de_start hS hP (fun H locs hS hP => ?_)
  refine lv_iconst (v := 0) hx hb dX18_findResource_0 (by decide) ?_
  refine lv_istore (lv' := [(4, .int 0), (0, .ref (a h0)), (1, .long x0), (3, .int x1)]) hx hb dX18_findResource_1 hl (by decide) rfl (fun ls hl2 => ?_)
  replace hl := hl2
  clear hl2
  have hl0 : lv_has ls 5 [(4, .int 0), (0, .ref (a h0)), (1, .long x0), (3, .int x1)] := lv_sub hl [0, 1, 2, 3] rfl
  refine de_loop (h := 3) (fun (x : St × Int32) ls H locs => lv_has ls 5 [(4, .int x.2), (0, .ref (a h0)), (1, .long x0), (3, .int x1)] ∧ va_P (dC, dI) vwCl (Wd cy a sh n x.1) H ∧ va_D A (Wd cy a sh n x.1) ∧ va_S A s.heap H locs) (fun f x => fn_X18_findResource_L3 F sh n h0 x0 x1 f x.1 x.2) (z8, r8) ?_ (fun _ => rfl) F (z, 0) ls H locs ⟨hl0, hP, hD, hS⟩ hf
  intro f_3 x ls H locs ih3 hI hf
  obtain ⟨z_2, p_1⟩ := x
  obtain ⟨hl2, hP2, hD2, hS2⟩ := hI
  replace hl : lv_has ls 5 [(4, .int p_1), (0, .ref (a h0)), (1, .long x0), (3, .int x1)] := hl2
  replace hP := hP2
  replace hD := hD2
  replace hS := hS2
  clear hl2 hP2 hD2 hS2 hl0
  replace hf := fn_X18_findResource_L3_s hf
  refine lv_iload hx hb dX18_findResource_3 (lv_at hl 0 rfl) ?_
  refine lv_aload_n hx hb dX18_findResource_5 rfl (lv_at hl 1 rfl) ?_
  obtain ⟨g_4, hf⟩ := grd_some hf
  obtain ⟨kg_4, sg_4⟩ := okO_at g_4
  refine va_get (D := (dC, dI)) (ci := 18) (v := .int (z_2.1 h0 9)) (C := RX18) (T := TX18) (N := 78) hx hb hts iwd_X18_findResource_X18 hown hK hP h0 (Wd_ob kg_4 sg_4 (by decide)) rfl 9 (by decide) (hts _ md_X18_findResource_1) (fun _ h9 => h9) (fl_at (t := 0) rfl) dX18_findResource_6 ?_
  refine de_cut (h := 41) (fun (x : St × Int32) => []) (fun x ls H locs => lv_has ls 5 [(4, .int x.2), (0, .ref (a h0))] ∧ va_P (dC, dI) vwCl (Wd cy a sh n x.1) H ∧ va_D A (Wd cy a sh n x.1) ∧ va_S A s.heap H locs) (fun x => fn_X18_findResource_B41 F sh n h0 x.1 x.2) (z8, r8) ?_ (fun B41 => ?_)
  · intro x ls H locs hI hf
    obtain ⟨z_6, p_5⟩ := x
    obtain ⟨hl2, hP2, hD2, hS2⟩ := hI
    replace hl : lv_has ls 5 [(4, .int p_5), (0, .ref (a h0))] := hl2
    replace hP := hP2
    replace hD := hD2
    replace hS := hS2
    clear hl2 hP2 hD2 hS2
    replace hf := fn_X18_findResource_B41_s hf
    refine W.eq (g2 := F0 m 41 ls []) rfl ?_
    refine lv_iload hx hb dX18_findResource_41 (lv_at hl 0 rfl) ?_
    refine lv_aload_n hx hb dX18_findResource_43 rfl (lv_at hl 1 rfl) ?_
    refine va_get (D := (dC, dI)) (ci := 18) (v := .int (z_6.1 h0 9)) (C := RX18) (T := TX18) (N := 78) hx hb hts iwd_X18_findResource_X18 hown hK hP h0 (Wd_ob kg_4 sg_4 (by decide)) rfl 9 (by decide) (hts _ md_X18_findResource_1) (fun _ h9 => h9) (fl_at (t := 0) rfl) dX18_findResource_44 ?_
    refine lv_icmp_ge (tgt := 55) hx hb dX18_findResource_47 (by decide) (fun c_7 => ?_) (fun c_7 => ?_)
    · skip
      rw [if_pos c_7] at hf
      refine lv_iconst (v := (-1)) hx hb dX18_findResource_55 (by decide) ?_
      obtain ⟨h8, h9⟩ := ret_some hf
      rw [h8, h9]
      exact W.iret (v := (-1)) hx hb hr (fun t ht hW => ⟨⟨(-1), (), rfl, rfl, by rw [ht]; exact hP, va_K.moved hW.alike hK, hD⟩, hS.F ht⟩) hS.2.2 dX18_findResource_56
    · skip
      rw [if_neg c_7] at hf
      refine lv_iload hx hb dX18_findResource_50 (lv_at hl 0 rfl) ?_
      refine lv_goto (tgt := 56) hx hb dX18_findResource_52 (by decide) ?_
      obtain ⟨h8, h9⟩ := ret_some hf
      rw [h8, h9]
      exact W.iret (v := p_5) hx hb hr (fun t ht hW => ⟨⟨p_5, (), rfl, rfl, by rw [ht]; exact hP, va_K.moved hW.alike hK, hD⟩, hS.F ht⟩) hS.2.2 dX18_findResource_56
  refine lv_icmp_ge (tgt := 41) hx hb dX18_findResource_9 (by decide) (fun c_8 => ?_) (fun c_8 => ?_)
  · skip
    rw [if_pos c_8] at hf
    exact B41 (z_2, p_1) ls H locs ⟨lv_sub hl [0, 1] rfl, hP, hD, hS⟩ hf
  · skip
    rw [if_neg c_8] at hf
    refine lv_aload_n hx hb dX18_findResource_12 rfl (lv_at hl 1 rfl) ?_
    obtain ⟨k_9, ek_9, hf⟩ := lnk_some hf
    refine va_get (D := (dC, dI)) (ci := 18) (v := .ref (a k_9)) (C := RX18) (T := TX18) (N := 78) hx hb hts iwd_X18_findResource_X18 hown hK hP h0 (Wd_ob kg_4 sg_4 (by decide)) rfl 7 (by decide) (hts _ md_X18_findResource_2) (fun _ h9 => h9) (fl_q rfl ek_9) dX18_findResource_13 ?_
    refine lv_iload hx hb dX18_findResource_16 (lv_at hl 0 rfl) ?_
    obtain ⟨g_10, hf⟩ := grd_some hf
    obtain ⟨kg_10, sg_10, ig_10⟩ := okA_at g_10
    refine va_lald hx hb hK hP k_9 2 (Wd_al kg_10 sg_10) rfl ig_10 dX18_findResource_18 ?_
    refine lv_lload_n hx hb dX18_findResource_19 rfl (lv_at hl 2 rfl) ?_
    refine W.lcmp hx hb dX18_findResource_20 ?_
    refine de_cut (h := 35) (fun (x : St) => []) (fun x ls H locs => lv_has ls 5 [(4, .int p_1), (0, .ref (a h0)), (1, .long x0), (3, .int x1)] ∧ va_P (dC, dI) vwCl (Wd cy a sh n x) H ∧ va_D A (Wd cy a sh n x) ∧ va_S A s.heap H locs) (fun x => fn_X18_findResource_B35 F sh n p_1 (fun z9 q4 => fn_X18_findResource_L3 F sh n h0 x0 x1 f_3 z9 q4) x) (z8, r8) ?_ (fun B35 => ?_)
    · intro x ls H locs hI hf
      obtain ⟨z_11, ez⟩ : ∃ w, w = x := ⟨_, rfl⟩
      subst ez
      obtain ⟨hl2, hP2, hD2, hS2⟩ := hI
      replace hl : lv_has ls 5 [(4, .int p_1), (0, .ref (a h0)), (1, .long x0), (3, .int x1)] := hl2
      replace hP := hP2
      replace hD := hD2
      replace hS := hS2
      clear hl2 hP2 hD2 hS2
      replace hf := fn_X18_findResource_B35_s hf
      refine W.eq (g2 := F0 m 35 ls []) rfl ?_
      refine lv_iinc (v := (p_1 + 1)) (lv' := [(4, .int (p_1 + 1)), (0, .ref (a h0)), (1, .long x0), (3, .int x1)]) hx hb dX18_findResource_35 hl (k := 0) rfl rfl (by decide) rfl (fun ls hl2 => ?_)
      replace hl := hl2
      clear hl2
      refine lv_goto (tgt := 3) hx hb dX18_findResource_38 (by decide) ?_
      exact ih3 (z_11, (p_1 + 1)) ls H locs ⟨lv_sub hl [0, 1, 2, 3] rfl, hP, hD, hS⟩ hf
    refine lv_if_ne (tgt := 35) hx hb dX18_findResource_21 (by decide) (fun c_12 => ?_) (fun c_12 => ?_)
    · skip
      rw [lg_cmp_eq] at c_12
      rw [if_neg c_12] at hf
      exact B35 (z_2) ls H locs ⟨lv_sub hl [0, 1, 2, 3] rfl, hP, hD, hS⟩ hf
    · skip
      rw [lg_cmp_eq] at c_12
      rw [if_pos c_12] at hf
      refine lv_aload_n hx hb dX18_findResource_24 rfl (lv_at hl 1 rfl) ?_
      obtain ⟨k_13, ek_13, hf⟩ := lnk_some hf
      refine va_get (D := (dC, dI)) (ci := 18) (v := .ref (a k_13)) (C := RX18) (T := TX18) (N := 78) hx hb hts iwd_X18_findResource_X18 hown hK hP h0 (Wd_ob kg_4 sg_4 (by decide)) rfl 8 (by decide) (hts _ md_X18_findResource_3) (fun _ h9 => h9) (fl_q rfl ek_13) dX18_findResource_25 ?_
      refine lv_iload hx hb dX18_findResource_28 (lv_at hl 0 rfl) ?_
      obtain ⟨g_14, hf⟩ := grd_some hf
      obtain ⟨kg_14, sg_14, ig_14⟩ := okA_at g_14
      refine va_iald hx hb hK hP k_13 1 (Wd_ai kg_14 sg_14) rfl ig_14 dX18_findResource_30 ?_
      refine lv_iload_n hx hb dX18_findResource_31 rfl (lv_at hl 3 rfl) ?_
      refine lv_icmp_eq (tgt := 41) hx hb dX18_findResource_32 (by decide) (fun c_15 => ?_) (fun c_15 => ?_)
      · skip
        rw [if_pos c_15] at hf
        exact B41 (z_2, p_1) ls H locs ⟨lv_sub hl [0, 1] rfl, hP, hD, hS⟩ hf
      · skip
        rw [if_neg c_15] at hf
        exact B35 (z_2) ls H locs ⟨lv_sub hl [0, 1, 2, 3] rfl, hP, hD, hS⟩ hf

theorem md_X18_newAccount_1 : (.fieldLink RX18 13 "ResourceLedgerModel" "addresses" "[J" : Cond) ∈ wsX18_newAccount := List.mem_of_getElem? (i := 1) rfl
theorem iwd_X18_newAccount_X18 : ∀ w ∈ wsX180, w ∈ wsX18_newAccount := fun _ h => List.mem_cons_of_mem _ (List.mem_append_right _ h)
theorem md_X18_newAccount_2 : (.fieldLink RX18 1 "ResourceLedgerModel" "accounts" "I" : Cond) ∈ wsX18_newAccount := List.mem_of_getElem? (i := 2) rfl
theorem md_X18_newAccount_3 : (.fieldLink RX18 303 "ResourceLedgerModel" "balances" "[J" : Cond) ∈ wsX18_newAccount := List.mem_of_getElem? (i := 3) rfl
theorem md_X18_newAccount_4 : (.fieldLink RX18 519 "ResourceLedgerModel" "sequences" "[J" : Cond) ∈ wsX18_newAccount := List.mem_of_getElem? (i := 4) rfl
set_option maxHeartbeats 4000000 in
set_option maxRecDepth 100000 in
theorem de_X18_newAccount (l : Launch) (dC : Nat → ClassId) (dI : Nat → Nat → Nat) (cy : Nat → ClassId) (a : Nat → Nat) (sh : Nat → Nat × Nat) (n sz : Nat) (F : Nat) (z : St) (h0 : Nat) (x0 : Int64) {z8 : St} {r8 : Int32} (hf : fn_X18_newAccount F sh n z h0 x0 = some (z8, r8)) : Met l yX18_newAccount wsX18_newAccount ({ frames := 0, cells := 0, slots := 0, locals := 0 }) (va_Pc [.ref (a h0), .long x0] (fun U => U.heap.size = sz ∧ va_P (dC, dI) vwCl (Wd cy a sh n z) U.heap ∧ va_K (dC, dI) vwCl (TYS cy) U ∧ va_D (fun _ => True) (Wd cy a sh n z) ∧ NK U)) (va_Qi (fun (r9 : Int32) (u : Unit) => r9 = r8) (fun u t => va_P (dC, dI) vwCl (Wd cy a sh n z8) t.heap ∧ va_K (dC, dI) vwCl (TYS cy) t ∧ va_D (va_A (Wd cy a sh n z) sz) (Wd cy a sh n z8)) (va_A (Wd cy a sh n z) sz)) 0 0 (va_A (Wd cy a sh n z) sz) := by
  refine Met.ofW (cc := cX18_newAccount) (maxL := 3) (ret := (some .int)) (by decide) rfl ?_
  intro p e s m args below meth c s₁ B hml hv
  obtain ⟨rfl, hsz, hP, hK, hD0, hN⟩ := hv
  have hx := B.exec
  have hb := B.bytes
  have hr := B.returns
  have hts := atoms_spec (ws := wsX18_newAccount) B.pre
  have hown : s.vm.findClass RX18 = some m.cls := findClass_of_methodNamed B.named
  have hlocks := B.notSynchronized
  subst hsz
  have hD := hD0.self (sz := s.heap.size)
  clear hD0
  generalize hAe : va_A (Wd cy a sh n z) s.heap.size = A at hD ⊢
  have hA : ∀ q : Nat, s.heap.size ≤ q → A q := fun q h => by rw [← hAe]; exact Or.inr h
  clear hAe
  have hS : va_S A s.heap s.heap [] := va_S.rf
  have hl := lv_entry ([.ref (a h0), .long x0]) (n := 3) (Nat.le_of_ble_eq_true rfl)
  rw [lg_entry_eq]
  generalize (lg_sl ([.ref (a h0), .long x0]) ++ List.replicate (3 - (lg_sl ([.ref (a h0), .long x0])).length) Slot.unset).toArray = ls at hl ⊢
  replace hl : lv_has ls 3 [(0, .ref (a h0)), (1, .long x0)] := hl
  unfold fn_X18_newAccount at hf
  refine de_start hS hP (fun H locs hS hP => ?_)
  refine lv_aload_n hx hb dX18_newAccount_0 rfl (lv_at hl 0 rfl) ?_
  obtain ⟨g_1, hf⟩ := grd_some hf
  obtain ⟨kg_1, sg_1⟩ := okO_at g_1
  obtain ⟨k_2, ek_2, hf⟩ := lnk_some hf
  refine va_get (D := (dC, dI)) (ci := 18) (v := .ref (a k_2)) (C := RX18) (T := TX18) (N := 78) hx hb hts iwd_X18_newAccount_X18 hown hK hP h0 (Wd_ob kg_1 sg_1 (by decide)) rfl 0 (by decide) (hts _ md_X18_newAccount_1) (fun _ h9 => h9) (fl_q rfl ek_2) dX18_newAccount_1 ?_
  refine lv_aload_n hx hb dX18_newAccount_4 rfl (lv_at hl 0 rfl) ?_
  refine va_get (D := (dC, dI)) (ci := 18) (v := .int (z.1 h0 3)) (C := RX18) (T := TX18) (N := 78) hx hb hts iwd_X18_newAccount_X18 hown hK hP h0 (Wd_ob kg_1 sg_1 (by decide)) rfl 3 (by decide) (hts _ md_X18_newAccount_2) (fun _ h9 => h9) (fl_at (t := 0) rfl) dX18_newAccount_5 ?_
  refine lv_lload_n hx hb dX18_newAccount_8 rfl (lv_at hl 1 rfl) ?_
  obtain ⟨g_3, hf⟩ := grd_some hf
  obtain ⟨kg_3, sg_3, ig_3⟩ := okA_at g_3
  refine va_last hx hb hK hP hD hS k_2 2 (Wd_al kg_3 sg_3) rfl ig_3 dX18_newAccount_9 (fun H_4 locs hP2 hD2 hS2 => ?_)
  rw [Wd_tl sg_3] at hP2 hD2
  obtain ⟨z_5, ez_5⟩ : ∃ w, w = sl z k_2 (z.1 h0 3).toNatClampNeg x0 := ⟨_, rfl⟩
  rw [← ez_5] at hP2 hD2
  replace hf := lt_at ez_5 hf
  clear ez_5
  replace hP := hP2
  replace hD := hD2
  replace hS := hS2
  clear hP2 hD2 hS2
  refine lv_aload_n hx hb dX18_newAccount_10 rfl (lv_at hl 0 rfl) ?_
  obtain ⟨k_6, ek_6, hf⟩ := lnk_some hf
  refine va_get (D := (dC, dI)) (ci := 18) (v := .ref (a k_6)) (C := RX18) (T := TX18) (N := 78) hx hb hts iwd_X18_newAccount_X18 hown hK hP h0 (Wd_ob kg_1 sg_1 (by decide)) rfl 1 (by decide) (hts _ md_X18_newAccount_3) (fun _ h9 => h9) (fl_q rfl ek_6) dX18_newAccount_11 ?_
  refine lv_aload_n hx hb dX18_newAccount_14 rfl (lv_at hl 0 rfl) ?_
  refine va_get (D := (dC, dI)) (ci := 18) (v := .int (z_5.1 h0 3)) (C := RX18) (T := TX18) (N := 78) hx hb hts iwd_X18_newAccount_X18 hown hK hP h0 (Wd_ob kg_1 sg_1 (by decide)) rfl 3 (by decide) (hts _ md_X18_newAccount_2) (fun _ h9 => h9) (fl_at (t := 0) rfl) dX18_newAccount_15 ?_
  refine lv_lconst (v := 0) hx hb dX18_newAccount_18 (by decide) ?_
  obtain ⟨g_7, hf⟩ := grd_some hf
  obtain ⟨kg_7, sg_7, ig_7⟩ := okA_at g_7
  refine va_last hx hb hK hP hD hS k_6 2 (Wd_al kg_7 sg_7) rfl ig_7 dX18_newAccount_19 (fun H_8 locs hP2 hD2 hS2 => ?_)
  rw [Wd_tl sg_7] at hP2 hD2
  obtain ⟨z_9, ez_9⟩ : ∃ w, w = sl z_5 k_6 (z_5.1 h0 3).toNatClampNeg 0 := ⟨_, rfl⟩
  rw [← ez_9] at hP2 hD2
  replace hf := lt_at ez_9 hf
  clear ez_9
  replace hP := hP2
  replace hD := hD2
  replace hS := hS2
  clear hP2 hD2 hS2
  refine lv_aload_n hx hb dX18_newAccount_20 rfl (lv_at hl 0 rfl) ?_
  obtain ⟨k_10, ek_10, hf⟩ := lnk_some hf
  refine va_get (D := (dC, dI)) (ci := 18) (v := .ref (a k_10)) (C := RX18) (T := TX18) (N := 78) hx hb hts iwd_X18_newAccount_X18 hown hK hP h0 (Wd_ob kg_1 sg_1 (by decide)) rfl 2 (by decide) (hts _ md_X18_newAccount_4) (fun _ h9 => h9) (fl_q rfl ek_10) dX18_newAccount_21 ?_
  refine lv_aload_n hx hb dX18_newAccount_24 rfl (lv_at hl 0 rfl) ?_
  refine va_get (D := (dC, dI)) (ci := 18) (v := .int (z_9.1 h0 3)) (C := RX18) (T := TX18) (N := 78) hx hb hts iwd_X18_newAccount_X18 hown hK hP h0 (Wd_ob kg_1 sg_1 (by decide)) rfl 3 (by decide) (hts _ md_X18_newAccount_2) (fun _ h9 => h9) (fl_at (t := 0) rfl) dX18_newAccount_25 ?_
  refine lv_lconst (v := 0) hx hb dX18_newAccount_28 (by decide) ?_
  obtain ⟨g_11, hf⟩ := grd_some hf
  obtain ⟨kg_11, sg_11, ig_11⟩ := okA_at g_11
  refine va_last hx hb hK hP hD hS k_10 2 (Wd_al kg_11 sg_11) rfl ig_11 dX18_newAccount_29 (fun H_12 locs hP2 hD2 hS2 => ?_)
  rw [Wd_tl sg_11] at hP2 hD2
  obtain ⟨z_13, ez_13⟩ : ∃ w, w = sl z_9 k_10 (z_9.1 h0 3).toNatClampNeg 0 := ⟨_, rfl⟩
  rw [← ez_13] at hP2 hD2
  replace hf := lt_at ez_13 hf
  clear ez_13
  replace hP := hP2
  replace hD := hD2
  replace hS := hS2
  clear hP2 hD2 hS2
  refine lv_aload_n hx hb dX18_newAccount_30 rfl (lv_at hl 0 rfl) ?_
  refine lv_dup hx hb dX18_newAccount_31 rfl ?_
  refine va_get (D := (dC, dI)) (ci := 18) (v := .int (z_13.1 h0 3)) (C := RX18) (T := TX18) (N := 78) hx hb hts iwd_X18_newAccount_X18 hown hK hP h0 (Wd_ob kg_1 sg_1 (by decide)) rfl 3 (by decide) (hts _ md_X18_newAccount_2) (fun _ h9 => h9) (fl_at (t := 0) rfl) dX18_newAccount_32 ?_
  refine lv_iconst (v := 1) hx hb dX18_newAccount_35 (by decide) ?_
  refine lv_iadd hx hb dX18_newAccount_36 ?_
  refine va_put (D := (dC, dI)) (ci := 18) (v := .int ((z_13.1 h0 3) + 1)) (ty := .int) (C := RX18) (T := TX18) (N := 78) hx hb hts iwd_X18_newAccount_X18 tyX18 tyX18_ok nmX18 hown hK hP hD hS h0 (Wd_ob kg_1 sg_1 (by decide)) rfl 3 (by decide) (hts _ md_X18_newAccount_2) (fun _ h9 => h9) rfl (by decide +kernel) rfl rfl (by rw [fl_len]; decide) dX18_newAccount_37 (fun H_14 locs hP2 hD2 hS2 => ?_)
  rw [Wd_si sg_1 (by decide) rfl] at hP2 hD2
  obtain ⟨z_15, ez_15⟩ : ∃ w, w = si z_13 h0 3 ((z_13.1 h0 3) + 1) := ⟨_, rfl⟩
  rw [← ez_15] at hP2 hD2
  replace hf := lt_at ez_15 hf
  clear ez_15
  replace hP := hP2
  replace hD := hD2
  replace hS := hS2
  clear hP2 hD2 hS2
  refine lv_aload_n hx hb dX18_newAccount_40 rfl (lv_at hl 0 rfl) ?_
  refine va_get (D := (dC, dI)) (ci := 18) (v := .int (z_15.1 h0 3)) (C := RX18) (T := TX18) (N := 78) hx hb hts iwd_X18_newAccount_X18 hown hK hP h0 (Wd_ob kg_1 sg_1 (by decide)) rfl 3 (by decide) (hts _ md_X18_newAccount_2) (fun _ h9 => h9) (fl_at (t := 0) rfl) dX18_newAccount_41 ?_
  refine lv_iconst (v := 1) hx hb dX18_newAccount_44 (by decide) ?_
  refine lv_isub hx hb dX18_newAccount_45 ?_
  obtain ⟨h8, h9⟩ := ret_some hf
  rw [h8, h9]
  exact W.iret (v := ((z_15.1 h0 3) - 1)) hx hb hr (fun t ht hW => ⟨⟨((z_15.1 h0 3) - 1), (), rfl, rfl, by rw [ht]; exact hP, va_K.moved hW.alike hK, hD⟩, hS.F ht⟩) hS.2.2 dX18_newAccount_46

theorem md_X8_addResult_1 : (.fieldLink RX8 49 "ResourceLedger$Transaction" "resultCount" "I" : Cond) ∈ wsX8_addResult := List.mem_of_getElem? (i := 1) rfl
theorem iwd_X8_addResult_X8 : ∀ w ∈ wsX80, w ∈ wsX8_addResult := fun _ h => List.mem_cons_of_mem _ (List.mem_append_right _ h)
theorem md_X8_addResult_2 : (.fieldLink RX8 22 "ResourceLedger$Transaction" "resultType" "[I" : Cond) ∈ wsX8_addResult := List.mem_of_getElem? (i := 2) rfl
theorem md_X8_addResult_3 : (.fieldLink RX8 25 "ResourceLedger$Transaction" "resultHigh" "[J" : Cond) ∈ wsX8_addResult := List.mem_of_getElem? (i := 3) rfl
theorem md_X8_addResult_4 : (.fieldLink RX8 28 "ResourceLedger$Transaction" "resultLow" "[J" : Cond) ∈ wsX8_addResult := List.mem_of_getElem? (i := 4) rfl
set_option maxHeartbeats 4000000 in
set_option maxRecDepth 100000 in
theorem de_X8_addResult (l : Launch) (dC : Nat → ClassId) (dI : Nat → Nat → Nat) (cy : Nat → ClassId) (a : Nat → Nat) (sh : Nat → Nat × Nat) (n sz : Nat) (F : Nat) (z : St) (h0 : Nat) (x0 : Int32) (x1 : Int64) (x2 : Int64) {z8 : St} {r8 : Unit} (hf : fn_X8_addResult F sh n z h0 x0 x1 x2 = some (z8, r8)) : Met l yX8_addResult wsX8_addResult ({ frames := 0, cells := 0, slots := 0, locals := 0 }) (va_Pc [.ref (a h0), .int x0, .long x1, .long x2] (fun U => U.heap.size = sz ∧ va_P (dC, dI) vwCl (Wd cy a sh n z) U.heap ∧ va_K (dC, dI) vwCl (TYS cy) U ∧ va_D (fun _ => True) (Wd cy a sh n z) ∧ NK U)) (va_Qv (fun u : Unit => True) (fun u t => va_P (dC, dI) vwCl (Wd cy a sh n z8) t.heap ∧ va_K (dC, dI) vwCl (TYS cy) t ∧ va_D (va_A (Wd cy a sh n z) sz) (Wd cy a sh n z8)) (va_A (Wd cy a sh n z) sz)) 0 0 (va_A (Wd cy a sh n z) sz) := by
  refine Met.ofW (cc := cX8_addResult) (maxL := 6) (ret := none) (by decide) rfl ?_
  intro p e s m args below meth c s₁ B hml hv
  obtain ⟨rfl, hsz, hP, hK, hD0, hN⟩ := hv
  have hx := B.exec
  have hb := B.bytes
  have hr := B.returns
  have hts := atoms_spec (ws := wsX8_addResult) B.pre
  have hown : s.vm.findClass RX8 = some m.cls := findClass_of_methodNamed B.named
  have hlocks := B.notSynchronized
  subst hsz
  have hD := hD0.self (sz := s.heap.size)
  clear hD0
  generalize hAe : va_A (Wd cy a sh n z) s.heap.size = A at hD ⊢
  have hA : ∀ q : Nat, s.heap.size ≤ q → A q := fun q h => by rw [← hAe]; exact Or.inr h
  clear hAe
  have hS : va_S A s.heap s.heap [] := va_S.rf
  have hl := lv_entry ([.ref (a h0), .int x0, .long x1, .long x2]) (n := 6) (Nat.le_of_ble_eq_true rfl)
  rw [lg_entry_eq]
  generalize (lg_sl ([.ref (a h0), .int x0, .long x1, .long x2]) ++ List.replicate (6 - (lg_sl ([.ref (a h0), .int x0, .long x1, .long x2])).length) Slot.unset).toArray = ls at hl ⊢
  replace hl : lv_has ls 6 [(0, .ref (a h0)), (1, .int x0), (2, .long x1), (4, .long x2)] := hl
  unfold fn_X8_addResult at hf
  refine de_start hS hP (fun H locs hS hP => ?_)
  refine lv_aload_n hx hb dX8_addResult_0 rfl (lv_at hl 0 rfl) ?_
  obtain ⟨g_1, hf⟩ := grd_some hf
  obtain ⟨kg_1, sg_1⟩ := okO_at g_1
  refine va_get (D := (dC, dI)) (ci := 8) (v := .int (z.1 h0 15)) (C := RX8) (T := TX8) (N := 19) hx hb hts iwd_X8_addResult_X8 hown hK hP h0 (Wd_ob kg_1 sg_1 (by decide)) rfl 15 (by decide) (hts _ md_X8_addResult_1) (fun _ h9 => h9) (fl_at (t := 0) rfl) dX8_addResult_1 ?_
  refine lv_bipush (v := 8) hx hb dX8_addResult_4 (by decide) ?_
  refine lv_icmp_ge (tgt := 50) hx hb dX8_addResult_6 (by decide) (fun c_2 => ?_) (fun c_2 => ?_)
  · skip
    rw [if_pos c_2] at hf
    obtain ⟨h8, h9⟩ := ret_some hf
    rw [h8]
    exact W.vret hx hb hr (fun t ht hW => ⟨⟨(), rfl, trivial, by rw [ht]; exact hP, va_K.moved hW.alike hK, hD⟩, hS.F ht⟩) hS.2.2 dX8_addResult_50
  · skip
    rw [if_neg c_2] at hf
    refine lv_aload_n hx hb dX8_addResult_9 rfl (lv_at hl 0 rfl) ?_
    obtain ⟨k_3, ek_3, hf⟩ := lnk_some hf
    refine va_get (D := (dC, dI)) (ci := 8) (v := .ref (a k_3)) (C := RX8) (T := TX8) (N := 19) hx hb hts iwd_X8_addResult_X8 hown hK hP h0 (Wd_ob kg_1 sg_1 (by decide)) rfl 16 (by decide) (hts _ md_X8_addResult_2) (fun _ h9 => h9) (fl_q rfl ek_3) dX8_addResult_10 ?_
    refine lv_aload_n hx hb dX8_addResult_13 rfl (lv_at hl 0 rfl) ?_
    refine va_get (D := (dC, dI)) (ci := 8) (v := .int (z.1 h0 15)) (C := RX8) (T := TX8) (N := 19) hx hb hts iwd_X8_addResult_X8 hown hK hP h0 (Wd_ob kg_1 sg_1 (by decide)) rfl 15 (by decide) (hts _ md_X8_addResult_1) (fun _ h9 => h9) (fl_at (t := 0) rfl) dX8_addResult_14 ?_
    refine lv_iload_n hx hb dX8_addResult_17 rfl (lv_at hl 1 rfl) ?_
    obtain ⟨g_4, hf⟩ := grd_some hf
    obtain ⟨kg_4, sg_4, ig_4⟩ := okA_at g_4
    refine va_iast hx hb hK hP hD hS k_3 1 (Wd_ai kg_4 sg_4) rfl ig_4 dX8_addResult_18 (fun H_5 locs hP2 hD2 hS2 => ?_)
    rw [Wd_ti sg_4] at hP2 hD2
    obtain ⟨z_6, ez_6⟩ : ∃ w, w = si z k_3 (z.1 h0 15).toNatClampNeg x0 := ⟨_, rfl⟩
    rw [← ez_6] at hP2 hD2
    replace hf := lt_at ez_6 hf
    clear ez_6
    replace hP := hP2
    replace hD := hD2
    replace hS := hS2
    clear hP2 hD2 hS2
    refine lv_aload_n hx hb dX8_addResult_19 rfl (lv_at hl 0 rfl) ?_
    obtain ⟨k_7, ek_7, hf⟩ := lnk_some hf
    refine va_get (D := (dC, dI)) (ci := 8) (v := .ref (a k_7)) (C := RX8) (T := TX8) (N := 19) hx hb hts iwd_X8_addResult_X8 hown hK hP h0 (Wd_ob kg_1 sg_1 (by decide)) rfl 17 (by decide) (hts _ md_X8_addResult_3) (fun _ h9 => h9) (fl_q rfl ek_7) dX8_addResult_20 ?_
    refine lv_aload_n hx hb dX8_addResult_23 rfl (lv_at hl 0 rfl) ?_
    refine va_get (D := (dC, dI)) (ci := 8) (v := .int (z_6.1 h0 15)) (C := RX8) (T := TX8) (N := 19) hx hb hts iwd_X8_addResult_X8 hown hK hP h0 (Wd_ob kg_1 sg_1 (by decide)) rfl 15 (by decide) (hts _ md_X8_addResult_1) (fun _ h9 => h9) (fl_at (t := 0) rfl) dX8_addResult_24 ?_
    refine lv_lload_n hx hb dX8_addResult_27 rfl (lv_at hl 2 rfl) ?_
    obtain ⟨g_8, hf⟩ := grd_some hf
    obtain ⟨kg_8, sg_8, ig_8⟩ := okA_at g_8
    refine va_last hx hb hK hP hD hS k_7 2 (Wd_al kg_8 sg_8) rfl ig_8 dX8_addResult_28 (fun H_9 locs hP2 hD2 hS2 => ?_)
    rw [Wd_tl sg_8] at hP2 hD2
    obtain ⟨z_10, ez_10⟩ : ∃ w, w = sl z_6 k_7 (z_6.1 h0 15).toNatClampNeg x1 := ⟨_, rfl⟩
    rw [← ez_10] at hP2 hD2
    replace hf := lt_at ez_10 hf
    clear ez_10
    replace hP := hP2
    replace hD := hD2
    replace hS := hS2
    clear hP2 hD2 hS2
    refine lv_aload_n hx hb dX8_addResult_29 rfl (lv_at hl 0 rfl) ?_
    obtain ⟨k_11, ek_11, hf⟩ := lnk_some hf
    refine va_get (D := (dC, dI)) (ci := 8) (v := .ref (a k_11)) (C := RX8) (T := TX8) (N := 19) hx hb hts iwd_X8_addResult_X8 hown hK hP h0 (Wd_ob kg_1 sg_1 (by decide)) rfl 18 (by decide) (hts _ md_X8_addResult_4) (fun _ h9 => h9) (fl_q rfl ek_11) dX8_addResult_30 ?_
    refine lv_aload_n hx hb dX8_addResult_33 rfl (lv_at hl 0 rfl) ?_
    refine va_get (D := (dC, dI)) (ci := 8) (v := .int (z_10.1 h0 15)) (C := RX8) (T := TX8) (N := 19) hx hb hts iwd_X8_addResult_X8 hown hK hP h0 (Wd_ob kg_1 sg_1 (by decide)) rfl 15 (by decide) (hts _ md_X8_addResult_1) (fun _ h9 => h9) (fl_at (t := 0) rfl) dX8_addResult_34 ?_
    refine lv_lload hx hb dX8_addResult_37 (lv_at hl 3 rfl) ?_
    obtain ⟨g_12, hf⟩ := grd_some hf
    obtain ⟨kg_12, sg_12, ig_12⟩ := okA_at g_12
    refine va_last hx hb hK hP hD hS k_11 2 (Wd_al kg_12 sg_12) rfl ig_12 dX8_addResult_39 (fun H_13 locs hP2 hD2 hS2 => ?_)
    rw [Wd_tl sg_12] at hP2 hD2
    obtain ⟨z_14, ez_14⟩ : ∃ w, w = sl z_10 k_11 (z_10.1 h0 15).toNatClampNeg x2 := ⟨_, rfl⟩
    rw [← ez_14] at hP2 hD2
    replace hf := lt_at ez_14 hf
    clear ez_14
    replace hP := hP2
    replace hD := hD2
    replace hS := hS2
    clear hP2 hD2 hS2
    refine lv_aload_n hx hb dX8_addResult_40 rfl (lv_at hl 0 rfl) ?_
    refine lv_dup hx hb dX8_addResult_41 rfl ?_
    refine va_get (D := (dC, dI)) (ci := 8) (v := .int (z_14.1 h0 15)) (C := RX8) (T := TX8) (N := 19) hx hb hts iwd_X8_addResult_X8 hown hK hP h0 (Wd_ob kg_1 sg_1 (by decide)) rfl 15 (by decide) (hts _ md_X8_addResult_1) (fun _ h9 => h9) (fl_at (t := 0) rfl) dX8_addResult_42 ?_
    refine lv_iconst (v := 1) hx hb dX8_addResult_45 (by decide) ?_
    refine lv_iadd hx hb dX8_addResult_46 ?_
    refine va_put (D := (dC, dI)) (ci := 8) (v := .int ((z_14.1 h0 15) + 1)) (ty := .int) (C := RX8) (T := TX8) (N := 19) hx hb hts iwd_X8_addResult_X8 tyX8 tyX8_ok nmX8 hown hK hP hD hS h0 (Wd_ob kg_1 sg_1 (by decide)) rfl 15 (by decide) (hts _ md_X8_addResult_1) (fun _ h9 => h9) rfl (by decide +kernel) rfl rfl (by rw [fl_len]; decide) dX8_addResult_47 (fun H_15 locs hP2 hD2 hS2 => ?_)
    rw [Wd_si sg_1 (by decide) rfl] at hP2 hD2
    obtain ⟨z_16, ez_16⟩ : ∃ w, w = si z_14 h0 15 ((z_14.1 h0 15) + 1) := ⟨_, rfl⟩
    rw [← ez_16] at hP2 hD2
    replace hf := lt_at ez_16 hf
    clear ez_16
    replace hP := hP2
    replace hD := hD2
    replace hS := hS2
    clear hP2 hD2 hS2
    obtain ⟨h8, h9⟩ := ret_some hf
    rw [h8]
    exact W.vret hx hb hr (fun t ht hW => ⟨⟨(), rfl, trivial, by rw [ht]; exact hP, va_K.moved hW.alike hK, hD⟩, hS.F ht⟩) hS.2.2 dX8_addResult_50

theorem md_X14_isAt_1 : (.fieldLink RX14 7 "ResourceLedgerModel$Roots" "keys" "[J" : Cond) ∈ wsX14_isAt := List.mem_of_getElem? (i := 1) rfl
theorem iwd_X14_isAt_X14 : ∀ w ∈ wsX140, w ∈ wsX14_isAt := fun _ h => List.mem_cons_of_mem _ (List.mem_append_right _ h)
set_option maxHeartbeats 4000000 in
set_option maxRecDepth 100000 in
theorem de_X14_isAt (l : Launch) (dC : Nat → ClassId) (dI : Nat → Nat → Nat) (cy : Nat → ClassId) (a : Nat → Nat) (sh : Nat → Nat × Nat) (n sz : Nat) (F : Nat) (z : St) (h0 : Nat) (x0 : Int32) (x1 : Nat) {z8 : St} {r8 : Int32} (hf : fn_X14_isAt F sh n z h0 x0 x1 = some (z8, r8)) : Met l yX14_isAt wsX14_isAt ({ frames := 0, cells := 0, slots := 0, locals := 0 }) (va_Pc [.ref (a h0), .int x0, .ref (a x1)] (fun U => U.heap.size = sz ∧ va_P (dC, dI) vwCl (Wd cy a sh n z) U.heap ∧ va_K (dC, dI) vwCl (TYS cy) U ∧ va_D (fun _ => True) (Wd cy a sh n z) ∧ NK U)) (va_Qi (fun (r9 : Int32) (u : Unit) => r9 = r8) (fun u t => va_P (dC, dI) vwCl (Wd cy a sh n z8) t.heap ∧ va_K (dC, dI) vwCl (TYS cy) t ∧ va_D (va_A (Wd cy a sh n z) sz) (Wd cy a sh n z8)) (va_A (Wd cy a sh n z) sz)) 0 0 (va_A (Wd cy a sh n z) sz) := by
  refine Met.ofW (cc := cX14_isAt) (maxL := 5) (ret := (some .boolean)) (by decide) rfl ?_
  intro p e s m args below meth c s₁ B hml hv
  obtain ⟨rfl, hsz, hP, hK, hD0, hN⟩ := hv
  have hx := B.exec
  have hb := B.bytes
  have hr := B.returns
  have hts := atoms_spec (ws := wsX14_isAt) B.pre
  have hown : s.vm.findClass RX14 = some m.cls := findClass_of_methodNamed B.named
  have hlocks := B.notSynchronized
  subst hsz
  have hD := hD0.self (sz := s.heap.size)
  clear hD0
  generalize hAe : va_A (Wd cy a sh n z) s.heap.size = A at hD ⊢
  have hA : ∀ q : Nat, s.heap.size ≤ q → A q := fun q h => by rw [← hAe]; exact Or.inr h
  clear hAe
  have hS : va_S A s.heap s.heap [] := va_S.rf
  have hl := lv_entry ([.ref (a h0), .int x0, .ref (a x1)]) (n := 5) (Nat.le_of_ble_eq_true rfl)
  rw [lg_entry_eq]
  generalize (lg_sl ([.ref (a h0), .int x0, .ref (a x1)]) ++ List.replicate (5 - (lg_sl ([.ref (a h0), .int x0, .ref (a x1)])).length) Slot.unset).toArray = ls at hl ⊢
  replace hl : lv_has ls 5 [(0, .ref (a h0)), (1, .int x0), (2, .ref (a x1))] := hl
  unfold fn_X14_isAt at hf
  refine de_start hS hP (fun H locs hS hP => ?_)
  refine lv_iconst (v := 1) hx hb dX14_isAt_0 (by decide) ?_
  refine lv_istore_n (lv' := [(3, .int 1), (0, .ref (a h0)), (1, .int x0), (2, .ref (a x1))]) hx hb dX14_isAt_1 rfl hl (by decide) rfl (fun ls hl2 => ?_)
  replace hl := hl2
  clear hl2
  refine lv_iconst (v := 0) hx hb dX14_isAt_2 (by decide) ?_
  refine lv_istore (lv' := [(4, .int 0), (3, .int 1), (0, .ref (a h0)), (1, .int x0), (2, .ref (a x1))]) hx hb dX14_isAt_3 hl (by decide) rfl (fun ls hl2 => ?_)
  replace hl := hl2
  clear hl2
  have hl0 : lv_has ls 5 [(4, .int 0), (3, .int 1), (0, .ref (a h0)), (1, .int x0), (2, .ref (a x1))] := lv_sub hl [0, 1, 2, 3, 4] rfl
  refine de_loop (h := 5) (fun (x : St × Int32 × Int32) ls H locs => lv_has ls 5 [(4, .int x.2.2), (3, .int x.2.1), (0, .ref (a h0)), (1, .int x0), (2, .ref (a x1))] ∧ va_P (dC, dI) vwCl (Wd cy a sh n x.1) H ∧ va_D A (Wd cy a sh n x.1) ∧ va_S A s.heap H locs) (fun f x => fn_X14_isAt_L5 F sh n h0 x0 x1 f x.1 x.2.1 x.2.2) (z8, r8) ?_ (fun _ => rfl) F (z, 1, 0) ls H locs ⟨hl0, hP, hD, hS⟩ hf
  intro f_4 x ls H locs ih5 hI hf
  obtain ⟨z_3, p_1, p_2⟩ := x
  obtain ⟨hl2, hP2, hD2, hS2⟩ := hI
  replace hl : lv_has ls 5 [(4, .int p_2), (3, .int p_1), (0, .ref (a h0)), (1, .int x0), (2, .ref (a x1))] := hl2
  replace hP := hP2
  replace hD := hD2
  replace hS := hS2
  clear hl2 hP2 hD2 hS2 hl0
  replace hf := fn_X14_isAt_L5_s hf
  refine lv_iload hx hb dX14_isAt_5 (lv_at hl 0 rfl) ?_
  refine lv_iconst (v := 4) hx hb dX14_isAt_7 (by decide) ?_
  refine lv_icmp_ge (tgt := 46) hx hb dX14_isAt_8 (by decide) (fun c_5 => ?_) (fun c_5 => ?_)
  · skip
    rw [if_pos c_5] at hf
    refine lv_iload_n hx hb dX14_isAt_46 rfl (lv_at hl 1 rfl) ?_
    obtain ⟨g_6, hf⟩ := grd_some hf
    obtain ⟨h8, h9⟩ := ret_some hf
    rw [h8, h9]
    exact W.zret (v := p_1) hx hb hr (nar_z g_6) (fun t ht hW => ⟨⟨p_1, (), rfl, rfl, by rw [ht]; exact hP, va_K.moved hW.alike hK, hD⟩, hS.F ht⟩) hS.2.2 dX14_isAt_47
  · skip
    rw [if_neg c_5] at hf
    refine lv_iload_n hx hb dX14_isAt_11 rfl (lv_at hl 1 rfl) ?_
    refine de_cut (h := 39) (fun (x : St × Int32) => [.int x.2]) (fun x ls H locs => lv_has ls 5 [(4, .int p_2), (0, .ref (a h0)), (1, .int x0), (2, .ref (a x1))] ∧ va_P (dC, dI) vwCl (Wd cy a sh n x.1) H ∧ va_D A (Wd cy a sh n x.1) ∧ va_S A s.heap H locs) (fun x => fn_X14_isAt_B39 F sh n p_2 (fun z9 q3 q4 => fn_X14_isAt_L5 F sh n h0 x0 x1 f_4 z9 q3 q4) x.1 x.2) (z8, r8) ?_ (fun B39 => ?_)
    · intro x ls H locs hI hf
      obtain ⟨z_8, p_7⟩ := x
      obtain ⟨hl2, hP2, hD2, hS2⟩ := hI
      replace hl : lv_has ls 5 [(4, .int p_2), (0, .ref (a h0)), (1, .int x0), (2, .ref (a x1))] := hl2
      replace hP := hP2
      replace hD := hD2
      replace hS := hS2
      clear hl2 hP2 hD2 hS2
      replace hf := fn_X14_isAt_B39_s hf
      refine W.eq (g2 := F0 m 39 ls [.int p_7]) rfl ?_
      refine lv_istore_n (lv' := [(3, .int p_7), (4, .int p_2), (0, .ref (a h0)), (1, .int x0), (2, .ref (a x1))]) hx hb dX14_isAt_39 rfl hl (by decide) rfl (fun ls hl2 => ?_)
      replace hl := hl2
      clear hl2
      refine lv_iinc (v := (p_2 + 1)) (lv' := [(4, .int (p_2 + 1)), (3, .int p_7), (0, .ref (a h0)), (1, .int x0), (2, .ref (a x1))]) hx hb dX14_isAt_40 hl (k := 1) rfl rfl (by decide) rfl (fun ls hl2 => ?_)
      replace hl := hl2
      clear hl2
      refine lv_goto (tgt := 5) hx hb dX14_isAt_43 (by decide) ?_
      exact ih5 (z_8, p_7, (p_2 + 1)) ls H locs ⟨lv_sub hl [0, 1, 2, 3, 4] rfl, hP, hD, hS⟩ hf
    refine de_cut (h := 38) (fun (x : St) => []) (fun x ls H locs => lv_has ls 5 [(4, .int p_2), (0, .ref (a h0)), (1, .int x0), (2, .ref (a x1))] ∧ va_P (dC, dI) vwCl (Wd cy a sh n x) H ∧ va_D A (Wd cy a sh n x) ∧ va_S A s.heap H locs) (fun x => fn_X14_isAt_B38 F sh n p_2 (fun z9 q3 q4 => fn_X14_isAt_L5 F sh n h0 x0 x1 f_4 z9 q3 q4) x) (z8, r8) ?_ (fun B38 => ?_)
    · intro x ls H locs hI hf
      obtain ⟨z_9, ez⟩ : ∃ w, w = x := ⟨_, rfl⟩
      subst ez
      obtain ⟨hl2, hP2, hD2, hS2⟩ := hI
      replace hl : lv_has ls 5 [(4, .int p_2), (0, .ref (a h0)), (1, .int x0), (2, .ref (a x1))] := hl2
      replace hP := hP2
      replace hD := hD2
      replace hS := hS2
      clear hl2 hP2 hD2 hS2
      replace hf := fn_X14_isAt_B38_s hf
      refine W.eq (g2 := F0 m 38 ls []) rfl ?_
      refine lv_iconst (v := 0) hx hb dX14_isAt_38 (by decide) ?_
      exact B39 (z_9, 0) ls H locs ⟨lv_sub hl [0, 1, 2, 3] rfl, hP, hD, hS⟩ hf
    refine lv_if_eq (tgt := 38) hx hb dX14_isAt_12 (by decide) (fun c_10 => ?_) (fun c_10 => ?_)
    · skip
      rw [if_pos c_10] at hf
      exact B38 (z_3) ls H locs ⟨lv_sub hl [0, 2, 3, 4] rfl, hP, hD, hS⟩ hf
    · skip
      rw [if_neg c_10] at hf
      refine lv_aload_n hx hb dX14_isAt_15 rfl (lv_at hl 2 rfl) ?_
      obtain ⟨g_11, hf⟩ := grd_some hf
      obtain ⟨kg_11, sg_11⟩ := okO_at g_11
      obtain ⟨k_12, ek_12, hf⟩ := lnk_some hf
      refine va_get (D := (dC, dI)) (ci := 14) (v := .ref (a k_12)) (C := RX14) (T := TX14) (N := 11) hx hb hts iwd_X14_isAt_X14 hown hK hP h0 (Wd_ob kg_11 sg_11 (by decide)) rfl 0 (by decide) (hts _ md_X14_isAt_1) (fun _ h9 => h9) (fl_q rfl ek_12) dX14_isAt_16 ?_
      refine lv_iconst (v := 4) hx hb dX14_isAt_19 (by decide) ?_
      refine lv_iload_n hx hb dX14_isAt_20 rfl (lv_at hl 3 rfl) ?_
      refine lv_imul hx hb dX14_isAt_21 ?_
      refine lv_iload hx hb dX14_isAt_22 (lv_at hl 0 rfl) ?_
      refine lv_iadd hx hb dX14_isAt_24 ?_
      obtain ⟨g_13, hf⟩ := grd_some hf
      obtain ⟨kg_13, sg_13, ig_13⟩ := okA_at g_13
      refine va_lald hx hb hK hP k_12 2 (Wd_al kg_13 sg_13) rfl ig_13 dX14_isAt_25 ?_
      refine lv_aload_n hx hb dX14_isAt_26 rfl (lv_at hl 4 rfl) ?_
      refine lv_iload hx hb dX14_isAt_27 (lv_at hl 0 rfl) ?_
      obtain ⟨g_14, hf⟩ := grd_some hf
      obtain ⟨kg_14, sg_14, ig_14⟩ := okA_at g_14
      refine va_lald hx hb hK hP x1 2 (Wd_al kg_14 sg_14) rfl ig_14 dX14_isAt_29 ?_
      refine W.lcmp hx hb dX14_isAt_30 ?_
      refine lv_if_ne (tgt := 38) hx hb dX14_isAt_31 (by decide) (fun c_15 => ?_) (fun c_15 => ?_)
      · skip
        rw [lg_cmp_eq] at c_15
        rw [if_neg c_15] at hf
        exact B38 (z_3) ls H locs ⟨lv_sub hl [0, 2, 3, 4] rfl, hP, hD, hS⟩ hf
      · skip
        rw [lg_cmp_eq] at c_15
        rw [if_pos c_15] at hf
        refine lv_iconst (v := 1) hx hb dX14_isAt_34 (by decide) ?_
        refine lv_goto (tgt := 39) hx hb dX14_isAt_35 (by decide) ?_
        exact B39 (z_3, 1) ls H locs ⟨lv_sub hl [0, 2, 3, 4] rfl, hP, hD, hS⟩ hf

theorem md_X3_meetsOther_1 : (.fieldLink RX3 95 "ResourceLedger$Looker" "depth" "I" : Cond) ∈ wsX3_meetsOther := List.mem_of_getElem? (i := 1) rfl
theorem iwd_X3_meetsOther_X3 : ∀ w ∈ wsX30, w ∈ wsX3_meetsOther := fun _ h => List.mem_cons_of_mem _ (List.mem_append_right _ h)
theorem md_X3_meetsOther_2 : (.fieldLink RX3 15 "ResourceLedger$Looker" "stackOrigins" "[J" : Cond) ∈ wsX3_meetsOther := List.mem_of_getElem? (i := 2) rfl
set_option maxHeartbeats 4000000 in
set_option maxRecDepth 100000 in
theorem de_X3_meetsOther (l : Launch) (dC : Nat → ClassId) (dI : Nat → Nat → Nat) (cy : Nat → ClassId) (a : Nat → Nat) (sh : Nat → Nat × Nat) (n sz : Nat) (F : Nat) (z : St) (h0 : Nat) (x0 : Int32) (x1 : Int32) {z8 : St} {r8 : Int32} (hf : fn_X3_meetsOther F sh n z h0 x0 x1 = some (z8, r8)) : Met l yX3_meetsOther wsX3_meetsOther ({ frames := 0, cells := 0, slots := 0, locals := 0 }) (va_Pc [.ref (a h0), .int x0, .int x1] (fun U => U.heap.size = sz ∧ va_P (dC, dI) vwCl (Wd cy a sh n z) U.heap ∧ va_K (dC, dI) vwCl (TYS cy) U ∧ va_D (fun _ => True) (Wd cy a sh n z) ∧ NK U)) (va_Qi (fun (r9 : Int32) (u : Unit) => r9 = r8) (fun u t => va_P (dC, dI) vwCl (Wd cy a sh n z8) t.heap ∧ va_K (dC, dI) vwCl (TYS cy) t ∧ va_D (va_A (Wd cy a sh n z) sz) (Wd cy a sh n z8)) (va_A (Wd cy a sh n z) sz)) 0 0 (va_A (Wd cy a sh n z) sz) := by
  refine Met.ofW (cc := cX3_meetsOther) (maxL := 4) (ret := (some .boolean)) (by decide) rfl ?_
  intro p e s m args below meth c s₁ B hml hv
  obtain ⟨rfl, hsz, hP, hK, hD0, hN⟩ := hv
  have hx := B.exec
  have hb := B.bytes
  have hr := B.returns
  have hts := atoms_spec (ws := wsX3_meetsOther) B.pre
  have hown : s.vm.findClass RX3 = some m.cls := findClass_of_methodNamed B.named
  have hlocks := B.notSynchronized
  subst hsz
  have hD := hD0.self (sz := s.heap.size)
  clear hD0
  generalize hAe : va_A (Wd cy a sh n z) s.heap.size = A at hD ⊢
  have hA : ∀ q : Nat, s.heap.size ≤ q → A q := fun q h => by rw [← hAe]; exact Or.inr h
  clear hAe
  have hS : va_S A s.heap s.heap [] := va_S.rf
  have hl := lv_entry ([.ref (a h0), .int x0, .int x1]) (n := 4) (Nat.le_of_ble_eq_true rfl)
  rw [lg_entry_eq]
  generalize (lg_sl ([.ref (a h0), .int x0, .int x1]) ++ List.replicate (4 - (lg_sl ([.ref (a h0), .int x0, .int x1])).length) Slot.unset).toArray = ls at hl ⊢
  replace hl : lv_has ls 4 [(0, .ref (a h0)), (1, .int x0), (2, .int x1)] := hl
  unfold fn_X3_meetsOther at hf
  refine de_start hS hP (fun H locs hS hP => ?_)
  refine lv_aload_n hx hb dX3_meetsOther_0 rfl (lv_at hl 0 rfl) ?_
  obtain ⟨g_1, hf⟩ := grd_some hf
  obtain ⟨kg_1, sg_1⟩ := okO_at g_1
  refine va_get (D := (dC, dI)) (ci := 3) (v := .int (z.1 h0 8)) (C := RX3) (T := TX3) (N := 22) hx hb hts iwd_X3_meetsOther_X3 hown hK hP h0 (Wd_ob kg_1 sg_1 (by decide)) rfl 8 (by decide) (hts _ md_X3_meetsOther_1) (fun _ h9 => h9) (fl_at (t := 0) rfl) dX3_meetsOther_1 ?_
  refine lv_topi (fun v_2 ev_2 => ?_)
  replace hf := lt_at ev_2 hf
  clear ev_2
  refine lv_istore_n (lv' := [(3, .int v_2), (0, .ref (a h0)), (1, .int x0), (2, .int x1)]) hx hb dX3_meetsOther_4 rfl hl (by decide) rfl (fun ls hl2 => ?_)
  replace hl := hl2
  clear hl2
  have hl0 : lv_has ls 4 [(3, .int v_2), (0, .ref (a h0)), (1, .int x0), (2, .int x1)] := lv_sub hl [0, 1, 2, 3] rfl
  refine de_loop (h := 5) (fun (x : St × Int32) ls H locs => lv_has ls 4 [(3, .int x.2), (0, .ref (a h0)), (1, .int x0), (2, .int x1)] ∧ va_P (dC, dI) vwCl (Wd cy a sh n x.1) H ∧ va_D A (Wd cy a sh n x.1) ∧ va_S A s.heap H locs) (fun f x => fn_X3_meetsOther_L5 F sh n h0 x1 x0 f x.1 x.2) (z8, r8) ?_ (fun _ => rfl) F (z, v_2) ls H locs ⟨hl0, hP, hD, hS⟩ hf
  intro f_5 x ls H locs ih5 hI hf
  obtain ⟨z_4, p_3⟩ := x
  obtain ⟨hl2, hP2, hD2, hS2⟩ := hI
  replace hl : lv_has ls 4 [(3, .int p_3), (0, .ref (a h0)), (1, .int x0), (2, .int x1)] := hl2
  replace hP := hP2
  replace hD := hD2
  replace hS := hS2
  clear hl2 hP2 hD2 hS2 hl0
  replace hf := fn_X3_meetsOther_L5_s hf
  refine lv_iload_n hx hb dX3_meetsOther_5 rfl (lv_at hl 0 rfl) ?_
  refine lv_aload_n hx hb dX3_meetsOther_6 rfl (lv_at hl 1 rfl) ?_
  refine va_get (D := (dC, dI)) (ci := 3) (v := .int (z_4.1 h0 8)) (C := RX3) (T := TX3) (N := 22) hx hb hts iwd_X3_meetsOther_X3 hown hK hP h0 (Wd_ob kg_1 sg_1 (by decide)) rfl 8 (by decide) (hts _ md_X3_meetsOther_1) (fun _ h9 => h9) (fl_at (t := 0) rfl) dX3_meetsOther_7 ?_
  refine lv_iload_n hx hb dX3_meetsOther_10 rfl (lv_at hl 3 rfl) ?_
  refine lv_iadd hx hb dX3_meetsOther_11 ?_
  refine lv_icmp_ge (tgt := 46) hx hb dX3_meetsOther_12 (by decide) (fun c_6 => ?_) (fun c_6 => ?_)
  · skip
    rw [if_pos c_6] at hf
    refine lv_iconst (v := 0) hx hb dX3_meetsOther_46 (by decide) ?_
    obtain ⟨h8, h9⟩ := ret_some hf
    rw [h8, h9]
    exact W.zret (v := 0) hx hb hr rfl (fun t ht hW => ⟨⟨0, (), rfl, rfl, by rw [ht]; exact hP, va_K.moved hW.alike hK, hD⟩, hS.F ht⟩) hS.2.2 dX3_meetsOther_47
  · skip
    rw [if_neg c_6] at hf
    refine lv_iload_n hx hb dX3_meetsOther_15 rfl (lv_at hl 0 rfl) ?_
    refine lv_iload_n hx hb dX3_meetsOther_16 rfl (lv_at hl 2 rfl) ?_
    refine de_cut (h := 40) (fun (x : St) => []) (fun x ls H locs => lv_has ls 4 [(3, .int p_3), (0, .ref (a h0)), (1, .int x0), (2, .int x1)] ∧ va_P (dC, dI) vwCl (Wd cy a sh n x) H ∧ va_D A (Wd cy a sh n x) ∧ va_S A s.heap H locs) (fun x => fn_X3_meetsOther_B40 F sh n p_3 (fun z9 q3 => fn_X3_meetsOther_L5 F sh n h0 x1 x0 f_5 z9 q3) x) (z8, r8) ?_ (fun B40 => ?_)
    · intro x ls H locs hI hf
      obtain ⟨z_7, ez⟩ : ∃ w, w = x := ⟨_, rfl⟩
      subst ez
      obtain ⟨hl2, hP2, hD2, hS2⟩ := hI
      replace hl : lv_has ls 4 [(3, .int p_3), (0, .ref (a h0)), (1, .int x0), (2, .int x1)] := hl2
      replace hP := hP2
      replace hD := hD2
      replace hS := hS2
      clear hl2 hP2 hD2 hS2
      replace hf := fn_X3_meetsOther_B40_s hf
      refine W.eq (g2 := F0 m 40 ls []) rfl ?_
      refine lv_iinc (v := (p_3 + 1)) (lv' := [(3, .int (p_3 + 1)), (0, .ref (a h0)), (1, .int x0), (2, .int x1)]) hx hb dX3_meetsOther_40 hl (k := 0) rfl rfl (by decide) rfl (fun ls hl2 => ?_)
      replace hl := hl2
      clear hl2
      refine lv_goto (tgt := 5) hx hb dX3_meetsOther_43 (by decide) ?_
      exact ih5 (z_7, (p_3 + 1)) ls H locs ⟨lv_sub hl [0, 1, 2, 3] rfl, hP, hD, hS⟩ hf
    refine lv_icmp_eq (tgt := 40) hx hb dX3_meetsOther_17 (by decide) (fun c_8 => ?_) (fun c_8 => ?_)
    · skip
      rw [if_pos c_8] at hf
      exact B40 (z_4) ls H locs ⟨lv_sub hl [0, 1, 2, 3] rfl, hP, hD, hS⟩ hf
    · skip
      rw [if_neg c_8] at hf
      refine lv_aload_n hx hb dX3_meetsOther_20 rfl (lv_at hl 1 rfl) ?_
      obtain ⟨k_9, ek_9, hf⟩ := lnk_some hf
      refine va_get (D := (dC, dI)) (ci := 3) (v := .ref (a k_9)) (C := RX3) (T := TX3) (N := 22) hx hb hts iwd_X3_meetsOther_X3 hown hK hP h0 (Wd_ob kg_1 sg_1 (by decide)) rfl 6 (by decide) (hts _ md_X3_meetsOther_2) (fun _ h9 => h9) (fl_q rfl ek_9) dX3_meetsOther_21 ?_
      refine lv_iload_n hx hb dX3_meetsOther_24 rfl (lv_at hl 0 rfl) ?_
      obtain ⟨g_10, hf⟩ := grd_some hf
      obtain ⟨kg_10, sg_10, ig_10⟩ := okA_at g_10
      refine va_lald hx hb hK hP k_9 2 (Wd_al kg_10 sg_10) rfl ig_10 dX3_meetsOther_25 ?_
      refine lv_aload_n hx hb dX3_meetsOther_26 rfl (lv_at hl 1 rfl) ?_
      obtain ⟨k_11, ek_11, hf⟩ := lnk_some hf
      refine va_get (D := (dC, dI)) (ci := 3) (v := .ref (a k_11)) (C := RX3) (T := TX3) (N := 22) hx hb hts iwd_X3_meetsOther_X3 hown hK hP h0 (Wd_ob kg_1 sg_1 (by decide)) rfl 6 (by decide) (hts _ md_X3_meetsOther_2) (fun _ h9 => h9) (fl_q rfl ek_11) dX3_meetsOther_27 ?_
      refine lv_iload_n hx hb dX3_meetsOther_30 rfl (lv_at hl 2 rfl) ?_
      obtain ⟨g_12, hf⟩ := grd_some hf
      obtain ⟨kg_12, sg_12, ig_12⟩ := okA_at g_12
      refine va_lald hx hb hK hP k_11 2 (Wd_al kg_12 sg_12) rfl ig_12 dX3_meetsOther_31 ?_
      refine lv_land hx hb dX3_meetsOther_32 ?_
      refine lv_lconst (v := 0) hx hb dX3_meetsOther_33 (by decide) ?_
      refine W.lcmp hx hb dX3_meetsOther_34 ?_
      refine lv_if_eq (tgt := 40) hx hb dX3_meetsOther_35 (by decide) (fun c_13 => ?_) (fun c_13 => ?_)
      · skip
        rw [lg_cmp_eq] at c_13
        rw [if_pos c_13] at hf
        exact B40 (z_4) ls H locs ⟨lv_sub hl [0, 1, 2, 3] rfl, hP, hD, hS⟩ hf
      · skip
        rw [lg_cmp_eq] at c_13
        rw [if_neg c_13] at hf
        refine lv_iconst (v := 1) hx hb dX3_meetsOther_38 (by decide) ?_
        obtain ⟨h8, h9⟩ := ret_some hf
        rw [h8, h9]
        exact W.zret (v := 1) hx hb hr rfl (fun t ht hW => ⟨⟨1, (), rfl, rfl, by rw [ht]; exact hP, va_K.moved hW.alike hK, hD⟩, hS.F ht⟩) hS.2.2 dX3_meetsOther_39

theorem md_X4_peek_1 : (.fieldLink RX4 49 "ResourceLedger$Machine" "depths" "[I" : Cond) ∈ wsX4_peek := List.mem_of_getElem? (i := 1) rfl
theorem iwd_X4_peek_X4 : ∀ w ∈ wsX40, w ∈ wsX4_peek := fun _ h => List.mem_cons_of_mem _ (List.mem_append_left _ (List.mem_append_right _ h))
theorem md_X4_peek_2 : (.fieldLink RX4 100 "ResourceLedger$Machine" "top" "I" : Cond) ∈ wsX4_peek := List.mem_of_getElem? (i := 2) rfl
theorem md_X4_peek_5 : (.fieldLink RX4 55 "ResourceLedger$Machine" "stack" "[I" : Cond) ∈ wsX4_peek := List.mem_of_getElem? (i := 5) rfl
theorem md_X4_peek_3 : (.fieldLink RX4 12 "ResourceLedger$Machine" "heap" "LResourceLedger$Heap;" : Cond) ∈ wsX4_peek := List.mem_of_getElem? (i := 3) rfl
theorem md_X4_peek_4 : (.fieldLink RX4 71 "ResourceLedger$Heap" "slips" "I" : Cond) ∈ wsX4_peek := List.mem_of_getElem? (i := 4) rfl
theorem iwd_X4_peek_X1 : ∀ w ∈ wsX10, w ∈ wsX4_peek := fun _ h => List.mem_cons_of_mem _ (List.mem_append_right _ h)
set_option maxHeartbeats 4000000 in
set_option maxRecDepth 100000 in
theorem de_X4_peek (l : Launch) (dC : Nat → ClassId) (dI : Nat → Nat → Nat) (cy : Nat → ClassId) (a : Nat → Nat) (sh : Nat → Nat × Nat) (n sz : Nat) (F : Nat) (z : St) (h0 : Nat) (x0 : Int32) {z8 : St} {r8 : Int32} (hf : fn_X4_peek F sh n z h0 x0 = some (z8, r8)) : Met l yX4_peek wsX4_peek ({ frames := 0, cells := 0, slots := 0, locals := 0 }) (va_Pc [.ref (a h0), .int x0] (fun U => U.heap.size = sz ∧ va_P (dC, dI) vwCl (Wd cy a sh n z) U.heap ∧ va_K (dC, dI) vwCl (TYS cy) U ∧ va_D (fun _ => True) (Wd cy a sh n z) ∧ NK U)) (va_Qi (fun (r9 : Int32) (u : Unit) => r9 = r8) (fun u t => va_P (dC, dI) vwCl (Wd cy a sh n z8) t.heap ∧ va_K (dC, dI) vwCl (TYS cy) t ∧ va_D (va_A (Wd cy a sh n z) sz) (Wd cy a sh n z8)) (va_A (Wd cy a sh n z) sz)) 0 0 (va_A (Wd cy a sh n z) sz) := by
  refine Met.ofW (cc := cX4_peek) (maxL := 3) (ret := (some .int)) (by decide) rfl ?_
  intro p e s m args below meth c s₁ B hml hv
  obtain ⟨rfl, hsz, hP, hK, hD0, hN⟩ := hv
  have hx := B.exec
  have hb := B.bytes
  have hr := B.returns
  have hts := atoms_spec (ws := wsX4_peek) B.pre
  have hown : s.vm.findClass RX4 = some m.cls := findClass_of_methodNamed B.named
  have hlocks := B.notSynchronized
  subst hsz
  have hD := hD0.self (sz := s.heap.size)
  clear hD0
  generalize hAe : va_A (Wd cy a sh n z) s.heap.size = A at hD ⊢
  have hA : ∀ q : Nat, s.heap.size ≤ q → A q := fun q h => by rw [← hAe]; exact Or.inr h
  clear hAe
  have hS : va_S A s.heap s.heap [] := va_S.rf
  have hl := lv_entry ([.ref (a h0), .int x0]) (n := 3) (Nat.le_of_ble_eq_true rfl)
  rw [lg_entry_eq]
  generalize (lg_sl ([.ref (a h0), .int x0]) ++ List.replicate (3 - (lg_sl ([.ref (a h0), .int x0])).length) Slot.unset).toArray = ls at hl ⊢
  replace hl : lv_has ls 3 [(0, .ref (a h0)), (1, .int x0)] := hl
  unfold fn_X4_peek at hf
  refine de_start hS hP (fun H locs hS hP => ?_)
  refine lv_aload_n hx hb dX4_peek_0 rfl (lv_at hl 0 rfl) ?_
  obtain ⟨g_1, hf⟩ := grd_some hf
  obtain ⟨kg_1, sg_1⟩ := okO_at g_1
  obtain ⟨k_2, ek_2, hf⟩ := lnk_some hf
  refine va_get (D := (dC, dI)) (ci := 4) (v := .ref (a k_2)) (C := RX4) (T := TX4) (N := 18) hx hb hts iwd_X4_peek_X4 hown hK hP h0 (Wd_ob kg_1 sg_1 (by decide)) rfl 9 (by decide) (hts _ md_X4_peek_1) (fun _ h9 => h9) (fl_q rfl ek_2) dX4_peek_1 ?_
  refine lv_aload_n hx hb dX4_peek_4 rfl (lv_at hl 0 rfl) ?_
  refine va_get (D := (dC, dI)) (ci := 4) (v := .int (z.1 h0 12)) (C := RX4) (T := TX4) (N := 18) hx hb hts iwd_X4_peek_X4 hown hK hP h0 (Wd_ob kg_1 sg_1 (by decide)) rfl 12 (by decide) (hts _ md_X4_peek_2) (fun _ h9 => h9) (fl_at (t := 0) rfl) dX4_peek_5 ?_
  obtain ⟨g_3, hf⟩ := grd_some hf
  obtain ⟨kg_3, sg_3, ig_3⟩ := okA_at g_3
  refine va_iald hx hb hK hP k_2 1 (Wd_ai kg_3 sg_3) rfl ig_3 dX4_peek_8 ?_
  refine lv_iconst (v := 1) hx hb dX4_peek_9 (by decide) ?_
  refine lv_isub hx hb dX4_peek_10 ?_
  refine lv_iload_n hx hb dX4_peek_11 rfl (lv_at hl 1 rfl) ?_
  refine lv_isub hx hb dX4_peek_12 ?_
  refine lv_topi (fun v_4 ev_4 => ?_)
  replace hf := lt_at ev_4 hf
  clear ev_4
  refine lv_istore_n (lv' := [(2, .int v_4), (0, .ref (a h0)), (1, .int x0)]) hx hb dX4_peek_13 rfl hl (by decide) rfl (fun ls hl2 => ?_)
  replace hl := hl2
  clear hl2
  refine lv_iload_n hx hb dX4_peek_14 rfl (lv_at hl 0 rfl) ?_
  refine lv_if_ge (tgt := 33) hx hb dX4_peek_15 (by decide) (fun c_5 => ?_) (fun c_5 => ?_)
  · skip
    rw [if_pos c_5] at hf
    refine lv_aload_n hx hb dX4_peek_33 rfl (lv_at hl 1 rfl) ?_
    obtain ⟨k_6, ek_6, hf⟩ := lnk_some hf
    refine va_get (D := (dC, dI)) (ci := 4) (v := .ref (a k_6)) (C := RX4) (T := TX4) (N := 18) hx hb hts iwd_X4_peek_X4 hown hK hP h0 (Wd_ob kg_1 sg_1 (by decide)) rfl 11 (by decide) (hts _ md_X4_peek_5) (fun _ h9 => h9) (fl_q rfl ek_6) dX4_peek_34 ?_
    refine lv_aload_n hx hb dX4_peek_37 rfl (lv_at hl 1 rfl) ?_
    refine va_get (D := (dC, dI)) (ci := 4) (v := .int (z.1 h0 12)) (C := RX4) (T := TX4) (N := 18) hx hb hts iwd_X4_peek_X4 hown hK hP h0 (Wd_ob kg_1 sg_1 (by decide)) rfl 12 (by decide) (hts _ md_X4_peek_2) (fun _ h9 => h9) (fl_at (t := 0) rfl) dX4_peek_38 ?_
    refine lv_bipush (v := 64) hx hb dX4_peek_41 (by decide) ?_
    refine lv_imul hx hb dX4_peek_43 ?_
    refine lv_iload_n hx hb dX4_peek_44 rfl (lv_at hl 0 rfl) ?_
    refine lv_iadd hx hb dX4_peek_45 ?_
    obtain ⟨g_7, hf⟩ := grd_some hf
    obtain ⟨kg_7, sg_7, ig_7⟩ := okA_at g_7
    refine va_iald hx hb hK hP k_6 1 (Wd_ai kg_7 sg_7) rfl ig_7 dX4_peek_46 ?_
    obtain ⟨h8, h9⟩ := ret_some hf
    rw [h8, h9]
    exact W.iret (v := (z.1 k_6 (((z.1 h0 12) * 64) + v_4).toNatClampNeg)) hx hb hr (fun t ht hW => ⟨⟨(z.1 k_6 (((z.1 h0 12) * 64) + v_4).toNatClampNeg), (), rfl, rfl, by rw [ht]; exact hP, va_K.moved hW.alike hK, hD⟩, hS.F ht⟩) hS.2.2 dX4_peek_47
  · skip
    rw [if_neg c_5] at hf
    refine lv_aload_n hx hb dX4_peek_18 rfl (lv_at hl 1 rfl) ?_
    obtain ⟨k_8, ek_8, hf⟩ := lnk_some hf
    refine va_get (D := (dC, dI)) (ci := 4) (v := .ref (a k_8)) (C := RX4) (T := TX4) (N := 18) hx hb hts iwd_X4_peek_X4 hown hK hP h0 (Wd_ob kg_1 sg_1 (by decide)) rfl 1 (by decide) (hts _ md_X4_peek_3) (fun _ h9 => h9) (fl_q rfl ek_8) dX4_peek_19 ?_
    refine lv_dup hx hb dX4_peek_22 rfl ?_
    obtain ⟨g_9, hf⟩ := grd_some hf
    obtain ⟨kg_9, sg_9⟩ := okO_at g_9
    refine va_get (D := (dC, dI)) (ci := 1) (v := .int (z.1 k_8 6)) (C := RX1) (T := TX1) (N := 7) hx hb hts iwd_X4_peek_X1 hown hK hP k_8 (Wd_ob kg_9 sg_9 (by decide)) rfl 6 (by decide) (hts _ md_X4_peek_4) (fun _ h9 => h9) (fl_at (t := 0) rfl) dX4_peek_23 ?_
    refine lv_iconst (v := 1) hx hb dX4_peek_26 (by decide) ?_
    refine lv_iadd hx hb dX4_peek_27 ?_
    refine va_put (D := (dC, dI)) (ci := 1) (v := .int ((z.1 k_8 6) + 1)) (ty := .int) (C := RX1) (T := TX1) (N := 7) hx hb hts iwd_X4_peek_X1 tyX1 tyX1_ok nmX1 hown hK hP hD hS k_8 (Wd_ob kg_9 sg_9 (by decide)) rfl 6 (by decide) (hts _ md_X4_peek_4) (fun _ h9 => h9) rfl (by decide +kernel) rfl rfl (by rw [fl_len]; decide) dX4_peek_28 (fun H_10 locs hP2 hD2 hS2 => ?_)
    rw [Wd_si sg_9 (by decide) rfl] at hP2 hD2
    obtain ⟨z_11, ez_11⟩ : ∃ w, w = si z k_8 6 ((z.1 k_8 6) + 1) := ⟨_, rfl⟩
    rw [← ez_11] at hP2 hD2
    replace hf := lt_at ez_11 hf
    clear ez_11
    replace hP := hP2
    replace hD := hD2
    replace hS := hS2
    clear hP2 hD2 hS2
    refine lv_iconst (v := 0) hx hb dX4_peek_31 (by decide) ?_
    obtain ⟨h8, h9⟩ := ret_some hf
    rw [h8, h9]
    exact W.iret (v := 0) hx hb hr (fun t ht hW => ⟨⟨0, (), rfl, rfl, by rw [ht]; exact hP, va_K.moved hW.alike hK, hD⟩, hS.F ht⟩) hS.2.2 dX4_peek_32

theorem md_X4_target_1 : (.fieldLink RX4 12 "ResourceLedger$Machine" "heap" "LResourceLedger$Heap;" : Cond) ∈ wsX4_target := List.mem_of_getElem? (i := 1) rfl
theorem iwd_X4_target_X4 : ∀ w ∈ wsX40, w ∈ wsX4_target := fun _ h => List.mem_cons_of_mem _ (List.mem_append_left _ (List.mem_append_right _ h))
theorem md_X4_target_2 : (.fieldLink RX4 157 "ResourceLedger$Heap" "kind" "[B" : Cond) ∈ wsX4_target := List.mem_of_getElem? (i := 2) rfl
theorem iwd_X4_target_X1 : ∀ w ∈ wsX10, w ∈ wsX4_target := fun _ h => List.mem_cons_of_mem _ (List.mem_append_right _ h)
theorem md_X4_target_4 : (.fieldLink RX4 71 "ResourceLedger$Heap" "slips" "I" : Cond) ∈ wsX4_target := List.mem_of_getElem? (i := 4) rfl
theorem md_X4_target_3 : (.fieldLink RX4 163 "ResourceLedger$Heap" "low" "[J" : Cond) ∈ wsX4_target := List.mem_of_getElem? (i := 3) rfl
set_option maxHeartbeats 4000000 in
set_option maxRecDepth 100000 in
theorem de_X4_target (l : Launch) (dC : Nat → ClassId) (dI : Nat → Nat → Nat) (cy : Nat → ClassId) (a : Nat → Nat) (sh : Nat → Nat × Nat) (n sz : Nat) (F : Nat) (z : St) (h0 : Nat) (x0 : Int32) {z8 : St} {r8 : Int32} (hf : fn_X4_target F sh n z h0 x0 = some (z8, r8)) : Met l yX4_target wsX4_target ({ frames := 0, cells := 0, slots := 0, locals := 0 }) (va_Pc [.ref (a h0), .int x0] (fun U => U.heap.size = sz ∧ va_P (dC, dI) vwCl (Wd cy a sh n z) U.heap ∧ va_K (dC, dI) vwCl (TYS cy) U ∧ va_D (fun _ => True) (Wd cy a sh n z) ∧ NK U)) (va_Qi (fun (r9 : Int32) (u : Unit) => r9 = r8) (fun u t => va_P (dC, dI) vwCl (Wd cy a sh n z8) t.heap ∧ va_K (dC, dI) vwCl (TYS cy) t ∧ va_D (va_A (Wd cy a sh n z) sz) (Wd cy a sh n z8)) (va_A (Wd cy a sh n z) sz)) 0 0 (va_A (Wd cy a sh n z) sz) := by
  refine Met.ofW (cc := cX4_target) (maxL := 2) (ret := (some .int)) (by decide) rfl ?_
  intro p e s m args below meth c s₁ B hml hv
  obtain ⟨rfl, hsz, hP, hK, hD0, hN⟩ := hv
  have hx := B.exec
  have hb := B.bytes
  have hr := B.returns
  have hts := atoms_spec (ws := wsX4_target) B.pre
  have hown : s.vm.findClass RX4 = some m.cls := findClass_of_methodNamed B.named
  have hlocks := B.notSynchronized
  subst hsz
  have hD := hD0.self (sz := s.heap.size)
  clear hD0
  generalize hAe : va_A (Wd cy a sh n z) s.heap.size = A at hD ⊢
  have hA : ∀ q : Nat, s.heap.size ≤ q → A q := fun q h => by rw [← hAe]; exact Or.inr h
  clear hAe
  have hS : va_S A s.heap s.heap [] := va_S.rf
  have hl := lv_entry ([.ref (a h0), .int x0]) (n := 2) (Nat.le_of_ble_eq_true rfl)
  rw [lg_entry_eq]
  generalize (lg_sl ([.ref (a h0), .int x0]) ++ List.replicate (2 - (lg_sl ([.ref (a h0), .int x0])).length) Slot.unset).toArray = ls at hl ⊢
  replace hl : lv_has ls 2 [(0, .ref (a h0)), (1, .int x0)] := hl
  unfold fn_X4_target at hf
  refine de_start hS hP (fun H locs hS hP => ?_)
  refine lv_aload_n hx hb dX4_target_0 rfl (lv_at hl 0 rfl) ?_
  obtain ⟨g_1, hf⟩ := grd_some hf
  obtain ⟨kg_1, sg_1⟩ := okO_at g_1
  obtain ⟨k_2, ek_2, hf⟩ := lnk_some hf
  refine va_get (D := (dC, dI)) (ci := 4) (v := .ref (a k_2)) (C := RX4) (T := TX4) (N := 18) hx hb hts iwd_X4_target_X4 hown hK hP h0 (Wd_ob kg_1 sg_1 (by decide)) rfl 1 (by decide) (hts _ md_X4_target_1) (fun _ h9 => h9) (fl_q rfl ek_2) dX4_target_1 ?_
  obtain ⟨g_3, hf⟩ := grd_some hf
  obtain ⟨kg_3, sg_3⟩ := okO_at g_3
  obtain ⟨k_4, ek_4, hf⟩ := lnk_some hf
  refine va_get (D := (dC, dI)) (ci := 1) (v := .ref (a k_4)) (C := RX1) (T := TX1) (N := 7) hx hb hts iwd_X4_target_X1 hown hK hP k_2 (Wd_ob kg_3 sg_3 (by decide)) rfl 0 (by decide) (hts _ md_X4_target_2) (fun _ h9 => h9) (fl_q rfl ek_4) dX4_target_4 ?_
  refine lv_iload_n hx hb dX4_target_7 rfl (lv_at hl 1 rfl) ?_
  obtain ⟨g_5, hf⟩ := grd_some hf
  obtain ⟨kg_5, sg_5, ig_5⟩ := okA_at g_5
  refine va_bald hx hb hK hP k_4 0 (Wd_ab kg_5 sg_5) rfl ig_5 dX4_target_8 ?_
  refine lv_bipush (v := 8) hx hb dX4_target_9 (by decide) ?_
  refine de_cut (h := 28) (fun (x : St) => []) (fun x ls H locs => lv_has ls 2 [(0, .ref (a h0))] ∧ va_P (dC, dI) vwCl (Wd cy a sh n x) H ∧ va_D A (Wd cy a sh n x) ∧ va_S A s.heap H locs) (fun x => fn_X4_target_B28 F sh n h0 x) (z8, r8) ?_ (fun B28 => ?_)
  · intro x ls H locs hI hf
    obtain ⟨z_6, ez⟩ : ∃ w, w = x := ⟨_, rfl⟩
    subst ez
    obtain ⟨hl2, hP2, hD2, hS2⟩ := hI
    replace hl : lv_has ls 2 [(0, .ref (a h0))] := hl2
    replace hP := hP2
    replace hD := hD2
    replace hS := hS2
    clear hl2 hP2 hD2 hS2
    replace hf := fn_X4_target_B28_s hf
    refine W.eq (g2 := F0 m 28 ls []) rfl ?_
    refine lv_aload_n hx hb dX4_target_28 rfl (lv_at hl 0 rfl) ?_
    obtain ⟨k_7, ek_7, hf⟩ := lnk_some hf
    refine va_get (D := (dC, dI)) (ci := 4) (v := .ref (a k_7)) (C := RX4) (T := TX4) (N := 18) hx hb hts iwd_X4_target_X4 hown hK hP h0 (Wd_ob kg_1 sg_1 (by decide)) rfl 1 (by decide) (hts _ md_X4_target_1) (fun _ h9 => h9) (fl_q rfl ek_7) dX4_target_29 ?_
    refine lv_dup hx hb dX4_target_32 rfl ?_
    obtain ⟨g_8, hf⟩ := grd_some hf
    obtain ⟨kg_8, sg_8⟩ := okO_at g_8
    refine va_get (D := (dC, dI)) (ci := 1) (v := .int (z_6.1 k_7 6)) (C := RX1) (T := TX1) (N := 7) hx hb hts iwd_X4_target_X1 hown hK hP k_7 (Wd_ob kg_8 sg_8 (by decide)) rfl 6 (by decide) (hts _ md_X4_target_4) (fun _ h9 => h9) (fl_at (t := 0) rfl) dX4_target_33 ?_
    refine lv_iconst (v := 1) hx hb dX4_target_36 (by decide) ?_
    refine lv_iadd hx hb dX4_target_37 ?_
    refine va_put (D := (dC, dI)) (ci := 1) (v := .int ((z_6.1 k_7 6) + 1)) (ty := .int) (C := RX1) (T := TX1) (N := 7) hx hb hts iwd_X4_target_X1 tyX1 tyX1_ok nmX1 hown hK hP hD hS k_7 (Wd_ob kg_8 sg_8 (by decide)) rfl 6 (by decide) (hts _ md_X4_target_4) (fun _ h9 => h9) rfl (by decide +kernel) rfl rfl (by rw [fl_len]; decide) dX4_target_38 (fun H_9 locs hP2 hD2 hS2 => ?_)
    rw [Wd_si sg_8 (by decide) rfl] at hP2 hD2
    obtain ⟨z_10, ez_10⟩ : ∃ w, w = si z_6 k_7 6 ((z_6.1 k_7 6) + 1) := ⟨_, rfl⟩
    rw [← ez_10] at hP2 hD2
    replace hf := lt_at ez_10 hf
    clear ez_10
    replace hP := hP2
    replace hD := hD2
    replace hS := hS2
    clear hP2 hD2 hS2
    refine lv_iconst (v := 0) hx hb dX4_target_41 (by decide) ?_
    obtain ⟨h8, h9⟩ := ret_some hf
    rw [h8, h9]
    exact W.iret (v := 0) hx hb hr (fun t ht hW => ⟨⟨0, (), rfl, rfl, by rw [ht]; exact hP, va_K.moved hW.alike hK, hD⟩, hS.F ht⟩) hS.2.2 dX4_target_42
  refine lv_icmp_ne (tgt := 28) hx hb dX4_target_11 (by decide) (fun c_11 => ?_) (fun c_11 => ?_)
  · skip
    rw [if_neg c_11] at hf
    exact B28 (z) ls H locs ⟨lv_sub hl [0] rfl, hP, hD, hS⟩ hf
  · skip
    rw [if_pos c_11] at hf
    refine lv_aload_n hx hb dX4_target_14 rfl (lv_at hl 0 rfl) ?_
    obtain ⟨k_12, ek_12, hf⟩ := lnk_some hf
    refine va_get (D := (dC, dI)) (ci := 4) (v := .ref (a k_12)) (C := RX4) (T := TX4) (N := 18) hx hb hts iwd_X4_target_X4 hown hK hP h0 (Wd_ob kg_1 sg_1 (by decide)) rfl 1 (by decide) (hts _ md_X4_target_1) (fun _ h9 => h9) (fl_q rfl ek_12) dX4_target_15 ?_
    obtain ⟨g_13, hf⟩ := grd_some hf
    obtain ⟨kg_13, sg_13⟩ := okO_at g_13
    obtain ⟨k_14, ek_14, hf⟩ := lnk_some hf
    refine va_get (D := (dC, dI)) (ci := 1) (v := .ref (a k_14)) (C := RX1) (T := TX1) (N := 7) hx hb hts iwd_X4_target_X1 hown hK hP k_12 (Wd_ob kg_13 sg_13 (by decide)) rfl 1 (by decide) (hts _ md_X4_target_3) (fun _ h9 => h9) (fl_q rfl ek_14) dX4_target_18 ?_
    refine lv_iload_n hx hb dX4_target_21 rfl (lv_at hl 1 rfl) ?_
    obtain ⟨g_15, hf⟩ := grd_some hf
    obtain ⟨kg_15, sg_15, ig_15⟩ := okA_at g_15
    refine va_lald hx hb hK hP k_14 2 (Wd_al kg_15 sg_15) rfl ig_15 dX4_target_22 ?_
    refine lv_lconst (v := 0) hx hb dX4_target_23 (by decide) ?_
    refine W.lcmp hx hb dX4_target_24 ?_
    refine lv_if_ne (tgt := 43) hx hb dX4_target_25 (by decide) (fun c_16 => ?_) (fun c_16 => ?_)
    · skip
      rw [lg_cmp_eq] at c_16
      rw [if_neg c_16] at hf
      refine lv_aload_n hx hb dX4_target_43 rfl (lv_at hl 0 rfl) ?_
      obtain ⟨k_17, ek_17, hf⟩ := lnk_some hf
      refine va_get (D := (dC, dI)) (ci := 4) (v := .ref (a k_17)) (C := RX4) (T := TX4) (N := 18) hx hb hts iwd_X4_target_X4 hown hK hP h0 (Wd_ob kg_1 sg_1 (by decide)) rfl 1 (by decide) (hts _ md_X4_target_1) (fun _ h9 => h9) (fl_q rfl ek_17) dX4_target_44 ?_
      obtain ⟨g_18, hf⟩ := grd_some hf
      obtain ⟨kg_18, sg_18⟩ := okO_at g_18
      obtain ⟨k_19, ek_19, hf⟩ := lnk_some hf
      refine va_get (D := (dC, dI)) (ci := 1) (v := .ref (a k_19)) (C := RX1) (T := TX1) (N := 7) hx hb hts iwd_X4_target_X1 hown hK hP k_17 (Wd_ob kg_18 sg_18 (by decide)) rfl 1 (by decide) (hts _ md_X4_target_3) (fun _ h9 => h9) (fl_q rfl ek_19) dX4_target_47 ?_
      refine lv_iload_n hx hb dX4_target_50 rfl (lv_at hl 1 rfl) ?_
      obtain ⟨g_20, hf⟩ := grd_some hf
      obtain ⟨kg_20, sg_20, ig_20⟩ := okA_at g_20
      refine va_lald hx hb hK hP k_19 2 (Wd_al kg_20 sg_20) rfl ig_20 dX4_target_51 ?_
      refine lv_l2i (v := ((z.2.1 k_19 x0.toNatClampNeg) : Int64).toInt32) hx hb dX4_target_52 rfl ?_
      obtain ⟨h8, h9⟩ := ret_some hf
      rw [h8, h9]
      exact W.iret (v := (((z.2.1 k_19 x0.toNatClampNeg) : Int64).toInt32)) hx hb hr (fun t ht hW => ⟨⟨(((z.2.1 k_19 x0.toNatClampNeg) : Int64).toInt32), (), rfl, rfl, by rw [ht]; exact hP, va_K.moved hW.alike hK, hD⟩, hS.F ht⟩) hS.2.2 dX4_target_53
    · skip
      rw [lg_cmp_eq] at c_16
      rw [if_pos c_16] at hf
      exact B28 (z) ls H locs ⟨lv_sub hl [0] rfl, hP, hD, hS⟩ hf

theorem md_X15_part_1 : (.fieldLink RX15 20 "ResourceLedgerModel$Trees" "firsts" "[I" : Cond) ∈ wsX15_part := List.mem_of_getElem? (i := 1) rfl
theorem iwd_X15_part_X15 : ∀ w ∈ wsX150, w ∈ wsX15_part := fun _ h => List.mem_cons_of_mem _ (List.mem_append_right _ h)
theorem md_X15_part_2 : (.fieldLink RX15 24 "ResourceLedgerModel$Trees" "nexts" "[I" : Cond) ∈ wsX15_part := List.mem_of_getElem? (i := 2) rfl
set_option maxHeartbeats 4000000 in
set_option maxRecDepth 100000 in
theorem de_X15_part (l : Launch) (dC : Nat → ClassId) (dI : Nat → Nat → Nat) (cy : Nat → ClassId) (a : Nat → Nat) (sh : Nat → Nat × Nat) (n sz : Nat) (F : Nat) (z : St) (h0 : Nat) (x0 : Int32) (x1 : Int64) {z8 : St} {r8 : Int32} (hf : fn_X15_part F sh n z h0 x0 x1 = some (z8, r8)) : Met l yX15_part wsX15_part ({ frames := 0, cells := 0, slots := 0, locals := 0 }) (va_Pc [.ref (a h0), .int x0, .long x1] (fun U => U.heap.size = sz ∧ va_P (dC, dI) vwCl (Wd cy a sh n z) U.heap ∧ va_K (dC, dI) vwCl (TYS cy) U ∧ va_D (fun _ => True) (Wd cy a sh n z) ∧ NK U)) (va_Qi (fun (r9 : Int32) (u : Unit) => r9 = r8) (fun u t => va_P (dC, dI) vwCl (Wd cy a sh n z8) t.heap ∧ va_K (dC, dI) vwCl (TYS cy) t ∧ va_D (va_A (Wd cy a sh n z) sz) (Wd cy a sh n z8)) (va_A (Wd cy a sh n z) sz)) 0 0 (va_A (Wd cy a sh n z) sz) := by
  refine Met.ofW (cc := cX15_part) (maxL := 7) (ret := (some .int)) (by decide) rfl ?_
  intro p e s m args below meth c s₁ B hml hv
  obtain ⟨rfl, hsz, hP, hK, hD0, hN⟩ := hv
  have hx := B.exec
  have hb := B.bytes
  have hr := B.returns
  have hts := atoms_spec (ws := wsX15_part) B.pre
  have hown : s.vm.findClass RX15 = some m.cls := findClass_of_methodNamed B.named
  have hlocks := B.notSynchronized
  subst hsz
  have hD := hD0.self (sz := s.heap.size)
  clear hD0
  generalize hAe : va_A (Wd cy a sh n z) s.heap.size = A at hD ⊢
  have hA : ∀ q : Nat, s.heap.size ≤ q → A q := fun q h => by rw [← hAe]; exact Or.inr h
  clear hAe
  have hS : va_S A s.heap s.heap [] := va_S.rf
  have hl := lv_entry ([.ref (a h0), .int x0, .long x1]) (n := 7) (Nat.le_of_ble_eq_true rfl)
  rw [lg_entry_eq]
  generalize (lg_sl ([.ref (a h0), .int x0, .long x1]) ++ List.replicate (7 - (lg_sl ([.ref (a h0), .int x0, .long x1])).length) Slot.unset).toArray = ls at hl ⊢
  replace hl : lv_has ls 7 [(0, .ref (a h0)), (1, .int x0), (2, .long x1)] := hl
  unfold fn_X15_part at hf
  refine de_start hS hP (fun H locs hS hP => ?_)
  refine lv_lload_n hx hb dX15_part_0 rfl (lv_at hl 2 rfl) ?_
  refine lv_lconst (v := 0) hx hb dX15_part_1 (by decide) ?_
  refine W.lcmp hx hb dX15_part_2 ?_
  refine lv_if_ge (tgt := 8) hx hb dX15_part_3 (by decide) (fun c_1 => ?_) (fun c_1 => ?_)
  · skip
    rw [lg_cmp_ge] at c_1
    rw [if_pos c_1] at hf
    refine lv_aload_n hx hb dX15_part_8 rfl (lv_at hl 0 rfl) ?_
    obtain ⟨g_2, hf⟩ := grd_some hf
    obtain ⟨kg_2, sg_2⟩ := okO_at g_2
    obtain ⟨k_3, ek_3, hf⟩ := lnk_some hf
    refine va_get (D := (dC, dI)) (ci := 15) (v := .ref (a k_3)) (C := RX15) (T := TX15) (N := 6) hx hb hts iwd_X15_part_X15 hown hK hP h0 (Wd_ob kg_2 sg_2 (by decide)) rfl 3 (by decide) (hts _ md_X15_part_1) (fun _ h9 => h9) (fl_q rfl ek_3) dX15_part_9 ?_
    refine lv_iload_n hx hb dX15_part_12 rfl (lv_at hl 1 rfl) ?_
    obtain ⟨g_4, hf⟩ := grd_some hf
    obtain ⟨kg_4, sg_4, ig_4⟩ := okA_at g_4
    refine va_iald hx hb hK hP k_3 1 (Wd_ai kg_4 sg_4) rfl ig_4 dX15_part_13 ?_
    refine lv_topi (fun v_5 ev_5 => ?_)
    replace hf := lt_at ev_5 hf
    clear ev_5
    refine lv_istore (lv' := [(4, .int v_5), (0, .ref (a h0)), (1, .int x0), (2, .long x1)]) hx hb dX15_part_14 hl (by decide) rfl (fun ls hl2 => ?_)
    replace hl := hl2
    clear hl2
    refine lv_lconst (v := 0) hx hb dX15_part_16 (by decide) ?_
    refine lv_lstore (lv' := [(5, .long 0), (4, .int v_5), (0, .ref (a h0)), (1, .int x0), (2, .long x1)]) hx hb dX15_part_17 hl (by decide) rfl (fun ls hl2 => ?_)
    replace hl := hl2
    clear hl2
    have hl0 : lv_has ls 7 [(5, .long 0), (4, .int v_5), (0, .ref (a h0)), (2, .long x1)] := lv_sub hl [0, 1, 2, 4] rfl
    refine de_loop (h := 19) (fun (x : St × Int32 × Int64) ls H locs => lv_has ls 7 [(5, .long x.2.2), (4, .int x.2.1), (0, .ref (a h0)), (2, .long x1)] ∧ va_P (dC, dI) vwCl (Wd cy a sh n x.1) H ∧ va_D A (Wd cy a sh n x.1) ∧ va_S A s.heap H locs) (fun f x => fn_X15_part_L19 F sh n x1 h0 f x.1 x.2.1 x.2.2) (z8, r8) ?_ (fun _ => rfl) F (z, v_5, 0) ls H locs ⟨hl0, hP, hD, hS⟩ hf
    intro f_9 x ls H locs ih19 hI hf
    obtain ⟨z_8, p_6, p_7⟩ := x
    obtain ⟨hl2, hP2, hD2, hS2⟩ := hI
    replace hl : lv_has ls 7 [(5, .long p_7), (4, .int p_6), (0, .ref (a h0)), (2, .long x1)] := hl2
    replace hP := hP2
    replace hD := hD2
    replace hS := hS2
    clear hl2 hP2 hD2 hS2 hl0
    replace hf := fn_X15_part_L19_s hf
    refine lv_lload hx hb dX15_part_19 (lv_at hl 0 rfl) ?_
    refine lv_lload_n hx hb dX15_part_21 rfl (lv_at hl 3 rfl) ?_
    refine W.lcmp hx hb dX15_part_22 ?_
    refine lv_if_ge (tgt := 50) hx hb dX15_part_23 (by decide) (fun c_10 => ?_) (fun c_10 => ?_)
    · skip
      rw [lg_cmp_ge] at c_10
      rw [if_pos c_10] at hf
      refine lv_iload hx hb dX15_part_50 (lv_at hl 1 rfl) ?_
      obtain ⟨h8, h9⟩ := ret_some hf
      rw [h8, h9]
      exact W.iret (v := p_6) hx hb hr (fun t ht hW => ⟨⟨p_6, (), rfl, rfl, by rw [ht]; exact hP, va_K.moved hW.alike hK, hD⟩, hS.F ht⟩) hS.2.2 dX15_part_52
    · skip
      rw [lg_cmp_ge] at c_10
      rw [if_neg c_10] at hf
      refine lv_iload hx hb dX15_part_26 (lv_at hl 1 rfl) ?_
      refine lv_iconst (v := (-1)) hx hb dX15_part_28 (by decide) ?_
      refine lv_icmp_eq (tgt := 50) hx hb dX15_part_29 (by decide) (fun c_11 => ?_) (fun c_11 => ?_)
      · skip
        rw [if_pos c_11] at hf
        refine lv_iload hx hb dX15_part_50 (lv_at hl 1 rfl) ?_
        obtain ⟨h8, h9⟩ := ret_some hf
        rw [h8, h9]
        exact W.iret (v := p_6) hx hb hr (fun t ht hW => ⟨⟨p_6, (), rfl, rfl, by rw [ht]; exact hP, va_K.moved hW.alike hK, hD⟩, hS.F ht⟩) hS.2.2 dX15_part_52
      · skip
        rw [if_neg c_11] at hf
        refine lv_aload_n hx hb dX15_part_32 rfl (lv_at hl 2 rfl) ?_
        obtain ⟨k_12, ek_12, hf⟩ := lnk_some hf
        refine va_get (D := (dC, dI)) (ci := 15) (v := .ref (a k_12)) (C := RX15) (T := TX15) (N := 6) hx hb hts iwd_X15_part_X15 hown hK hP h0 (Wd_ob kg_2 sg_2 (by decide)) rfl 4 (by decide) (hts _ md_X15_part_2) (fun _ h9 => h9) (fl_q rfl ek_12) dX15_part_33 ?_
        refine lv_iload hx hb dX15_part_36 (lv_at hl 1 rfl) ?_
        obtain ⟨g_13, hf⟩ := grd_some hf
        obtain ⟨kg_13, sg_13, ig_13⟩ := okA_at g_13
        refine va_iald hx hb hK hP k_12 1 (Wd_ai kg_13 sg_13) rfl ig_13 dX15_part_38 ?_
        refine lv_topi (fun v_14 ev_14 => ?_)
        replace hf := lt_at ev_14 hf
        clear ev_14
        refine lv_istore (lv' := [(4, .int v_14), (5, .long p_7), (0, .ref (a h0)), (2, .long x1)]) hx hb dX15_part_39 hl (by decide) rfl (fun ls hl2 => ?_)
        replace hl := hl2
        clear hl2
        refine lv_lload hx hb dX15_part_41 (lv_at hl 1 rfl) ?_
        refine lv_lconst (v := 1) hx hb dX15_part_43 (by decide) ?_
        refine lv_ladd hx hb dX15_part_44 ?_
        refine lv_topl (fun v_15 ev_15 => ?_)
        replace hf := lt_at ev_15 hf
        clear ev_15
        refine lv_lstore (lv' := [(5, .long v_15), (4, .int v_14), (0, .ref (a h0)), (2, .long x1)]) hx hb dX15_part_45 hl (by decide) rfl (fun ls hl2 => ?_)
        replace hl := hl2
        clear hl2
        refine lv_goto (tgt := 19) hx hb dX15_part_47 (by decide) ?_
        exact ih19 (z_8, v_14, v_15) ls H locs ⟨lv_sub hl [0, 1, 2, 3] rfl, hP, hD, hS⟩ hf
  · skip
    rw [lg_cmp_ge] at c_1
    rw [if_neg c_1] at hf
    refine lv_iconst (v := (-1)) hx hb dX15_part_6 (by decide) ?_
    obtain ⟨h8, h9⟩ := ret_some hf
    rw [h8, h9]
    exact W.iret (v := (-1)) hx hb hr (fun t ht hW => ⟨⟨(-1), (), rfl, rfl, by rw [ht]; exact hP, va_K.moved hW.alike hK, hD⟩, hS.F ht⟩) hS.2.2 dX15_part_7

set_option maxHeartbeats 4000000 in
set_option maxRecDepth 100000 in
theorem de_X17_four (l : Launch) (dC : Nat → ClassId) (dI : Nat → Nat → Nat) (cy : Nat → ClassId) (a : Nat → Nat) (sh : Nat → Nat × Nat) (n sz : Nat) (F : Nat) (z : St) (x0 : Nat) (x1 : Int32) {z8 : St} {r8 : Int64} (hf : fn_X17_four F sh n z x0 x1 = some (z8, r8)) : Met l yX17_four wsX17_four ({ frames := 0, cells := 0, slots := 0, locals := 0 }) (va_Pc [.ref (a x0), .int x1] (fun U => U.heap.size = sz ∧ va_P (dC, dI) vwCl (Wd cy a sh n z) U.heap ∧ va_K (dC, dI) vwCl (TYS cy) U ∧ va_D (fun _ => True) (Wd cy a sh n z) ∧ NK U)) (va_Ql (fun (r9 : Int64) (u : Unit) => r9 = r8) (fun u t => va_P (dC, dI) vwCl (Wd cy a sh n z8) t.heap ∧ va_K (dC, dI) vwCl (TYS cy) t ∧ va_D (va_A (Wd cy a sh n z) sz) (Wd cy a sh n z8)) (va_A (Wd cy a sh n z) sz)) 0 0 (va_A (Wd cy a sh n z) sz) := by
  refine Met.ofW (cc := cX17_four) (maxL := 2) (ret := (some .long)) (by decide) rfl ?_
  intro p e s m args below meth c s₁ B hml hv
  obtain ⟨rfl, hsz, hP, hK, hD0, hN⟩ := hv
  have hx := B.exec
  have hb := B.bytes
  have hr := B.returns
  have hts := atoms_spec (ws := wsX17_four) B.pre
  have hown : s.vm.findClass RX17 = some m.cls := findClass_of_methodNamed B.named
  have hlocks := B.notSynchronized
  subst hsz
  have hD := hD0.self (sz := s.heap.size)
  clear hD0
  generalize hAe : va_A (Wd cy a sh n z) s.heap.size = A at hD ⊢
  have hA : ∀ q : Nat, s.heap.size ≤ q → A q := fun q h => by rw [← hAe]; exact Or.inr h
  clear hAe
  have hS : va_S A s.heap s.heap [] := va_S.rf
  have hl := lv_entry ([.ref (a x0), .int x1]) (n := 2) (Nat.le_of_ble_eq_true rfl)
  rw [lg_entry_eq]
  generalize (lg_sl ([.ref (a x0), .int x1]) ++ List.replicate (2 - (lg_sl ([.ref (a x0), .int x1])).length) Slot.unset).toArray = ls at hl ⊢
  replace hl : lv_has ls 2 [(0, .ref (a x0)), (1, .int x1)] := hl
  unfold fn_X17_four at hf
  refine de_start hS hP (fun H locs hS hP => ?_)
  refine lv_aload_n hx hb dX17_four_0 rfl (lv_at hl 0 rfl) ?_
  refine lv_iload_n hx hb dX17_four_1 rfl (lv_at hl 1 rfl) ?_
  refine lv_iconst (v := 3) hx hb dX17_four_2 (by decide) ?_
  refine lv_iadd hx hb dX17_four_3 ?_
  obtain ⟨g_1, hf⟩ := grd_some hf
  obtain ⟨kg_1, sg_1, ig_1⟩ := okA_at g_1
  refine va_iald hx hb hK hP x0 1 (Wd_ai kg_1 sg_1) rfl ig_1 dX17_four_4 ?_
  refine lv_i2l (v := ((z.1 x0 (x1 + 3).toNatClampNeg) : Int32).toInt64) hx hb dX17_four_5 rfl ?_
  refine lv_bipush (v := 48) hx hb dX17_four_6 (by decide) ?_
  refine lv_lshl (v := ((((z.1 x0 (x1 + 3).toNatClampNeg) : Int32).toInt64) <<< ((48 : Int32).toInt64 &&& 63))) hx hb dX17_four_8 rfl ?_
  refine lv_aload_n hx hb dX17_four_9 rfl (lv_at hl 0 rfl) ?_
  refine lv_iload_n hx hb dX17_four_10 rfl (lv_at hl 1 rfl) ?_
  refine lv_iconst (v := 2) hx hb dX17_four_11 (by decide) ?_
  refine lv_iadd hx hb dX17_four_12 ?_
  obtain ⟨g_2, hf⟩ := grd_some hf
  obtain ⟨kg_2, sg_2, ig_2⟩ := okA_at g_2
  refine va_iald hx hb hK hP x0 1 (Wd_ai kg_2 sg_2) rfl ig_2 dX17_four_13 ?_
  refine lv_i2l (v := ((z.1 x0 (x1 + 2).toNatClampNeg) : Int32).toInt64) hx hb dX17_four_14 rfl ?_
  refine lv_bipush (v := 32) hx hb dX17_four_15 (by decide) ?_
  refine lv_lshl (v := ((((z.1 x0 (x1 + 2).toNatClampNeg) : Int32).toInt64) <<< ((32 : Int32).toInt64 &&& 63))) hx hb dX17_four_17 rfl ?_
  refine lv_lor hx hb dX17_four_18 ?_
  refine lv_aload_n hx hb dX17_four_19 rfl (lv_at hl 0 rfl) ?_
  refine lv_iload_n hx hb dX17_four_20 rfl (lv_at hl 1 rfl) ?_
  refine lv_iconst (v := 1) hx hb dX17_four_21 (by decide) ?_
  refine lv_iadd hx hb dX17_four_22 ?_
  obtain ⟨g_3, hf⟩ := grd_some hf
  obtain ⟨kg_3, sg_3, ig_3⟩ := okA_at g_3
  refine va_iald hx hb hK hP x0 1 (Wd_ai kg_3 sg_3) rfl ig_3 dX17_four_23 ?_
  refine lv_i2l (v := ((z.1 x0 (x1 + 1).toNatClampNeg) : Int32).toInt64) hx hb dX17_four_24 rfl ?_
  refine lv_bipush (v := 16) hx hb dX17_four_25 (by decide) ?_
  refine lv_lshl (v := ((((z.1 x0 (x1 + 1).toNatClampNeg) : Int32).toInt64) <<< ((16 : Int32).toInt64 &&& 63))) hx hb dX17_four_27 rfl ?_
  refine lv_lor hx hb dX17_four_28 ?_
  refine lv_aload_n hx hb dX17_four_29 rfl (lv_at hl 0 rfl) ?_
  refine lv_iload_n hx hb dX17_four_30 rfl (lv_at hl 1 rfl) ?_
  obtain ⟨g_4, hf⟩ := grd_some hf
  obtain ⟨kg_4, sg_4, ig_4⟩ := okA_at g_4
  refine va_iald hx hb hK hP x0 1 (Wd_ai kg_4 sg_4) rfl ig_4 dX17_four_31 ?_
  refine lv_i2l (v := ((z.1 x0 x1.toNatClampNeg) : Int32).toInt64) hx hb dX17_four_32 rfl ?_
  refine lv_lor hx hb dX17_four_33 ?_
  obtain ⟨h8, h9⟩ := ret_some hf
  rw [h8, h9]
  exact W.lret (v := ((((((((z.1 x0 (x1 + 3).toNatClampNeg) : Int32).toInt64) <<< ((48 : Int32).toInt64 &&& 63))) ||| (((((z.1 x0 (x1 + 2).toNatClampNeg) : Int32).toInt64) <<< ((32 : Int32).toInt64 &&& 63)))) ||| (((((z.1 x0 (x1 + 1).toNatClampNeg) : Int32).toInt64) <<< ((16 : Int32).toInt64 &&& 63)))) ||| (((z.1 x0 x1.toNatClampNeg) : Int32).toInt64))) hx hb hr (fun t ht hW => ⟨⟨((((((((z.1 x0 (x1 + 3).toNatClampNeg) : Int32).toInt64) <<< ((48 : Int32).toInt64 &&& 63))) ||| (((((z.1 x0 (x1 + 2).toNatClampNeg) : Int32).toInt64) <<< ((32 : Int32).toInt64 &&& 63)))) ||| (((((z.1 x0 (x1 + 1).toNatClampNeg) : Int32).toInt64) <<< ((16 : Int32).toInt64 &&& 63)))) ||| (((z.1 x0 x1.toNatClampNeg) : Int32).toInt64)), (), rfl, rfl, by rw [ht]; exact hP, va_K.moved hW.alike hK, hD⟩, hS.F ht⟩) hS.2.2 dX17_four_34

theorem md_X15_become_1 : (.fieldLink RX15 7 "ResourceLedgerModel$Trees" "kinds" "[B" : Cond) ∈ wsX15_become := List.mem_of_getElem? (i := 1) rfl
theorem iwd_X15_become_X15 : ∀ w ∈ wsX150, w ∈ wsX15_become := fun _ h => List.mem_cons_of_mem _ (List.mem_append_right _ h)
theorem md_X15_become_2 : (.fieldLink RX15 13 "ResourceLedgerModel$Trees" "highs" "[J" : Cond) ∈ wsX15_become := List.mem_of_getElem? (i := 2) rfl
theorem md_X15_become_3 : (.fieldLink RX15 17 "ResourceLedgerModel$Trees" "lows" "[J" : Cond) ∈ wsX15_become := List.mem_of_getElem? (i := 3) rfl
theorem md_X15_become_4 : (.fieldLink RX15 20 "ResourceLedgerModel$Trees" "firsts" "[I" : Cond) ∈ wsX15_become := List.mem_of_getElem? (i := 4) rfl
set_option maxHeartbeats 4000000 in
set_option maxRecDepth 100000 in
theorem de_X15_become (l : Launch) (dC : Nat → ClassId) (dI : Nat → Nat → Nat) (cy : Nat → ClassId) (a : Nat → Nat) (sh : Nat → Nat × Nat) (n sz : Nat) (F : Nat) (z : St) (h0 : Nat) (x0 : Int32) (x1 : Int32) {z8 : St} {r8 : Unit} (hf : fn_X15_become F sh n z h0 x0 x1 = some (z8, r8)) : Met l yX15_become wsX15_become ({ frames := 0, cells := 0, slots := 0, locals := 0 }) (va_Pc [.ref (a h0), .int x0, .int x1] (fun U => U.heap.size = sz ∧ va_P (dC, dI) vwCl (Wd cy a sh n z) U.heap ∧ va_K (dC, dI) vwCl (TYS cy) U ∧ va_D (fun _ => True) (Wd cy a sh n z) ∧ NK U)) (va_Qv (fun u : Unit => True) (fun u t => va_P (dC, dI) vwCl (Wd cy a sh n z8) t.heap ∧ va_K (dC, dI) vwCl (TYS cy) t ∧ va_D (va_A (Wd cy a sh n z) sz) (Wd cy a sh n z8)) (va_A (Wd cy a sh n z) sz)) 0 0 (va_A (Wd cy a sh n z) sz) := by
  refine Met.ofW (cc := cX15_become) (maxL := 3) (ret := none) (by decide) rfl ?_
  intro p e s m args below meth c s₁ B hml hv
  obtain ⟨rfl, hsz, hP, hK, hD0, hN⟩ := hv
  have hx := B.exec
  have hb := B.bytes
  have hr := B.returns
  have hts := atoms_spec (ws := wsX15_become) B.pre
  have hown : s.vm.findClass RX15 = some m.cls := findClass_of_methodNamed B.named
  have hlocks := B.notSynchronized
  subst hsz
  have hD := hD0.self (sz := s.heap.size)
  clear hD0
  generalize hAe : va_A (Wd cy a sh n z) s.heap.size = A at hD ⊢
  have hA : ∀ q : Nat, s.heap.size ≤ q → A q := fun q h => by rw [← hAe]; exact Or.inr h
  clear hAe
  have hS : va_S A s.heap s.heap [] := va_S.rf
  have hl := lv_entry ([.ref (a h0), .int x0, .int x1]) (n := 3) (Nat.le_of_ble_eq_true rfl)
  rw [lg_entry_eq]
  generalize (lg_sl ([.ref (a h0), .int x0, .int x1]) ++ List.replicate (3 - (lg_sl ([.ref (a h0), .int x0, .int x1])).length) Slot.unset).toArray = ls at hl ⊢
  replace hl : lv_has ls 3 [(0, .ref (a h0)), (1, .int x0), (2, .int x1)] := hl
  unfold fn_X15_become at hf
  refine de_start hS hP (fun H locs hS hP => ?_)
  refine lv_aload_n hx hb dX15_become_0 rfl (lv_at hl 0 rfl) ?_
  obtain ⟨g_1, hf⟩ := grd_some hf
  obtain ⟨kg_1, sg_1⟩ := okO_at g_1
  obtain ⟨k_2, ek_2, hf⟩ := lnk_some hf
  refine va_get (D := (dC, dI)) (ci := 15) (v := .ref (a k_2)) (C := RX15) (T := TX15) (N := 6) hx hb hts iwd_X15_become_X15 hown hK hP h0 (Wd_ob kg_1 sg_1 (by decide)) rfl 0 (by decide) (hts _ md_X15_become_1) (fun _ h9 => h9) (fl_q rfl ek_2) dX15_become_1 ?_
  refine lv_iload_n hx hb dX15_become_4 rfl (lv_at hl 1 rfl) ?_
  refine lv_aload_n hx hb dX15_become_5 rfl (lv_at hl 0 rfl) ?_
  obtain ⟨k_3, ek_3, hf⟩ := lnk_some hf
  refine va_get (D := (dC, dI)) (ci := 15) (v := .ref (a k_3)) (C := RX15) (T := TX15) (N := 6) hx hb hts iwd_X15_become_X15 hown hK hP h0 (Wd_ob kg_1 sg_1 (by decide)) rfl 0 (by decide) (hts _ md_X15_become_1) (fun _ h9 => h9) (fl_q rfl ek_3) dX15_become_6 ?_
  refine lv_iload_n hx hb dX15_become_9 rfl (lv_at hl 2 rfl) ?_
  obtain ⟨g_4, hf⟩ := grd_some hf
  obtain ⟨kg_4, sg_4, ig_4⟩ := okA_at g_4
  refine va_bald hx hb hK hP k_3 0 (Wd_ab kg_4 sg_4) rfl ig_4 dX15_become_10 ?_
  obtain ⟨g_5, hf⟩ := grd_some hf
  obtain ⟨kg_5, sg_5, ig_5⟩ := okA_at g_5
  refine va_bast hx hb hK hP hD hS k_2 0 (Wd_ab kg_5 sg_5) rfl ig_5 dX15_become_11 (fun H_6 locs hP2 hD2 hS2 => ?_)
  rw [Wd_tb sg_5] at hP2 hD2
  obtain ⟨z_7, ez_7⟩ : ∃ w, w = si z k_2 x0.toNatClampNeg (vp_nar .byte (z.1 k_3 x1.toNatClampNeg)) := ⟨_, rfl⟩
  rw [← ez_7] at hP2 hD2
  replace hf := lt_at ez_7 hf
  clear ez_7
  replace hP := hP2
  replace hD := hD2
  replace hS := hS2
  clear hP2 hD2 hS2
  refine lv_aload_n hx hb dX15_become_12 rfl (lv_at hl 0 rfl) ?_
  obtain ⟨k_8, ek_8, hf⟩ := lnk_some hf
  refine va_get (D := (dC, dI)) (ci := 15) (v := .ref (a k_8)) (C := RX15) (T := TX15) (N := 6) hx hb hts iwd_X15_become_X15 hown hK hP h0 (Wd_ob kg_1 sg_1 (by decide)) rfl 1 (by decide) (hts _ md_X15_become_2) (fun _ h9 => h9) (fl_q rfl ek_8) dX15_become_13 ?_
  refine lv_iload_n hx hb dX15_become_16 rfl (lv_at hl 1 rfl) ?_
  refine lv_aload_n hx hb dX15_become_17 rfl (lv_at hl 0 rfl) ?_
  obtain ⟨k_9, ek_9, hf⟩ := lnk_some hf
  refine va_get (D := (dC, dI)) (ci := 15) (v := .ref (a k_9)) (C := RX15) (T := TX15) (N := 6) hx hb hts iwd_X15_become_X15 hown hK hP h0 (Wd_ob kg_1 sg_1 (by decide)) rfl 1 (by decide) (hts _ md_X15_become_2) (fun _ h9 => h9) (fl_q rfl ek_9) dX15_become_18 ?_
  refine lv_iload_n hx hb dX15_become_21 rfl (lv_at hl 2 rfl) ?_
  obtain ⟨g_10, hf⟩ := grd_some hf
  obtain ⟨kg_10, sg_10, ig_10⟩ := okA_at g_10
  refine va_lald hx hb hK hP k_9 2 (Wd_al kg_10 sg_10) rfl ig_10 dX15_become_22 ?_
  obtain ⟨g_11, hf⟩ := grd_some hf
  obtain ⟨kg_11, sg_11, ig_11⟩ := okA_at g_11
  refine va_last hx hb hK hP hD hS k_8 2 (Wd_al kg_11 sg_11) rfl ig_11 dX15_become_23 (fun H_12 locs hP2 hD2 hS2 => ?_)
  rw [Wd_tl sg_11] at hP2 hD2
  obtain ⟨z_13, ez_13⟩ : ∃ w, w = sl z_7 k_8 x0.toNatClampNeg (z_7.2.1 k_9 x1.toNatClampNeg) := ⟨_, rfl⟩
  rw [← ez_13] at hP2 hD2
  replace hf := lt_at ez_13 hf
  clear ez_13
  replace hP := hP2
  replace hD := hD2
  replace hS := hS2
  clear hP2 hD2 hS2
  refine lv_aload_n hx hb dX15_become_24 rfl (lv_at hl 0 rfl) ?_
  obtain ⟨k_14, ek_14, hf⟩ := lnk_some hf
  refine va_get (D := (dC, dI)) (ci := 15) (v := .ref (a k_14)) (C := RX15) (T := TX15) (N := 6) hx hb hts iwd_X15_become_X15 hown hK hP h0 (Wd_ob kg_1 sg_1 (by decide)) rfl 2 (by decide) (hts _ md_X15_become_3) (fun _ h9 => h9) (fl_q rfl ek_14) dX15_become_25 ?_
  refine lv_iload_n hx hb dX15_become_28 rfl (lv_at hl 1 rfl) ?_
  refine lv_aload_n hx hb dX15_become_29 rfl (lv_at hl 0 rfl) ?_
  obtain ⟨k_15, ek_15, hf⟩ := lnk_some hf
  refine va_get (D := (dC, dI)) (ci := 15) (v := .ref (a k_15)) (C := RX15) (T := TX15) (N := 6) hx hb hts iwd_X15_become_X15 hown hK hP h0 (Wd_ob kg_1 sg_1 (by decide)) rfl 2 (by decide) (hts _ md_X15_become_3) (fun _ h9 => h9) (fl_q rfl ek_15) dX15_become_30 ?_
  refine lv_iload_n hx hb dX15_become_33 rfl (lv_at hl 2 rfl) ?_
  obtain ⟨g_16, hf⟩ := grd_some hf
  obtain ⟨kg_16, sg_16, ig_16⟩ := okA_at g_16
  refine va_lald hx hb hK hP k_15 2 (Wd_al kg_16 sg_16) rfl ig_16 dX15_become_34 ?_
  obtain ⟨g_17, hf⟩ := grd_some hf
  obtain ⟨kg_17, sg_17, ig_17⟩ := okA_at g_17
  refine va_last hx hb hK hP hD hS k_14 2 (Wd_al kg_17 sg_17) rfl ig_17 dX15_become_35 (fun H_18 locs hP2 hD2 hS2 => ?_)
  rw [Wd_tl sg_17] at hP2 hD2
  obtain ⟨z_19, ez_19⟩ : ∃ w, w = sl z_13 k_14 x0.toNatClampNeg (z_13.2.1 k_15 x1.toNatClampNeg) := ⟨_, rfl⟩
  rw [← ez_19] at hP2 hD2
  replace hf := lt_at ez_19 hf
  clear ez_19
  replace hP := hP2
  replace hD := hD2
  replace hS := hS2
  clear hP2 hD2 hS2
  refine lv_aload_n hx hb dX15_become_36 rfl (lv_at hl 0 rfl) ?_
  obtain ⟨k_20, ek_20, hf⟩ := lnk_some hf
  refine va_get (D := (dC, dI)) (ci := 15) (v := .ref (a k_20)) (C := RX15) (T := TX15) (N := 6) hx hb hts iwd_X15_become_X15 hown hK hP h0 (Wd_ob kg_1 sg_1 (by decide)) rfl 3 (by decide) (hts _ md_X15_become_4) (fun _ h9 => h9) (fl_q rfl ek_20) dX15_become_37 ?_
  refine lv_iload_n hx hb dX15_become_40 rfl (lv_at hl 1 rfl) ?_
  refine lv_aload_n hx hb dX15_become_41 rfl (lv_at hl 0 rfl) ?_
  obtain ⟨k_21, ek_21, hf⟩ := lnk_some hf
  refine va_get (D := (dC, dI)) (ci := 15) (v := .ref (a k_21)) (C := RX15) (T := TX15) (N := 6) hx hb hts iwd_X15_become_X15 hown hK hP h0 (Wd_ob kg_1 sg_1 (by decide)) rfl 3 (by decide) (hts _ md_X15_become_4) (fun _ h9 => h9) (fl_q rfl ek_21) dX15_become_42 ?_
  refine lv_iload_n hx hb dX15_become_45 rfl (lv_at hl 2 rfl) ?_
  obtain ⟨g_22, hf⟩ := grd_some hf
  obtain ⟨kg_22, sg_22, ig_22⟩ := okA_at g_22
  refine va_iald hx hb hK hP k_21 1 (Wd_ai kg_22 sg_22) rfl ig_22 dX15_become_46 ?_
  obtain ⟨g_23, hf⟩ := grd_some hf
  obtain ⟨kg_23, sg_23, ig_23⟩ := okA_at g_23
  refine va_iast hx hb hK hP hD hS k_20 1 (Wd_ai kg_23 sg_23) rfl ig_23 dX15_become_47 (fun H_24 locs hP2 hD2 hS2 => ?_)
  rw [Wd_ti sg_23] at hP2 hD2
  obtain ⟨z_25, ez_25⟩ : ∃ w, w = si z_19 k_20 x0.toNatClampNeg (z_19.1 k_21 x1.toNatClampNeg) := ⟨_, rfl⟩
  rw [← ez_25] at hP2 hD2
  replace hf := lt_at ez_25 hf
  clear ez_25
  replace hP := hP2
  replace hD := hD2
  replace hS := hS2
  clear hP2 hD2 hS2
  obtain ⟨h8, h9⟩ := ret_some hf
  rw [h8]
  exact W.vret hx hb hr (fun t ht hW => ⟨⟨(), rfl, trivial, by rw [ht]; exact hP, va_K.moved hW.alike hK, hD⟩, hS.F ht⟩) hS.2.2 dX15_become_48

theorem md_X5_functionColumn_1 : (.fieldLink RX5 55 "ResourceLedger$Program" "ownFunctions" "I" : Cond) ∈ wsX5_functionColumn := List.mem_of_getElem? (i := 1) rfl
theorem iwd_X5_functionColumn_X5 : ∀ w ∈ wsX50, w ∈ wsX5_functionColumn := fun _ h => List.mem_cons_of_mem _ (List.mem_append_right _ h)
theorem md_X5_functionColumn_2 : (.fieldLink RX5 45 "ResourceLedger$Program" "foreignFunctions" "I" : Cond) ∈ wsX5_functionColumn := List.mem_of_getElem? (i := 2) rfl
theorem md_X5_functionColumn_3 : (.fieldLink RX5 22 "ResourceLedger$Program" "functionRows" "[I" : Cond) ∈ wsX5_functionColumn := List.mem_of_getElem? (i := 3) rfl
set_option maxHeartbeats 4000000 in
set_option maxRecDepth 100000 in
theorem de_X5_functionColumn (l : Launch) (dC : Nat → ClassId) (dI : Nat → Nat → Nat) (cy : Nat → ClassId) (a : Nat → Nat) (sh : Nat → Nat × Nat) (n sz : Nat) (F : Nat) (z : St) (h0 : Nat) (x0 : Int32) (x1 : Int32) {z8 : St} {r8 : Int32} (hf : fn_X5_functionColumn F sh n z h0 x0 x1 = some (z8, r8)) : Met l yX5_functionColumn wsX5_functionColumn ({ frames := 0, cells := 0, slots := 0, locals := 0 }) (va_Pc [.ref (a h0), .int x0, .int x1] (fun U => U.heap.size = sz ∧ va_P (dC, dI) vwCl (Wd cy a sh n z) U.heap ∧ va_K (dC, dI) vwCl (TYS cy) U ∧ va_D (fun _ => True) (Wd cy a sh n z) ∧ NK U)) (va_Qi (fun (r9 : Int32) (u : Unit) => r9 = r8) (fun u t => va_P (dC, dI) vwCl (Wd cy a sh n z8) t.heap ∧ va_K (dC, dI) vwCl (TYS cy) t ∧ va_D (va_A (Wd cy a sh n z) sz) (Wd cy a sh n z8)) (va_A (Wd cy a sh n z) sz)) 0 0 (va_A (Wd cy a sh n z) sz) := by
  refine Met.ofW (cc := cX5_functionColumn) (maxL := 4) (ret := (some .int)) (by decide) rfl ?_
  intro p e s m args below meth c s₁ B hml hv
  obtain ⟨rfl, hsz, hP, hK, hD0, hN⟩ := hv
  have hx := B.exec
  have hb := B.bytes
  have hr := B.returns
  have hts := atoms_spec (ws := wsX5_functionColumn) B.pre
  have hown : s.vm.findClass RX5 = some m.cls := findClass_of_methodNamed B.named
  have hlocks := B.notSynchronized
  subst hsz
  have hD := hD0.self (sz := s.heap.size)
  clear hD0
  generalize hAe : va_A (Wd cy a sh n z) s.heap.size = A at hD ⊢
  have hA : ∀ q : Nat, s.heap.size ≤ q → A q := fun q h => by rw [← hAe]; exact Or.inr h
  clear hAe
  have hS : va_S A s.heap s.heap [] := va_S.rf
  have hl := lv_entry ([.ref (a h0), .int x0, .int x1]) (n := 4) (Nat.le_of_ble_eq_true rfl)
  rw [lg_entry_eq]
  generalize (lg_sl ([.ref (a h0), .int x0, .int x1]) ++ List.replicate (4 - (lg_sl ([.ref (a h0), .int x0, .int x1])).length) Slot.unset).toArray = ls at hl ⊢
  replace hl : lv_has ls 4 [(0, .ref (a h0)), (1, .int x0), (2, .int x1)] := hl
  unfold fn_X5_functionColumn at hf
  refine de_start hS hP (fun H locs hS hP => ?_)
  refine lv_iload_n hx hb dX5_functionColumn_0 rfl (lv_at hl 1 rfl) ?_
  refine lv_if_lt (tgt := 17) hx hb dX5_functionColumn_1 (by decide) (fun c_1 => ?_) (fun c_1 => ?_)
  · skip
    rw [if_pos c_1] at hf
    refine lv_iconst (v := 0) hx hb dX5_functionColumn_17 (by decide) ?_
    obtain ⟨h8, h9⟩ := ret_some hf
    rw [h8, h9]
    exact W.iret (v := 0) hx hb hr (fun t ht hW => ⟨⟨0, (), rfl, rfl, by rw [ht]; exact hP, va_K.moved hW.alike hK, hD⟩, hS.F ht⟩) hS.2.2 dX5_functionColumn_18
  · skip
    rw [if_neg c_1] at hf
    refine lv_iload_n hx hb dX5_functionColumn_4 rfl (lv_at hl 1 rfl) ?_
    refine lv_aload_n hx hb dX5_functionColumn_5 rfl (lv_at hl 0 rfl) ?_
    obtain ⟨g_2, hf⟩ := grd_some hf
    obtain ⟨kg_2, sg_2⟩ := okO_at g_2
    refine va_get (D := (dC, dI)) (ci := 5) (v := .int (z.1 h0 11)) (C := RX5) (T := TX5) (N := 15) hx hb hts iwd_X5_functionColumn_X5 hown hK hP h0 (Wd_ob kg_2 sg_2 (by decide)) rfl 11 (by decide) (hts _ md_X5_functionColumn_1) (fun _ h9 => h9) (fl_at (t := 0) rfl) dX5_functionColumn_6 ?_
    refine lv_aload_n hx hb dX5_functionColumn_9 rfl (lv_at hl 0 rfl) ?_
    refine va_get (D := (dC, dI)) (ci := 5) (v := .int (z.1 h0 12)) (C := RX5) (T := TX5) (N := 15) hx hb hts iwd_X5_functionColumn_X5 hown hK hP h0 (Wd_ob kg_2 sg_2 (by decide)) rfl 12 (by decide) (hts _ md_X5_functionColumn_2) (fun _ h9 => h9) (fl_at (t := 0) rfl) dX5_functionColumn_10 ?_
    refine lv_iadd hx hb dX5_functionColumn_13 ?_
    refine lv_icmp_lt (tgt := 19) hx hb dX5_functionColumn_14 (by decide) (fun c_3 => ?_) (fun c_3 => ?_)
    · skip
      rw [if_pos c_3] at hf
      refine lv_iload_n hx hb dX5_functionColumn_19 rfl (lv_at hl 1 rfl) ?_
      refine lv_aload_n hx hb dX5_functionColumn_20 rfl (lv_at hl 0 rfl) ?_
      refine va_get (D := (dC, dI)) (ci := 5) (v := .int (z.1 h0 11)) (C := RX5) (T := TX5) (N := 15) hx hb hts iwd_X5_functionColumn_X5 hown hK hP h0 (Wd_ob kg_2 sg_2 (by decide)) rfl 11 (by decide) (hts _ md_X5_functionColumn_1) (fun _ h9 => h9) (fl_at (t := 0) rfl) dX5_functionColumn_21 ?_
      refine de_cut (h := 40) (fun (x : St × Int32) => [.int x.2]) (fun x ls H locs => lv_has ls 4 [(0, .ref (a h0)), (2, .int x1)] ∧ va_P (dC, dI) vwCl (Wd cy a sh n x.1) H ∧ va_D A (Wd cy a sh n x.1) ∧ va_S A s.heap H locs) (fun x => fn_X5_functionColumn_B40 F sh n h0 x1 x.1 x.2) (z8, r8) ?_ (fun B40 => ?_)
      · intro x ls H locs hI hf
        obtain ⟨z_5, p_4⟩ := x
        obtain ⟨hl2, hP2, hD2, hS2⟩ := hI
        replace hl : lv_has ls 4 [(0, .ref (a h0)), (2, .int x1)] := hl2
        replace hP := hP2
        replace hD := hD2
        replace hS := hS2
        clear hl2 hP2 hD2 hS2
        replace hf := fn_X5_functionColumn_B40_s hf
        refine W.eq (g2 := F0 m 40 ls [.int p_4]) rfl ?_
        refine lv_istore_n (lv' := [(3, .int p_4), (0, .ref (a h0)), (2, .int x1)]) hx hb dX5_functionColumn_40 rfl hl (by decide) rfl (fun ls hl2 => ?_)
        replace hl := hl2
        clear hl2
        refine lv_aload_n hx hb dX5_functionColumn_41 rfl (lv_at hl 1 rfl) ?_
        obtain ⟨k_6, ek_6, hf⟩ := lnk_some hf
        refine va_get (D := (dC, dI)) (ci := 5) (v := .ref (a k_6)) (C := RX5) (T := TX5) (N := 15) hx hb hts iwd_X5_functionColumn_X5 hown hK hP h0 (Wd_ob kg_2 sg_2 (by decide)) rfl 10 (by decide) (hts _ md_X5_functionColumn_3) (fun _ h9 => h9) (fl_q rfl ek_6) dX5_functionColumn_42 ?_
        refine lv_iload_n hx hb dX5_functionColumn_45 rfl (lv_at hl 0 rfl) ?_
        refine lv_bipush (v := 9) hx hb dX5_functionColumn_46 (by decide) ?_
        refine lv_imul hx hb dX5_functionColumn_48 ?_
        refine lv_iload_n hx hb dX5_functionColumn_49 rfl (lv_at hl 2 rfl) ?_
        refine lv_iadd hx hb dX5_functionColumn_50 ?_
        obtain ⟨g_7, hf⟩ := grd_some hf
        obtain ⟨kg_7, sg_7, ig_7⟩ := okA_at g_7
        refine va_iald hx hb hK hP k_6 1 (Wd_ai kg_7 sg_7) rfl ig_7 dX5_functionColumn_51 ?_
        obtain ⟨h8, h9⟩ := ret_some hf
        rw [h8, h9]
        exact W.iret (v := (z_5.1 k_6 ((p_4 * 9) + x1).toNatClampNeg)) hx hb hr (fun t ht hW => ⟨⟨(z_5.1 k_6 ((p_4 * 9) + x1).toNatClampNeg), (), rfl, rfl, by rw [ht]; exact hP, va_K.moved hW.alike hK, hD⟩, hS.F ht⟩) hS.2.2 dX5_functionColumn_52
      refine lv_icmp_ge (tgt := 31) hx hb dX5_functionColumn_24 (by decide) (fun c_8 => ?_) (fun c_8 => ?_)
      · skip
        rw [if_pos c_8] at hf
        refine lv_bipush (v := 64) hx hb dX5_functionColumn_31 (by decide) ?_
        refine lv_iload_n hx hb dX5_functionColumn_33 rfl (lv_at hl 1 rfl) ?_
        refine lv_iadd hx hb dX5_functionColumn_34 ?_
        refine lv_aload_n hx hb dX5_functionColumn_35 rfl (lv_at hl 0 rfl) ?_
        refine va_get (D := (dC, dI)) (ci := 5) (v := .int (z.1 h0 11)) (C := RX5) (T := TX5) (N := 15) hx hb hts iwd_X5_functionColumn_X5 hown hK hP h0 (Wd_ob kg_2 sg_2 (by decide)) rfl 11 (by decide) (hts _ md_X5_functionColumn_1) (fun _ h9 => h9) (fl_at (t := 0) rfl) dX5_functionColumn_36 ?_
        refine lv_isub hx hb dX5_functionColumn_39 ?_
        exact B40 (z, ((64 + x0) - (z.1 h0 11))) ls H locs ⟨lv_sub hl [0, 2] rfl, hP, hD, hS⟩ hf
      · skip
        rw [if_neg c_8] at hf
        refine lv_iload_n hx hb dX5_functionColumn_27 rfl (lv_at hl 1 rfl) ?_
        refine lv_goto (tgt := 40) hx hb dX5_functionColumn_28 (by decide) ?_
        exact B40 (z, x0) ls H locs ⟨lv_sub hl [0, 2] rfl, hP, hD, hS⟩ hf
    · skip
      rw [if_neg c_3] at hf
      refine lv_iconst (v := 0) hx hb dX5_functionColumn_17 (by decide) ?_
      obtain ⟨h8, h9⟩ := ret_some hf
      rw [h8, h9]
      exact W.iret (v := 0) hx hb hr (fun t ht hW => ⟨⟨0, (), rfl, rfl, by rw [ht]; exact hP, va_K.moved hW.alike hK, hD⟩, hS.F ht⟩) hS.2.2 dX5_functionColumn_18

theorem md_X8_addArgument_1 : (.fieldLink RX8 46 "ResourceLedger$Transaction" "argumentCount" "I" : Cond) ∈ wsX8_addArgument := List.mem_of_getElem? (i := 1) rfl
theorem iwd_X8_addArgument_X8 : ∀ w ∈ wsX80, w ∈ wsX8_addArgument := fun _ h => List.mem_cons_of_mem _ (List.mem_append_right _ h)
theorem md_X8_addArgument_2 : (.fieldLink RX8 9 "ResourceLedger$Transaction" "argumentType" "[I" : Cond) ∈ wsX8_addArgument := List.mem_of_getElem? (i := 2) rfl
theorem md_X8_addArgument_3 : (.fieldLink RX8 15 "ResourceLedger$Transaction" "argumentHigh" "[J" : Cond) ∈ wsX8_addArgument := List.mem_of_getElem? (i := 3) rfl
theorem md_X8_addArgument_4 : (.fieldLink RX8 19 "ResourceLedger$Transaction" "argumentLow" "[J" : Cond) ∈ wsX8_addArgument := List.mem_of_getElem? (i := 4) rfl
set_option maxHeartbeats 4000000 in
set_option maxRecDepth 100000 in
theorem de_X8_addArgument (l : Launch) (dC : Nat → ClassId) (dI : Nat → Nat → Nat) (cy : Nat → ClassId) (a : Nat → Nat) (sh : Nat → Nat × Nat) (n sz : Nat) (F : Nat) (z : St) (h0 : Nat) (x0 : Int32) (x1 : Int64) (x2 : Int64) {z8 : St} {r8 : Int32} (hf : fn_X8_addArgument F sh n z h0 x0 x1 x2 = some (z8, r8)) : Met l yX8_addArgument wsX8_addArgument ({ frames := 0, cells := 0, slots := 0, locals := 0 }) (va_Pc [.ref (a h0), .int x0, .long x1, .long x2] (fun U => U.heap.size = sz ∧ va_P (dC, dI) vwCl (Wd cy a sh n z) U.heap ∧ va_K (dC, dI) vwCl (TYS cy) U ∧ va_D (fun _ => True) (Wd cy a sh n z) ∧ NK U)) (va_Qi (fun (r9 : Int32) (u : Unit) => r9 = r8) (fun u t => va_P (dC, dI) vwCl (Wd cy a sh n z8) t.heap ∧ va_K (dC, dI) vwCl (TYS cy) t ∧ va_D (va_A (Wd cy a sh n z) sz) (Wd cy a sh n z8)) (va_A (Wd cy a sh n z) sz)) 0 0 (va_A (Wd cy a sh n z) sz) := by
  refine Met.ofW (cc := cX8_addArgument) (maxL := 6) (ret := (some .int)) (by decide) rfl ?_
  intro p e s m args below meth c s₁ B hml hv
  obtain ⟨rfl, hsz, hP, hK, hD0, hN⟩ := hv
  have hx := B.exec
  have hb := B.bytes
  have hr := B.returns
  have hts := atoms_spec (ws := wsX8_addArgument) B.pre
  have hown : s.vm.findClass RX8 = some m.cls := findClass_of_methodNamed B.named
  have hlocks := B.notSynchronized
  subst hsz
  have hD := hD0.self (sz := s.heap.size)
  clear hD0
  generalize hAe : va_A (Wd cy a sh n z) s.heap.size = A at hD ⊢
  have hA : ∀ q : Nat, s.heap.size ≤ q → A q := fun q h => by rw [← hAe]; exact Or.inr h
  clear hAe
  have hS : va_S A s.heap s.heap [] := va_S.rf
  have hl := lv_entry ([.ref (a h0), .int x0, .long x1, .long x2]) (n := 6) (Nat.le_of_ble_eq_true rfl)
  rw [lg_entry_eq]
  generalize (lg_sl ([.ref (a h0), .int x0, .long x1, .long x2]) ++ List.replicate (6 - (lg_sl ([.ref (a h0), .int x0, .long x1, .long x2])).length) Slot.unset).toArray = ls at hl ⊢
  replace hl : lv_has ls 6 [(0, .ref (a h0)), (1, .int x0), (2, .long x1), (4, .long x2)] := hl
  unfold fn_X8_addArgument at hf
  refine de_start hS hP (fun H locs hS hP => ?_)
  refine lv_aload_n hx hb dX8_addArgument_0 rfl (lv_at hl 0 rfl) ?_
  obtain ⟨g_1, hf⟩ := grd_some hf
  obtain ⟨kg_1, sg_1⟩ := okO_at g_1
  refine va_get (D := (dC, dI)) (ci := 8) (v := .int (z.1 h0 7)) (C := RX8) (T := TX8) (N := 19) hx hb hts iwd_X8_addArgument_X8 hown hK hP h0 (Wd_ob kg_1 sg_1 (by decide)) rfl 7 (by decide) (hts _ md_X8_addArgument_1) (fun _ h9 => h9) (fl_at (t := 0) rfl) dX8_addArgument_1 ?_
  refine lv_bipush (v := 8) hx hb dX8_addArgument_4 (by decide) ?_
  refine lv_icmp_lt (tgt := 12) hx hb dX8_addArgument_6 (by decide) (fun c_2 => ?_) (fun c_2 => ?_)
  · skip
    rw [if_pos c_2] at hf
    refine lv_aload_n hx hb dX8_addArgument_12 rfl (lv_at hl 0 rfl) ?_
    obtain ⟨k_3, ek_3, hf⟩ := lnk_some hf
    refine va_get (D := (dC, dI)) (ci := 8) (v := .ref (a k_3)) (C := RX8) (T := TX8) (N := 19) hx hb hts iwd_X8_addArgument_X8 hown hK hP h0 (Wd_ob kg_1 sg_1 (by decide)) rfl 8 (by decide) (hts _ md_X8_addArgument_2) (fun _ h9 => h9) (fl_q rfl ek_3) dX8_addArgument_13 ?_
    refine lv_aload_n hx hb dX8_addArgument_16 rfl (lv_at hl 0 rfl) ?_
    refine va_get (D := (dC, dI)) (ci := 8) (v := .int (z.1 h0 7)) (C := RX8) (T := TX8) (N := 19) hx hb hts iwd_X8_addArgument_X8 hown hK hP h0 (Wd_ob kg_1 sg_1 (by decide)) rfl 7 (by decide) (hts _ md_X8_addArgument_1) (fun _ h9 => h9) (fl_at (t := 0) rfl) dX8_addArgument_17 ?_
    refine lv_iload_n hx hb dX8_addArgument_20 rfl (lv_at hl 1 rfl) ?_
    obtain ⟨g_4, hf⟩ := grd_some hf
    obtain ⟨kg_4, sg_4, ig_4⟩ := okA_at g_4
    refine va_iast hx hb hK hP hD hS k_3 1 (Wd_ai kg_4 sg_4) rfl ig_4 dX8_addArgument_21 (fun H_5 locs hP2 hD2 hS2 => ?_)
    rw [Wd_ti sg_4] at hP2 hD2
    obtain ⟨z_6, ez_6⟩ : ∃ w, w = si z k_3 (z.1 h0 7).toNatClampNeg x0 := ⟨_, rfl⟩
    rw [← ez_6] at hP2 hD2
    replace hf := lt_at ez_6 hf
    clear ez_6
    replace hP := hP2
    replace hD := hD2
    replace hS := hS2
    clear hP2 hD2 hS2
    refine lv_aload_n hx hb dX8_addArgument_22 rfl (lv_at hl 0 rfl) ?_
    obtain ⟨k_7, ek_7, hf⟩ := lnk_some hf
    refine va_get (D := (dC, dI)) (ci := 8) (v := .ref (a k_7)) (C := RX8) (T := TX8) (N := 19) hx hb hts iwd_X8_addArgument_X8 hown hK hP h0 (Wd_ob kg_1 sg_1 (by decide)) rfl 9 (by decide) (hts _ md_X8_addArgument_3) (fun _ h9 => h9) (fl_q rfl ek_7) dX8_addArgument_23 ?_
    refine lv_aload_n hx hb dX8_addArgument_26 rfl (lv_at hl 0 rfl) ?_
    refine va_get (D := (dC, dI)) (ci := 8) (v := .int (z_6.1 h0 7)) (C := RX8) (T := TX8) (N := 19) hx hb hts iwd_X8_addArgument_X8 hown hK hP h0 (Wd_ob kg_1 sg_1 (by decide)) rfl 7 (by decide) (hts _ md_X8_addArgument_1) (fun _ h9 => h9) (fl_at (t := 0) rfl) dX8_addArgument_27 ?_
    refine lv_lload_n hx hb dX8_addArgument_30 rfl (lv_at hl 2 rfl) ?_
    obtain ⟨g_8, hf⟩ := grd_some hf
    obtain ⟨kg_8, sg_8, ig_8⟩ := okA_at g_8
    refine va_last hx hb hK hP hD hS k_7 2 (Wd_al kg_8 sg_8) rfl ig_8 dX8_addArgument_31 (fun H_9 locs hP2 hD2 hS2 => ?_)
    rw [Wd_tl sg_8] at hP2 hD2
    obtain ⟨z_10, ez_10⟩ : ∃ w, w = sl z_6 k_7 (z_6.1 h0 7).toNatClampNeg x1 := ⟨_, rfl⟩
    rw [← ez_10] at hP2 hD2
    replace hf := lt_at ez_10 hf
    clear ez_10
    replace hP := hP2
    replace hD := hD2
    replace hS := hS2
    clear hP2 hD2 hS2
    refine lv_aload_n hx hb dX8_addArgument_32 rfl (lv_at hl 0 rfl) ?_
    obtain ⟨k_11, ek_11, hf⟩ := lnk_some hf
    refine va_get (D := (dC, dI)) (ci := 8) (v := .ref (a k_11)) (C := RX8) (T := TX8) (N := 19) hx hb hts iwd_X8_addArgument_X8 hown hK hP h0 (Wd_ob kg_1 sg_1 (by decide)) rfl 10 (by decide) (hts _ md_X8_addArgument_4) (fun _ h9 => h9) (fl_q rfl ek_11) dX8_addArgument_33 ?_
    refine lv_aload_n hx hb dX8_addArgument_36 rfl (lv_at hl 0 rfl) ?_
    refine va_get (D := (dC, dI)) (ci := 8) (v := .int (z_10.1 h0 7)) (C := RX8) (T := TX8) (N := 19) hx hb hts iwd_X8_addArgument_X8 hown hK hP h0 (Wd_ob kg_1 sg_1 (by decide)) rfl 7 (by decide) (hts _ md_X8_addArgument_1) (fun _ h9 => h9) (fl_at (t := 0) rfl) dX8_addArgument_37 ?_
    refine lv_lload hx hb dX8_addArgument_40 (lv_at hl 3 rfl) ?_
    obtain ⟨g_12, hf⟩ := grd_some hf
    obtain ⟨kg_12, sg_12, ig_12⟩ := okA_at g_12
    refine va_last hx hb hK hP hD hS k_11 2 (Wd_al kg_12 sg_12) rfl ig_12 dX8_addArgument_42 (fun H_13 locs hP2 hD2 hS2 => ?_)
    rw [Wd_tl sg_12] at hP2 hD2
    obtain ⟨z_14, ez_14⟩ : ∃ w, w = sl z_10 k_11 (z_10.1 h0 7).toNatClampNeg x2 := ⟨_, rfl⟩
    rw [← ez_14] at hP2 hD2
    replace hf := lt_at ez_14 hf
    clear ez_14
    replace hP := hP2
    replace hD := hD2
    replace hS := hS2
    clear hP2 hD2 hS2
    refine lv_aload_n hx hb dX8_addArgument_43 rfl (lv_at hl 0 rfl) ?_
    refine lv_dup hx hb dX8_addArgument_44 rfl ?_
    refine va_get (D := (dC, dI)) (ci := 8) (v := .int (z_14.1 h0 7)) (C := RX8) (T := TX8) (N := 19) hx hb hts iwd_X8_addArgument_X8 hown hK hP h0 (Wd_ob kg_1 sg_1 (by decide)) rfl 7 (by decide) (hts _ md_X8_addArgument_1) (fun _ h9 => h9) (fl_at (t := 0) rfl) dX8_addArgument_45 ?_
    refine lv_iconst (v := 1) hx hb dX8_addArgument_48 (by decide) ?_
    refine lv_iadd hx hb dX8_addArgument_49 ?_
    refine va_put (D := (dC, dI)) (ci := 8) (v := .int ((z_14.1 h0 7) + 1)) (ty := .int) (C := RX8) (T := TX8) (N := 19) hx hb hts iwd_X8_addArgument_X8 tyX8 tyX8_ok nmX8 hown hK hP hD hS h0 (Wd_ob kg_1 sg_1 (by decide)) rfl 7 (by decide) (hts _ md_X8_addArgument_1) (fun _ h9 => h9) rfl (by decide +kernel) rfl rfl (by rw [fl_len]; decide) dX8_addArgument_50 (fun H_15 locs hP2 hD2 hS2 => ?_)
    rw [Wd_si sg_1 (by decide) rfl] at hP2 hD2
    obtain ⟨z_16, ez_16⟩ : ∃ w, w = si z_14 h0 7 ((z_14.1 h0 7) + 1) := ⟨_, rfl⟩
    rw [← ez_16] at hP2 hD2
    replace hf := lt_at ez_16 hf
    clear ez_16
    replace hP := hP2
    replace hD := hD2
    replace hS := hS2
    clear hP2 hD2 hS2
    refine lv_aload_n hx hb dX8_addArgument_53 rfl (lv_at hl 0 rfl) ?_
    refine va_get (D := (dC, dI)) (ci := 8) (v := .int (z_16.1 h0 7)) (C := RX8) (T := TX8) (N := 19) hx hb hts iwd_X8_addArgument_X8 hown hK hP h0 (Wd_ob kg_1 sg_1 (by decide)) rfl 7 (by decide) (hts _ md_X8_addArgument_1) (fun _ h9 => h9) (fl_at (t := 0) rfl) dX8_addArgument_54 ?_
    obtain ⟨h8, h9⟩ := ret_some hf
    rw [h8, h9]
    exact W.iret (v := (z_16.1 h0 7)) hx hb hr (fun t ht hW => ⟨⟨(z_16.1 h0 7), (), rfl, rfl, by rw [ht]; exact hP, va_K.moved hW.alike hK, hD⟩, hS.F ht⟩) hS.2.2 dX8_addArgument_57
  · skip
    rw [if_neg c_2] at hf
    refine lv_bipush (v := (-3)) hx hb dX8_addArgument_9 (by decide) ?_
    obtain ⟨h8, h9⟩ := ret_some hf
    rw [h8, h9]
    exact W.iret (v := (-3)) hx hb hr (fun t ht hW => ⟨⟨(-3), (), rfl, rfl, by rw [ht]; exact hP, va_K.moved hW.alike hK, hD⟩, hS.F ht⟩) hS.2.2 dX8_addArgument_11

theorem md_X17_compare_1 : (.constantLong RX17 38 (-9223372036854775808) : Cond) ∈ wsX17_compare := List.mem_of_getElem? (i := 1) rfl
set_option maxHeartbeats 4000000 in
set_option maxRecDepth 100000 in
theorem de_X17_compare (l : Launch) (dC : Nat → ClassId) (dI : Nat → Nat → Nat) (cy : Nat → ClassId) (a : Nat → Nat) (sh : Nat → Nat × Nat) (n sz : Nat) (F : Nat) (z : St) (x0 : Int64) (x1 : Int64) (x2 : Int64) (x3 : Int64) {z8 : St} {r8 : Int32} (hf : fn_X17_compare F sh n z x0 x1 x2 x3 = some (z8, r8)) : Met l yX17_compare wsX17_compare ({ frames := 0, cells := 0, slots := 0, locals := 0 }) (va_Pc [.long x0, .long x1, .long x2, .long x3] (fun U => U.heap.size = sz ∧ va_P (dC, dI) vwCl (Wd cy a sh n z) U.heap ∧ va_K (dC, dI) vwCl (TYS cy) U ∧ va_D (fun _ => True) (Wd cy a sh n z) ∧ NK U)) (va_Qi (fun (r9 : Int32) (u : Unit) => r9 = r8) (fun u t => va_P (dC, dI) vwCl (Wd cy a sh n z8) t.heap ∧ va_K (dC, dI) vwCl (TYS cy) t ∧ va_D (va_A (Wd cy a sh n z) sz) (Wd cy a sh n z8)) (va_A (Wd cy a sh n z) sz)) 0 0 (va_A (Wd cy a sh n z) sz) := by
  refine Met.ofW (cc := cX17_compare) (maxL := 8) (ret := (some .int)) (by decide) rfl ?_
  intro p e s m args below meth c s₁ B hml hv
  obtain ⟨rfl, hsz, hP, hK, hD0, hN⟩ := hv
  have hx := B.exec
  have hb := B.bytes
  have hr := B.returns
  have hts := atoms_spec (ws := wsX17_compare) B.pre
  have hown : s.vm.findClass RX17 = some m.cls := findClass_of_methodNamed B.named
  have hlocks := B.notSynchronized
  subst hsz
  have hD := hD0.self (sz := s.heap.size)
  clear hD0
  generalize hAe : va_A (Wd cy a sh n z) s.heap.size = A at hD ⊢
  have hA : ∀ q : Nat, s.heap.size ≤ q → A q := fun q h => by rw [← hAe]; exact Or.inr h
  clear hAe
  have hS : va_S A s.heap s.heap [] := va_S.rf
  have hl := lv_entry ([.long x0, .long x1, .long x2, .long x3]) (n := 8) (Nat.le_of_ble_eq_true rfl)
  rw [lg_entry_eq]
  generalize (lg_sl ([.long x0, .long x1, .long x2, .long x3]) ++ List.replicate (8 - (lg_sl ([.long x0, .long x1, .long x2, .long x3])).length) Slot.unset).toArray = ls at hl ⊢
  replace hl : lv_has ls 8 [(0, .long x0), (2, .long x1), (4, .long x2), (6, .long x3)] := hl
  unfold fn_X17_compare at hf
  refine de_start hS hP (fun H locs hS hP => ?_)
  refine lv_lload_n hx hb dX17_compare_0 rfl (lv_at hl 0 rfl) ?_
  refine lv_lload hx hb dX17_compare_1 (lv_at hl 2 rfl) ?_
  refine W.lcmp hx hb dX17_compare_3 ?_
  refine lv_if_eq (tgt := 28) hx hb dX17_compare_4 (by decide) (fun c_1 => ?_) (fun c_1 => ?_)
  · skip
    rw [lg_cmp_eq] at c_1
    rw [if_pos c_1] at hf
    refine lv_lload_n hx hb dX17_compare_28 rfl (lv_at hl 1 rfl) ?_
    refine lv_lload hx hb dX17_compare_29 (lv_at hl 3 rfl) ?_
    refine W.lcmp hx hb dX17_compare_31 ?_
    refine lv_if_ne (tgt := 39) hx hb dX17_compare_32 (by decide) (fun c_2 => ?_) (fun c_2 => ?_)
    · skip
      rw [lg_cmp_eq] at c_2
      rw [if_neg c_2] at hf
      refine lv_lload_n hx hb dX17_compare_39 rfl (lv_at hl 1 rfl) ?_
      refine lv_ldc2 hx hb hown (hts _ md_X17_compare_1) dX17_compare_40 ?_
      refine lv_ladd hx hb dX17_compare_43 ?_
      refine lv_lload hx hb dX17_compare_44 (lv_at hl 3 rfl) ?_
      refine lv_ldc2 hx hb hown (hts _ md_X17_compare_1) dX17_compare_46 ?_
      refine lv_ladd hx hb dX17_compare_49 ?_
      refine W.lcmp hx hb dX17_compare_50 ?_
      refine lv_if_ge (tgt := 58) hx hb dX17_compare_51 (by decide) (fun c_3 => ?_) (fun c_3 => ?_)
      · skip
        rw [lg_cmp_ge] at c_3
        rw [if_pos c_3] at hf
        refine lv_iconst (v := 1) hx hb dX17_compare_58 (by decide) ?_
        obtain ⟨h8, h9⟩ := ret_some hf
        rw [h8, h9]
        exact W.iret (v := 1) hx hb hr (fun t ht hW => ⟨⟨1, (), rfl, rfl, by rw [ht]; exact hP, va_K.moved hW.alike hK, hD⟩, hS.F ht⟩) hS.2.2 dX17_compare_59
      · skip
        rw [lg_cmp_ge] at c_3
        rw [if_neg c_3] at hf
        refine lv_iconst (v := (-1)) hx hb dX17_compare_54 (by decide) ?_
        refine lv_goto (tgt := 59) hx hb dX17_compare_55 (by decide) ?_
        obtain ⟨h8, h9⟩ := ret_some hf
        rw [h8, h9]
        exact W.iret (v := (-1)) hx hb hr (fun t ht hW => ⟨⟨(-1), (), rfl, rfl, by rw [ht]; exact hP, va_K.moved hW.alike hK, hD⟩, hS.F ht⟩) hS.2.2 dX17_compare_59
    · skip
      rw [lg_cmp_eq] at c_2
      rw [if_pos c_2] at hf
      refine lv_iconst (v := 0) hx hb dX17_compare_35 (by decide) ?_
      refine lv_goto (tgt := 59) hx hb dX17_compare_36 (by decide) ?_
      obtain ⟨h8, h9⟩ := ret_some hf
      rw [h8, h9]
      exact W.iret (v := 0) hx hb hr (fun t ht hW => ⟨⟨0, (), rfl, rfl, by rw [ht]; exact hP, va_K.moved hW.alike hK, hD⟩, hS.F ht⟩) hS.2.2 dX17_compare_59
  · skip
    rw [lg_cmp_eq] at c_1
    rw [if_neg c_1] at hf
    refine lv_lload_n hx hb dX17_compare_7 rfl (lv_at hl 0 rfl) ?_
    refine lv_ldc2 hx hb hown (hts _ md_X17_compare_1) dX17_compare_8 ?_
    refine lv_ladd hx hb dX17_compare_11 ?_
    refine lv_lload hx hb dX17_compare_12 (lv_at hl 2 rfl) ?_
    refine lv_ldc2 hx hb hown (hts _ md_X17_compare_1) dX17_compare_14 ?_
    refine lv_ladd hx hb dX17_compare_17 ?_
    refine W.lcmp hx hb dX17_compare_18 ?_
    refine lv_if_ge (tgt := 26) hx hb dX17_compare_19 (by decide) (fun c_4 => ?_) (fun c_4 => ?_)
    · skip
      rw [lg_cmp_ge] at c_4
      rw [if_pos c_4] at hf
      refine lv_iconst (v := 1) hx hb dX17_compare_26 (by decide) ?_
      obtain ⟨h8, h9⟩ := ret_some hf
      rw [h8, h9]
      exact W.iret (v := 1) hx hb hr (fun t ht hW => ⟨⟨1, (), rfl, rfl, by rw [ht]; exact hP, va_K.moved hW.alike hK, hD⟩, hS.F ht⟩) hS.2.2 dX17_compare_27
    · skip
      rw [lg_cmp_ge] at c_4
      rw [if_neg c_4] at hf
      refine lv_iconst (v := (-1)) hx hb dX17_compare_22 (by decide) ?_
      refine lv_goto (tgt := 27) hx hb dX17_compare_23 (by decide) ?_
      obtain ⟨h8, h9⟩ := ret_some hf
      rw [h8, h9]
      exact W.iret (v := (-1)) hx hb hr (fun t ht hW => ⟨⟨(-1), (), rfl, rfl, by rw [ht]; exact hP, va_K.moved hW.alike hK, hD⟩, hS.F ht⟩) hS.2.2 dX17_compare_27

theorem md_X6_readByte_1 : (.fieldLink RX6 21 "ResourceLedger$Reader" "fault" "I" : Cond) ∈ wsX6_readByte := List.mem_of_getElem? (i := 1) rfl
theorem iwd_X6_readByte_X6 : ∀ w ∈ wsX60, w ∈ wsX6_readByte := fun _ h => List.mem_cons_of_mem _ (List.mem_append_left _ (List.mem_append_right _ h))
theorem md_X6_readByte_2 : (.fieldLink RX6 32 "ResourceLedger$Reader" "at" "I" : Cond) ∈ wsX6_readByte := List.mem_of_getElem? (i := 2) rfl
theorem md_X6_readByte_3 : (.fieldLink RX6 17 "ResourceLedger$Reader" "p" "LResourceLedger$Program;" : Cond) ∈ wsX6_readByte := List.mem_of_getElem? (i := 3) rfl
theorem md_X6_readByte_4 : (.fieldLink RX6 73 "ResourceLedger$Program" "length" "I" : Cond) ∈ wsX6_readByte := List.mem_of_getElem? (i := 4) rfl
theorem iwd_X6_readByte_X5 : ∀ w ∈ wsX50, w ∈ wsX6_readByte := fun _ h => List.mem_cons_of_mem _ (List.mem_append_right _ h)
theorem md_X6_readByte_6 : (.fieldLink RX6 83 "ResourceLedger$Program" "bytes" "[B" : Cond) ∈ wsX6_readByte := List.mem_of_getElem? (i := 6) rfl
theorem md_X6_readByte_5 : (.fieldLink RX6 25 "ResourceLedger$Reader" "place" "I" : Cond) ∈ wsX6_readByte := List.mem_of_getElem? (i := 5) rfl
set_option maxHeartbeats 4000000 in
set_option maxRecDepth 100000 in
theorem de_X6_readByte (l : Launch) (dC : Nat → ClassId) (dI : Nat → Nat → Nat) (cy : Nat → ClassId) (a : Nat → Nat) (sh : Nat → Nat × Nat) (n sz : Nat) (F : Nat) (sk : Nat → Nat) (z : St) (h0 : Nat) {z8 : St} {r8 : Int32} (hf : fn_X6_readByte F sh n z h0 = some (z8, r8)) : Met l yX6_readByte wsX6_readByte ({ frames := 0, cells := 0, slots := 0, locals := 0 }) (va_Pc [.ref (a h0)] (fun U => U.heap.size = sz ∧ va_P (dC, dI) vwCl (Wd cy a sh n z) U.heap ∧ va_K (dC, dI) vwCl (TYS cy) U ∧ va_D (fun _ => True) (Wd cy a sh n z) ∧ NK U ∧ SKs sk (a CBK) (va_A (Wd cy a sh n z) sz) U U.heap)) (va_Qi (fun (r9 : Int32) (u : Unit) => r9 = r8) (fun u t => va_P (dC, dI) vwCl (Wd cy a sh n z8) t.heap ∧ va_K (dC, dI) vwCl (TYS cy) t ∧ va_D (va_A (Wd cy a sh n z) sz) (Wd cy a sh n z8)) (va_A (Wd cy a sh n z) sz)) 0 0 (va_A (Wd cy a sh n z) sz) := by
  refine Met.ofW (cc := cX6_readByte) (maxL := 1) (ret := (some .int)) (by decide) rfl ?_
  intro p e s m args below meth c s₁ B hml hv
  obtain ⟨rfl, hsz, hP, hK, hD0, hN, hSK⟩ := hv
  have hx := B.exec
  have hb := B.bytes
  have hr := B.returns
  have hts := atoms_spec (ws := wsX6_readByte) B.pre
  have hown : s.vm.findClass RX6 = some m.cls := findClass_of_methodNamed B.named
  have hlocks := B.notSynchronized
  subst hsz
  have hD := hD0.self (sz := s.heap.size)
  clear hD0
  generalize hAe : va_A (Wd cy a sh n z) s.heap.size = A at hD hSK ⊢
  have hA : ∀ q : Nat, s.heap.size ≤ q → A q := fun q h => by rw [← hAe]; exact Or.inr h
  clear hAe
  have hS : va_S A s.heap s.heap [] := va_S.rf
  have hl := lv_entry ([.ref (a h0)]) (n := 1) (Nat.le_of_ble_eq_true rfl)
  rw [lg_entry_eq]
  generalize (lg_sl ([.ref (a h0)]) ++ List.replicate (1 - (lg_sl ([.ref (a h0)])).length) Slot.unset).toArray = ls at hl ⊢
  replace hl : lv_has ls 1 [(0, .ref (a h0))] := hl
  unfold fn_X6_readByte at hf
  refine de_start hS hP (fun H locs hS hP => ?_)
  refine lv_aload_n hx hb dX6_readByte_0 rfl (lv_at hl 0 rfl) ?_
  obtain ⟨g_1, hf⟩ := grd_some hf
  obtain ⟨kg_1, sg_1⟩ := okO_at g_1
  refine va_get (D := (dC, dI)) (ci := 6) (v := .int (z.1 h0 1)) (C := RX6) (T := TX6) (N := 9) hx hb hts iwd_X6_readByte_X6 hown hK hP h0 (Wd_ob kg_1 sg_1 (by decide)) rfl 1 (by decide) (hts _ md_X6_readByte_1) (fun _ h9 => h9) (fl_at (t := 0) rfl) dX6_readByte_1 ?_
  refine lv_if_eq (tgt := 9) hx hb dX6_readByte_4 (by decide) (fun c_2 => ?_) (fun c_2 => ?_)
  · skip
    rw [if_pos c_2] at hf
    refine lv_aload_n hx hb dX6_readByte_9 rfl (lv_at hl 0 rfl) ?_
    refine va_get (D := (dC, dI)) (ci := 6) (v := .int (z.1 h0 3)) (C := RX6) (T := TX6) (N := 9) hx hb hts iwd_X6_readByte_X6 hown hK hP h0 (Wd_ob kg_1 sg_1 (by decide)) rfl 3 (by decide) (hts _ md_X6_readByte_2) (fun _ h9 => h9) (fl_at (t := 0) rfl) dX6_readByte_10 ?_
    refine lv_aload_n hx hb dX6_readByte_13 rfl (lv_at hl 0 rfl) ?_
    obtain ⟨k_3, ek_3, hf⟩ := lnk_some hf
    refine va_get (D := (dC, dI)) (ci := 6) (v := .ref (a k_3)) (C := RX6) (T := TX6) (N := 9) hx hb hts iwd_X6_readByte_X6 hown hK hP h0 (Wd_ob kg_1 sg_1 (by decide)) rfl 2 (by decide) (hts _ md_X6_readByte_3) (fun _ h9 => h9) (fl_q rfl ek_3) dX6_readByte_14 ?_
    obtain ⟨g_4, hf⟩ := grd_some hf
    obtain ⟨kg_4, sg_4⟩ := okO_at g_4
    refine va_get (D := (dC, dI)) (ci := 5) (v := .int (z.1 k_3 1)) (C := RX5) (T := TX5) (N := 15) hx hb hts iwd_X6_readByte_X5 hown hK hP k_3 (Wd_ob kg_4 sg_4 (by decide)) rfl 1 (by decide) (hts _ md_X6_readByte_4) (fun _ h9 => h9) (fl_at (t := 0) rfl) dX6_readByte_17 ?_
    refine lv_icmp_lt (tgt := 41) hx hb dX6_readByte_20 (by decide) (fun c_5 => ?_) (fun c_5 => ?_)
    · skip
      rw [if_pos c_5] at hf
      refine lv_aload_n hx hb dX6_readByte_41 rfl (lv_at hl 0 rfl) ?_
      obtain ⟨k_6, ek_6, hf⟩ := lnk_some hf
      refine va_get (D := (dC, dI)) (ci := 6) (v := .ref (a k_6)) (C := RX6) (T := TX6) (N := 9) hx hb hts iwd_X6_readByte_X6 hown hK hP h0 (Wd_ob kg_1 sg_1 (by decide)) rfl 2 (by decide) (hts _ md_X6_readByte_3) (fun _ h9 => h9) (fl_q rfl ek_6) dX6_readByte_42 ?_
      obtain ⟨g_7, hf⟩ := grd_some hf
      obtain ⟨kg_7, sg_7⟩ := okO_at g_7
      obtain ⟨k_8, ek_8, hf⟩ := lnk_some hf
      refine va_get (D := (dC, dI)) (ci := 5) (v := .ref (a k_8)) (C := RX5) (T := TX5) (N := 15) hx hb hts iwd_X6_readByte_X5 hown hK hP k_6 (Wd_ob kg_7 sg_7 (by decide)) rfl 0 (by decide) (hts _ md_X6_readByte_6) (fun _ h9 => h9) (fl_q rfl ek_8) dX6_readByte_45 ?_
      refine lv_aload_n hx hb dX6_readByte_48 rfl (lv_at hl 0 rfl) ?_
      refine lv_dup hx hb dX6_readByte_49 rfl ?_
      refine va_get (D := (dC, dI)) (ci := 6) (v := .int (z.1 h0 3)) (C := RX6) (T := TX6) (N := 9) hx hb hts iwd_X6_readByte_X6 hown hK hP h0 (Wd_ob kg_1 sg_1 (by decide)) rfl 3 (by decide) (hts _ md_X6_readByte_2) (fun _ h9 => h9) (fl_at (t := 0) rfl) dX6_readByte_50 ?_
      refine lv_topi (fun v_9 ev_9 => ?_)
      replace hf := lt_at ev_9 hf
      clear ev_9
      refine lv_dup_x1 hx hb dX6_readByte_53 rfl rfl ?_
      refine lv_iconst (v := 1) hx hb dX6_readByte_54 (by decide) ?_
      refine lv_iadd hx hb dX6_readByte_55 ?_
      refine va_put (D := (dC, dI)) (ci := 6) (v := .int (v_9 + 1)) (ty := .int) (C := RX6) (T := TX6) (N := 9) hx hb hts iwd_X6_readByte_X6 tyX6 tyX6_ok nmX6 hown hK hP hD hS h0 (Wd_ob kg_1 sg_1 (by decide)) rfl 3 (by decide) (hts _ md_X6_readByte_2) (fun _ h9 => h9) rfl (by decide +kernel) rfl rfl (by rw [fl_len]; decide) dX6_readByte_56 (fun H_10 locs hP2 hD2 hS2 => ?_)
      rw [Wd_si sg_1 (by decide) rfl] at hP2 hD2
      obtain ⟨z_11, ez_11⟩ : ∃ w, w = si z h0 3 (v_9 + 1) := ⟨_, rfl⟩
      rw [← ez_11] at hP2 hD2
      replace hf := lt_at ez_11 hf
      clear ez_11
      replace hP := hP2
      replace hD := hD2
      replace hS := hS2
      clear hP2 hD2 hS2
      obtain ⟨v_12, ev_12, hf⟩ := bnd_some hf
      refine de_rb hx hb hK hP hS hSK ev_12 dX6_readByte_59 ?_
      refine lv_sipush (v := 255) hx hb dX6_readByte_60 (by decide) ?_
      refine lv_iand hx hb dX6_readByte_63 ?_
      obtain ⟨h8, h9⟩ := ret_some hf
      rw [h8, h9]
      exact W.iret (v := (v_12 &&& 255)) hx hb hr (fun t ht hW => ⟨⟨(v_12 &&& 255), (), rfl, rfl, by rw [ht]; exact hP, va_K.moved hW.alike hK, hD⟩, hS.F ht⟩) hS.2.2 dX6_readByte_64
    · skip
      rw [if_neg c_5] at hf
      refine lv_aload_n hx hb dX6_readByte_23 rfl (lv_at hl 0 rfl) ?_
      refine lv_iconst (v := 2) hx hb dX6_readByte_24 (by decide) ?_
      refine va_put (D := (dC, dI)) (ci := 6) (v := .int 2) (ty := .int) (C := RX6) (T := TX6) (N := 9) hx hb hts iwd_X6_readByte_X6 tyX6 tyX6_ok nmX6 hown hK hP hD hS h0 (Wd_ob kg_1 sg_1 (by decide)) rfl 1 (by decide) (hts _ md_X6_readByte_1) (fun _ h9 => h9) rfl (by decide +kernel) rfl rfl (by rw [fl_len]; decide) dX6_readByte_25 (fun H_13 locs hP2 hD2 hS2 => ?_)
      rw [Wd_si sg_1 (by decide) rfl] at hP2 hD2
      obtain ⟨z_14, ez_14⟩ : ∃ w, w = si z h0 1 2 := ⟨_, rfl⟩
      rw [← ez_14] at hP2 hD2
      replace hf := lt_at ez_14 hf
      clear ez_14
      replace hP := hP2
      replace hD := hD2
      replace hS := hS2
      clear hP2 hD2 hS2
      refine lv_aload_n hx hb dX6_readByte_28 rfl (lv_at hl 0 rfl) ?_
      refine lv_aload_n hx hb dX6_readByte_29 rfl (lv_at hl 0 rfl) ?_
      obtain ⟨k_15, ek_15, hf⟩ := lnk_some hf
      refine va_get (D := (dC, dI)) (ci := 6) (v := .ref (a k_15)) (C := RX6) (T := TX6) (N := 9) hx hb hts iwd_X6_readByte_X6 hown hK hP h0 (Wd_ob kg_1 sg_1 (by decide)) rfl 2 (by decide) (hts _ md_X6_readByte_3) (fun _ h9 => h9) (fl_q rfl ek_15) dX6_readByte_30 ?_
      obtain ⟨g_16, hf⟩ := grd_some hf
      obtain ⟨kg_16, sg_16⟩ := okO_at g_16
      refine va_get (D := (dC, dI)) (ci := 5) (v := .int (z_14.1 k_15 1)) (C := RX5) (T := TX5) (N := 15) hx hb hts iwd_X6_readByte_X5 hown hK hP k_15 (Wd_ob kg_16 sg_16 (by decide)) rfl 1 (by decide) (hts _ md_X6_readByte_4) (fun _ h9 => h9) (fl_at (t := 0) rfl) dX6_readByte_33 ?_
      refine va_put (D := (dC, dI)) (ci := 6) (v := .int (z_14.1 k_15 1)) (ty := .int) (C := RX6) (T := TX6) (N := 9) hx hb hts iwd_X6_readByte_X6 tyX6 tyX6_ok nmX6 hown hK hP hD hS h0 (Wd_ob kg_1 sg_1 (by decide)) rfl 0 (by decide) (hts _ md_X6_readByte_5) (fun _ h9 => h9) rfl (by decide +kernel) rfl rfl (by rw [fl_len]; decide) dX6_readByte_36 (fun H_17 locs hP2 hD2 hS2 => ?_)
      rw [Wd_si sg_1 (by decide) rfl] at hP2 hD2
      obtain ⟨z_18, ez_18⟩ : ∃ w, w = si z_14 h0 0 (z_14.1 k_15 1) := ⟨_, rfl⟩
      rw [← ez_18] at hP2 hD2
      replace hf := lt_at ez_18 hf
      clear ez_18
      replace hP := hP2
      replace hD := hD2
      replace hS := hS2
      clear hP2 hD2 hS2
      refine lv_iconst (v := 0) hx hb dX6_readByte_39 (by decide) ?_
      obtain ⟨h8, h9⟩ := ret_some hf
      rw [h8, h9]
      exact W.iret (v := 0) hx hb hr (fun t ht hW => ⟨⟨0, (), rfl, rfl, by rw [ht]; exact hP, va_K.moved hW.alike hK, hD⟩, hS.F ht⟩) hS.2.2 dX6_readByte_40
  · skip
    rw [if_neg c_2] at hf
    refine lv_iconst (v := 0) hx hb dX6_readByte_7 (by decide) ?_
    obtain ⟨h8, h9⟩ := ret_some hf
    rw [h8, h9]
    exact W.iret (v := 0) hx hb hr (fun t ht hW => ⟨⟨0, (), rfl, rfl, by rw [ht]; exact hP, va_K.moved hW.alike hK, hD⟩, hS.F ht⟩) hS.2.2 dX6_readByte_8

theorem md_X7_findResource_1 : (.fieldLink RX7 37 "ResourceLedger$State" "nodeCount" "[I" : Cond) ∈ wsX7_findResource := List.mem_of_getElem? (i := 1) rfl
theorem iwd_X7_findResource_X7 : ∀ w ∈ wsX70, w ∈ wsX7_findResource := fun _ h => List.mem_cons_of_mem _ (List.mem_append_right _ h)
theorem md_X7_findResource_2 : (.fieldLink RX7 27 "ResourceLedger$State" "resourceAddress" "[J" : Cond) ∈ wsX7_findResource := List.mem_of_getElem? (i := 2) rfl
theorem md_X7_findResource_3 : (.fieldLink RX7 30 "ResourceLedger$State" "resourceModule" "[I" : Cond) ∈ wsX7_findResource := List.mem_of_getElem? (i := 3) rfl
theorem md_X7_findResource_4 : (.fieldLink RX7 34 "ResourceLedger$State" "resourceStructure" "[I" : Cond) ∈ wsX7_findResource := List.mem_of_getElem? (i := 4) rfl
set_option maxHeartbeats 4000000 in
set_option maxRecDepth 100000 in
theorem de_X7_findResource (l : Launch) (dC : Nat → ClassId) (dI : Nat → Nat → Nat) (cy : Nat → ClassId) (a : Nat → Nat) (sh : Nat → Nat × Nat) (n sz : Nat) (F : Nat) (z : St) (h0 : Nat) (x0 : Int64) (x1 : Int32) (x2 : Int32) {z8 : St} {r8 : Int32} (hf : fn_X7_findResource F sh n z h0 x0 x1 x2 = some (z8, r8)) : Met l yX7_findResource wsX7_findResource ({ frames := 0, cells := 0, slots := 0, locals := 0 }) (va_Pc [.ref (a h0), .long x0, .int x1, .int x2] (fun U => U.heap.size = sz ∧ va_P (dC, dI) vwCl (Wd cy a sh n z) U.heap ∧ va_K (dC, dI) vwCl (TYS cy) U ∧ va_D (fun _ => True) (Wd cy a sh n z) ∧ NK U)) (va_Qi (fun (r9 : Int32) (u : Unit) => r9 = r8) (fun u t => va_P (dC, dI) vwCl (Wd cy a sh n z8) t.heap ∧ va_K (dC, dI) vwCl (TYS cy) t ∧ va_D (va_A (Wd cy a sh n z) sz) (Wd cy a sh n z8)) (va_A (Wd cy a sh n z) sz)) 0 0 (va_A (Wd cy a sh n z) sz) := by
  refine Met.ofW (cc := cX7_findResource) (maxL := 6) (ret := (some .int)) (by decide) rfl ?_
  intro p e s m args below meth c s₁ B hml hv
  obtain ⟨rfl, hsz, hP, hK, hD0, hN⟩ := hv
  have hx := B.exec
  have hb := B.bytes
  have hr := B.returns
  have hts := atoms_spec (ws := wsX7_findResource) B.pre
  have hown : s.vm.findClass RX7 = some m.cls := findClass_of_methodNamed B.named
  have hlocks := B.notSynchronized
  subst hsz
  have hD := hD0.self (sz := s.heap.size)
  clear hD0
  generalize hAe : va_A (Wd cy a sh n z) s.heap.size = A at hD ⊢
  have hA : ∀ q : Nat, s.heap.size ≤ q → A q := fun q h => by rw [← hAe]; exact Or.inr h
  clear hAe
  have hS : va_S A s.heap s.heap [] := va_S.rf
  have hl := lv_entry ([.ref (a h0), .long x0, .int x1, .int x2]) (n := 6) (Nat.le_of_ble_eq_true rfl)
  rw [lg_entry_eq]
  generalize (lg_sl ([.ref (a h0), .long x0, .int x1, .int x2]) ++ List.replicate (6 - (lg_sl ([.ref (a h0), .long x0, .int x1, .int x2])).length) Slot.unset).toArray = ls at hl ⊢
  replace hl : lv_has ls 6 [(0, .ref (a h0)), (1, .long x0), (3, .int x1), (4, .int x2)] := hl
  unfold fn_X7_findResource at hf
  refine de_start hS hP (fun H locs hS hP => ?_)
  refine lv_iconst (v := 0) hx hb dX7_findResource_0 (by decide) ?_
  refine lv_istore (lv' := [(5, .int 0), (0, .ref (a h0)), (1, .long x0), (3, .int x1), (4, .int x2)]) hx hb dX7_findResource_1 hl (by decide) rfl (fun ls hl2 => ?_)
  replace hl := hl2
  clear hl2
  have hl0 : lv_has ls 6 [(5, .int 0), (0, .ref (a h0)), (1, .long x0), (3, .int x1), (4, .int x2)] := lv_sub hl [0, 1, 2, 3, 4] rfl
  refine de_loop (h := 3) (fun (x : St × Int32) ls H locs => lv_has ls 6 [(5, .int x.2), (0, .ref (a h0)), (1, .long x0), (3, .int x1), (4, .int x2)] ∧ va_P (dC, dI) vwCl (Wd cy a sh n x.1) H ∧ va_D A (Wd cy a sh n x.1) ∧ va_S A s.heap H locs) (fun f x => fn_X7_findResource_L3 F sh n h0 x0 x1 x2 f x.1 x.2) (z8, r8) ?_ (fun _ => rfl) F (z, 0) ls H locs ⟨hl0, hP, hD, hS⟩ hf
  intro f_3 x ls H locs ih3 hI hf
  obtain ⟨z_2, p_1⟩ := x
  obtain ⟨hl2, hP2, hD2, hS2⟩ := hI
  replace hl : lv_has ls 6 [(5, .int p_1), (0, .ref (a h0)), (1, .long x0), (3, .int x1), (4, .int x2)] := hl2
  replace hP := hP2
  replace hD := hD2
  replace hS := hS2
  clear hl2 hP2 hD2 hS2 hl0
  replace hf := fn_X7_findResource_L3_s hf
  refine lv_iload hx hb dX7_findResource_3 (lv_at hl 0 rfl) ?_
  refine lv_sipush (v := 256) hx hb dX7_findResource_5 (by decide) ?_
  refine lv_icmp_ge (tgt := 65) hx hb dX7_findResource_8 (by decide) (fun c_4 => ?_) (fun c_4 => ?_)
  · skip
    rw [if_pos c_4] at hf
    refine lv_iconst (v := (-1)) hx hb dX7_findResource_65 (by decide) ?_
    obtain ⟨h8, h9⟩ := ret_some hf
    rw [h8, h9]
    exact W.iret (v := (-1)) hx hb hr (fun t ht hW => ⟨⟨(-1), (), rfl, rfl, by rw [ht]; exact hP, va_K.moved hW.alike hK, hD⟩, hS.F ht⟩) hS.2.2 dX7_findResource_66
  · skip
    rw [if_neg c_4] at hf
    refine lv_aload_n hx hb dX7_findResource_11 rfl (lv_at hl 1 rfl) ?_
    obtain ⟨g_5, hf⟩ := grd_some hf
    obtain ⟨kg_5, sg_5⟩ := okO_at g_5
    obtain ⟨k_6, ek_6, hf⟩ := lnk_some hf
    refine va_get (D := (dC, dI)) (ci := 7) (v := .ref (a k_6)) (C := RX7) (T := TX7) (N := 16) hx hb hts iwd_X7_findResource_X7 hown hK hP h0 (Wd_ob kg_5 sg_5 (by decide)) rfl 9 (by decide) (hts _ md_X7_findResource_1) (fun _ h9 => h9) (fl_q rfl ek_6) dX7_findResource_12 ?_
    refine lv_iload hx hb dX7_findResource_15 (lv_at hl 0 rfl) ?_
    obtain ⟨g_7, hf⟩ := grd_some hf
    obtain ⟨kg_7, sg_7, ig_7⟩ := okA_at g_7
    refine va_iald hx hb hK hP k_6 1 (Wd_ai kg_7 sg_7) rfl ig_7 dX7_findResource_17 ?_
    refine de_cut (h := 59) (fun (x : St) => []) (fun x ls H locs => lv_has ls 6 [(5, .int p_1), (0, .ref (a h0)), (1, .long x0), (3, .int x1), (4, .int x2)] ∧ va_P (dC, dI) vwCl (Wd cy a sh n x) H ∧ va_D A (Wd cy a sh n x) ∧ va_S A s.heap H locs) (fun x => fn_X7_findResource_B59 F sh n p_1 (fun z9 q5 => fn_X7_findResource_L3 F sh n h0 x0 x1 x2 f_3 z9 q5) x) (z8, r8) ?_ (fun B59 => ?_)
    · intro x ls H locs hI hf
      obtain ⟨z_8, ez⟩ : ∃ w, w = x := ⟨_, rfl⟩
      subst ez
      obtain ⟨hl2, hP2, hD2, hS2⟩ := hI
      replace hl : lv_has ls 6 [(5, .int p_1), (0, .ref (a h0)), (1, .long x0), (3, .int x1), (4, .int x2)] := hl2
      replace hP := hP2
      replace hD := hD2
      replace hS := hS2
      clear hl2 hP2 hD2 hS2
      replace hf := fn_X7_findResource_B59_s hf
      refine W.eq (g2 := F0 m 59 ls []) rfl ?_
      refine lv_iinc (v := (p_1 + 1)) (lv' := [(5, .int (p_1 + 1)), (0, .ref (a h0)), (1, .long x0), (3, .int x1), (4, .int x2)]) hx hb dX7_findResource_59 hl (k := 0) rfl rfl (by decide) rfl (fun ls hl2 => ?_)
      replace hl := hl2
      clear hl2
      refine lv_goto (tgt := 3) hx hb dX7_findResource_62 (by decide) ?_
      exact ih3 (z_8, (p_1 + 1)) ls H locs ⟨lv_sub hl [0, 1, 2, 3, 4] rfl, hP, hD, hS⟩ hf
    refine lv_if_le (tgt := 59) hx hb dX7_findResource_18 (by decide) (fun c_9 => ?_) (fun c_9 => ?_)
    · skip
      rw [if_pos c_9] at hf
      exact B59 (z_2) ls H locs ⟨lv_sub hl [0, 1, 2, 3, 4] rfl, hP, hD, hS⟩ hf
    · skip
      rw [if_neg c_9] at hf
      refine lv_aload_n hx hb dX7_findResource_21 rfl (lv_at hl 1 rfl) ?_
      obtain ⟨k_10, ek_10, hf⟩ := lnk_some hf
      refine va_get (D := (dC, dI)) (ci := 7) (v := .ref (a k_10)) (C := RX7) (T := TX7) (N := 16) hx hb hts iwd_X7_findResource_X7 hown hK hP h0 (Wd_ob kg_5 sg_5 (by decide)) rfl 6 (by decide) (hts _ md_X7_findResource_2) (fun _ h9 => h9) (fl_q rfl ek_10) dX7_findResource_22 ?_
      refine lv_iload hx hb dX7_findResource_25 (lv_at hl 0 rfl) ?_
      obtain ⟨g_11, hf⟩ := grd_some hf
      obtain ⟨kg_11, sg_11, ig_11⟩ := okA_at g_11
      refine va_lald hx hb hK hP k_10 2 (Wd_al kg_11 sg_11) rfl ig_11 dX7_findResource_27 ?_
      refine lv_lload_n hx hb dX7_findResource_28 rfl (lv_at hl 2 rfl) ?_
      refine W.lcmp hx hb dX7_findResource_29 ?_
      refine lv_if_ne (tgt := 59) hx hb dX7_findResource_30 (by decide) (fun c_12 => ?_) (fun c_12 => ?_)
      · skip
        rw [lg_cmp_eq] at c_12
        rw [if_neg c_12] at hf
        exact B59 (z_2) ls H locs ⟨lv_sub hl [0, 1, 2, 3, 4] rfl, hP, hD, hS⟩ hf
      · skip
        rw [lg_cmp_eq] at c_12
        rw [if_pos c_12] at hf
        refine lv_aload_n hx hb dX7_findResource_33 rfl (lv_at hl 1 rfl) ?_
        obtain ⟨k_13, ek_13, hf⟩ := lnk_some hf
        refine va_get (D := (dC, dI)) (ci := 7) (v := .ref (a k_13)) (C := RX7) (T := TX7) (N := 16) hx hb hts iwd_X7_findResource_X7 hown hK hP h0 (Wd_ob kg_5 sg_5 (by decide)) rfl 7 (by decide) (hts _ md_X7_findResource_3) (fun _ h9 => h9) (fl_q rfl ek_13) dX7_findResource_34 ?_
        refine lv_iload hx hb dX7_findResource_37 (lv_at hl 0 rfl) ?_
        obtain ⟨g_14, hf⟩ := grd_some hf
        obtain ⟨kg_14, sg_14, ig_14⟩ := okA_at g_14
        refine va_iald hx hb hK hP k_13 1 (Wd_ai kg_14 sg_14) rfl ig_14 dX7_findResource_39 ?_
        refine lv_iload_n hx hb dX7_findResource_40 rfl (lv_at hl 3 rfl) ?_
        refine lv_icmp_ne (tgt := 59) hx hb dX7_findResource_41 (by decide) (fun c_15 => ?_) (fun c_15 => ?_)
        · skip
          rw [if_neg c_15] at hf
          exact B59 (z_2) ls H locs ⟨lv_sub hl [0, 1, 2, 3, 4] rfl, hP, hD, hS⟩ hf
        · skip
          rw [if_pos c_15] at hf
          refine lv_aload_n hx hb dX7_findResource_44 rfl (lv_at hl 1 rfl) ?_
          obtain ⟨k_16, ek_16, hf⟩ := lnk_some hf
          refine va_get (D := (dC, dI)) (ci := 7) (v := .ref (a k_16)) (C := RX7) (T := TX7) (N := 16) hx hb hts iwd_X7_findResource_X7 hown hK hP h0 (Wd_ob kg_5 sg_5 (by decide)) rfl 8 (by decide) (hts _ md_X7_findResource_4) (fun _ h9 => h9) (fl_q rfl ek_16) dX7_findResource_45 ?_
          refine lv_iload hx hb dX7_findResource_48 (lv_at hl 0 rfl) ?_
          obtain ⟨g_17, hf⟩ := grd_some hf
          obtain ⟨kg_17, sg_17, ig_17⟩ := okA_at g_17
          refine va_iald hx hb hK hP k_16 1 (Wd_ai kg_17 sg_17) rfl ig_17 dX7_findResource_50 ?_
          refine lv_iload hx hb dX7_findResource_51 (lv_at hl 4 rfl) ?_
          refine lv_icmp_ne (tgt := 59) hx hb dX7_findResource_53 (by decide) (fun c_18 => ?_) (fun c_18 => ?_)
          · skip
            rw [if_neg c_18] at hf
            exact B59 (z_2) ls H locs ⟨lv_sub hl [0, 1, 2, 3, 4] rfl, hP, hD, hS⟩ hf
          · skip
            rw [if_pos c_18] at hf
            refine lv_iload hx hb dX7_findResource_56 (lv_at hl 0 rfl) ?_
            obtain ⟨h8, h9⟩ := ret_some hf
            rw [h8, h9]
            exact W.iret (v := p_1) hx hb hr (fun t ht hW => ⟨⟨p_1, (), rfl, rfl, by rw [ht]; exact hP, va_K.moved hW.alike hK, hD⟩, hS.F ht⟩) hS.2.2 dX7_findResource_58

theorem md_X18_add_1 : (.fieldLink RX18 626 "ResourceLedgerModel" "count" "I" : Cond) ∈ wsX18_add := List.mem_of_getElem? (i := 1) rfl
theorem iwd_X18_add_X18 : ∀ w ∈ wsX180, w ∈ wsX18_add := fun _ h => List.mem_cons_of_mem _ (List.mem_append_right _ h)
theorem md_X18_add_2 : (.fieldLink RX18 538 "ResourceLedgerModel" "sorts" "[I" : Cond) ∈ wsX18_add := List.mem_of_getElem? (i := 2) rfl
theorem md_X18_add_3 : (.fieldLink RX18 541 "ResourceLedgerModel" "senders" "[J" : Cond) ∈ wsX18_add := List.mem_of_getElem? (i := 3) rfl
theorem md_X18_add_4 : (.fieldLink RX18 544 "ResourceLedgerModel" "turns" "[J" : Cond) ∈ wsX18_add := List.mem_of_getElem? (i := 4) rfl
theorem md_X18_add_5 : (.fieldLink RX18 547 "ResourceLedgerModel" "limits" "[I" : Cond) ∈ wsX18_add := List.mem_of_getElem? (i := 5) rfl
theorem md_X18_add_6 : (.fieldLink RX18 556 "ResourceLedgerModel" "argumentCounts" "[I" : Cond) ∈ wsX18_add := List.mem_of_getElem? (i := 6) rfl
set_option maxHeartbeats 4000000 in
set_option maxRecDepth 100000 in
theorem de_X18_add (l : Launch) (dC : Nat → ClassId) (dI : Nat → Nat → Nat) (cy : Nat → ClassId) (a : Nat → Nat) (sh : Nat → Nat × Nat) (n sz : Nat) (F : Nat) (z : St) (h0 : Nat) (x0 : Int32) (x1 : Int64) (x2 : Int64) (x3 : Int32) {z8 : St} {r8 : Int32} (hf : fn_X18_add F sh n z h0 x0 x1 x2 x3 = some (z8, r8)) : Met l yX18_add wsX18_add ({ frames := 0, cells := 0, slots := 0, locals := 0 }) (va_Pc [.ref (a h0), .int x0, .long x1, .long x2, .int x3] (fun U => U.heap.size = sz ∧ va_P (dC, dI) vwCl (Wd cy a sh n z) U.heap ∧ va_K (dC, dI) vwCl (TYS cy) U ∧ va_D (fun _ => True) (Wd cy a sh n z) ∧ NK U)) (va_Qi (fun (r9 : Int32) (u : Unit) => r9 = r8) (fun u t => va_P (dC, dI) vwCl (Wd cy a sh n z8) t.heap ∧ va_K (dC, dI) vwCl (TYS cy) t ∧ va_D (va_A (Wd cy a sh n z) sz) (Wd cy a sh n z8)) (va_A (Wd cy a sh n z) sz)) 0 0 (va_A (Wd cy a sh n z) sz) := by
  refine Met.ofW (cc := cX18_add) (maxL := 8) (ret := (some .int)) (by decide) rfl ?_
  intro p e s m args below meth c s₁ B hml hv
  obtain ⟨rfl, hsz, hP, hK, hD0, hN⟩ := hv
  have hx := B.exec
  have hb := B.bytes
  have hr := B.returns
  have hts := atoms_spec (ws := wsX18_add) B.pre
  have hown : s.vm.findClass RX18 = some m.cls := findClass_of_methodNamed B.named
  have hlocks := B.notSynchronized
  subst hsz
  have hD := hD0.self (sz := s.heap.size)
  clear hD0
  generalize hAe : va_A (Wd cy a sh n z) s.heap.size = A at hD ⊢
  have hA : ∀ q : Nat, s.heap.size ≤ q → A q := fun q h => by rw [← hAe]; exact Or.inr h
  clear hAe
  have hS : va_S A s.heap s.heap [] := va_S.rf
  have hl := lv_entry ([.ref (a h0), .int x0, .long x1, .long x2, .int x3]) (n := 8) (Nat.le_of_ble_eq_true rfl)
  rw [lg_entry_eq]
  generalize (lg_sl ([.ref (a h0), .int x0, .long x1, .long x2, .int x3]) ++ List.replicate (8 - (lg_sl ([.ref (a h0), .int x0, .long x1, .long x2, .int x3])).length) Slot.unset).toArray = ls at hl ⊢
  replace hl : lv_has ls 8 [(0, .ref (a h0)), (1, .int x0), (2, .long x1), (4, .long x2), (6, .int x3)] := hl
  unfold fn_X18_add at hf
  refine de_start hS hP (fun H locs hS hP => ?_)
  refine lv_aload_n hx hb dX18_add_0 rfl (lv_at hl 0 rfl) ?_
  obtain ⟨g_1, hf⟩ := grd_some hf
  obtain ⟨kg_1, sg_1⟩ := okO_at g_1
  refine va_get (D := (dC, dI)) (ci := 18) (v := .int (z.1 h0 52)) (C := RX18) (T := TX18) (N := 78) hx hb hts iwd_X18_add_X18 hown hK hP h0 (Wd_ob kg_1 sg_1 (by decide)) rfl 52 (by decide) (hts _ md_X18_add_1) (fun _ h9 => h9) (fl_at (t := 0) rfl) dX18_add_1 ?_
  refine lv_topi (fun v_2 ev_2 => ?_)
  replace hf := lt_at ev_2 hf
  clear ev_2
  refine lv_istore (lv' := [(7, .int v_2), (0, .ref (a h0)), (1, .int x0), (2, .long x1), (4, .long x2), (6, .int x3)]) hx hb dX18_add_4 hl (by decide) rfl (fun ls hl2 => ?_)
  replace hl := hl2
  clear hl2
  refine lv_aload_n hx hb dX18_add_6 rfl (lv_at hl 1 rfl) ?_
  refine lv_dup hx hb dX18_add_7 rfl ?_
  refine va_get (D := (dC, dI)) (ci := 18) (v := .int (z.1 h0 52)) (C := RX18) (T := TX18) (N := 78) hx hb hts iwd_X18_add_X18 hown hK hP h0 (Wd_ob kg_1 sg_1 (by decide)) rfl 52 (by decide) (hts _ md_X18_add_1) (fun _ h9 => h9) (fl_at (t := 0) rfl) dX18_add_8 ?_
  refine lv_iconst (v := 1) hx hb dX18_add_11 (by decide) ?_
  refine lv_iadd hx hb dX18_add_12 ?_
  refine va_put (D := (dC, dI)) (ci := 18) (v := .int ((z.1 h0 52) + 1)) (ty := .int) (C := RX18) (T := TX18) (N := 78) hx hb hts iwd_X18_add_X18 tyX18 tyX18_ok nmX18 hown hK hP hD hS h0 (Wd_ob kg_1 sg_1 (by decide)) rfl 52 (by decide) (hts _ md_X18_add_1) (fun _ h9 => h9) rfl (by decide +kernel) rfl rfl (by rw [fl_len]; decide) dX18_add_13 (fun H_3 locs hP2 hD2 hS2 => ?_)
  rw [Wd_si sg_1 (by decide) rfl] at hP2 hD2
  obtain ⟨z_4, ez_4⟩ : ∃ w, w = si z h0 52 ((z.1 h0 52) + 1) := ⟨_, rfl⟩
  rw [← ez_4] at hP2 hD2
  replace hf := lt_at ez_4 hf
  clear ez_4
  replace hP := hP2
  replace hD := hD2
  replace hS := hS2
  clear hP2 hD2 hS2
  refine lv_aload_n hx hb dX18_add_16 rfl (lv_at hl 1 rfl) ?_
  obtain ⟨k_5, ek_5, hf⟩ := lnk_some hf
  refine va_get (D := (dC, dI)) (ci := 18) (v := .ref (a k_5)) (C := RX18) (T := TX18) (N := 78) hx hb hts iwd_X18_add_X18 hown hK hP h0 (Wd_ob kg_1 sg_1 (by decide)) rfl 54 (by decide) (hts _ md_X18_add_2) (fun _ h9 => h9) (fl_q rfl ek_5) dX18_add_17 ?_
  refine lv_iload hx hb dX18_add_20 (lv_at hl 0 rfl) ?_
  refine lv_iload_n hx hb dX18_add_22 rfl (lv_at hl 2 rfl) ?_
  obtain ⟨g_6, hf⟩ := grd_some hf
  obtain ⟨kg_6, sg_6, ig_6⟩ := okA_at g_6
  refine va_iast hx hb hK hP hD hS k_5 1 (Wd_ai kg_6 sg_6) rfl ig_6 dX18_add_23 (fun H_7 locs hP2 hD2 hS2 => ?_)
  rw [Wd_ti sg_6] at hP2 hD2
  obtain ⟨z_8, ez_8⟩ : ∃ w, w = si z_4 k_5 v_2.toNatClampNeg x0 := ⟨_, rfl⟩
  rw [← ez_8] at hP2 hD2
  replace hf := lt_at ez_8 hf
  clear ez_8
  replace hP := hP2
  replace hD := hD2
  replace hS := hS2
  clear hP2 hD2 hS2
  refine lv_aload_n hx hb dX18_add_24 rfl (lv_at hl 1 rfl) ?_
  obtain ⟨k_9, ek_9, hf⟩ := lnk_some hf
  refine va_get (D := (dC, dI)) (ci := 18) (v := .ref (a k_9)) (C := RX18) (T := TX18) (N := 78) hx hb hts iwd_X18_add_X18 hown hK hP h0 (Wd_ob kg_1 sg_1 (by decide)) rfl 55 (by decide) (hts _ md_X18_add_3) (fun _ h9 => h9) (fl_q rfl ek_9) dX18_add_25 ?_
  refine lv_iload hx hb dX18_add_28 (lv_at hl 0 rfl) ?_
  refine lv_lload_n hx hb dX18_add_30 rfl (lv_at hl 3 rfl) ?_
  obtain ⟨g_10, hf⟩ := grd_some hf
  obtain ⟨kg_10, sg_10, ig_10⟩ := okA_at g_10
  refine va_last hx hb hK hP hD hS k_9 2 (Wd_al kg_10 sg_10) rfl ig_10 dX18_add_31 (fun H_11 locs hP2 hD2 hS2 => ?_)
  rw [Wd_tl sg_10] at hP2 hD2
  obtain ⟨z_12, ez_12⟩ : ∃ w, w = sl z_8 k_9 v_2.toNatClampNeg x1 := ⟨_, rfl⟩
  rw [← ez_12] at hP2 hD2
  replace hf := lt_at ez_12 hf
  clear ez_12
  replace hP := hP2
  replace hD := hD2
  replace hS := hS2
  clear hP2 hD2 hS2
  refine lv_aload_n hx hb dX18_add_32 rfl (lv_at hl 1 rfl) ?_
  obtain ⟨k_13, ek_13, hf⟩ := lnk_some hf
  refine va_get (D := (dC, dI)) (ci := 18) (v := .ref (a k_13)) (C := RX18) (T := TX18) (N := 78) hx hb hts iwd_X18_add_X18 hown hK hP h0 (Wd_ob kg_1 sg_1 (by decide)) rfl 56 (by decide) (hts _ md_X18_add_4) (fun _ h9 => h9) (fl_q rfl ek_13) dX18_add_33 ?_
  refine lv_iload hx hb dX18_add_36 (lv_at hl 0 rfl) ?_
  refine lv_lload hx hb dX18_add_38 (lv_at hl 4 rfl) ?_
  obtain ⟨g_14, hf⟩ := grd_some hf
  obtain ⟨kg_14, sg_14, ig_14⟩ := okA_at g_14
  refine va_last hx hb hK hP hD hS k_13 2 (Wd_al kg_14 sg_14) rfl ig_14 dX18_add_40 (fun H_15 locs hP2 hD2 hS2 => ?_)
  rw [Wd_tl sg_14] at hP2 hD2
  obtain ⟨z_16, ez_16⟩ : ∃ w, w = sl z_12 k_13 v_2.toNatClampNeg x2 := ⟨_, rfl⟩
  rw [← ez_16] at hP2 hD2
  replace hf := lt_at ez_16 hf
  clear ez_16
  replace hP := hP2
  replace hD := hD2
  replace hS := hS2
  clear hP2 hD2 hS2
  refine lv_aload_n hx hb dX18_add_41 rfl (lv_at hl 1 rfl) ?_
  obtain ⟨k_17, ek_17, hf⟩ := lnk_some hf
  refine va_get (D := (dC, dI)) (ci := 18) (v := .ref (a k_17)) (C := RX18) (T := TX18) (N := 78) hx hb hts iwd_X18_add_X18 hown hK hP h0 (Wd_ob kg_1 sg_1 (by decide)) rfl 57 (by decide) (hts _ md_X18_add_5) (fun _ h9 => h9) (fl_q rfl ek_17) dX18_add_42 ?_
  refine lv_iload hx hb dX18_add_45 (lv_at hl 0 rfl) ?_
  refine lv_iload hx hb dX18_add_47 (lv_at hl 5 rfl) ?_
  obtain ⟨g_18, hf⟩ := grd_some hf
  obtain ⟨kg_18, sg_18, ig_18⟩ := okA_at g_18
  refine va_iast hx hb hK hP hD hS k_17 1 (Wd_ai kg_18 sg_18) rfl ig_18 dX18_add_49 (fun H_19 locs hP2 hD2 hS2 => ?_)
  rw [Wd_ti sg_18] at hP2 hD2
  obtain ⟨z_20, ez_20⟩ : ∃ w, w = si z_16 k_17 v_2.toNatClampNeg x3 := ⟨_, rfl⟩
  rw [← ez_20] at hP2 hD2
  replace hf := lt_at ez_20 hf
  clear ez_20
  replace hP := hP2
  replace hD := hD2
  replace hS := hS2
  clear hP2 hD2 hS2
  refine lv_aload_n hx hb dX18_add_50 rfl (lv_at hl 1 rfl) ?_
  obtain ⟨k_21, ek_21, hf⟩ := lnk_some hf
  refine va_get (D := (dC, dI)) (ci := 18) (v := .ref (a k_21)) (C := RX18) (T := TX18) (N := 78) hx hb hts iwd_X18_add_X18 hown hK hP h0 (Wd_ob kg_1 sg_1 (by decide)) rfl 60 (by decide) (hts _ md_X18_add_6) (fun _ h9 => h9) (fl_q rfl ek_21) dX18_add_51 ?_
  refine lv_iload hx hb dX18_add_54 (lv_at hl 0 rfl) ?_
  refine lv_iconst (v := 0) hx hb dX18_add_56 (by decide) ?_
  obtain ⟨g_22, hf⟩ := grd_some hf
  obtain ⟨kg_22, sg_22, ig_22⟩ := okA_at g_22
  refine va_iast hx hb hK hP hD hS k_21 1 (Wd_ai kg_22 sg_22) rfl ig_22 dX18_add_57 (fun H_23 locs hP2 hD2 hS2 => ?_)
  rw [Wd_ti sg_22] at hP2 hD2
  obtain ⟨z_24, ez_24⟩ : ∃ w, w = si z_20 k_21 v_2.toNatClampNeg 0 := ⟨_, rfl⟩
  rw [← ez_24] at hP2 hD2
  replace hf := lt_at ez_24 hf
  clear ez_24
  replace hP := hP2
  replace hD := hD2
  replace hS := hS2
  clear hP2 hD2 hS2
  refine lv_iload hx hb dX18_add_58 (lv_at hl 0 rfl) ?_
  obtain ⟨h8, h9⟩ := ret_some hf
  rw [h8, h9]
  exact W.iret (v := v_2) hx hb hr (fun t ht hW => ⟨⟨v_2, (), rfl, rfl, by rw [ht]; exact hP, va_K.moved hW.alike hK, hD⟩, hS.F ht⟩) hS.2.2 dX18_add_60

theorem md_X10_shiftDown_2 : (.fieldLink RX10 21 "ResourceLedger$Wide" "low" "J" : Cond) ∈ wsX10_shiftDown := List.mem_of_getElem? (i := 2) rfl
theorem iwd_X10_shiftDown_X10 : ∀ w ∈ wsX100, w ∈ wsX10_shiftDown := fun _ h => List.mem_cons_of_mem _ (List.mem_append_right _ h)
theorem md_X10_shiftDown_1 : (.fieldLink RX10 17 "ResourceLedger$Wide" "high" "J" : Cond) ∈ wsX10_shiftDown := List.mem_of_getElem? (i := 1) rfl
set_option maxHeartbeats 4000000 in
set_option maxRecDepth 100000 in
theorem de_X10_shiftDown (l : Launch) (dC : Nat → ClassId) (dI : Nat → Nat → Nat) (cy : Nat → ClassId) (a : Nat → Nat) (sh : Nat → Nat × Nat) (n sz : Nat) (F : Nat) (z : St) (h0 : Nat) (x0 : Int32) {z8 : St} {r8 : Unit} (hf : fn_X10_shiftDown F sh n z h0 x0 = some (z8, r8)) : Met l yX10_shiftDown wsX10_shiftDown ({ frames := 0, cells := 0, slots := 0, locals := 0 }) (va_Pc [.ref (a h0), .int x0] (fun U => U.heap.size = sz ∧ va_P (dC, dI) vwCl (Wd cy a sh n z) U.heap ∧ va_K (dC, dI) vwCl (TYS cy) U ∧ va_D (fun _ => True) (Wd cy a sh n z) ∧ NK U)) (va_Qv (fun u : Unit => True) (fun u t => va_P (dC, dI) vwCl (Wd cy a sh n z8) t.heap ∧ va_K (dC, dI) vwCl (TYS cy) t ∧ va_D (va_A (Wd cy a sh n z) sz) (Wd cy a sh n z8)) (va_A (Wd cy a sh n z) sz)) 0 0 (va_A (Wd cy a sh n z) sz) := by
  refine Met.ofW (cc := cX10_shiftDown) (maxL := 2) (ret := none) (by decide) rfl ?_
  intro p e s m args below meth c s₁ B hml hv
  obtain ⟨rfl, hsz, hP, hK, hD0, hN⟩ := hv
  have hx := B.exec
  have hb := B.bytes
  have hr := B.returns
  have hts := atoms_spec (ws := wsX10_shiftDown) B.pre
  have hown : s.vm.findClass RX10 = some m.cls := findClass_of_methodNamed B.named
  have hlocks := B.notSynchronized
  subst hsz
  have hD := hD0.self (sz := s.heap.size)
  clear hD0
  generalize hAe : va_A (Wd cy a sh n z) s.heap.size = A at hD ⊢
  have hA : ∀ q : Nat, s.heap.size ≤ q → A q := fun q h => by rw [← hAe]; exact Or.inr h
  clear hAe
  have hS : va_S A s.heap s.heap [] := va_S.rf
  have hl := lv_entry ([.ref (a h0), .int x0]) (n := 2) (Nat.le_of_ble_eq_true rfl)
  rw [lg_entry_eq]
  generalize (lg_sl ([.ref (a h0), .int x0]) ++ List.replicate (2 - (lg_sl ([.ref (a h0), .int x0])).length) Slot.unset).toArray = ls at hl ⊢
  replace hl : lv_has ls 2 [(0, .ref (a h0)), (1, .int x0)] := hl
  unfold fn_X10_shiftDown at hf
  refine de_start hS hP (fun H locs hS hP => ?_)
  refine lv_iload_n hx hb dX10_shiftDown_0 rfl (lv_at hl 1 rfl) ?_
  refine lv_bipush (v := 64) hx hb dX10_shiftDown_1 (by decide) ?_
  refine lv_icmp_lt (tgt := 27) hx hb dX10_shiftDown_3 (by decide) (fun c_1 => ?_) (fun c_1 => ?_)
  · skip
    rw [if_pos c_1] at hf
    refine lv_iload_n hx hb dX10_shiftDown_27 rfl (lv_at hl 1 rfl) ?_
    refine lv_if_le (tgt := 61) hx hb dX10_shiftDown_28 (by decide) (fun c_2 => ?_) (fun c_2 => ?_)
    · skip
      rw [if_pos c_2] at hf
      obtain ⟨h8, h9⟩ := ret_some hf
      rw [h8]
      exact W.vret hx hb hr (fun t ht hW => ⟨⟨(), rfl, trivial, by rw [ht]; exact hP, va_K.moved hW.alike hK, hD⟩, hS.F ht⟩) hS.2.2 dX10_shiftDown_61
    · skip
      rw [if_neg c_2] at hf
      refine lv_aload_n hx hb dX10_shiftDown_31 rfl (lv_at hl 0 rfl) ?_
      refine lv_aload_n hx hb dX10_shiftDown_32 rfl (lv_at hl 0 rfl) ?_
      obtain ⟨g_3, hf⟩ := grd_some hf
      obtain ⟨kg_3, sg_3⟩ := okO_at g_3
      refine va_get (D := (dC, dI)) (ci := 10) (v := .long (z.2.1 h0 1)) (C := RX10) (T := TX10) (N := 5) hx hb hts iwd_X10_shiftDown_X10 hown hK hP h0 (Wd_ob kg_3 sg_3 (by decide)) rfl 1 (by decide) (hts _ md_X10_shiftDown_2) (fun _ h9 => h9) (fl_at (t := 1) rfl) dX10_shiftDown_33 ?_
      refine lv_iload_n hx hb dX10_shiftDown_36 rfl (lv_at hl 1 rfl) ?_
      refine lv_lushr (v := (((z.2.1 h0 1) : Int64).toUInt64 >>> ((x0 : Int32).toInt64.toUInt64 &&& Int64.toUInt64 63)).toInt64) hx hb dX10_shiftDown_37 rfl ?_
      refine lv_aload_n hx hb dX10_shiftDown_38 rfl (lv_at hl 0 rfl) ?_
      refine va_get (D := (dC, dI)) (ci := 10) (v := .long (z.2.1 h0 0)) (C := RX10) (T := TX10) (N := 5) hx hb hts iwd_X10_shiftDown_X10 hown hK hP h0 (Wd_ob kg_3 sg_3 (by decide)) rfl 0 (by decide) (hts _ md_X10_shiftDown_1) (fun _ h9 => h9) (fl_at (t := 1) rfl) dX10_shiftDown_39 ?_
      refine lv_bipush (v := 64) hx hb dX10_shiftDown_42 (by decide) ?_
      refine lv_iload_n hx hb dX10_shiftDown_44 rfl (lv_at hl 1 rfl) ?_
      refine lv_isub hx hb dX10_shiftDown_45 ?_
      refine lv_lshl (v := ((z.2.1 h0 0) <<< (((64 - x0) : Int32).toInt64 &&& 63))) hx hb dX10_shiftDown_46 rfl ?_
      refine lv_lor hx hb dX10_shiftDown_47 ?_
      refine va_put (D := (dC, dI)) (ci := 10) (v := .long (((((z.2.1 h0 1) : Int64).toUInt64 >>> ((x0 : Int32).toInt64.toUInt64 &&& Int64.toUInt64 63)).toInt64) ||| (((z.2.1 h0 0) <<< (((64 - x0) : Int32).toInt64 &&& 63))))) (ty := .long) (C := RX10) (T := TX10) (N := 5) hx hb hts iwd_X10_shiftDown_X10 tyX10 tyX10_ok nmX10 hown hK hP hD hS h0 (Wd_ob kg_3 sg_3 (by decide)) rfl 1 (by decide) (hts _ md_X10_shiftDown_2) (fun _ h9 => h9) rfl (by decide +kernel) rfl rfl (by rw [fl_len]; decide) dX10_shiftDown_48 (fun H_4 locs hP2 hD2 hS2 => ?_)
      rw [Wd_sl sg_3 (by decide) rfl] at hP2 hD2
      obtain ⟨z_5, ez_5⟩ : ∃ w, w = sl z h0 1 (((((z.2.1 h0 1) : Int64).toUInt64 >>> ((x0 : Int32).toInt64.toUInt64 &&& Int64.toUInt64 63)).toInt64) ||| (((z.2.1 h0 0) <<< (((64 - x0) : Int32).toInt64 &&& 63)))) := ⟨_, rfl⟩
      rw [← ez_5] at hP2 hD2
      replace hf := lt_at ez_5 hf
      clear ez_5
      replace hP := hP2
      replace hD := hD2
      replace hS := hS2
      clear hP2 hD2 hS2
      refine lv_aload_n hx hb dX10_shiftDown_51 rfl (lv_at hl 0 rfl) ?_
      refine lv_dup hx hb dX10_shiftDown_52 rfl ?_
      refine va_get (D := (dC, dI)) (ci := 10) (v := .long (z_5.2.1 h0 0)) (C := RX10) (T := TX10) (N := 5) hx hb hts iwd_X10_shiftDown_X10 hown hK hP h0 (Wd_ob kg_3 sg_3 (by decide)) rfl 0 (by decide) (hts _ md_X10_shiftDown_1) (fun _ h9 => h9) (fl_at (t := 1) rfl) dX10_shiftDown_53 ?_
      refine lv_iload_n hx hb dX10_shiftDown_56 rfl (lv_at hl 1 rfl) ?_
      refine lv_lushr (v := (((z_5.2.1 h0 0) : Int64).toUInt64 >>> ((x0 : Int32).toInt64.toUInt64 &&& Int64.toUInt64 63)).toInt64) hx hb dX10_shiftDown_57 rfl ?_
      refine va_put (D := (dC, dI)) (ci := 10) (v := .long ((((z_5.2.1 h0 0) : Int64).toUInt64 >>> ((x0 : Int32).toInt64.toUInt64 &&& Int64.toUInt64 63)).toInt64)) (ty := .long) (C := RX10) (T := TX10) (N := 5) hx hb hts iwd_X10_shiftDown_X10 tyX10 tyX10_ok nmX10 hown hK hP hD hS h0 (Wd_ob kg_3 sg_3 (by decide)) rfl 0 (by decide) (hts _ md_X10_shiftDown_1) (fun _ h9 => h9) rfl (by decide +kernel) rfl rfl (by rw [fl_len]; decide) dX10_shiftDown_58 (fun H_6 locs hP2 hD2 hS2 => ?_)
      rw [Wd_sl sg_3 (by decide) rfl] at hP2 hD2
      obtain ⟨z_7, ez_7⟩ : ∃ w, w = sl z_5 h0 0 ((((z_5.2.1 h0 0) : Int64).toUInt64 >>> ((x0 : Int32).toInt64.toUInt64 &&& Int64.toUInt64 63)).toInt64) := ⟨_, rfl⟩
      rw [← ez_7] at hP2 hD2
      replace hf := lt_at ez_7 hf
      clear ez_7
      replace hP := hP2
      replace hD := hD2
      replace hS := hS2
      clear hP2 hD2 hS2
      obtain ⟨h8, h9⟩ := ret_some hf
      rw [h8]
      exact W.vret hx hb hr (fun t ht hW => ⟨⟨(), rfl, trivial, by rw [ht]; exact hP, va_K.moved hW.alike hK, hD⟩, hS.F ht⟩) hS.2.2 dX10_shiftDown_61
  · skip
    rw [if_neg c_1] at hf
    refine lv_aload_n hx hb dX10_shiftDown_6 rfl (lv_at hl 0 rfl) ?_
    refine lv_aload_n hx hb dX10_shiftDown_7 rfl (lv_at hl 0 rfl) ?_
    obtain ⟨g_8, hf⟩ := grd_some hf
    obtain ⟨kg_8, sg_8⟩ := okO_at g_8
    refine va_get (D := (dC, dI)) (ci := 10) (v := .long (z.2.1 h0 0)) (C := RX10) (T := TX10) (N := 5) hx hb hts iwd_X10_shiftDown_X10 hown hK hP h0 (Wd_ob kg_8 sg_8 (by decide)) rfl 0 (by decide) (hts _ md_X10_shiftDown_1) (fun _ h9 => h9) (fl_at (t := 1) rfl) dX10_shiftDown_8 ?_
    refine lv_iload_n hx hb dX10_shiftDown_11 rfl (lv_at hl 1 rfl) ?_
    refine lv_bipush (v := 64) hx hb dX10_shiftDown_12 (by decide) ?_
    refine lv_isub hx hb dX10_shiftDown_14 ?_
    refine lv_lushr (v := (((z.2.1 h0 0) : Int64).toUInt64 >>> (((x0 - 64) : Int32).toInt64.toUInt64 &&& Int64.toUInt64 63)).toInt64) hx hb dX10_shiftDown_15 rfl ?_
    refine va_put (D := (dC, dI)) (ci := 10) (v := .long ((((z.2.1 h0 0) : Int64).toUInt64 >>> (((x0 - 64) : Int32).toInt64.toUInt64 &&& Int64.toUInt64 63)).toInt64)) (ty := .long) (C := RX10) (T := TX10) (N := 5) hx hb hts iwd_X10_shiftDown_X10 tyX10 tyX10_ok nmX10 hown hK hP hD hS h0 (Wd_ob kg_8 sg_8 (by decide)) rfl 1 (by decide) (hts _ md_X10_shiftDown_2) (fun _ h9 => h9) rfl (by decide +kernel) rfl rfl (by rw [fl_len]; decide) dX10_shiftDown_16 (fun H_9 locs hP2 hD2 hS2 => ?_)
    rw [Wd_sl sg_8 (by decide) rfl] at hP2 hD2
    obtain ⟨z_10, ez_10⟩ : ∃ w, w = sl z h0 1 ((((z.2.1 h0 0) : Int64).toUInt64 >>> (((x0 - 64) : Int32).toInt64.toUInt64 &&& Int64.toUInt64 63)).toInt64) := ⟨_, rfl⟩
    rw [← ez_10] at hP2 hD2
    replace hf := lt_at ez_10 hf
    clear ez_10
    replace hP := hP2
    replace hD := hD2
    replace hS := hS2
    clear hP2 hD2 hS2
    refine lv_aload_n hx hb dX10_shiftDown_19 rfl (lv_at hl 0 rfl) ?_
    refine lv_lconst (v := 0) hx hb dX10_shiftDown_20 (by decide) ?_
    refine va_put (D := (dC, dI)) (ci := 10) (v := .long 0) (ty := .long) (C := RX10) (T := TX10) (N := 5) hx hb hts iwd_X10_shiftDown_X10 tyX10 tyX10_ok nmX10 hown hK hP hD hS h0 (Wd_ob kg_8 sg_8 (by decide)) rfl 0 (by decide) (hts _ md_X10_shiftDown_1) (fun _ h9 => h9) rfl (by decide +kernel) rfl rfl (by rw [fl_len]; decide) dX10_shiftDown_21 (fun H_11 locs hP2 hD2 hS2 => ?_)
    rw [Wd_sl sg_8 (by decide) rfl] at hP2 hD2
    obtain ⟨z_12, ez_12⟩ : ∃ w, w = sl z_10 h0 0 0 := ⟨_, rfl⟩
    rw [← ez_12] at hP2 hD2
    replace hf := lt_at ez_12 hf
    clear ez_12
    replace hP := hP2
    replace hD := hD2
    replace hS := hS2
    clear hP2 hD2 hS2
    refine lv_goto (tgt := 61) hx hb dX10_shiftDown_24 (by decide) ?_
    obtain ⟨h8, h9⟩ := ret_some hf
    rw [h8]
    exact W.vret hx hb hr (fun t ht hW => ⟨⟨(), rfl, trivial, by rw [ht]; exact hP, va_K.moved hW.alike hK, hD⟩, hS.F ht⟩) hS.2.2 dX10_shiftDown_61

theorem md_X10_shiftUp_2 : (.fieldLink RX10 17 "ResourceLedger$Wide" "high" "J" : Cond) ∈ wsX10_shiftUp := List.mem_of_getElem? (i := 2) rfl
theorem iwd_X10_shiftUp_X10 : ∀ w ∈ wsX100, w ∈ wsX10_shiftUp := fun _ h => List.mem_cons_of_mem _ (List.mem_append_right _ h)
theorem md_X10_shiftUp_1 : (.fieldLink RX10 21 "ResourceLedger$Wide" "low" "J" : Cond) ∈ wsX10_shiftUp := List.mem_of_getElem? (i := 1) rfl
set_option maxHeartbeats 4000000 in
set_option maxRecDepth 100000 in
theorem de_X10_shiftUp (l : Launch) (dC : Nat → ClassId) (dI : Nat → Nat → Nat) (cy : Nat → ClassId) (a : Nat → Nat) (sh : Nat → Nat × Nat) (n sz : Nat) (F : Nat) (z : St) (h0 : Nat) (x0 : Int32) {z8 : St} {r8 : Unit} (hf : fn_X10_shiftUp F sh n z h0 x0 = some (z8, r8)) : Met l yX10_shiftUp wsX10_shiftUp ({ frames := 0, cells := 0, slots := 0, locals := 0 }) (va_Pc [.ref (a h0), .int x0] (fun U => U.heap.size = sz ∧ va_P (dC, dI) vwCl (Wd cy a sh n z) U.heap ∧ va_K (dC, dI) vwCl (TYS cy) U ∧ va_D (fun _ => True) (Wd cy a sh n z) ∧ NK U)) (va_Qv (fun u : Unit => True) (fun u t => va_P (dC, dI) vwCl (Wd cy a sh n z8) t.heap ∧ va_K (dC, dI) vwCl (TYS cy) t ∧ va_D (va_A (Wd cy a sh n z) sz) (Wd cy a sh n z8)) (va_A (Wd cy a sh n z) sz)) 0 0 (va_A (Wd cy a sh n z) sz) := by
  refine Met.ofW (cc := cX10_shiftUp) (maxL := 2) (ret := none) (by decide) rfl ?_
  intro p e s m args below meth c s₁ B hml hv
  obtain ⟨rfl, hsz, hP, hK, hD0, hN⟩ := hv
  have hx := B.exec
  have hb := B.bytes
  have hr := B.returns
  have hts := atoms_spec (ws := wsX10_shiftUp) B.pre
  have hown : s.vm.findClass RX10 = some m.cls := findClass_of_methodNamed B.named
  have hlocks := B.notSynchronized
  subst hsz
  have hD := hD0.self (sz := s.heap.size)
  clear hD0
  generalize hAe : va_A (Wd cy a sh n z) s.heap.size = A at hD ⊢
  have hA : ∀ q : Nat, s.heap.size ≤ q → A q := fun q h => by rw [← hAe]; exact Or.inr h
  clear hAe
  have hS : va_S A s.heap s.heap [] := va_S.rf
  have hl := lv_entry ([.ref (a h0), .int x0]) (n := 2) (Nat.le_of_ble_eq_true rfl)
  rw [lg_entry_eq]
  generalize (lg_sl ([.ref (a h0), .int x0]) ++ List.replicate (2 - (lg_sl ([.ref (a h0), .int x0])).length) Slot.unset).toArray = ls at hl ⊢
  replace hl : lv_has ls 2 [(0, .ref (a h0)), (1, .int x0)] := hl
  unfold fn_X10_shiftUp at hf
  refine de_start hS hP (fun H locs hS hP => ?_)
  refine lv_iload_n hx hb dX10_shiftUp_0 rfl (lv_at hl 1 rfl) ?_
  refine lv_bipush (v := 64) hx hb dX10_shiftUp_1 (by decide) ?_
  refine lv_icmp_lt (tgt := 27) hx hb dX10_shiftUp_3 (by decide) (fun c_1 => ?_) (fun c_1 => ?_)
  · skip
    rw [if_pos c_1] at hf
    refine lv_iload_n hx hb dX10_shiftUp_27 rfl (lv_at hl 1 rfl) ?_
    refine lv_if_le (tgt := 61) hx hb dX10_shiftUp_28 (by decide) (fun c_2 => ?_) (fun c_2 => ?_)
    · skip
      rw [if_pos c_2] at hf
      obtain ⟨h8, h9⟩ := ret_some hf
      rw [h8]
      exact W.vret hx hb hr (fun t ht hW => ⟨⟨(), rfl, trivial, by rw [ht]; exact hP, va_K.moved hW.alike hK, hD⟩, hS.F ht⟩) hS.2.2 dX10_shiftUp_61
    · skip
      rw [if_neg c_2] at hf
      refine lv_aload_n hx hb dX10_shiftUp_31 rfl (lv_at hl 0 rfl) ?_
      refine lv_aload_n hx hb dX10_shiftUp_32 rfl (lv_at hl 0 rfl) ?_
      obtain ⟨g_3, hf⟩ := grd_some hf
      obtain ⟨kg_3, sg_3⟩ := okO_at g_3
      refine va_get (D := (dC, dI)) (ci := 10) (v := .long (z.2.1 h0 0)) (C := RX10) (T := TX10) (N := 5) hx hb hts iwd_X10_shiftUp_X10 hown hK hP h0 (Wd_ob kg_3 sg_3 (by decide)) rfl 0 (by decide) (hts _ md_X10_shiftUp_2) (fun _ h9 => h9) (fl_at (t := 1) rfl) dX10_shiftUp_33 ?_
      refine lv_iload_n hx hb dX10_shiftUp_36 rfl (lv_at hl 1 rfl) ?_
      refine lv_lshl (v := ((z.2.1 h0 0) <<< ((x0 : Int32).toInt64 &&& 63))) hx hb dX10_shiftUp_37 rfl ?_
      refine lv_aload_n hx hb dX10_shiftUp_38 rfl (lv_at hl 0 rfl) ?_
      refine va_get (D := (dC, dI)) (ci := 10) (v := .long (z.2.1 h0 1)) (C := RX10) (T := TX10) (N := 5) hx hb hts iwd_X10_shiftUp_X10 hown hK hP h0 (Wd_ob kg_3 sg_3 (by decide)) rfl 1 (by decide) (hts _ md_X10_shiftUp_1) (fun _ h9 => h9) (fl_at (t := 1) rfl) dX10_shiftUp_39 ?_
      refine lv_bipush (v := 64) hx hb dX10_shiftUp_42 (by decide) ?_
      refine lv_iload_n hx hb dX10_shiftUp_44 rfl (lv_at hl 1 rfl) ?_
      refine lv_isub hx hb dX10_shiftUp_45 ?_
      refine lv_lushr (v := (((z.2.1 h0 1) : Int64).toUInt64 >>> (((64 - x0) : Int32).toInt64.toUInt64 &&& Int64.toUInt64 63)).toInt64) hx hb dX10_shiftUp_46 rfl ?_
      refine lv_lor hx hb dX10_shiftUp_47 ?_
      refine va_put (D := (dC, dI)) (ci := 10) (v := .long ((((z.2.1 h0 0) <<< ((x0 : Int32).toInt64 &&& 63))) ||| ((((z.2.1 h0 1) : Int64).toUInt64 >>> (((64 - x0) : Int32).toInt64.toUInt64 &&& Int64.toUInt64 63)).toInt64))) (ty := .long) (C := RX10) (T := TX10) (N := 5) hx hb hts iwd_X10_shiftUp_X10 tyX10 tyX10_ok nmX10 hown hK hP hD hS h0 (Wd_ob kg_3 sg_3 (by decide)) rfl 0 (by decide) (hts _ md_X10_shiftUp_2) (fun _ h9 => h9) rfl (by decide +kernel) rfl rfl (by rw [fl_len]; decide) dX10_shiftUp_48 (fun H_4 locs hP2 hD2 hS2 => ?_)
      rw [Wd_sl sg_3 (by decide) rfl] at hP2 hD2
      obtain ⟨z_5, ez_5⟩ : ∃ w, w = sl z h0 0 ((((z.2.1 h0 0) <<< ((x0 : Int32).toInt64 &&& 63))) ||| ((((z.2.1 h0 1) : Int64).toUInt64 >>> (((64 - x0) : Int32).toInt64.toUInt64 &&& Int64.toUInt64 63)).toInt64)) := ⟨_, rfl⟩
      rw [← ez_5] at hP2 hD2
      replace hf := lt_at ez_5 hf
      clear ez_5
      replace hP := hP2
      replace hD := hD2
      replace hS := hS2
      clear hP2 hD2 hS2
      refine lv_aload_n hx hb dX10_shiftUp_51 rfl (lv_at hl 0 rfl) ?_
      refine lv_dup hx hb dX10_shiftUp_52 rfl ?_
      refine va_get (D := (dC, dI)) (ci := 10) (v := .long (z_5.2.1 h0 1)) (C := RX10) (T := TX10) (N := 5) hx hb hts iwd_X10_shiftUp_X10 hown hK hP h0 (Wd_ob kg_3 sg_3 (by decide)) rfl 1 (by decide) (hts _ md_X10_shiftUp_1) (fun _ h9 => h9) (fl_at (t := 1) rfl) dX10_shiftUp_53 ?_
      refine lv_iload_n hx hb dX10_shiftUp_56 rfl (lv_at hl 1 rfl) ?_
      refine lv_lshl (v := ((z_5.2.1 h0 1) <<< ((x0 : Int32).toInt64 &&& 63))) hx hb dX10_shiftUp_57 rfl ?_
      refine va_put (D := (dC, dI)) (ci := 10) (v := .long (((z_5.2.1 h0 1) <<< ((x0 : Int32).toInt64 &&& 63)))) (ty := .long) (C := RX10) (T := TX10) (N := 5) hx hb hts iwd_X10_shiftUp_X10 tyX10 tyX10_ok nmX10 hown hK hP hD hS h0 (Wd_ob kg_3 sg_3 (by decide)) rfl 1 (by decide) (hts _ md_X10_shiftUp_1) (fun _ h9 => h9) rfl (by decide +kernel) rfl rfl (by rw [fl_len]; decide) dX10_shiftUp_58 (fun H_6 locs hP2 hD2 hS2 => ?_)
      rw [Wd_sl sg_3 (by decide) rfl] at hP2 hD2
      obtain ⟨z_7, ez_7⟩ : ∃ w, w = sl z_5 h0 1 (((z_5.2.1 h0 1) <<< ((x0 : Int32).toInt64 &&& 63))) := ⟨_, rfl⟩
      rw [← ez_7] at hP2 hD2
      replace hf := lt_at ez_7 hf
      clear ez_7
      replace hP := hP2
      replace hD := hD2
      replace hS := hS2
      clear hP2 hD2 hS2
      obtain ⟨h8, h9⟩ := ret_some hf
      rw [h8]
      exact W.vret hx hb hr (fun t ht hW => ⟨⟨(), rfl, trivial, by rw [ht]; exact hP, va_K.moved hW.alike hK, hD⟩, hS.F ht⟩) hS.2.2 dX10_shiftUp_61
  · skip
    rw [if_neg c_1] at hf
    refine lv_aload_n hx hb dX10_shiftUp_6 rfl (lv_at hl 0 rfl) ?_
    refine lv_aload_n hx hb dX10_shiftUp_7 rfl (lv_at hl 0 rfl) ?_
    obtain ⟨g_8, hf⟩ := grd_some hf
    obtain ⟨kg_8, sg_8⟩ := okO_at g_8
    refine va_get (D := (dC, dI)) (ci := 10) (v := .long (z.2.1 h0 1)) (C := RX10) (T := TX10) (N := 5) hx hb hts iwd_X10_shiftUp_X10 hown hK hP h0 (Wd_ob kg_8 sg_8 (by decide)) rfl 1 (by decide) (hts _ md_X10_shiftUp_1) (fun _ h9 => h9) (fl_at (t := 1) rfl) dX10_shiftUp_8 ?_
    refine lv_iload_n hx hb dX10_shiftUp_11 rfl (lv_at hl 1 rfl) ?_
    refine lv_bipush (v := 64) hx hb dX10_shiftUp_12 (by decide) ?_
    refine lv_isub hx hb dX10_shiftUp_14 ?_
    refine lv_lshl (v := ((z.2.1 h0 1) <<< (((x0 - 64) : Int32).toInt64 &&& 63))) hx hb dX10_shiftUp_15 rfl ?_
    refine va_put (D := (dC, dI)) (ci := 10) (v := .long (((z.2.1 h0 1) <<< (((x0 - 64) : Int32).toInt64 &&& 63)))) (ty := .long) (C := RX10) (T := TX10) (N := 5) hx hb hts iwd_X10_shiftUp_X10 tyX10 tyX10_ok nmX10 hown hK hP hD hS h0 (Wd_ob kg_8 sg_8 (by decide)) rfl 0 (by decide) (hts _ md_X10_shiftUp_2) (fun _ h9 => h9) rfl (by decide +kernel) rfl rfl (by rw [fl_len]; decide) dX10_shiftUp_16 (fun H_9 locs hP2 hD2 hS2 => ?_)
    rw [Wd_sl sg_8 (by decide) rfl] at hP2 hD2
    obtain ⟨z_10, ez_10⟩ : ∃ w, w = sl z h0 0 (((z.2.1 h0 1) <<< (((x0 - 64) : Int32).toInt64 &&& 63))) := ⟨_, rfl⟩
    rw [← ez_10] at hP2 hD2
    replace hf := lt_at ez_10 hf
    clear ez_10
    replace hP := hP2
    replace hD := hD2
    replace hS := hS2
    clear hP2 hD2 hS2
    refine lv_aload_n hx hb dX10_shiftUp_19 rfl (lv_at hl 0 rfl) ?_
    refine lv_lconst (v := 0) hx hb dX10_shiftUp_20 (by decide) ?_
    refine va_put (D := (dC, dI)) (ci := 10) (v := .long 0) (ty := .long) (C := RX10) (T := TX10) (N := 5) hx hb hts iwd_X10_shiftUp_X10 tyX10 tyX10_ok nmX10 hown hK hP hD hS h0 (Wd_ob kg_8 sg_8 (by decide)) rfl 1 (by decide) (hts _ md_X10_shiftUp_1) (fun _ h9 => h9) rfl (by decide +kernel) rfl rfl (by rw [fl_len]; decide) dX10_shiftUp_21 (fun H_11 locs hP2 hD2 hS2 => ?_)
    rw [Wd_sl sg_8 (by decide) rfl] at hP2 hD2
    obtain ⟨z_12, ez_12⟩ : ∃ w, w = sl z_10 h0 1 0 := ⟨_, rfl⟩
    rw [← ez_12] at hP2 hD2
    replace hf := lt_at ez_12 hf
    clear ez_12
    replace hP := hP2
    replace hD := hD2
    replace hS := hS2
    clear hP2 hD2 hS2
    refine lv_goto (tgt := 61) hx hb dX10_shiftUp_24 (by decide) ?_
    obtain ⟨h8, h9⟩ := ret_some hf
    rw [h8]
    exact W.vret hx hb hr (fun t ht hW => ⟨⟨(), rfl, trivial, by rw [ht]; exact hP, va_K.moved hW.alike hK, hD⟩, hS.F ht⟩) hS.2.2 dX10_shiftUp_61

