set_option maxHeartbeats 4000000 in
set_option maxRecDepth 100000 in
theorem de_X16_listEnd (l : Launch) (dC : Nat → ClassId) (dI : Nat → Nat → Nat) (cy : Nat → ClassId) (a : Nat → Nat) (sh : Nat → Nat × Nat) (n sz : Nat) (F : Nat) (z : St) (h0 : Nat) (x0 : Int32) {z8 : St} {r8 : Int32} (hf : fn_X16_listEnd F sh n z h0 x0 = some (z8, r8)) : Met l yX16_listEnd wsX16_listEnd ({ frames := 2, cells := 0, slots := 0, locals := 43 }) (va_Pc [.ref (a h0), .int x0] (fun U => U.heap.size = sz ∧ va_P (dC, dI) vwCl (Wd cy a sh n z) U.heap ∧ va_K (dC, dI) vwCl (TYS cy) U ∧ va_D (fun _ => True) (Wd cy a sh n z) ∧ NK U)) (va_Qi (fun (r9 : Int32) (u : Unit) => r9 = r8) (fun u t => va_P (dC, dI) vwCl (Wd cy a sh n z8) t.heap ∧ va_K (dC, dI) vwCl (TYS cy) t ∧ va_D (va_A (Wd cy a sh n z) sz) (Wd cy a sh n z8)) (va_A (Wd cy a sh n z) sz)) 0 0 (va_A (Wd cy a sh n z) sz) := by
  refine Met.ofW (cc := cX16_listEnd) (maxL := 5) (ret := (some .int)) (by decide) rfl ?_
  intro p e s m args below meth c s₁ B hml hv
  obtain ⟨rfl, hsz, hP, hK, hD0, hN⟩ := hv
  have hx := B.exec
  have hb := B.bytes
  have hr := B.returns
  have hts := atoms_spec (ws := wsX16_listEnd) B.pre
  have hown : s.vm.findClass RX16 = some m.cls := findClass_of_methodNamed B.named
  have hlocks := B.notSynchronized
  subst hsz
  have hD := hD0.self (sz := s.heap.size)
  clear hD0
  generalize hAe : va_A (Wd cy a sh n z) s.heap.size = A at hD ⊢
  have hA : ∀ q : Nat, s.heap.size ≤ q → A q := fun q h => by rw [← hAe]; exact Or.inr h
  clear hAe
  have hS : va_S A s.heap s.heap [] := va_S.rf
  have hl := lv_entry ([.ref (a h0), .int x0]) (n := 5) (Nat.le_of_ble_eq_true rfl)
  rw [lg_entry_eq]
  generalize (lg_sl ([.ref (a h0), .int x0]) ++ List.replicate (5 - (lg_sl ([.ref (a h0), .int x0])).length) Slot.unset).toArray = ls at hl ⊢
  replace hl : lv_has ls 5 [(0, .ref (a h0)), (1, .int x0)] := hl
  unfold fn_X16_listEnd at hf
  refine de_start hS hP (fun H locs hS hP => ?_)
  refine lv_aload_n hx hb dX16_listEnd_0 rfl (lv_at hl 0 rfl) ?_
  refine lv_iload_n hx hb dX16_listEnd_1 rfl (lv_at hl 1 rfl) ?_
  obtain ⟨g_3, hf⟩ := grd_some hf
  obtain ⟨kg_3, sg_3⟩ := okO_at g_3
  obtain ⟨z_1, r_2, hfc, hf⟩ := cal_some hf
  have hFc := de_free hD hS hA
  refine va_calli (va_runV (As := [.int x0]) (rest := []) ⟨hx, hb, hml, hown, hts⟩ (de_X16_byteAt l dC dI cy a sh n H.size F z h0 x0 hfc) (cwV 1 hts gX16_listEnd_X16_byteAt rfl rfl rfl (by decide +kernel) ⟨Nat.le_of_ble_eq_true rfl, Nat.le_of_ble_eq_true rfl⟩) ⟨fun a U g mk q => by obtain ⟨q0, q1, qP, qK, qD, qN⟩ := q; exact ⟨q0, q1, qP, va_K.moved (u := U) (U := U.calling g mk a) (Vm.Alike.refl U.vm) qK, qD, qN.same rfl⟩, va_recv hK hP (ci := 16) (q0 := h0) rfl (Wd_ob kg_3 sg_3 (by decide)), fun U hU hW => ⟨rfl, by rw [hU], by rw [hU]; exact hP, va_K.moved hW.alike hK, hD.weaken (fun _ _ _ _ => trivial), hN.warm hW⟩⟩ rfl rfl hl.1 rfl (lv_room (Nat.le_of_ble_eq_true rfl)) dX16_listEnd_2 ⟨Nat.le_of_ble_eq_true rfl, Nat.le_of_ble_eq_true rfl⟩) hS (fun q _ h => hFc q h) hFc (fun rr u t H_4 locs ht hvm hw hB hz1 hk1 hS2 => ?_)
  rw [hw]
  clear hw
  obtain ⟨hP1, -, hD1⟩ := hB
  rw [ht] at hP1
  replace hD := hD1.weaken (fun _ _ _ h => hFc _ h)
  replace hP := hP1
  replace hS := hS2
  clear hP1 hD1 hS2 hFc hfc hz1 hk1 hvm ht
  refine lv_istore_n (lv' := [(2, .int r_2), (0, .ref (a h0)), (1, .int x0)]) hx hb dX16_listEnd_5 rfl hl (by decide) rfl (fun ls hl2 => ?_)
  replace hl := hl2
  clear hl2
  refine lv_iload_n hx hb dX16_listEnd_6 rfl (lv_at hl 2 rfl) ?_
  refine lv_iconst (v := 1) hx hb dX16_listEnd_7 (by decide) ?_
  refine lv_iadd hx hb dX16_listEnd_8 ?_
  refine lv_topi (fun v_5 ev_5 => ?_)
  replace hf := lt_at ev_5 hf
  clear ev_5
  refine lv_istore_n (lv' := [(3, .int v_5), (2, .int r_2), (0, .ref (a h0)), (1, .int x0)]) hx hb dX16_listEnd_9 rfl hl (by decide) rfl (fun ls hl2 => ?_)
  replace hl := hl2
  clear hl2
  refine lv_iconst (v := 0) hx hb dX16_listEnd_10 (by decide) ?_
  refine lv_istore (lv' := [(4, .int 0), (3, .int v_5), (2, .int r_2), (0, .ref (a h0)), (1, .int x0)]) hx hb dX16_listEnd_11 hl (by decide) rfl (fun ls hl2 => ?_)
  replace hl := hl2
  clear hl2
  have hl0 : lv_has ls 5 [(4, .int 0), (3, .int v_5), (2, .int r_2), (0, .ref (a h0))] := lv_sub hl [0, 1, 2, 3] rfl
  refine de_loop (h := 13) (fun (x : St × Int32 × Int32) ls H locs => lv_has ls 5 [(4, .int x.2.2), (3, .int x.2.1), (2, .int r_2), (0, .ref (a h0))] ∧ va_P (dC, dI) vwCl (Wd cy a sh n x.1) H ∧ va_D A (Wd cy a sh n x.1) ∧ va_S A s.heap H locs) (fun f x => fn_X16_listEnd_L13 F sh n r_2 h0 f x.1 x.2.1 x.2.2) (z8, r8) ?_ (fun _ => rfl) F (z_1, v_5, 0) ls H_4 locs ⟨hl0, hP, hD, hS⟩ hf
  intro f_9 x ls H locs ih13 hI hf
  obtain ⟨z_8, p_6, p_7⟩ := x
  obtain ⟨hl2, hP2, hD2, hS2⟩ := hI
  replace hl : lv_has ls 5 [(4, .int p_7), (3, .int p_6), (2, .int r_2), (0, .ref (a h0))] := hl2
  replace hP := hP2
  replace hD := hD2
  replace hS := hS2
  clear hl2 hP2 hD2 hS2 hl0
  replace hf := fn_X16_listEnd_L13_s hf
  refine lv_iload hx hb dX16_listEnd_13 (lv_at hl 0 rfl) ?_
  refine lv_iload_n hx hb dX16_listEnd_15 rfl (lv_at hl 2 rfl) ?_
  refine lv_icmp_ge (tgt := 31) hx hb dX16_listEnd_16 (by decide) (fun c_10 => ?_) (fun c_10 => ?_)
  · skip
    rw [if_pos c_10] at hf
    refine lv_iload_n hx hb dX16_listEnd_31 rfl (lv_at hl 1 rfl) ?_
    obtain ⟨h8, h9⟩ := ret_some hf
    rw [h8, h9]
    exact W.iret (v := p_6) hx hb hr (fun t ht hW => ⟨⟨p_6, (), rfl, rfl, by rw [ht]; exact hP, va_K.moved hW.alike hK, hD⟩, hS.F ht⟩) hS.2.2 dX16_listEnd_32
  · skip
    rw [if_neg c_10] at hf
    refine lv_aload_n hx hb dX16_listEnd_19 rfl (lv_at hl 3 rfl) ?_
    refine lv_iload_n hx hb dX16_listEnd_20 rfl (lv_at hl 1 rfl) ?_
    obtain ⟨z_11, r_12, hfc, hf⟩ := cal_some hf
    have hFc := de_free hD hS hA
    refine va_calli (va_runV (As := [.int p_6]) (rest := []) ⟨hx, hb, hml, hown, hts⟩ (de_X16_typeEnd l dC dI cy a sh n H.size F z_8 h0 p_6 hfc) (cwV 1 hts gX16_listEnd_X16_typeEnd rfl rfl rfl (by decide +kernel) ⟨Nat.le_of_ble_eq_true rfl, Nat.le_of_ble_eq_true rfl⟩) ⟨fun a U g mk q => by obtain ⟨q0, q1, qP, qK, qD, qN⟩ := q; exact ⟨q0, q1, qP, va_K.moved (u := U) (U := U.calling g mk a) (Vm.Alike.refl U.vm) qK, qD, qN.same rfl⟩, va_recv hK hP (ci := 16) (q0 := h0) rfl (Wd_ob kg_3 sg_3 (by decide)), fun U hU hW => ⟨rfl, by rw [hU], by rw [hU]; exact hP, va_K.moved hW.alike hK, hD.weaken (fun _ _ _ _ => trivial), hN.warm hW⟩⟩ rfl rfl hl.1 rfl (lv_room (Nat.le_of_ble_eq_true rfl)) dX16_listEnd_21 ⟨Nat.le_of_ble_eq_true rfl, Nat.le_of_ble_eq_true rfl⟩) hS (fun q _ h => hFc q h) hFc (fun rr u t H_13 locs ht hvm hw hB hz1 hk1 hS2 => ?_)
    rw [hw]
    clear hw
    obtain ⟨hP1, -, hD1⟩ := hB
    rw [ht] at hP1
    replace hD := hD1.weaken (fun _ _ _ h => hFc _ h)
    replace hP := hP1
    replace hS := hS2
    clear hP1 hD1 hS2 hFc hfc hz1 hk1 hvm ht
    refine lv_istore_n (lv' := [(3, .int r_12), (4, .int p_7), (2, .int r_2), (0, .ref (a h0))]) hx hb dX16_listEnd_24 rfl hl (by decide) rfl (fun ls hl2 => ?_)
    replace hl := hl2
    clear hl2
    refine lv_iinc (v := (p_7 + 1)) (lv' := [(4, .int (p_7 + 1)), (3, .int r_12), (2, .int r_2), (0, .ref (a h0))]) hx hb dX16_listEnd_25 hl (k := 1) rfl rfl (by decide) rfl (fun ls hl2 => ?_)
    replace hl := hl2
    clear hl2
    refine lv_goto (tgt := 13) hx hb dX16_listEnd_28 (by decide) ?_
    exact ih13 (z_11, r_12, (p_7 + 1)) ls H_13 locs ⟨lv_sub hl [0, 1, 2, 3] rfl, hP, hD, hS⟩ hf

set_option maxHeartbeats 4000000 in
set_option maxRecDepth 100000 in
theorem de_X3_takeReference (l : Launch) (dC : Nat → ClassId) (dI : Nat → Nat → Nat) (cy : Nat → ClassId) (a : Nat → Nat) (sh : Nat → Nat × Nat) (n sz : Nat) (F : Nat) (z : St) (h0 : Nat) (x0 : Int32) {z8 : St} {r8 : Int64} (hf : fn_X3_takeReference F sh n z h0 x0 = some (z8, r8)) : Met l yX3_takeReference wsX3_takeReference ({ frames := 2, cells := 0, slots := 0, locals := 43 }) (va_Pc [.ref (a h0), .int x0] (fun U => U.heap.size = sz ∧ va_P (dC, dI) vwCl (Wd cy a sh n z) U.heap ∧ va_K (dC, dI) vwCl (TYS cy) U ∧ va_D (fun _ => True) (Wd cy a sh n z) ∧ NK U)) (va_Ql (fun (r9 : Int64) (u : Unit) => r9 = r8) (fun u t => va_P (dC, dI) vwCl (Wd cy a sh n z8) t.heap ∧ va_K (dC, dI) vwCl (TYS cy) t ∧ va_D (va_A (Wd cy a sh n z) sz) (Wd cy a sh n z8)) (va_A (Wd cy a sh n z) sz)) 0 0 (va_A (Wd cy a sh n z) sz) := by
  refine Met.ofW (cc := cX3_takeReference) (maxL := 4) (ret := (some .long)) (by decide) rfl ?_
  intro p e s m args below meth c s₁ B hml hv
  obtain ⟨rfl, hsz, hP, hK, hD0, hN⟩ := hv
  have hx := B.exec
  have hb := B.bytes
  have hr := B.returns
  have hts := atoms_spec (ws := wsX3_takeReference) B.pre
  have hown : s.vm.findClass RX3 = some m.cls := findClass_of_methodNamed B.named
  have hlocks := B.notSynchronized
  subst hsz
  have hD := hD0.self (sz := s.heap.size)
  clear hD0
  generalize hAe : va_A (Wd cy a sh n z) s.heap.size = A at hD ⊢
  have hA : ∀ q : Nat, s.heap.size ≤ q → A q := fun q h => by rw [← hAe]; exact Or.inr h
  clear hAe
  have hS : va_S A s.heap s.heap [] := va_S.rf
  have hl := lv_entry ([.ref (a h0), .int x0]) (n := 4) (Nat.le_of_ble_eq_true rfl)
  rw [lg_entry_eq]
  generalize (lg_sl ([.ref (a h0), .int x0]) ++ List.replicate (4 - (lg_sl ([.ref (a h0), .int x0])).length) Slot.unset).toArray = ls at hl ⊢
  replace hl : lv_has ls 4 [(0, .ref (a h0)), (1, .int x0)] := hl
  unfold fn_X3_takeReference at hf
  refine de_start hS hP (fun H locs hS hP => ?_)
  refine lv_aload_n hx hb dX3_takeReference_0 rfl (lv_at hl 0 rfl) ?_
  obtain ⟨g_3, hf⟩ := grd_some hf
  obtain ⟨kg_3, sg_3⟩ := okO_at g_3
  obtain ⟨z_1, r_2, hfc, hf⟩ := cal_some hf
  have hFc := de_free hD hS hA
  refine va_calll (va_runV (As := []) (rest := []) ⟨hx, hb, hml, hown, hts⟩ (de_X3_take l dC dI cy a sh n H.size F z h0 hfc) (cwV 0 hts gX3_takeReference_X3_take rfl rfl rfl (by decide +kernel) ⟨Nat.le_of_ble_eq_true rfl, Nat.le_of_ble_eq_true rfl⟩) ⟨fun a U g mk q => by obtain ⟨q0, q1, qP, qK, qD, qN⟩ := q; exact ⟨q0, q1, qP, va_K.moved (u := U) (U := U.calling g mk a) (Vm.Alike.refl U.vm) qK, qD, qN.same rfl⟩, va_recv hK hP (ci := 3) (q0 := h0) rfl (Wd_ob kg_3 sg_3 (by decide)), fun U hU hW => ⟨rfl, by rw [hU], by rw [hU]; exact hP, va_K.moved hW.alike hK, hD.weaken (fun _ _ _ _ => trivial), hN.warm hW⟩⟩ rfl rfl hl.1 rfl (lv_room (Nat.le_of_ble_eq_true rfl)) dX3_takeReference_1 ⟨Nat.le_of_ble_eq_true rfl, Nat.le_of_ble_eq_true rfl⟩) hS (fun q _ h => hFc q h) hFc (fun rr u t H_4 locs ht hvm hw hB hz1 hk1 hS2 => ?_)
  rw [hw]
  clear hw
  obtain ⟨hP1, -, hD1⟩ := hB
  rw [ht] at hP1
  replace hD := hD1.weaken (fun _ _ _ h => hFc _ h)
  replace hP := hP1
  replace hS := hS2
  clear hP1 hD1 hS2 hFc hfc hz1 hk1 hvm ht
  refine lv_lstore_n (lv' := [(2, .long r_2), (0, .ref (a h0)), (1, .int x0)]) hx hb dX3_takeReference_4 rfl hl (by decide) rfl (fun ls hl2 => ?_)
  replace hl := hl2
  clear hl2
  refine lv_lload_n hx hb dX3_takeReference_5 rfl (lv_at hl 0 rfl) ?_
  obtain ⟨z_5, r_6, hfc, hf⟩ := cal_some hf
  have hFc := de_free hD hS hA
  refine va_calli (va_runS (As := [.long r_2]) (rest := []) ⟨hx, hb, hml, hown, hts⟩ (de_X5_isReference l dC dI cy a sh n H_4.size F z_1 r_2 hfc) (va_cwS 1 hts gX3_takeReference_X5_isReference rfl rfl rfl (by decide +kernel) ⟨Nat.le_of_ble_eq_true rfl, Nat.le_of_ble_eq_true rfl⟩) ⟨fun a U g mk q => by obtain ⟨q0, q1, qP, qK, qD, qN⟩ := q; exact ⟨q0, q1, qP, va_K.moved (u := U) (U := U.calling g mk a) (Vm.Alike.refl U.vm) qK, qD, qN.same rfl⟩, fun U hU hW => ⟨rfl, by rw [hU], by rw [hU]; exact hP, va_K.moved hW.alike hK, hD.weaken (fun _ _ _ _ => trivial), hN.warm hW⟩⟩ rfl rfl hl.1 rfl (lv_room (Nat.le_of_ble_eq_true rfl)) dX3_takeReference_6 ⟨Nat.le_of_ble_eq_true rfl, Nat.le_of_ble_eq_true rfl⟩) hS (fun q _ h => hFc q h) hFc (fun rr u t H_7 locs ht hvm hw hB hz1 hk1 hS2 => ?_)
  rw [hw]
  clear hw
  obtain ⟨hP1, -, hD1⟩ := hB
  rw [ht] at hP1
  replace hD := hD1.weaken (fun _ _ _ h => hFc _ h)
  replace hP := hP1
  replace hS := hS2
  clear hP1 hD1 hS2 hFc hfc hz1 hk1 hvm ht
  refine lv_if_ne (tgt := 20) hx hb dX3_takeReference_9 (by decide) (fun c_8 => ?_) (fun c_8 => ?_)
  · skip
    rw [if_neg c_8] at hf
    refine lv_iload_n hx hb dX3_takeReference_20 rfl (lv_at hl 2 rfl) ?_
    refine lv_if_eq (tgt := 37) hx hb dX3_takeReference_21 (by decide) (fun c_9 => ?_) (fun c_9 => ?_)
    · skip
      rw [if_pos c_9] at hf
      refine lv_lload_n hx hb dX3_takeReference_37 rfl (lv_at hl 0 rfl) ?_
      obtain ⟨z_10, r_11, hfc, hf⟩ := cal_some hf
      have hFc := de_free hD hS hA
      refine va_calll (va_runS (As := [.long r_2]) (rest := []) ⟨hx, hb, hml, hown, hts⟩ (de_X5_pointee l dC dI cy a sh n H_7.size F z_5 r_2 hfc) (va_cwS 1 hts gX3_takeReference_X5_pointee rfl rfl rfl (by decide +kernel) ⟨Nat.le_of_ble_eq_true rfl, Nat.le_of_ble_eq_true rfl⟩) ⟨fun a U g mk q => by obtain ⟨q0, q1, qP, qK, qD, qN⟩ := q; exact ⟨q0, q1, qP, va_K.moved (u := U) (U := U.calling g mk a) (Vm.Alike.refl U.vm) qK, qD, qN.same rfl⟩, fun U hU hW => ⟨rfl, by rw [hU], by rw [hU]; exact hP, va_K.moved hW.alike hK, hD.weaken (fun _ _ _ _ => trivial), hN.warm hW⟩⟩ rfl rfl hl.1 rfl (lv_room (Nat.le_of_ble_eq_true rfl)) dX3_takeReference_38 ⟨Nat.le_of_ble_eq_true rfl, Nat.le_of_ble_eq_true rfl⟩) hS (fun q _ h => hFc q h) hFc (fun rr u t H_12 locs ht hvm hw hB hz1 hk1 hS2 => ?_)
      rw [hw]
      clear hw
      obtain ⟨hP1, -, hD1⟩ := hB
      rw [ht] at hP1
      replace hD := hD1.weaken (fun _ _ _ h => hFc _ h)
      replace hP := hP1
      replace hS := hS2
      clear hP1 hD1 hS2 hFc hfc hz1 hk1 hvm ht
      obtain ⟨h8, h9⟩ := ret_some hf
      rw [h8, h9]
      exact W.lret (v := r_11) hx hb hr (fun t ht hW => ⟨⟨r_11, (), rfl, rfl, by rw [ht]; exact hP, va_K.moved hW.alike hK, hD⟩, hS.F ht⟩) hS.2.2 dX3_takeReference_41
    · skip
      rw [if_neg c_9] at hf
      refine lv_lload_n hx hb dX3_takeReference_24 rfl (lv_at hl 0 rfl) ?_
      obtain ⟨z_13, r_14, hfc, hf⟩ := cal_some hf
      have hFc := de_free hD hS hA
      refine va_calli (va_runS (As := [.long r_2]) (rest := []) ⟨hx, hb, hml, hown, hts⟩ (de_X3_writes l dC dI cy a sh n H_7.size F z_5 r_2 hfc) (va_cwS 1 hts gX3_takeReference_X3_writes rfl rfl rfl (by decide +kernel) ⟨Nat.le_of_ble_eq_true rfl, Nat.le_of_ble_eq_true rfl⟩) ⟨fun a U g mk q => by obtain ⟨q0, q1, qP, qK, qD, qN⟩ := q; exact ⟨q0, q1, qP, va_K.moved (u := U) (U := U.calling g mk a) (Vm.Alike.refl U.vm) qK, qD, qN.same rfl⟩, fun U hU hW => ⟨rfl, by rw [hU], by rw [hU]; exact hP, va_K.moved hW.alike hK, hD.weaken (fun _ _ _ _ => trivial), hN.warm hW⟩⟩ rfl rfl hl.1 rfl (lv_room (Nat.le_of_ble_eq_true rfl)) dX3_takeReference_25 ⟨Nat.le_of_ble_eq_true rfl, Nat.le_of_ble_eq_true rfl⟩) hS (fun q _ h => hFc q h) hFc (fun rr u t H_15 locs ht hvm hw hB hz1 hk1 hS2 => ?_)
      rw [hw]
      clear hw
      obtain ⟨hP1, -, hD1⟩ := hB
      rw [ht] at hP1
      replace hD := hD1.weaken (fun _ _ _ h => hFc _ h)
      replace hP := hP1
      replace hS := hS2
      clear hP1 hD1 hS2 hFc hfc hz1 hk1 hvm ht
      refine lv_if_ne (tgt := 37) hx hb dX3_takeReference_28 (by decide) (fun c_16 => ?_) (fun c_16 => ?_)
      · skip
        rw [if_neg c_16] at hf
        refine lv_lload_n hx hb dX3_takeReference_37 rfl (lv_at hl 0 rfl) ?_
        obtain ⟨z_17, r_18, hfc, hf⟩ := cal_some hf
        have hFc := de_free hD hS hA
        refine va_calll (va_runS (As := [.long r_2]) (rest := []) ⟨hx, hb, hml, hown, hts⟩ (de_X5_pointee l dC dI cy a sh n H_15.size F z_13 r_2 hfc) (va_cwS 1 hts gX3_takeReference_X5_pointee rfl rfl rfl (by decide +kernel) ⟨Nat.le_of_ble_eq_true rfl, Nat.le_of_ble_eq_true rfl⟩) ⟨fun a U g mk q => by obtain ⟨q0, q1, qP, qK, qD, qN⟩ := q; exact ⟨q0, q1, qP, va_K.moved (u := U) (U := U.calling g mk a) (Vm.Alike.refl U.vm) qK, qD, qN.same rfl⟩, fun U hU hW => ⟨rfl, by rw [hU], by rw [hU]; exact hP, va_K.moved hW.alike hK, hD.weaken (fun _ _ _ _ => trivial), hN.warm hW⟩⟩ rfl rfl hl.1 rfl (lv_room (Nat.le_of_ble_eq_true rfl)) dX3_takeReference_38 ⟨Nat.le_of_ble_eq_true rfl, Nat.le_of_ble_eq_true rfl⟩) hS (fun q _ h => hFc q h) hFc (fun rr u t H_19 locs ht hvm hw hB hz1 hk1 hS2 => ?_)
        rw [hw]
        clear hw
        obtain ⟨hP1, -, hD1⟩ := hB
        rw [ht] at hP1
        replace hD := hD1.weaken (fun _ _ _ h => hFc _ h)
        replace hP := hP1
        replace hS := hS2
        clear hP1 hD1 hS2 hFc hfc hz1 hk1 hvm ht
        obtain ⟨h8, h9⟩ := ret_some hf
        rw [h8, h9]
        exact W.lret (v := r_18) hx hb hr (fun t ht hW => ⟨⟨r_18, (), rfl, rfl, by rw [ht]; exact hP, va_K.moved hW.alike hK, hD⟩, hS.F ht⟩) hS.2.2 dX3_takeReference_41
      · skip
        rw [if_pos c_16] at hf
        refine lv_aload_n hx hb dX3_takeReference_31 rfl (lv_at hl 1 rfl) ?_
        refine lv_bipush (v := 7) hx hb dX3_takeReference_32 (by decide) ?_
        obtain ⟨z_20, _u, hfc, hf⟩ := cal_some hf
        have hFc := de_free hD hS hA
        refine va_callv (va_runV (As := [.int 7]) (rest := []) ⟨hx, hb, hml, hown, hts⟩ (de_X3_fail l dC dI cy a sh n H_15.size F z_13 h0 7 hfc) (cwV 1 hts gX3_takeReference_X3_fail rfl rfl rfl (by decide +kernel) ⟨Nat.le_of_ble_eq_true rfl, Nat.le_of_ble_eq_true rfl⟩) ⟨fun a U g mk q => by obtain ⟨q0, q1, qP, qK, qD, qN⟩ := q; exact ⟨q0, q1, qP, va_K.moved (u := U) (U := U.calling g mk a) (Vm.Alike.refl U.vm) qK, qD, qN.same rfl⟩, va_recv hK hP (ci := 3) (q0 := h0) rfl (Wd_ob kg_3 sg_3 (by decide)), fun U hU hW => ⟨rfl, by rw [hU], by rw [hU]; exact hP, va_K.moved hW.alike hK, hD.weaken (fun _ _ _ _ => trivial), hN.warm hW⟩⟩ rfl rfl hl.1 rfl (lv_room (Nat.le_of_ble_eq_true rfl)) dX3_takeReference_34 ⟨Nat.le_of_ble_eq_true rfl, Nat.le_of_ble_eq_true rfl⟩) hS (fun q _ h => hFc q h) hFc (fun u t H_21 locs ht hvm hw hB hz1 hk1 hS2 => ?_)
        obtain ⟨hP1, -, hD1⟩ := hB
        rw [ht] at hP1
        replace hD := hD1.weaken (fun _ _ _ h => hFc _ h)
        replace hP := hP1
        replace hS := hS2
        clear hP1 hD1 hS2 hFc hfc hz1 hk1 hvm ht
        refine lv_lload_n hx hb dX3_takeReference_37 rfl (lv_at hl 0 rfl) ?_
        obtain ⟨z_22, r_23, hfc, hf⟩ := cal_some hf
        have hFc := de_free hD hS hA
        refine va_calll (va_runS (As := [.long r_2]) (rest := []) ⟨hx, hb, hml, hown, hts⟩ (de_X5_pointee l dC dI cy a sh n H_21.size F z_20 r_2 hfc) (va_cwS 1 hts gX3_takeReference_X5_pointee rfl rfl rfl (by decide +kernel) ⟨Nat.le_of_ble_eq_true rfl, Nat.le_of_ble_eq_true rfl⟩) ⟨fun a U g mk q => by obtain ⟨q0, q1, qP, qK, qD, qN⟩ := q; exact ⟨q0, q1, qP, va_K.moved (u := U) (U := U.calling g mk a) (Vm.Alike.refl U.vm) qK, qD, qN.same rfl⟩, fun U hU hW => ⟨rfl, by rw [hU], by rw [hU]; exact hP, va_K.moved hW.alike hK, hD.weaken (fun _ _ _ _ => trivial), hN.warm hW⟩⟩ rfl rfl hl.1 rfl (lv_room (Nat.le_of_ble_eq_true rfl)) dX3_takeReference_38 ⟨Nat.le_of_ble_eq_true rfl, Nat.le_of_ble_eq_true rfl⟩) hS (fun q _ h => hFc q h) hFc (fun rr u t H_24 locs ht hvm hw hB hz1 hk1 hS2 => ?_)
        rw [hw]
        clear hw
        obtain ⟨hP1, -, hD1⟩ := hB
        rw [ht] at hP1
        replace hD := hD1.weaken (fun _ _ _ h => hFc _ h)
        replace hP := hP1
        replace hS := hS2
        clear hP1 hD1 hS2 hFc hfc hz1 hk1 hvm ht
        obtain ⟨h8, h9⟩ := ret_some hf
        rw [h8, h9]
        exact W.lret (v := r_23) hx hb hr (fun t ht hW => ⟨⟨r_23, (), rfl, rfl, by rw [ht]; exact hP, va_K.moved hW.alike hK, hD⟩, hS.F ht⟩) hS.2.2 dX3_takeReference_41
  · skip
    rw [if_pos c_8] at hf
    refine lv_aload_n hx hb dX3_takeReference_12 rfl (lv_at hl 1 rfl) ?_
    refine lv_iconst (v := 3) hx hb dX3_takeReference_13 (by decide) ?_
    obtain ⟨z_25, _u, hfc, hf⟩ := cal_some hf
    have hFc := de_free hD hS hA
    refine va_callv (va_runV (As := [.int 3]) (rest := []) ⟨hx, hb, hml, hown, hts⟩ (de_X3_fail l dC dI cy a sh n H_7.size F z_5 h0 3 hfc) (cwV 1 hts gX3_takeReference_X3_fail rfl rfl rfl (by decide +kernel) ⟨Nat.le_of_ble_eq_true rfl, Nat.le_of_ble_eq_true rfl⟩) ⟨fun a U g mk q => by obtain ⟨q0, q1, qP, qK, qD, qN⟩ := q; exact ⟨q0, q1, qP, va_K.moved (u := U) (U := U.calling g mk a) (Vm.Alike.refl U.vm) qK, qD, qN.same rfl⟩, va_recv hK hP (ci := 3) (q0 := h0) rfl (Wd_ob kg_3 sg_3 (by decide)), fun U hU hW => ⟨rfl, by rw [hU], by rw [hU]; exact hP, va_K.moved hW.alike hK, hD.weaken (fun _ _ _ _ => trivial), hN.warm hW⟩⟩ rfl rfl hl.1 rfl (lv_room (Nat.le_of_ble_eq_true rfl)) dX3_takeReference_14 ⟨Nat.le_of_ble_eq_true rfl, Nat.le_of_ble_eq_true rfl⟩) hS (fun q _ h => hFc q h) hFc (fun u t H_26 locs ht hvm hw hB hz1 hk1 hS2 => ?_)
    obtain ⟨hP1, -, hD1⟩ := hB
    rw [ht] at hP1
    replace hD := hD1.weaken (fun _ _ _ h => hFc _ h)
    replace hP := hP1
    replace hS := hS2
    clear hP1 hD1 hS2 hFc hfc hz1 hk1 hvm ht
    refine lv_goto (tgt := 37) hx hb dX3_takeReference_17 (by decide) ?_
    refine lv_lload_n hx hb dX3_takeReference_37 rfl (lv_at hl 0 rfl) ?_
    obtain ⟨z_27, r_28, hfc, hf⟩ := cal_some hf
    have hFc := de_free hD hS hA
    refine va_calll (va_runS (As := [.long r_2]) (rest := []) ⟨hx, hb, hml, hown, hts⟩ (de_X5_pointee l dC dI cy a sh n H_26.size F z_25 r_2 hfc) (va_cwS 1 hts gX3_takeReference_X5_pointee rfl rfl rfl (by decide +kernel) ⟨Nat.le_of_ble_eq_true rfl, Nat.le_of_ble_eq_true rfl⟩) ⟨fun a U g mk q => by obtain ⟨q0, q1, qP, qK, qD, qN⟩ := q; exact ⟨q0, q1, qP, va_K.moved (u := U) (U := U.calling g mk a) (Vm.Alike.refl U.vm) qK, qD, qN.same rfl⟩, fun U hU hW => ⟨rfl, by rw [hU], by rw [hU]; exact hP, va_K.moved hW.alike hK, hD.weaken (fun _ _ _ _ => trivial), hN.warm hW⟩⟩ rfl rfl hl.1 rfl (lv_room (Nat.le_of_ble_eq_true rfl)) dX3_takeReference_38 ⟨Nat.le_of_ble_eq_true rfl, Nat.le_of_ble_eq_true rfl⟩) hS (fun q _ h => hFc q h) hFc (fun rr u t H_29 locs ht hvm hw hB hz1 hk1 hS2 => ?_)
    rw [hw]
    clear hw
    obtain ⟨hP1, -, hD1⟩ := hB
    rw [ht] at hP1
    replace hD := hD1.weaken (fun _ _ _ h => hFc _ h)
    replace hP := hP1
    replace hS := hS2
    clear hP1 hD1 hS2 hFc hfc hz1 hk1 hvm ht
    obtain ⟨h8, h9⟩ := ret_some hf
    rw [h8, h9]
    exact W.lret (v := r_28) hx hb hr (fun t ht hW => ⟨⟨r_28, (), rfl, rfl, by rw [ht]; exact hP, va_K.moved hW.alike hK, hD⟩, hS.F ht⟩) hS.2.2 dX3_takeReference_41

theorem md_X16_typeAt_1 : (.constantLong RX16 161 (256) : Cond) ∈ wsX16_typeAt := List.mem_of_getElem? (i := 1) rfl
set_option maxHeartbeats 4000000 in
set_option maxRecDepth 100000 in
theorem de_X16_typeAt (l : Launch) (dC : Nat → ClassId) (dI : Nat → Nat → Nat) (cy : Nat → ClassId) (a : Nat → Nat) (sh : Nat → Nat × Nat) (n sz : Nat) (F : Nat) (z : St) (h0 : Nat) (x0 : Int32) {z8 : St} {r8 : Int64} (hf : fn_X16_typeAt F sh n z h0 x0 = some (z8, r8)) : Met l yX16_typeAt wsX16_typeAt ({ frames := 2, cells := 0, slots := 0, locals := 43 }) (va_Pc [.ref (a h0), .int x0] (fun U => U.heap.size = sz ∧ va_P (dC, dI) vwCl (Wd cy a sh n z) U.heap ∧ va_K (dC, dI) vwCl (TYS cy) U ∧ va_D (fun _ => True) (Wd cy a sh n z) ∧ NK U)) (va_Ql (fun (r9 : Int64) (u : Unit) => r9 = r8) (fun u t => va_P (dC, dI) vwCl (Wd cy a sh n z8) t.heap ∧ va_K (dC, dI) vwCl (TYS cy) t ∧ va_D (va_A (Wd cy a sh n z) sz) (Wd cy a sh n z8)) (va_A (Wd cy a sh n z) sz)) 0 0 (va_A (Wd cy a sh n z) sz) := by
  refine Met.ofW (cc := cX16_typeAt) (maxL := 5) (ret := (some .long)) (by decide) rfl ?_
  intro p e s m args below meth c s₁ B hml hv
  obtain ⟨rfl, hsz, hP, hK, hD0, hN⟩ := hv
  have hx := B.exec
  have hb := B.bytes
  have hr := B.returns
  have hts := atoms_spec (ws := wsX16_typeAt) B.pre
  have hown : s.vm.findClass RX16 = some m.cls := findClass_of_methodNamed B.named
  have hlocks := B.notSynchronized
  subst hsz
  have hD := hD0.self (sz := s.heap.size)
  clear hD0
  generalize hAe : va_A (Wd cy a sh n z) s.heap.size = A at hD ⊢
  have hA : ∀ q : Nat, s.heap.size ≤ q → A q := fun q h => by rw [← hAe]; exact Or.inr h
  clear hAe
  have hS : va_S A s.heap s.heap [] := va_S.rf
  have hl := lv_entry ([.ref (a h0), .int x0]) (n := 5) (Nat.le_of_ble_eq_true rfl)
  rw [lg_entry_eq]
  generalize (lg_sl ([.ref (a h0), .int x0]) ++ List.replicate (5 - (lg_sl ([.ref (a h0), .int x0])).length) Slot.unset).toArray = ls at hl ⊢
  replace hl : lv_has ls 5 [(0, .ref (a h0)), (1, .int x0)] := hl
  unfold fn_X16_typeAt at hf
  refine de_start hS hP (fun H locs hS hP => ?_)
  refine lv_lconst (v := 0) hx hb dX16_typeAt_0 (by decide) ?_
  refine lv_lstore_n (lv' := [(2, .long 0), (0, .ref (a h0)), (1, .int x0)]) hx hb dX16_typeAt_1 rfl hl (by decide) rfl (fun ls hl2 => ?_)
  replace hl := hl2
  clear hl2
  refine lv_iload_n hx hb dX16_typeAt_2 rfl (lv_at hl 2 rfl) ?_
  refine lv_istore (lv' := [(4, .int x0), (2, .long 0), (0, .ref (a h0)), (1, .int x0)]) hx hb dX16_typeAt_3 hl (by decide) rfl (fun ls hl2 => ?_)
  replace hl := hl2
  clear hl2
  have hl0 : lv_has ls 5 [(4, .int x0), (2, .long 0), (0, .ref (a h0)), (1, .int x0)] := lv_sub hl [0, 1, 2, 3] rfl
  refine de_loop (h := 5) (fun (x : St × Int64 × Int32) ls H locs => lv_has ls 5 [(4, .int x.2.2), (2, .long x.2.1), (0, .ref (a h0)), (1, .int x0)] ∧ va_P (dC, dI) vwCl (Wd cy a sh n x.1) H ∧ va_D A (Wd cy a sh n x.1) ∧ va_S A s.heap H locs) (fun f x => fn_X16_typeAt_L5 F sh n h0 x0 f x.1 x.2.1 x.2.2) (z8, r8) ?_ (fun _ => rfl) F (z, 0, x0) ls H locs ⟨hl0, hP, hD, hS⟩ hf
  intro f_4 x ls H locs ih5 hI hf
  obtain ⟨z_3, p_1, p_2⟩ := x
  obtain ⟨hl2, hP2, hD2, hS2⟩ := hI
  replace hl : lv_has ls 5 [(4, .int p_2), (2, .long p_1), (0, .ref (a h0)), (1, .int x0)] := hl2
  replace hP := hP2
  replace hD := hD2
  replace hS := hS2
  clear hl2 hP2 hD2 hS2 hl0
  replace hf := fn_X16_typeAt_L5_s hf
  refine lv_iload hx hb dX16_typeAt_5 (lv_at hl 0 rfl) ?_
  refine lv_aload_n hx hb dX16_typeAt_7 rfl (lv_at hl 2 rfl) ?_
  refine lv_iload_n hx hb dX16_typeAt_8 rfl (lv_at hl 3 rfl) ?_
  obtain ⟨g_7, hf⟩ := grd_some hf
  obtain ⟨kg_7, sg_7⟩ := okO_at g_7
  obtain ⟨z_5, r_6, hfc, hf⟩ := cal_some hf
  have hFc := de_free hD hS hA
  refine va_calli (va_runV (As := [.int x0]) (rest := [.int p_2]) ⟨hx, hb, hml, hown, hts⟩ (de_X16_typeEnd l dC dI cy a sh n H.size F z_3 h0 x0 hfc) (cwV 1 hts gX16_typeAt_X16_typeEnd rfl rfl rfl (by decide +kernel) ⟨Nat.le_of_ble_eq_true rfl, Nat.le_of_ble_eq_true rfl⟩) ⟨fun a U g mk q => by obtain ⟨q0, q1, qP, qK, qD, qN⟩ := q; exact ⟨q0, q1, qP, va_K.moved (u := U) (U := U.calling g mk a) (Vm.Alike.refl U.vm) qK, qD, qN.same rfl⟩, va_recv hK hP (ci := 16) (q0 := h0) rfl (Wd_ob kg_7 sg_7 (by decide)), fun U hU hW => ⟨rfl, by rw [hU], by rw [hU]; exact hP, va_K.moved hW.alike hK, hD.weaken (fun _ _ _ _ => trivial), hN.warm hW⟩⟩ rfl rfl hl.1 rfl (lv_room (Nat.le_of_ble_eq_true rfl)) dX16_typeAt_9 ⟨Nat.le_of_ble_eq_true rfl, Nat.le_of_ble_eq_true rfl⟩) hS (fun q _ h => hFc q h) hFc (fun rr u t H_8 locs ht hvm hw hB hz1 hk1 hS2 => ?_)
  rw [hw]
  clear hw
  obtain ⟨hP1, -, hD1⟩ := hB
  rw [ht] at hP1
  replace hD := hD1.weaken (fun _ _ _ h => hFc _ h)
  replace hP := hP1
  replace hS := hS2
  clear hP1 hD1 hS2 hFc hfc hz1 hk1 hvm ht
  refine lv_icmp_ge (tgt := 35) hx hb dX16_typeAt_12 (by decide) (fun c_9 => ?_) (fun c_9 => ?_)
  · skip
    rw [if_pos c_9] at hf
    refine lv_lload_n hx hb dX16_typeAt_35 rfl (lv_at hl 1 rfl) ?_
    obtain ⟨h8, h9⟩ := ret_some hf
    rw [h8, h9]
    exact W.lret (v := p_1) hx hb hr (fun t ht hW => ⟨⟨p_1, (), rfl, rfl, by rw [ht]; exact hP, va_K.moved hW.alike hK, hD⟩, hS.F ht⟩) hS.2.2 dX16_typeAt_36
  · skip
    rw [if_neg c_9] at hf
    refine lv_ldc2 hx hb hown (hts _ md_X16_typeAt_1) dX16_typeAt_15 ?_
    refine lv_lload_n hx hb dX16_typeAt_18 rfl (lv_at hl 1 rfl) ?_
    refine lv_lmul hx hb dX16_typeAt_19 ?_
    refine lv_aload_n hx hb dX16_typeAt_20 rfl (lv_at hl 2 rfl) ?_
    refine lv_iload hx hb dX16_typeAt_21 (lv_at hl 0 rfl) ?_
    obtain ⟨z_10, r_11, hfc, hf⟩ := cal_some hf
    have hFc := de_free hD hS hA
    refine va_calli (va_runV (As := [.int p_2]) (rest := [.long (256 * p_1)]) ⟨hx, hb, hml, hown, hts⟩ (de_X16_byteAt l dC dI cy a sh n H_8.size F z_5 h0 p_2 hfc) (cwV 1 hts gX16_typeAt_X16_byteAt rfl rfl rfl (by decide +kernel) ⟨Nat.le_of_ble_eq_true rfl, Nat.le_of_ble_eq_true rfl⟩) ⟨fun a U g mk q => by obtain ⟨q0, q1, qP, qK, qD, qN⟩ := q; exact ⟨q0, q1, qP, va_K.moved (u := U) (U := U.calling g mk a) (Vm.Alike.refl U.vm) qK, qD, qN.same rfl⟩, va_recv hK hP (ci := 16) (q0 := h0) rfl (Wd_ob kg_7 sg_7 (by decide)), fun U hU hW => ⟨rfl, by rw [hU], by rw [hU]; exact hP, va_K.moved hW.alike hK, hD.weaken (fun _ _ _ _ => trivial), hN.warm hW⟩⟩ rfl rfl hl.1 rfl (lv_room (Nat.le_of_ble_eq_true rfl)) dX16_typeAt_23 ⟨Nat.le_of_ble_eq_true rfl, Nat.le_of_ble_eq_true rfl⟩) hS (fun q _ h => hFc q h) hFc (fun rr u t H_12 locs ht hvm hw hB hz1 hk1 hS2 => ?_)
    rw [hw]
    clear hw
    obtain ⟨hP1, -, hD1⟩ := hB
    rw [ht] at hP1
    replace hD := hD1.weaken (fun _ _ _ h => hFc _ h)
    replace hP := hP1
    replace hS := hS2
    clear hP1 hD1 hS2 hFc hfc hz1 hk1 hvm ht
    refine lv_i2l (v := (r_11 : Int32).toInt64) hx hb dX16_typeAt_26 rfl ?_
    refine lv_ladd hx hb dX16_typeAt_27 ?_
    refine lv_topl (fun v_13 ev_13 => ?_)
    replace hf := lt_at ev_13 hf
    clear ev_13
    refine lv_lstore_n (lv' := [(2, .long v_13), (4, .int p_2), (0, .ref (a h0)), (1, .int x0)]) hx hb dX16_typeAt_28 rfl hl (by decide) rfl (fun ls hl2 => ?_)
    replace hl := hl2
    clear hl2
    refine lv_iinc (v := (p_2 + 1)) (lv' := [(4, .int (p_2 + 1)), (2, .long v_13), (0, .ref (a h0)), (1, .int x0)]) hx hb dX16_typeAt_29 hl (k := 1) rfl rfl (by decide) rfl (fun ls hl2 => ?_)
    replace hl := hl2
    clear hl2
    refine lv_goto (tgt := 5) hx hb dX16_typeAt_32 (by decide) ?_
    exact ih5 (z_10, v_13, (p_2 + 1)) ls H_12 locs ⟨lv_sub hl [0, 1, 2, 3] rfl, hP, hD, hS⟩ hf

theorem md_X18_makeCoin_1 : (.fieldLink RX18 40 "ResourceLedgerModel" "trees" "LResourceLedgerModel$Trees;" : Cond) ∈ wsX18_makeCoin := List.mem_of_getElem? (i := 1) rfl
theorem iwd_X18_makeCoin_X18 : ∀ w ∈ wsX180, w ∈ wsX18_makeCoin := fun _ h => List.mem_cons_of_mem _ (List.mem_append_left _ (List.mem_append_right _ h))
set_option maxHeartbeats 4000000 in
set_option maxRecDepth 100000 in
theorem de_X18_makeCoin (l : Launch) (dC : Nat → ClassId) (dI : Nat → Nat → Nat) (cy : Nat → ClassId) (a : Nat → Nat) (sh : Nat → Nat × Nat) (n sz : Nat) (F : Nat) (z : St) (h0 : Nat) (x0 : Int64) {z8 : St} {r8 : Unit} (hf : fn_X18_makeCoin F sh n z h0 x0 = some (z8, r8)) : Met l yX18_makeCoin wsX18_makeCoin ({ frames := 2, cells := 0, slots := 0, locals := 42 }) (va_Pc [.ref (a h0), .long x0] (fun U => U.heap.size = sz ∧ va_P (dC, dI) vwCl (Wd cy a sh n z) U.heap ∧ va_K (dC, dI) vwCl (TYS cy) U ∧ va_D (fun _ => True) (Wd cy a sh n z) ∧ NK U)) (va_Qv (fun u : Unit => True) (fun u t => va_P (dC, dI) vwCl (Wd cy a sh n z8) t.heap ∧ va_K (dC, dI) vwCl (TYS cy) t ∧ va_D (va_A (Wd cy a sh n z) sz) (Wd cy a sh n z8)) (va_A (Wd cy a sh n z) sz)) 0 0 (va_A (Wd cy a sh n z) sz) := by
  refine Met.ofW (cc := cX18_makeCoin) (maxL := 4) (ret := none) (by decide) rfl ?_
  intro p e s m args below meth c s₁ B hml hv
  obtain ⟨rfl, hsz, hP, hK, hD0, hN⟩ := hv
  have hx := B.exec
  have hb := B.bytes
  have hr := B.returns
  have hts := atoms_spec (ws := wsX18_makeCoin) B.pre
  have hown : s.vm.findClass RX18 = some m.cls := findClass_of_methodNamed B.named
  have hlocks := B.notSynchronized
  subst hsz
  have hD := hD0.self (sz := s.heap.size)
  clear hD0
  generalize hAe : va_A (Wd cy a sh n z) s.heap.size = A at hD ⊢
  have hA : ∀ q : Nat, s.heap.size ≤ q → A q := fun q h => by rw [← hAe]; exact Or.inr h
  clear hAe
  have hS : va_S A s.heap s.heap [] := va_S.rf
  have hl := lv_entry ([.ref (a h0), .long x0]) (n := 4) (Nat.le_of_ble_eq_true rfl)
  rw [lg_entry_eq]
  generalize (lg_sl ([.ref (a h0), .long x0]) ++ List.replicate (4 - (lg_sl ([.ref (a h0), .long x0])).length) Slot.unset).toArray = ls at hl ⊢
  replace hl : lv_has ls 4 [(0, .ref (a h0)), (1, .long x0)] := hl
  unfold fn_X18_makeCoin at hf
  refine de_start hS hP (fun H locs hS hP => ?_)
  refine lv_aload_n hx hb dX18_makeCoin_0 rfl (lv_at hl 0 rfl) ?_
  obtain ⟨g_1, hf⟩ := grd_some hf
  obtain ⟨kg_1, sg_1⟩ := okO_at g_1
  obtain ⟨k_2, ek_2, hf⟩ := lnk_some hf
  refine va_get (D := (dC, dI)) (ci := 18) (v := .ref (a k_2)) (C := RX18) (T := TX18) (N := 78) hx hb hts iwd_X18_makeCoin_X18 hown hK hP h0 (Wd_ob kg_1 sg_1 (by decide)) rfl 15 (by decide) (hts _ md_X18_makeCoin_1) (fun _ h9 => h9) (fl_q rfl ek_2) dX18_makeCoin_1 ?_
  refine lv_bipush (v := 6) hx hb dX18_makeCoin_4 (by decide) ?_
  refine lv_lconst (v := 0) hx hb dX18_makeCoin_6 (by decide) ?_
  refine lv_lconst (v := 0) hx hb dX18_makeCoin_7 (by decide) ?_
  obtain ⟨g_5, hf⟩ := grd_some hf
  obtain ⟨kg_5, sg_5⟩ := okO_at g_5
  obtain ⟨z_3, r_4, hfc, hf⟩ := cal_some hf
  have hFc := de_free hD hS hA
  refine va_calli (va_runV (As := [.int 6, .long 0, .long 0]) (rest := []) ⟨hx, hb, hml, hown, hts⟩ (de_X15_make l dC dI cy a sh n H.size F z k_2 6 0 0 hfc) (cwV 3 hts gX18_makeCoin_X15_make rfl rfl rfl (by decide +kernel) ⟨Nat.le_of_ble_eq_true rfl, Nat.le_of_ble_eq_true rfl⟩) ⟨fun a U g mk q => by obtain ⟨q0, q1, qP, qK, qD, qN⟩ := q; exact ⟨q0, q1, qP, va_K.moved (u := U) (U := U.calling g mk a) (Vm.Alike.refl U.vm) qK, qD, qN.same rfl⟩, va_recv hK hP (ci := 15) (q0 := k_2) rfl (Wd_ob kg_5 sg_5 (by decide)), fun U hU hW => ⟨rfl, by rw [hU], by rw [hU]; exact hP, va_K.moved hW.alike hK, hD.weaken (fun _ _ _ _ => trivial), hN.warm hW⟩⟩ rfl rfl hl.1 rfl (lv_room (Nat.le_of_ble_eq_true rfl)) dX18_makeCoin_8 ⟨Nat.le_of_ble_eq_true rfl, Nat.le_of_ble_eq_true rfl⟩) hS (fun q _ h => hFc q h) hFc (fun rr u t H_6 locs ht hvm hw hB hz1 hk1 hS2 => ?_)
  rw [hw]
  clear hw
  obtain ⟨hP1, -, hD1⟩ := hB
  rw [ht] at hP1
  replace hD := hD1.weaken (fun _ _ _ h => hFc _ h)
  replace hP := hP1
  replace hS := hS2
  clear hP1 hD1 hS2 hFc hfc hz1 hk1 hvm ht
  refine lv_istore_n (lv' := [(3, .int r_4), (0, .ref (a h0)), (1, .long x0)]) hx hb dX18_makeCoin_11 rfl hl (by decide) rfl (fun ls hl2 => ?_)
  replace hl := hl2
  clear hl2
  refine lv_aload_n hx hb dX18_makeCoin_12 rfl (lv_at hl 1 rfl) ?_
  obtain ⟨k_7, ek_7, hf⟩ := lnk_some hf
  refine va_get (D := (dC, dI)) (ci := 18) (v := .ref (a k_7)) (C := RX18) (T := TX18) (N := 78) hx hb hts iwd_X18_makeCoin_X18 hown hK hP h0 (Wd_ob kg_1 sg_1 (by decide)) rfl 15 (by decide) (hts _ md_X18_makeCoin_1) (fun _ h9 => h9) (fl_q rfl ek_7) dX18_makeCoin_13 ?_
  refine lv_iload_n hx hb dX18_makeCoin_16 rfl (lv_at hl 0 rfl) ?_
  refine lv_aload_n hx hb dX18_makeCoin_17 rfl (lv_at hl 1 rfl) ?_
  obtain ⟨k_8, ek_8, hf⟩ := lnk_some hf
  refine va_get (D := (dC, dI)) (ci := 18) (v := .ref (a k_8)) (C := RX18) (T := TX18) (N := 78) hx hb hts iwd_X18_makeCoin_X18 hown hK hP h0 (Wd_ob kg_1 sg_1 (by decide)) rfl 15 (by decide) (hts _ md_X18_makeCoin_1) (fun _ h9 => h9) (fl_q rfl ek_8) dX18_makeCoin_18 ?_
  refine lv_iconst (v := 3) hx hb dX18_makeCoin_21 (by decide) ?_
  refine lv_lconst (v := 0) hx hb dX18_makeCoin_22 (by decide) ?_
  refine lv_lload_n hx hb dX18_makeCoin_23 rfl (lv_at hl 2 rfl) ?_
  obtain ⟨g_11, hf⟩ := grd_some hf
  obtain ⟨kg_11, sg_11⟩ := okO_at g_11
  obtain ⟨z_9, r_10, hfc, hf⟩ := cal_some hf
  have hFc := de_free hD hS hA
  refine va_calli (va_runV (As := [.int 3, .long 0, .long x0]) (rest := [.int r_4, .ref (a k_7)]) ⟨hx, hb, hml, hown, hts⟩ (de_X15_make l dC dI cy a sh n H_6.size F z_3 k_8 3 0 x0 hfc) (cwV 3 hts gX18_makeCoin_X15_make rfl rfl rfl (by decide +kernel) ⟨Nat.le_of_ble_eq_true rfl, Nat.le_of_ble_eq_true rfl⟩) ⟨fun a U g mk q => by obtain ⟨q0, q1, qP, qK, qD, qN⟩ := q; exact ⟨q0, q1, qP, va_K.moved (u := U) (U := U.calling g mk a) (Vm.Alike.refl U.vm) qK, qD, qN.same rfl⟩, va_recv hK hP (ci := 15) (q0 := k_8) rfl (Wd_ob kg_11 sg_11 (by decide)), fun U hU hW => ⟨rfl, by rw [hU], by rw [hU]; exact hP, va_K.moved hW.alike hK, hD.weaken (fun _ _ _ _ => trivial), hN.warm hW⟩⟩ rfl rfl hl.1 rfl (lv_room (Nat.le_of_ble_eq_true rfl)) dX18_makeCoin_24 ⟨Nat.le_of_ble_eq_true rfl, Nat.le_of_ble_eq_true rfl⟩) hS (fun q _ h => hFc q h) hFc (fun rr u t H_12 locs ht hvm hw hB hz1 hk1 hS2 => ?_)
  rw [hw]
  clear hw
  obtain ⟨hP1, -, hD1⟩ := hB
  rw [ht] at hP1
  replace hD := hD1.weaken (fun _ _ _ h => hFc _ h)
  replace hP := hP1
  replace hS := hS2
  clear hP1 hD1 hS2 hFc hfc hz1 hk1 hvm ht
  obtain ⟨g_14, hf⟩ := grd_some hf
  obtain ⟨kg_14, sg_14⟩ := okO_at g_14
  obtain ⟨z_13, _u, hfc, hf⟩ := cal_some hf
  have hFc := de_free hD hS hA
  refine va_callv (va_runV (As := [.int r_4, .int r_10]) (rest := []) ⟨hx, hb, hml, hown, hts⟩ (de_X15_add l dC dI cy a sh n H_12.size F z_9 k_7 r_4 r_10 hfc) (cwV 2 hts gX18_makeCoin_X15_add rfl rfl rfl (by decide +kernel) ⟨Nat.le_of_ble_eq_true rfl, Nat.le_of_ble_eq_true rfl⟩) ⟨fun a U g mk q => by obtain ⟨q0, q1, qP, qK, qD, qN⟩ := q; exact ⟨q0, q1, qP, va_K.moved (u := U) (U := U.calling g mk a) (Vm.Alike.refl U.vm) qK, qD, qN.same rfl⟩, va_recv hK hP (ci := 15) (q0 := k_7) rfl (Wd_ob kg_14 sg_14 (by decide)), fun U hU hW => ⟨rfl, by rw [hU], by rw [hU]; exact hP, va_K.moved hW.alike hK, hD.weaken (fun _ _ _ _ => trivial), hN.warm hW⟩⟩ rfl rfl hl.1 rfl (lv_room (Nat.le_of_ble_eq_true rfl)) dX18_makeCoin_27 ⟨Nat.le_of_ble_eq_true rfl, Nat.le_of_ble_eq_true rfl⟩) hS (fun q _ h => hFc q h) hFc (fun u t H_15 locs ht hvm hw hB hz1 hk1 hS2 => ?_)
  obtain ⟨hP1, -, hD1⟩ := hB
  rw [ht] at hP1
  replace hD := hD1.weaken (fun _ _ _ h => hFc _ h)
  replace hP := hP1
  replace hS := hS2
  clear hP1 hD1 hS2 hFc hfc hz1 hk1 hvm ht
  refine lv_aload_n hx hb dX18_makeCoin_30 rfl (lv_at hl 1 rfl) ?_
  refine lv_iload_n hx hb dX18_makeCoin_31 rfl (lv_at hl 0 rfl) ?_
  refine lv_iconst (v := 0) hx hb dX18_makeCoin_32 (by decide) ?_
  obtain ⟨z_16, _u, hfc, hf⟩ := cal_some hf
  have hFc := de_free hD hS hA
  refine va_callv (va_runV (As := [.int r_4, .int 0]) (rest := []) ⟨hx, hb, hml, hown, hts⟩ (de_X18_push l dC dI cy a sh n H_15.size F z_13 h0 r_4 0 hfc) (cwV 2 hts gX18_makeCoin_X18_push rfl rfl rfl (by decide +kernel) ⟨Nat.le_of_ble_eq_true rfl, Nat.le_of_ble_eq_true rfl⟩) ⟨fun a U g mk q => by obtain ⟨q0, q1, qP, qK, qD, qN⟩ := q; exact ⟨q0, q1, qP, va_K.moved (u := U) (U := U.calling g mk a) (Vm.Alike.refl U.vm) qK, qD, qN.same rfl⟩, va_recv hK hP (ci := 18) (q0 := h0) rfl (Wd_ob kg_1 sg_1 (by decide)), fun U hU hW => ⟨rfl, by rw [hU], by rw [hU]; exact hP, va_K.moved hW.alike hK, hD.weaken (fun _ _ _ _ => trivial), hN.warm hW⟩⟩ rfl rfl hl.1 rfl (lv_room (Nat.le_of_ble_eq_true rfl)) dX18_makeCoin_33 ⟨Nat.le_of_ble_eq_true rfl, Nat.le_of_ble_eq_true rfl⟩) hS (fun q _ h => hFc q h) hFc (fun u t H_17 locs ht hvm hw hB hz1 hk1 hS2 => ?_)
  obtain ⟨hP1, -, hD1⟩ := hB
  rw [ht] at hP1
  replace hD := hD1.weaken (fun _ _ _ h => hFc _ h)
  replace hP := hP1
  replace hS := hS2
  clear hP1 hD1 hS2 hFc hfc hz1 hk1 hvm ht
  obtain ⟨h8, h9⟩ := ret_some hf
  rw [h8]
  exact W.vret hx hb hr (fun t ht hW => ⟨⟨(), rfl, trivial, by rw [ht]; exact hP, va_K.moved hW.alike hK, hD⟩, hS.F ht⟩) hS.2.2 dX18_makeCoin_36

theorem md_X3_come_1 : (.fieldLink RX3 28 "ResourceLedger$Looker" "target" "[Z" : Cond) ∈ wsX3_come := List.mem_of_getElem? (i := 1) rfl
theorem iwd_X3_come_X3 : ∀ w ∈ wsX30, w ∈ wsX3_come := fun _ h => List.mem_cons_of_mem _ (List.mem_append_right _ h)
theorem md_X3_come_2 : (.fieldLink RX3 64 "ResourceLedger$Looker" "at" "I" : Cond) ∈ wsX3_come := List.mem_of_getElem? (i := 2) rfl
set_option maxHeartbeats 4000000 in
set_option maxRecDepth 100000 in
theorem de_X3_come (l : Launch) (dC : Nat → ClassId) (dI : Nat → Nat → Nat) (cy : Nat → ClassId) (a : Nat → Nat) (sh : Nat → Nat × Nat) (n sz : Nat) (F : Nat) (z : St) (h0 : Nat) (x0 : Int32) {z8 : St} {r8 : Unit} (hf : fn_X3_come F sh n z h0 x0 = some (z8, r8)) : Met l yX3_come wsX3_come ({ frames := 2, cells := 0, slots := 0, locals := 64 }) (va_Pc [.ref (a h0), .int x0] (fun U => U.heap.size = sz ∧ va_P (dC, dI) vwCl (Wd cy a sh n z) U.heap ∧ va_K (dC, dI) vwCl (TYS cy) U ∧ va_D (fun _ => True) (Wd cy a sh n z) ∧ NK U)) (va_Qv (fun u : Unit => True) (fun u t => va_P (dC, dI) vwCl (Wd cy a sh n z8) t.heap ∧ va_K (dC, dI) vwCl (TYS cy) t ∧ va_D (va_A (Wd cy a sh n z) sz) (Wd cy a sh n z8)) (va_A (Wd cy a sh n z) sz)) 0 0 (va_A (Wd cy a sh n z) sz) := by
  refine Met.ofW (cc := cX3_come) (maxL := 2) (ret := none) (by decide) rfl ?_
  intro p e s m args below meth c s₁ B hml hv
  obtain ⟨rfl, hsz, hP, hK, hD0, hN⟩ := hv
  have hx := B.exec
  have hb := B.bytes
  have hr := B.returns
  have hts := atoms_spec (ws := wsX3_come) B.pre
  have hown : s.vm.findClass RX3 = some m.cls := findClass_of_methodNamed B.named
  have hlocks := B.notSynchronized
  subst hsz
  have hD := hD0.self (sz := s.heap.size)
  clear hD0
  generalize hAe : va_A (Wd cy a sh n z) s.heap.size = A at hD ⊢
  have hA : ∀ q : Nat, s.heap.size ≤ q → A q := fun q h => by rw [← hAe]; exact Or.inr h
  clear hAe
  have hS : va_S A s.heap s.heap [] := va_S.rf
  have hl := lv_entry ([.ref (a h0), .int x0]) (n := 2) (Nat.le_of_ble_eq_true rfl)
  rw [lg_entry_eq]
  generalize (lg_sl ([.ref (a h0), .int x0]) ++ List.replicate (2 - (lg_sl ([.ref (a h0), .int x0])).length) Slot.unset).toArray = ls at hl ⊢
  replace hl : lv_has ls 2 [(0, .ref (a h0)), (1, .int x0)] := hl
  unfold fn_X3_come at hf
  refine de_start hS hP (fun H locs hS hP => ?_)
  refine lv_iload_n hx hb dX3_come_0 rfl (lv_at hl 1 rfl) ?_
  refine lv_if_lt (tgt := 20) hx hb dX3_come_1 (by decide) (fun c_1 => ?_) (fun c_1 => ?_)
  · skip
    rw [if_pos c_1] at hf
    obtain ⟨h8, h9⟩ := ret_some hf
    rw [h8]
    exact W.vret hx hb hr (fun t ht hW => ⟨⟨(), rfl, trivial, by rw [ht]; exact hP, va_K.moved hW.alike hK, hD⟩, hS.F ht⟩) hS.2.2 dX3_come_20
  · skip
    rw [if_neg c_1] at hf
    refine lv_iload_n hx hb dX3_come_4 rfl (lv_at hl 1 rfl) ?_
    refine lv_sipush (v := 1024) hx hb dX3_come_5 (by decide) ?_
    refine lv_icmp_ge (tgt := 20) hx hb dX3_come_8 (by decide) (fun c_2 => ?_) (fun c_2 => ?_)
    · skip
      rw [if_pos c_2] at hf
      obtain ⟨h8, h9⟩ := ret_some hf
      rw [h8]
      exact W.vret hx hb hr (fun t ht hW => ⟨⟨(), rfl, trivial, by rw [ht]; exact hP, va_K.moved hW.alike hK, hD⟩, hS.F ht⟩) hS.2.2 dX3_come_20
    · skip
      rw [if_neg c_2] at hf
      refine lv_aload_n hx hb dX3_come_11 rfl (lv_at hl 0 rfl) ?_
      obtain ⟨g_3, hf⟩ := grd_some hf
      obtain ⟨kg_3, sg_3⟩ := okO_at g_3
      obtain ⟨k_4, ek_4, hf⟩ := lnk_some hf
      refine va_get (D := (dC, dI)) (ci := 3) (v := .ref (a k_4)) (C := RX3) (T := TX3) (N := 22) hx hb hts iwd_X3_come_X3 hown hK hP h0 (Wd_ob kg_3 sg_3 (by decide)) rfl 17 (by decide) (hts _ md_X3_come_1) (fun _ h9 => h9) (fl_q rfl ek_4) dX3_come_12 ?_
      refine lv_iload_n hx hb dX3_come_15 rfl (lv_at hl 1 rfl) ?_
      obtain ⟨g_5, hf⟩ := grd_some hf
      obtain ⟨kg_5, sg_5, ig_5⟩ := okA_at g_5
      refine va_zald hx hb hK hP k_4 3 (Wd_az kg_5 sg_5) rfl ig_5 dX3_come_16 ?_
      refine lv_if_ne (tgt := 21) hx hb dX3_come_17 (by decide) (fun c_6 => ?_) (fun c_6 => ?_)
      · skip
        rw [if_neg c_6] at hf
        refine lv_iload_n hx hb dX3_come_21 rfl (lv_at hl 1 rfl) ?_
        refine lv_aload_n hx hb dX3_come_22 rfl (lv_at hl 0 rfl) ?_
        refine va_get (D := (dC, dI)) (ci := 3) (v := .int (z.1 h0 4)) (C := RX3) (T := TX3) (N := 22) hx hb hts iwd_X3_come_X3 hown hK hP h0 (Wd_ob kg_3 sg_3 (by decide)) rfl 4 (by decide) (hts _ md_X3_come_2) (fun _ h9 => h9) (fl_at (t := 0) rfl) dX3_come_23 ?_
        refine lv_icmp_le (tgt := 37) hx hb dX3_come_26 (by decide) (fun c_7 => ?_) (fun c_7 => ?_)
        · skip
          rw [if_pos c_7] at hf
          refine lv_aload_n hx hb dX3_come_37 rfl (lv_at hl 0 rfl) ?_
          refine lv_iload_n hx hb dX3_come_38 rfl (lv_at hl 1 rfl) ?_
          obtain ⟨z_8, _u, hfc, hf⟩ := cal_some hf
          have hFc := de_free hD hS hA
          refine va_callv (va_runV (As := [.int x0]) (rest := []) ⟨hx, hb, hml, hown, hts⟩ (de_X3_comeBack l dC dI cy a sh n H.size F z h0 x0 hfc) (cwV 1 hts gX3_come_X3_comeBack rfl rfl rfl (by decide +kernel) ⟨Nat.le_of_ble_eq_true rfl, Nat.le_of_ble_eq_true rfl⟩) ⟨fun a U g mk q => by obtain ⟨q0, q1, qP, qK, qD, qN⟩ := q; exact ⟨q0, q1, qP, va_K.moved (u := U) (U := U.calling g mk a) (Vm.Alike.refl U.vm) qK, qD, qN.same rfl⟩, va_recv hK hP (ci := 3) (q0 := h0) rfl (Wd_ob kg_3 sg_3 (by decide)), fun U hU hW => ⟨rfl, by rw [hU], by rw [hU]; exact hP, va_K.moved hW.alike hK, hD.weaken (fun _ _ _ _ => trivial), hN.warm hW⟩⟩ rfl rfl hl.1 rfl (lv_room (Nat.le_of_ble_eq_true rfl)) dX3_come_39 ⟨Nat.le_of_ble_eq_true rfl, Nat.le_of_ble_eq_true rfl⟩) hS (fun q _ h => hFc q h) hFc (fun u t H_9 locs ht hvm hw hB hz1 hk1 hS2 => ?_)
          obtain ⟨hP1, -, hD1⟩ := hB
          rw [ht] at hP1
          replace hD := hD1.weaken (fun _ _ _ h => hFc _ h)
          replace hP := hP1
          replace hS := hS2
          clear hP1 hD1 hS2 hFc hfc hz1 hk1 hvm ht
          obtain ⟨h8, h9⟩ := ret_some hf
          rw [h8]
          exact W.vret hx hb hr (fun t ht hW => ⟨⟨(), rfl, trivial, by rw [ht]; exact hP, va_K.moved hW.alike hK, hD⟩, hS.F ht⟩) hS.2.2 dX3_come_42
        · skip
          rw [if_neg c_7] at hf
          refine lv_aload_n hx hb dX3_come_29 rfl (lv_at hl 0 rfl) ?_
          refine lv_iload_n hx hb dX3_come_30 rfl (lv_at hl 1 rfl) ?_
          obtain ⟨z_10, _u, hfc, hf⟩ := cal_some hf
          have hFc := de_free hD hS hA
          refine va_callv (va_runV (As := [.int x0]) (rest := []) ⟨hx, hb, hml, hown, hts⟩ (de_X3_join l dC dI cy a sh n H.size F z h0 x0 hfc) (cwV 1 hts gX3_come_X3_join rfl rfl rfl (by decide +kernel) ⟨Nat.le_of_ble_eq_true rfl, Nat.le_of_ble_eq_true rfl⟩) ⟨fun a U g mk q => by obtain ⟨q0, q1, qP, qK, qD, qN⟩ := q; exact ⟨q0, q1, qP, va_K.moved (u := U) (U := U.calling g mk a) (Vm.Alike.refl U.vm) qK, qD, qN.same rfl⟩, va_recv hK hP (ci := 3) (q0 := h0) rfl (Wd_ob kg_3 sg_3 (by decide)), fun U hU hW => ⟨rfl, by rw [hU], by rw [hU]; exact hP, va_K.moved hW.alike hK, hD.weaken (fun _ _ _ _ => trivial), hN.warm hW⟩⟩ rfl rfl hl.1 rfl (lv_room (Nat.le_of_ble_eq_true rfl)) dX3_come_31 ⟨Nat.le_of_ble_eq_true rfl, Nat.le_of_ble_eq_true rfl⟩) hS (fun q _ h => hFc q h) hFc (fun u t H_11 locs ht hvm hw hB hz1 hk1 hS2 => ?_)
          obtain ⟨hP1, -, hD1⟩ := hB
          rw [ht] at hP1
          replace hD := hD1.weaken (fun _ _ _ h => hFc _ h)
          replace hP := hP1
          replace hS := hS2
          clear hP1 hD1 hS2 hFc hfc hz1 hk1 hvm ht
          refine lv_goto (tgt := 42) hx hb dX3_come_34 (by decide) ?_
          obtain ⟨h8, h9⟩ := ret_some hf
          rw [h8]
          exact W.vret hx hb hr (fun t ht hW => ⟨⟨(), rfl, trivial, by rw [ht]; exact hP, va_K.moved hW.alike hK, hD⟩, hS.F ht⟩) hS.2.2 dX3_come_42
      · skip
        rw [if_pos c_6] at hf
        obtain ⟨h8, h9⟩ := ret_some hf
        rw [h8]
        exact W.vret hx hb hr (fun t ht hW => ⟨⟨(), rfl, trivial, by rw [ht]; exact hP, va_K.moved hW.alike hK, hD⟩, hS.F ht⟩) hS.2.2 dX3_come_20

set_option maxHeartbeats 4000000 in
set_option maxRecDepth 100000 in
theorem de_X3_takeReferenceTo (l : Launch) (dC : Nat → ClassId) (dI : Nat → Nat → Nat) (cy : Nat → ClassId) (a : Nat → Nat) (sh : Nat → Nat × Nat) (n sz : Nat) (F : Nat) (z : St) (h0 : Nat) (x0 : Int64) (x1 : Int32) {z8 : St} {r8 : Unit} (hf : fn_X3_takeReferenceTo F sh n z h0 x0 x1 = some (z8, r8)) : Met l yX3_takeReferenceTo wsX3_takeReferenceTo ({ frames := 2, cells := 0, slots := 0, locals := 43 }) (va_Pc [.ref (a h0), .long x0, .int x1] (fun U => U.heap.size = sz ∧ va_P (dC, dI) vwCl (Wd cy a sh n z) U.heap ∧ va_K (dC, dI) vwCl (TYS cy) U ∧ va_D (fun _ => True) (Wd cy a sh n z) ∧ NK U)) (va_Qv (fun u : Unit => True) (fun u t => va_P (dC, dI) vwCl (Wd cy a sh n z8) t.heap ∧ va_K (dC, dI) vwCl (TYS cy) t ∧ va_D (va_A (Wd cy a sh n z) sz) (Wd cy a sh n z8)) (va_A (Wd cy a sh n z) sz)) 0 0 (va_A (Wd cy a sh n z) sz) := by
  refine Met.ofW (cc := cX3_takeReferenceTo) (maxL := 6) (ret := none) (by decide) rfl ?_
  intro p e s m args below meth c s₁ B hml hv
  obtain ⟨rfl, hsz, hP, hK, hD0, hN⟩ := hv
  have hx := B.exec
  have hb := B.bytes
  have hr := B.returns
  have hts := atoms_spec (ws := wsX3_takeReferenceTo) B.pre
  have hown : s.vm.findClass RX3 = some m.cls := findClass_of_methodNamed B.named
  have hlocks := B.notSynchronized
  subst hsz
  have hD := hD0.self (sz := s.heap.size)
  clear hD0
  generalize hAe : va_A (Wd cy a sh n z) s.heap.size = A at hD ⊢
  have hA : ∀ q : Nat, s.heap.size ≤ q → A q := fun q h => by rw [← hAe]; exact Or.inr h
  clear hAe
  have hS : va_S A s.heap s.heap [] := va_S.rf
  have hl := lv_entry ([.ref (a h0), .long x0, .int x1]) (n := 6) (Nat.le_of_ble_eq_true rfl)
  rw [lg_entry_eq]
  generalize (lg_sl ([.ref (a h0), .long x0, .int x1]) ++ List.replicate (6 - (lg_sl ([.ref (a h0), .long x0, .int x1])).length) Slot.unset).toArray = ls at hl ⊢
  replace hl : lv_has ls 6 [(0, .ref (a h0)), (1, .long x0), (3, .int x1)] := hl
  unfold fn_X3_takeReferenceTo at hf
  refine de_start hS hP (fun H locs hS hP => ?_)
  refine lv_aload_n hx hb dX3_takeReferenceTo_0 rfl (lv_at hl 0 rfl) ?_
  obtain ⟨g_3, hf⟩ := grd_some hf
  obtain ⟨kg_3, sg_3⟩ := okO_at g_3
  obtain ⟨z_1, r_2, hfc, hf⟩ := cal_some hf
  have hFc := de_free hD hS hA
  refine va_calll (va_runV (As := []) (rest := []) ⟨hx, hb, hml, hown, hts⟩ (de_X3_take l dC dI cy a sh n H.size F z h0 hfc) (cwV 0 hts gX3_takeReferenceTo_X3_take rfl rfl rfl (by decide +kernel) ⟨Nat.le_of_ble_eq_true rfl, Nat.le_of_ble_eq_true rfl⟩) ⟨fun a U g mk q => by obtain ⟨q0, q1, qP, qK, qD, qN⟩ := q; exact ⟨q0, q1, qP, va_K.moved (u := U) (U := U.calling g mk a) (Vm.Alike.refl U.vm) qK, qD, qN.same rfl⟩, va_recv hK hP (ci := 3) (q0 := h0) rfl (Wd_ob kg_3 sg_3 (by decide)), fun U hU hW => ⟨rfl, by rw [hU], by rw [hU]; exact hP, va_K.moved hW.alike hK, hD.weaken (fun _ _ _ _ => trivial), hN.warm hW⟩⟩ rfl rfl hl.1 rfl (lv_room (Nat.le_of_ble_eq_true rfl)) dX3_takeReferenceTo_1 ⟨Nat.le_of_ble_eq_true rfl, Nat.le_of_ble_eq_true rfl⟩) hS (fun q _ h => hFc q h) hFc (fun rr u t H_4 locs ht hvm hw hB hz1 hk1 hS2 => ?_)
  rw [hw]
  clear hw
  obtain ⟨hP1, -, hD1⟩ := hB
  rw [ht] at hP1
  replace hD := hD1.weaken (fun _ _ _ h => hFc _ h)
  replace hP := hP1
  replace hS := hS2
  clear hP1 hD1 hS2 hFc hfc hz1 hk1 hvm ht
  refine lv_lstore (lv' := [(4, .long r_2), (0, .ref (a h0)), (1, .long x0), (3, .int x1)]) hx hb dX3_takeReferenceTo_4 hl (by decide) rfl (fun ls hl2 => ?_)
  replace hl := hl2
  clear hl2
  refine lv_lload hx hb dX3_takeReferenceTo_6 (lv_at hl 0 rfl) ?_
  obtain ⟨z_5, r_6, hfc, hf⟩ := cal_some hf
  have hFc := de_free hD hS hA
  refine va_calli (va_runS (As := [.long r_2]) (rest := []) ⟨hx, hb, hml, hown, hts⟩ (de_X5_isReference l dC dI cy a sh n H_4.size F z_1 r_2 hfc) (va_cwS 1 hts gX3_takeReferenceTo_X5_isReference rfl rfl rfl (by decide +kernel) ⟨Nat.le_of_ble_eq_true rfl, Nat.le_of_ble_eq_true rfl⟩) ⟨fun a U g mk q => by obtain ⟨q0, q1, qP, qK, qD, qN⟩ := q; exact ⟨q0, q1, qP, va_K.moved (u := U) (U := U.calling g mk a) (Vm.Alike.refl U.vm) qK, qD, qN.same rfl⟩, fun U hU hW => ⟨rfl, by rw [hU], by rw [hU]; exact hP, va_K.moved hW.alike hK, hD.weaken (fun _ _ _ _ => trivial), hN.warm hW⟩⟩ rfl rfl hl.1 rfl (lv_room (Nat.le_of_ble_eq_true rfl)) dX3_takeReferenceTo_8 ⟨Nat.le_of_ble_eq_true rfl, Nat.le_of_ble_eq_true rfl⟩) hS (fun q _ h => hFc q h) hFc (fun rr u t H_7 locs ht hvm hw hB hz1 hk1 hS2 => ?_)
  rw [hw]
  clear hw
  obtain ⟨hP1, -, hD1⟩ := hB
  rw [ht] at hP1
  replace hD := hD1.weaken (fun _ _ _ h => hFc _ h)
  replace hP := hP1
  replace hS := hS2
  clear hP1 hD1 hS2 hFc hfc hz1 hk1 hvm ht
  refine lv_if_eq (tgt := 24) hx hb dX3_takeReferenceTo_11 (by decide) (fun c_8 => ?_) (fun c_8 => ?_)
  · skip
    rw [if_pos c_8] at hf
    refine lv_aload_n hx hb dX3_takeReferenceTo_24 rfl (lv_at hl 1 rfl) ?_
    refine lv_iconst (v := 3) hx hb dX3_takeReferenceTo_25 (by decide) ?_
    obtain ⟨z_9, _u, hfc, hf⟩ := cal_some hf
    have hFc := de_free hD hS hA
    refine va_callv (va_runV (As := [.int 3]) (rest := []) ⟨hx, hb, hml, hown, hts⟩ (de_X3_fail l dC dI cy a sh n H_7.size F z_5 h0 3 hfc) (cwV 1 hts gX3_takeReferenceTo_X3_fail rfl rfl rfl (by decide +kernel) ⟨Nat.le_of_ble_eq_true rfl, Nat.le_of_ble_eq_true rfl⟩) ⟨fun a U g mk q => by obtain ⟨q0, q1, qP, qK, qD, qN⟩ := q; exact ⟨q0, q1, qP, va_K.moved (u := U) (U := U.calling g mk a) (Vm.Alike.refl U.vm) qK, qD, qN.same rfl⟩, va_recv hK hP (ci := 3) (q0 := h0) rfl (Wd_ob kg_3 sg_3 (by decide)), fun U hU hW => ⟨rfl, by rw [hU], by rw [hU]; exact hP, va_K.moved hW.alike hK, hD.weaken (fun _ _ _ _ => trivial), hN.warm hW⟩⟩ rfl rfl hl.1 rfl (lv_room (Nat.le_of_ble_eq_true rfl)) dX3_takeReferenceTo_26 ⟨Nat.le_of_ble_eq_true rfl, Nat.le_of_ble_eq_true rfl⟩) hS (fun q _ h => hFc q h) hFc (fun u t H_10 locs ht hvm hw hB hz1 hk1 hS2 => ?_)
    obtain ⟨hP1, -, hD1⟩ := hB
    rw [ht] at hP1
    replace hD := hD1.weaken (fun _ _ _ h => hFc _ h)
    replace hP := hP1
    replace hS := hS2
    clear hP1 hD1 hS2 hFc hfc hz1 hk1 hvm ht
    refine lv_goto (tgt := 50) hx hb dX3_takeReferenceTo_29 (by decide) ?_
    obtain ⟨h8, h9⟩ := ret_some hf
    rw [h8]
    exact W.vret hx hb hr (fun t ht hW => ⟨⟨(), rfl, trivial, by rw [ht]; exact hP, va_K.moved hW.alike hK, hD⟩, hS.F ht⟩) hS.2.2 dX3_takeReferenceTo_50
  · skip
    rw [if_neg c_8] at hf
    refine lv_lload hx hb dX3_takeReferenceTo_14 (lv_at hl 0 rfl) ?_
    obtain ⟨z_11, r_12, hfc, hf⟩ := cal_some hf
    have hFc := de_free hD hS hA
    refine va_calll (va_runS (As := [.long r_2]) (rest := []) ⟨hx, hb, hml, hown, hts⟩ (de_X5_pointee l dC dI cy a sh n H_7.size F z_5 r_2 hfc) (va_cwS 1 hts gX3_takeReferenceTo_X5_pointee rfl rfl rfl (by decide +kernel) ⟨Nat.le_of_ble_eq_true rfl, Nat.le_of_ble_eq_true rfl⟩) ⟨fun a U g mk q => by obtain ⟨q0, q1, qP, qK, qD, qN⟩ := q; exact ⟨q0, q1, qP, va_K.moved (u := U) (U := U.calling g mk a) (Vm.Alike.refl U.vm) qK, qD, qN.same rfl⟩, fun U hU hW => ⟨rfl, by rw [hU], by rw [hU]; exact hP, va_K.moved hW.alike hK, hD.weaken (fun _ _ _ _ => trivial), hN.warm hW⟩⟩ rfl rfl hl.1 rfl (lv_room (Nat.le_of_ble_eq_true rfl)) dX3_takeReferenceTo_16 ⟨Nat.le_of_ble_eq_true rfl, Nat.le_of_ble_eq_true rfl⟩) hS (fun q _ h => hFc q h) hFc (fun rr u t H_13 locs ht hvm hw hB hz1 hk1 hS2 => ?_)
    rw [hw]
    clear hw
    obtain ⟨hP1, -, hD1⟩ := hB
    rw [ht] at hP1
    replace hD := hD1.weaken (fun _ _ _ h => hFc _ h)
    replace hP := hP1
    replace hS := hS2
    clear hP1 hD1 hS2 hFc hfc hz1 hk1 hvm ht
    refine lv_lload_n hx hb dX3_takeReferenceTo_19 rfl (lv_at hl 2 rfl) ?_
    refine W.lcmp hx hb dX3_takeReferenceTo_20 ?_
    refine lv_if_eq (tgt := 32) hx hb dX3_takeReferenceTo_21 (by decide) (fun c_14 => ?_) (fun c_14 => ?_)
    · skip
      rw [lg_cmp_eq] at c_14
      rw [if_pos c_14] at hf
      refine lv_iload_n hx hb dX3_takeReferenceTo_32 rfl (lv_at hl 3 rfl) ?_
      refine lv_if_eq (tgt := 50) hx hb dX3_takeReferenceTo_33 (by decide) (fun c_15 => ?_) (fun c_15 => ?_)
      · skip
        rw [if_pos c_15] at hf
        obtain ⟨h8, h9⟩ := ret_some hf
        rw [h8]
        exact W.vret hx hb hr (fun t ht hW => ⟨⟨(), rfl, trivial, by rw [ht]; exact hP, va_K.moved hW.alike hK, hD⟩, hS.F ht⟩) hS.2.2 dX3_takeReferenceTo_50
      · skip
        rw [if_neg c_15] at hf
        refine lv_lload hx hb dX3_takeReferenceTo_36 (lv_at hl 0 rfl) ?_
        obtain ⟨z_16, r_17, hfc, hf⟩ := cal_some hf
        have hFc := de_free hD hS hA
        refine va_calli (va_runS (As := [.long r_2]) (rest := []) ⟨hx, hb, hml, hown, hts⟩ (de_X3_writes l dC dI cy a sh n H_13.size F z_11 r_2 hfc) (va_cwS 1 hts gX3_takeReferenceTo_X3_writes rfl rfl rfl (by decide +kernel) ⟨Nat.le_of_ble_eq_true rfl, Nat.le_of_ble_eq_true rfl⟩) ⟨fun a U g mk q => by obtain ⟨q0, q1, qP, qK, qD, qN⟩ := q; exact ⟨q0, q1, qP, va_K.moved (u := U) (U := U.calling g mk a) (Vm.Alike.refl U.vm) qK, qD, qN.same rfl⟩, fun U hU hW => ⟨rfl, by rw [hU], by rw [hU]; exact hP, va_K.moved hW.alike hK, hD.weaken (fun _ _ _ _ => trivial), hN.warm hW⟩⟩ rfl rfl hl.1 rfl (lv_room (Nat.le_of_ble_eq_true rfl)) dX3_takeReferenceTo_38 ⟨Nat.le_of_ble_eq_true rfl, Nat.le_of_ble_eq_true rfl⟩) hS (fun q _ h => hFc q h) hFc (fun rr u t H_18 locs ht hvm hw hB hz1 hk1 hS2 => ?_)
        rw [hw]
        clear hw
        obtain ⟨hP1, -, hD1⟩ := hB
        rw [ht] at hP1
        replace hD := hD1.weaken (fun _ _ _ h => hFc _ h)
        replace hP := hP1
        replace hS := hS2
        clear hP1 hD1 hS2 hFc hfc hz1 hk1 hvm ht
        refine lv_if_ne (tgt := 50) hx hb dX3_takeReferenceTo_41 (by decide) (fun c_19 => ?_) (fun c_19 => ?_)
        · skip
          rw [if_neg c_19] at hf
          obtain ⟨h8, h9⟩ := ret_some hf
          rw [h8]
          exact W.vret hx hb hr (fun t ht hW => ⟨⟨(), rfl, trivial, by rw [ht]; exact hP, va_K.moved hW.alike hK, hD⟩, hS.F ht⟩) hS.2.2 dX3_takeReferenceTo_50
        · skip
          rw [if_pos c_19] at hf
          refine lv_aload_n hx hb dX3_takeReferenceTo_44 rfl (lv_at hl 1 rfl) ?_
          refine lv_bipush (v := 7) hx hb dX3_takeReferenceTo_45 (by decide) ?_
          obtain ⟨z_20, _u, hfc, hf⟩ := cal_some hf
          have hFc := de_free hD hS hA
          refine va_callv (va_runV (As := [.int 7]) (rest := []) ⟨hx, hb, hml, hown, hts⟩ (de_X3_fail l dC dI cy a sh n H_18.size F z_16 h0 7 hfc) (cwV 1 hts gX3_takeReferenceTo_X3_fail rfl rfl rfl (by decide +kernel) ⟨Nat.le_of_ble_eq_true rfl, Nat.le_of_ble_eq_true rfl⟩) ⟨fun a U g mk q => by obtain ⟨q0, q1, qP, qK, qD, qN⟩ := q; exact ⟨q0, q1, qP, va_K.moved (u := U) (U := U.calling g mk a) (Vm.Alike.refl U.vm) qK, qD, qN.same rfl⟩, va_recv hK hP (ci := 3) (q0 := h0) rfl (Wd_ob kg_3 sg_3 (by decide)), fun U hU hW => ⟨rfl, by rw [hU], by rw [hU]; exact hP, va_K.moved hW.alike hK, hD.weaken (fun _ _ _ _ => trivial), hN.warm hW⟩⟩ rfl rfl hl.1 rfl (lv_room (Nat.le_of_ble_eq_true rfl)) dX3_takeReferenceTo_47 ⟨Nat.le_of_ble_eq_true rfl, Nat.le_of_ble_eq_true rfl⟩) hS (fun q _ h => hFc q h) hFc (fun u t H_21 locs ht hvm hw hB hz1 hk1 hS2 => ?_)
          obtain ⟨hP1, -, hD1⟩ := hB
          rw [ht] at hP1
          replace hD := hD1.weaken (fun _ _ _ h => hFc _ h)
          replace hP := hP1
          replace hS := hS2
          clear hP1 hD1 hS2 hFc hfc hz1 hk1 hvm ht
          obtain ⟨h8, h9⟩ := ret_some hf
          rw [h8]
          exact W.vret hx hb hr (fun t ht hW => ⟨⟨(), rfl, trivial, by rw [ht]; exact hP, va_K.moved hW.alike hK, hD⟩, hS.F ht⟩) hS.2.2 dX3_takeReferenceTo_50
    · skip
      rw [lg_cmp_eq] at c_14
      rw [if_neg c_14] at hf
      refine lv_aload_n hx hb dX3_takeReferenceTo_24 rfl (lv_at hl 1 rfl) ?_
      refine lv_iconst (v := 3) hx hb dX3_takeReferenceTo_25 (by decide) ?_
      obtain ⟨z_22, _u, hfc, hf⟩ := cal_some hf
      have hFc := de_free hD hS hA
      refine va_callv (va_runV (As := [.int 3]) (rest := []) ⟨hx, hb, hml, hown, hts⟩ (de_X3_fail l dC dI cy a sh n H_13.size F z_11 h0 3 hfc) (cwV 1 hts gX3_takeReferenceTo_X3_fail rfl rfl rfl (by decide +kernel) ⟨Nat.le_of_ble_eq_true rfl, Nat.le_of_ble_eq_true rfl⟩) ⟨fun a U g mk q => by obtain ⟨q0, q1, qP, qK, qD, qN⟩ := q; exact ⟨q0, q1, qP, va_K.moved (u := U) (U := U.calling g mk a) (Vm.Alike.refl U.vm) qK, qD, qN.same rfl⟩, va_recv hK hP (ci := 3) (q0 := h0) rfl (Wd_ob kg_3 sg_3 (by decide)), fun U hU hW => ⟨rfl, by rw [hU], by rw [hU]; exact hP, va_K.moved hW.alike hK, hD.weaken (fun _ _ _ _ => trivial), hN.warm hW⟩⟩ rfl rfl hl.1 rfl (lv_room (Nat.le_of_ble_eq_true rfl)) dX3_takeReferenceTo_26 ⟨Nat.le_of_ble_eq_true rfl, Nat.le_of_ble_eq_true rfl⟩) hS (fun q _ h => hFc q h) hFc (fun u t H_23 locs ht hvm hw hB hz1 hk1 hS2 => ?_)
      obtain ⟨hP1, -, hD1⟩ := hB
      rw [ht] at hP1
      replace hD := hD1.weaken (fun _ _ _ h => hFc _ h)
      replace hP := hP1
      replace hS := hS2
      clear hP1 hD1 hS2 hFc hfc hz1 hk1 hvm ht
      refine lv_goto (tgt := 50) hx hb dX3_takeReferenceTo_29 (by decide) ?_
      obtain ⟨h8, h9⟩ := ret_some hf
      rw [h8]
      exact W.vret hx hb hr (fun t ht hW => ⟨⟨(), rfl, trivial, by rw [ht]; exact hP, va_K.moved hW.alike hK, hD⟩, hS.F ht⟩) hS.2.2 dX3_takeReferenceTo_50

theorem md_X6_readOwnStructure_1 : (.fieldLink RX6 32 "ResourceLedger$Reader" "at" "I" : Cond) ∈ wsX6_readOwnStructure := List.mem_of_getElem? (i := 1) rfl
theorem iwd_X6_readOwnStructure_X6 : ∀ w ∈ wsX60, w ∈ wsX6_readOwnStructure := fun _ h => List.mem_cons_of_mem _ (List.mem_append_left _ (List.mem_append_right _ h))
theorem md_X6_readOwnStructure_2 : (.fieldLink RX6 17 "ResourceLedger$Reader" "p" "LResourceLedger$Program;" : Cond) ∈ wsX6_readOwnStructure := List.mem_of_getElem? (i := 2) rfl
theorem md_X6_readOwnStructure_3 : (.fieldLink RX6 103 "ResourceLedger$Program" "allStructures" "I" : Cond) ∈ wsX6_readOwnStructure := List.mem_of_getElem? (i := 3) rfl
theorem iwd_X6_readOwnStructure_X5 : ∀ w ∈ wsX50, w ∈ wsX6_readOwnStructure := fun _ h => List.mem_cons_of_mem _ (List.mem_append_right _ h)
theorem md_X6_readOwnStructure_4 : (.fieldLink RX6 28 "ResourceLedger$Reader" "judging" "Z" : Cond) ∈ wsX6_readOwnStructure := List.mem_of_getElem? (i := 4) rfl
theorem md_X6_readOwnStructure_5 : (.fieldLink RX6 100 "ResourceLedger$Program" "ownStructures" "I" : Cond) ∈ wsX6_readOwnStructure := List.mem_of_getElem? (i := 5) rfl
set_option maxHeartbeats 4000000 in
set_option maxRecDepth 100000 in
theorem de_X6_readOwnStructure (l : Launch) (dC : Nat → ClassId) (dI : Nat → Nat → Nat) (cy : Nat → ClassId) (a : Nat → Nat) (sh : Nat → Nat × Nat) (n sz : Nat) (F : Nat) (sk : Nat → Nat) (z : St) (h0 : Nat) {z8 : St} {r8 : Int32} (hf : fn_X6_readOwnStructure F sh n z h0 = some (z8, r8)) : Met l yX6_readOwnStructure wsX6_readOwnStructure ({ frames := 2, cells := 0, slots := 0, locals := 46 }) (va_Pc [.ref (a h0)] (fun U => U.heap.size = sz ∧ va_P (dC, dI) vwCl (Wd cy a sh n z) U.heap ∧ va_K (dC, dI) vwCl (TYS cy) U ∧ va_D (fun _ => True) (Wd cy a sh n z) ∧ NK U ∧ SKs sk (a CBK) (va_A (Wd cy a sh n z) sz) U U.heap)) (va_Qi (fun (r9 : Int32) (u : Unit) => r9 = r8) (fun u t => va_P (dC, dI) vwCl (Wd cy a sh n z8) t.heap ∧ va_K (dC, dI) vwCl (TYS cy) t ∧ va_D (va_A (Wd cy a sh n z) sz) (Wd cy a sh n z8)) (va_A (Wd cy a sh n z) sz)) 0 0 (va_A (Wd cy a sh n z) sz) := by
  refine Met.ofW (cc := cX6_readOwnStructure) (maxL := 3) (ret := (some .int)) (by decide) rfl ?_
  intro p e s m args below meth c s₁ B hml hv
  obtain ⟨rfl, hsz, hP, hK, hD0, hN, hSK⟩ := hv
  have hx := B.exec
  have hb := B.bytes
  have hr := B.returns
  have hts := atoms_spec (ws := wsX6_readOwnStructure) B.pre
  have hown : s.vm.findClass RX6 = some m.cls := findClass_of_methodNamed B.named
  have hlocks := B.notSynchronized
  subst hsz
  have hD := hD0.self (sz := s.heap.size)
  clear hD0
  generalize hAe : va_A (Wd cy a sh n z) s.heap.size = A at hD hSK ⊢
  have hA : ∀ q : Nat, s.heap.size ≤ q → A q := fun q h => by rw [← hAe]; exact Or.inr h
  clear hAe
  have hS : va_S A s.heap s.heap [] := va_S.rf
  have hl := lv_entry ([.ref (a h0)]) (n := 3) (Nat.le_of_ble_eq_true rfl)
  rw [lg_entry_eq]
  generalize (lg_sl ([.ref (a h0)]) ++ List.replicate (3 - (lg_sl ([.ref (a h0)])).length) Slot.unset).toArray = ls at hl ⊢
  replace hl : lv_has ls 3 [(0, .ref (a h0))] := hl
  unfold fn_X6_readOwnStructure at hf
  refine de_start hS hP (fun H locs hS hP => ?_)
  refine lv_aload_n hx hb dX6_readOwnStructure_0 rfl (lv_at hl 0 rfl) ?_
  obtain ⟨g_1, hf⟩ := grd_some hf
  obtain ⟨kg_1, sg_1⟩ := okO_at g_1
  refine va_get (D := (dC, dI)) (ci := 6) (v := .int (z.1 h0 3)) (C := RX6) (T := TX6) (N := 9) hx hb hts iwd_X6_readOwnStructure_X6 hown hK hP h0 (Wd_ob kg_1 sg_1 (by decide)) rfl 3 (by decide) (hts _ md_X6_readOwnStructure_1) (fun _ h9 => h9) (fl_at (t := 0) rfl) dX6_readOwnStructure_1 ?_
  refine lv_topi (fun v_2 ev_2 => ?_)
  replace hf := lt_at ev_2 hf
  clear ev_2
  refine lv_istore_n (lv' := [(1, .int v_2), (0, .ref (a h0))]) hx hb dX6_readOwnStructure_4 rfl hl (by decide) rfl (fun ls hl2 => ?_)
  replace hl := hl2
  clear hl2
  refine lv_aload_n hx hb dX6_readOwnStructure_5 rfl (lv_at hl 1 rfl) ?_
  refine lv_aload_n hx hb dX6_readOwnStructure_6 rfl (lv_at hl 1 rfl) ?_
  obtain ⟨k_3, ek_3, hf⟩ := lnk_some hf
  refine va_get (D := (dC, dI)) (ci := 6) (v := .ref (a k_3)) (C := RX6) (T := TX6) (N := 9) hx hb hts iwd_X6_readOwnStructure_X6 hown hK hP h0 (Wd_ob kg_1 sg_1 (by decide)) rfl 2 (by decide) (hts _ md_X6_readOwnStructure_2) (fun _ h9 => h9) (fl_q rfl ek_3) dX6_readOwnStructure_7 ?_
  obtain ⟨g_4, hf⟩ := grd_some hf
  obtain ⟨kg_4, sg_4⟩ := okO_at g_4
  refine va_get (D := (dC, dI)) (ci := 5) (v := .int (z.1 k_3 9)) (C := RX5) (T := TX5) (N := 15) hx hb hts iwd_X6_readOwnStructure_X5 hown hK hP k_3 (Wd_ob kg_4 sg_4 (by decide)) rfl 9 (by decide) (hts _ md_X6_readOwnStructure_3) (fun _ h9 => h9) (fl_at (t := 0) rfl) dX6_readOwnStructure_10 ?_
  refine lv_bipush (v := 7) hx hb dX6_readOwnStructure_13 (by decide) ?_
  obtain ⟨z_5, r_6, hfc, hf⟩ := cal_some hf
  have hFc := de_free hD hS hA
  refine va_calli (va_runV (As := [.int (z.1 k_3 9), .int 7]) (rest := []) ⟨hx, hb, hml, hown, hts⟩ (de_X6_readJudged l dC dI cy a sh n H.size F sk z h0 (z.1 k_3 9) 7 hfc) (cwV 2 hts gX6_readOwnStructure_X6_readJudged rfl rfl rfl (by decide +kernel) ⟨Nat.le_of_ble_eq_true rfl, Nat.le_of_ble_eq_true rfl⟩) ⟨fun a U g mk q => by obtain ⟨q0, q1, qP, qK, qD, qN, qS⟩ := q; exact ⟨q0, q1, qP, va_K.moved (u := U) (U := U.calling g mk a) (Vm.Alike.refl U.vm) qK, qD, qN.same rfl, SKs.moved (u := U) (U := U.calling g mk a) (Vm.Alike.refl U.vm) qS⟩, va_recv hK hP (ci := 6) (q0 := h0) rfl (Wd_ob kg_1 sg_1 (by decide)), fun U hU hW => ⟨rfl, by rw [hU], by rw [hU]; exact hP, va_K.moved hW.alike hK, hD.weaken (fun _ _ _ _ => trivial), hN.warm hW, by rw [hU]; exact ((hSK.kept hS.2.1).narrow hFc).moved hW.alike⟩⟩ rfl rfl hl.1 rfl (lv_room (Nat.le_of_ble_eq_true rfl)) dX6_readOwnStructure_15 ⟨Nat.le_of_ble_eq_true rfl, Nat.le_of_ble_eq_true rfl⟩) hS (fun q _ h => hFc q h) hFc (fun rr u t H_7 locs ht hvm hw hB hz1 hk1 hS2 => ?_)
  rw [hw]
  clear hw
  obtain ⟨hP1, -, hD1⟩ := hB
  rw [ht] at hP1
  replace hD := hD1.weaken (fun _ _ _ h => hFc _ h)
  replace hP := hP1
  replace hS := hS2
  clear hP1 hD1 hS2 hFc hfc hz1 hk1 hvm ht
  refine lv_istore_n (lv' := [(2, .int r_6), (1, .int v_2), (0, .ref (a h0))]) hx hb dX6_readOwnStructure_18 rfl hl (by decide) rfl (fun ls hl2 => ?_)
  replace hl := hl2
  clear hl2
  refine lv_aload_n hx hb dX6_readOwnStructure_19 rfl (lv_at hl 2 rfl) ?_
  refine va_get (D := (dC, dI)) (ci := 6) (v := .int (z_5.1 h0 4)) (C := RX6) (T := TX6) (N := 9) hx hb hts iwd_X6_readOwnStructure_X6 hown hK hP h0 (Wd_ob kg_1 sg_1 (by decide)) rfl 4 (by decide) (hts _ md_X6_readOwnStructure_4) (fun _ h9 => h9) (fl_at (t := 0) rfl) dX6_readOwnStructure_20 ?_
  refine lv_if_eq (tgt := 44) hx hb dX6_readOwnStructure_23 (by decide) (fun c_8 => ?_) (fun c_8 => ?_)
  · skip
    rw [if_pos c_8] at hf
    refine lv_iload_n hx hb dX6_readOwnStructure_44 rfl (lv_at hl 0 rfl) ?_
    obtain ⟨h8, h9⟩ := ret_some hf
    rw [h8, h9]
    exact W.iret (v := r_6) hx hb hr (fun t ht hW => ⟨⟨r_6, (), rfl, rfl, by rw [ht]; exact hP, va_K.moved hW.alike hK, hD⟩, hS.F ht⟩) hS.2.2 dX6_readOwnStructure_45
  · skip
    rw [if_neg c_8] at hf
    refine lv_iload_n hx hb dX6_readOwnStructure_26 rfl (lv_at hl 0 rfl) ?_
    refine lv_aload_n hx hb dX6_readOwnStructure_27 rfl (lv_at hl 2 rfl) ?_
    obtain ⟨k_9, ek_9, hf⟩ := lnk_some hf
    refine va_get (D := (dC, dI)) (ci := 6) (v := .ref (a k_9)) (C := RX6) (T := TX6) (N := 9) hx hb hts iwd_X6_readOwnStructure_X6 hown hK hP h0 (Wd_ob kg_1 sg_1 (by decide)) rfl 2 (by decide) (hts _ md_X6_readOwnStructure_2) (fun _ h9 => h9) (fl_q rfl ek_9) dX6_readOwnStructure_28 ?_
    obtain ⟨g_10, hf⟩ := grd_some hf
    obtain ⟨kg_10, sg_10⟩ := okO_at g_10
    refine va_get (D := (dC, dI)) (ci := 5) (v := .int (z_5.1 k_9 8)) (C := RX5) (T := TX5) (N := 15) hx hb hts iwd_X6_readOwnStructure_X5 hown hK hP k_9 (Wd_ob kg_10 sg_10 (by decide)) rfl 8 (by decide) (hts _ md_X6_readOwnStructure_5) (fun _ h9 => h9) (fl_at (t := 0) rfl) dX6_readOwnStructure_31 ?_
    refine lv_icmp_lt (tgt := 44) hx hb dX6_readOwnStructure_34 (by decide) (fun c_11 => ?_) (fun c_11 => ?_)
    · skip
      rw [if_pos c_11] at hf
      refine lv_iload_n hx hb dX6_readOwnStructure_44 rfl (lv_at hl 0 rfl) ?_
      obtain ⟨h8, h9⟩ := ret_some hf
      rw [h8, h9]
      exact W.iret (v := r_6) hx hb hr (fun t ht hW => ⟨⟨r_6, (), rfl, rfl, by rw [ht]; exact hP, va_K.moved hW.alike hK, hD⟩, hS.F ht⟩) hS.2.2 dX6_readOwnStructure_45
    · skip
      rw [if_neg c_11] at hf
      refine lv_aload_n hx hb dX6_readOwnStructure_37 rfl (lv_at hl 2 rfl) ?_
      refine lv_bipush (v := 8) hx hb dX6_readOwnStructure_38 (by decide) ?_
      refine lv_iload_n hx hb dX6_readOwnStructure_40 rfl (lv_at hl 1 rfl) ?_
      obtain ⟨z_12, _u, hfc, hf⟩ := cal_some hf
      have hFc := de_free hD hS hA
      refine va_callv (va_runV (As := [.int 8, .int v_2]) (rest := []) ⟨hx, hb, hml, hown, hts⟩ (de_X6_fail l dC dI cy a sh n H_7.size F z_5 h0 8 v_2 hfc) (cwV 2 hts gX6_readOwnStructure_X6_fail rfl rfl rfl (by decide +kernel) ⟨Nat.le_of_ble_eq_true rfl, Nat.le_of_ble_eq_true rfl⟩) ⟨fun a U g mk q => by obtain ⟨q0, q1, qP, qK, qD, qN⟩ := q; exact ⟨q0, q1, qP, va_K.moved (u := U) (U := U.calling g mk a) (Vm.Alike.refl U.vm) qK, qD, qN.same rfl⟩, va_recv hK hP (ci := 6) (q0 := h0) rfl (Wd_ob kg_1 sg_1 (by decide)), fun U hU hW => ⟨rfl, by rw [hU], by rw [hU]; exact hP, va_K.moved hW.alike hK, hD.weaken (fun _ _ _ _ => trivial), hN.warm hW⟩⟩ rfl rfl hl.1 rfl (lv_room (Nat.le_of_ble_eq_true rfl)) dX6_readOwnStructure_41 ⟨Nat.le_of_ble_eq_true rfl, Nat.le_of_ble_eq_true rfl⟩) hS (fun q _ h => hFc q h) hFc (fun u t H_13 locs ht hvm hw hB hz1 hk1 hS2 => ?_)
      obtain ⟨hP1, -, hD1⟩ := hB
      rw [ht] at hP1
      replace hD := hD1.weaken (fun _ _ _ h => hFc _ h)
      replace hP := hP1
      replace hS := hS2
      clear hP1 hD1 hS2 hFc hfc hz1 hk1 hvm ht
      refine lv_iload_n hx hb dX6_readOwnStructure_44 rfl (lv_at hl 0 rfl) ?_
      obtain ⟨h8, h9⟩ := ret_some hf
      rw [h8, h9]
      exact W.iret (v := r_6) hx hb hr (fun t ht hW => ⟨⟨r_6, (), rfl, rfl, by rw [ht]; exact hP, va_K.moved hW.alike hK, hD⟩, hS.F ht⟩) hS.2.2 dX6_readOwnStructure_45

theorem md_X11_resource_1 : (.fieldLink RX11 274 "ResourceLedger" "askedLength" "I" : Cond) ∈ wsX11_resource := List.mem_of_getElem? (i := 1) rfl
theorem iwd_X11_resource_X11 : ∀ w ∈ wsX110, w ∈ wsX11_resource := fun _ h => List.mem_cons_of_mem _ (List.mem_append_left _ (List.mem_append_right _ h))
theorem md_X11_resource_2 : (.fieldLink RX11 22 "ResourceLedger" "state" "LResourceLedger$State;" : Cond) ∈ wsX11_resource := List.mem_of_getElem? (i := 2) rfl
theorem md_X11_resource_3 : (.fieldLink RX11 47 "ResourceLedger" "asked" "[B" : Cond) ∈ wsX11_resource := List.mem_of_getElem? (i := 3) rfl
set_option maxHeartbeats 4000000 in
set_option maxRecDepth 100000 in
theorem de_X11_resource (l : Launch) (dC : Nat → ClassId) (dI : Nat → Nat → Nat) (cy : Nat → ClassId) (a : Nat → Nat) (sh : Nat → Nat × Nat) (n sz : Nat) (F : Nat) (z : St) (h0 : Nat) (x0 : Int64) (x1 : Int32) (x2 : Int32) {z8 : St} {r8 : Int32} (hf : fn_X11_resource F sh n z h0 x0 x1 x2 = some (z8, r8)) : Met l yX11_resource wsX11_resource ({ frames := 2, cells := 0, slots := 0, locals := 50 }) (va_Pc [.ref (a h0), .long x0, .int x1, .int x2] (fun U => U.heap.size = sz ∧ va_P (dC, dI) vwCl (Wd cy a sh n z) U.heap ∧ va_K (dC, dI) vwCl (TYS cy) U ∧ va_D (fun _ => True) (Wd cy a sh n z) ∧ NK U)) (va_Qi (fun (r9 : Int32) (u : Unit) => r9 = r8) (fun u t => va_P (dC, dI) vwCl (Wd cy a sh n z8) t.heap ∧ va_K (dC, dI) vwCl (TYS cy) t ∧ va_D (va_A (Wd cy a sh n z) sz) (Wd cy a sh n z8)) (va_A (Wd cy a sh n z) sz)) 0 0 (va_A (Wd cy a sh n z) sz) := by
  refine Met.ofW (cc := cX11_resource) (maxL := 6) (ret := (some .int)) (by decide) rfl ?_
  intro p e s m args below meth c s₁ B hml hv
  obtain ⟨rfl, hsz, hP, hK, hD0, hN⟩ := hv
  have hx := B.exec
  have hb := B.bytes
  have hr := B.returns
  have hts := atoms_spec (ws := wsX11_resource) B.pre
  have hown : s.vm.findClass RX11 = some m.cls := findClass_of_methodNamed B.named
  have hlocks := B.notSynchronized
  subst hsz
  have hD := hD0.self (sz := s.heap.size)
  clear hD0
  generalize hAe : va_A (Wd cy a sh n z) s.heap.size = A at hD ⊢
  have hA : ∀ q : Nat, s.heap.size ≤ q → A q := fun q h => by rw [← hAe]; exact Or.inr h
  clear hAe
  have hS : va_S A s.heap s.heap [] := va_S.rf
  have hl := lv_entry ([.ref (a h0), .long x0, .int x1, .int x2]) (n := 6) (Nat.le_of_ble_eq_true rfl)
  rw [lg_entry_eq]
  generalize (lg_sl ([.ref (a h0), .long x0, .int x1, .int x2]) ++ List.replicate (6 - (lg_sl ([.ref (a h0), .long x0, .int x1, .int x2])).length) Slot.unset).toArray = ls at hl ⊢
  replace hl : lv_has ls 6 [(0, .ref (a h0)), (1, .long x0), (3, .int x1), (4, .int x2)] := hl
  unfold fn_X11_resource at hf
  refine de_start hS hP (fun H locs hS hP => ?_)
  refine lv_aload_n hx hb dX11_resource_0 rfl (lv_at hl 0 rfl) ?_
  refine lv_iconst (v := 0) hx hb dX11_resource_1 (by decide) ?_
  obtain ⟨g_1, hf⟩ := grd_some hf
  obtain ⟨kg_1, sg_1⟩ := okO_at g_1
  refine va_put (D := (dC, dI)) (ci := 11) (v := .int 0) (ty := .int) (C := RX11) (T := TX11) (N := 13) hx hb hts iwd_X11_resource_X11 tyX11 tyX11_ok nmX11 hown hK hP hD hS h0 (Wd_ob kg_1 sg_1 (by decide)) rfl 12 (by decide) (hts _ md_X11_resource_1) (fun _ h9 => h9) rfl (by decide +kernel) rfl rfl (by rw [fl_len]; decide) dX11_resource_2 (fun H_2 locs hP2 hD2 hS2 => ?_)
  rw [Wd_si sg_1 (by decide) rfl] at hP2 hD2
  obtain ⟨z_3, ez_3⟩ : ∃ w, w = si z h0 12 0 := ⟨_, rfl⟩
  rw [← ez_3] at hP2 hD2
  replace hf := lt_at ez_3 hf
  clear ez_3
  replace hP := hP2
  replace hD := hD2
  replace hS := hS2
  clear hP2 hD2 hS2
  refine lv_aload_n hx hb dX11_resource_5 rfl (lv_at hl 0 rfl) ?_
  obtain ⟨k_4, ek_4, hf⟩ := lnk_some hf
  refine va_get (D := (dC, dI)) (ci := 11) (v := .ref (a k_4)) (C := RX11) (T := TX11) (N := 13) hx hb hts iwd_X11_resource_X11 hown hK hP h0 (Wd_ob kg_1 sg_1 (by decide)) rfl 6 (by decide) (hts _ md_X11_resource_2) (fun _ h9 => h9) (fl_q rfl ek_4) dX11_resource_6 ?_
  refine lv_lload_n hx hb dX11_resource_9 rfl (lv_at hl 1 rfl) ?_
  refine lv_iload_n hx hb dX11_resource_10 rfl (lv_at hl 2 rfl) ?_
  refine lv_iload hx hb dX11_resource_11 (lv_at hl 3 rfl) ?_
  obtain ⟨g_7, hf⟩ := grd_some hf
  obtain ⟨kg_7, sg_7⟩ := okO_at g_7
  obtain ⟨z_5, r_6, hfc, hf⟩ := cal_some hf
  have hFc := de_free hD hS hA
  refine va_calli (va_runV (As := [.long x0, .int x1, .int x2]) (rest := []) ⟨hx, hb, hml, hown, hts⟩ (de_X7_findResource l dC dI cy a sh n H_2.size F z_3 k_4 x0 x1 x2 hfc) (cwV 3 hts gX11_resource_X7_findResource rfl rfl rfl (by decide +kernel) ⟨Nat.le_of_ble_eq_true rfl, Nat.le_of_ble_eq_true rfl⟩) ⟨fun a U g mk q => by obtain ⟨q0, q1, qP, qK, qD, qN⟩ := q; exact ⟨q0, q1, qP, va_K.moved (u := U) (U := U.calling g mk a) (Vm.Alike.refl U.vm) qK, qD, qN.same rfl⟩, va_recv hK hP (ci := 7) (q0 := k_4) rfl (Wd_ob kg_7 sg_7 (by decide)), fun U hU hW => ⟨rfl, by rw [hU], by rw [hU]; exact hP, va_K.moved hW.alike hK, hD.weaken (fun _ _ _ _ => trivial), hN.warm hW⟩⟩ rfl rfl hl.1 rfl (lv_room (Nat.le_of_ble_eq_true rfl)) dX11_resource_13 ⟨Nat.le_of_ble_eq_true rfl, Nat.le_of_ble_eq_true rfl⟩) hS (fun q _ h => hFc q h) hFc (fun rr u t H_8 locs ht hvm hw hB hz1 hk1 hS2 => ?_)
  rw [hw]
  clear hw
  obtain ⟨hP1, -, hD1⟩ := hB
  rw [ht] at hP1
  replace hD := hD1.weaken (fun _ _ _ h => hFc _ h)
  replace hP := hP1
  replace hS := hS2
  clear hP1 hD1 hS2 hFc hfc hz1 hk1 hvm ht
  refine lv_istore (lv' := [(5, .int r_6), (0, .ref (a h0)), (1, .long x0), (3, .int x1), (4, .int x2)]) hx hb dX11_resource_16 hl (by decide) rfl (fun ls hl2 => ?_)
  replace hl := hl2
  clear hl2
  refine lv_iload hx hb dX11_resource_18 (lv_at hl 0 rfl) ?_
  refine lv_if_ge (tgt := 26) hx hb dX11_resource_20 (by decide) (fun c_9 => ?_) (fun c_9 => ?_)
  · skip
    rw [if_pos c_9] at hf
    refine lv_aload_n hx hb dX11_resource_26 rfl (lv_at hl 1 rfl) ?_
    refine lv_aload_n hx hb dX11_resource_27 rfl (lv_at hl 1 rfl) ?_
    obtain ⟨k_10, ek_10, hf⟩ := lnk_some hf
    refine va_get (D := (dC, dI)) (ci := 11) (v := .ref (a k_10)) (C := RX11) (T := TX11) (N := 13) hx hb hts iwd_X11_resource_X11 hown hK hP h0 (Wd_ob kg_1 sg_1 (by decide)) rfl 6 (by decide) (hts _ md_X11_resource_2) (fun _ h9 => h9) (fl_q rfl ek_10) dX11_resource_28 ?_
    refine lv_iload hx hb dX11_resource_31 (lv_at hl 0 rfl) ?_
    refine lv_aload_n hx hb dX11_resource_33 rfl (lv_at hl 1 rfl) ?_
    obtain ⟨k_11, ek_11, hf⟩ := lnk_some hf
    refine va_get (D := (dC, dI)) (ci := 11) (v := .ref (a k_11)) (C := RX11) (T := TX11) (N := 13) hx hb hts iwd_X11_resource_X11 hown hK hP h0 (Wd_ob kg_1 sg_1 (by decide)) rfl 11 (by decide) (hts _ md_X11_resource_3) (fun _ h9 => h9) (fl_q rfl ek_11) dX11_resource_34 ?_
    obtain ⟨g_14, hf⟩ := grd_some hf
    obtain ⟨kg_14, sg_14⟩ := okO_at g_14
    obtain ⟨z_12, r_13, hfc, hf⟩ := cal_some hf
    have hFc := de_free hD hS hA
    refine va_calli (va_runV (As := [.int r_6, .ref (a k_11)]) (rest := [.ref (a h0)]) ⟨hx, hb, hml, hown, hts⟩ (de_X7_writeBytes l dC dI cy a sh n H_8.size F z_5 k_10 r_6 k_11 hfc) (cwV 2 hts gX11_resource_X7_writeBytes rfl rfl rfl (by decide +kernel) ⟨Nat.le_of_ble_eq_true rfl, Nat.le_of_ble_eq_true rfl⟩) ⟨fun a U g mk q => by obtain ⟨q0, q1, qP, qK, qD, qN⟩ := q; exact ⟨q0, q1, qP, va_K.moved (u := U) (U := U.calling g mk a) (Vm.Alike.refl U.vm) qK, qD, qN.same rfl⟩, va_recv hK hP (ci := 7) (q0 := k_10) rfl (Wd_ob kg_14 sg_14 (by decide)), fun U hU hW => ⟨rfl, by rw [hU], by rw [hU]; exact hP, va_K.moved hW.alike hK, hD.weaken (fun _ _ _ _ => trivial), hN.warm hW⟩⟩ rfl rfl hl.1 rfl (lv_room (Nat.le_of_ble_eq_true rfl)) dX11_resource_37 ⟨Nat.le_of_ble_eq_true rfl, Nat.le_of_ble_eq_true rfl⟩) hS (fun q _ h => hFc q h) hFc (fun rr u t H_15 locs ht hvm hw hB hz1 hk1 hS2 => ?_)
    rw [hw]
    clear hw
    obtain ⟨hP1, -, hD1⟩ := hB
    rw [ht] at hP1
    replace hD := hD1.weaken (fun _ _ _ h => hFc _ h)
    replace hP := hP1
    replace hS := hS2
    clear hP1 hD1 hS2 hFc hfc hz1 hk1 hvm ht
    refine va_put (D := (dC, dI)) (ci := 11) (v := .int r_13) (ty := .int) (C := RX11) (T := TX11) (N := 13) hx hb hts iwd_X11_resource_X11 tyX11 tyX11_ok nmX11 hown hK hP hD hS h0 (Wd_ob kg_1 sg_1 (by decide)) rfl 12 (by decide) (hts _ md_X11_resource_1) (fun _ h9 => h9) rfl (by decide +kernel) rfl rfl (by rw [fl_len]; decide) dX11_resource_40 (fun H_16 locs hP2 hD2 hS2 => ?_)
    rw [Wd_si sg_1 (by decide) rfl] at hP2 hD2
    obtain ⟨z_17, ez_17⟩ : ∃ w, w = si z_12 h0 12 r_13 := ⟨_, rfl⟩
    rw [← ez_17] at hP2 hD2
    replace hf := lt_at ez_17 hf
    clear ez_17
    replace hP := hP2
    replace hD := hD2
    replace hS := hS2
    clear hP2 hD2 hS2
    refine lv_aload_n hx hb dX11_resource_43 rfl (lv_at hl 1 rfl) ?_
    refine va_get (D := (dC, dI)) (ci := 11) (v := .int (z_17.1 h0 12)) (C := RX11) (T := TX11) (N := 13) hx hb hts iwd_X11_resource_X11 hown hK hP h0 (Wd_ob kg_1 sg_1 (by decide)) rfl 12 (by decide) (hts _ md_X11_resource_1) (fun _ h9 => h9) (fl_at (t := 0) rfl) dX11_resource_44 ?_
    obtain ⟨h8, h9⟩ := ret_some hf
    rw [h8, h9]
    exact W.iret (v := (z_17.1 h0 12)) hx hb hr (fun t ht hW => ⟨⟨(z_17.1 h0 12), (), rfl, rfl, by rw [ht]; exact hP, va_K.moved hW.alike hK, hD⟩, hS.F ht⟩) hS.2.2 dX11_resource_47
  · skip
    rw [if_neg c_9] at hf
    refine lv_bipush (v := (-2)) hx hb dX11_resource_23 (by decide) ?_
    obtain ⟨h8, h9⟩ := ret_some hf
    rw [h8, h9]
    exact W.iret (v := (-2)) hx hb hr (fun t ht hW => ⟨⟨(-2), (), rfl, rfl, by rw [ht]; exact hP, va_K.moved hW.alike hK, hD⟩, hS.F ht⟩) hS.2.2 dX11_resource_25

theorem md_X6_readBeginning_3 : (.fieldLink RX6 17 "ResourceLedger$Reader" "p" "LResourceLedger$Program;" : Cond) ∈ wsX6_readBeginning := List.mem_of_getElem? (i := 3) rfl
theorem iwd_X6_readBeginning_X6 : ∀ w ∈ wsX60, w ∈ wsX6_readBeginning := fun _ h => List.mem_cons_of_mem _ (List.mem_append_left _ (List.mem_append_right _ h))
theorem md_X6_readBeginning_4 : (.fieldLink RX6 97 "ResourceLedger$Program" "number" "I" : Cond) ∈ wsX6_readBeginning := List.mem_of_getElem? (i := 4) rfl
theorem iwd_X6_readBeginning_X5 : ∀ w ∈ wsX50, w ∈ wsX6_readBeginning := fun _ h => List.mem_cons_of_mem _ (List.mem_append_right _ h)
theorem md_X6_readBeginning_1 : (.fieldLink RX6 32 "ResourceLedger$Reader" "at" "I" : Cond) ∈ wsX6_readBeginning := List.mem_of_getElem? (i := 1) rfl
theorem md_X6_readBeginning_2 : (.fieldLink RX6 91 "ResourceLedger$Program" "COIN_BYTES" "[B" : Cond) ∈ wsX6_readBeginning := List.mem_of_getElem? (i := 2) rfl
set_option maxHeartbeats 4000000 in
set_option maxRecDepth 100000 in
theorem de_X6_readBeginning (l : Launch) (dC : Nat → ClassId) (dI : Nat → Nat → Nat) (cy : Nat → ClassId) (a : Nat → Nat) (sh : Nat → Nat × Nat) (n sz : Nat) (F : Nat) (sk : Nat → Nat) (z : St) (h0 : Nat) {z8 : St} {r8 : Unit} (hf : fn_X6_readBeginning F sh n z h0 = some (z8, r8)) : Met l yX6_readBeginning wsX6_readBeginning ({ frames := 2, cells := 0, slots := 0, locals := 41 }) (va_Pc [.ref (a h0)] (fun U => U.heap.size = sz ∧ va_P (dC, dI) vwCl (Wd cy a sh n z) U.heap ∧ va_K (dC, dI) vwCl (TYS cy) U ∧ va_D (fun _ => True) (Wd cy a sh n z) ∧ NK U ∧ SKs sk (a CBK) (va_A (Wd cy a sh n z) sz) U U.heap)) (va_Qv (fun u : Unit => True) (fun u t => va_P (dC, dI) vwCl (Wd cy a sh n z8) t.heap ∧ va_K (dC, dI) vwCl (TYS cy) t ∧ va_D (va_A (Wd cy a sh n z) sz) (Wd cy a sh n z8)) (va_A (Wd cy a sh n z) sz)) 0 0 (va_A (Wd cy a sh n z) sz) := by
  refine Met.ofW (cc := cX6_readBeginning) (maxL := 3) (ret := none) (by decide) rfl ?_
  intro p e s m args below meth c s₁ B hml hv
  obtain ⟨rfl, hsz, hP, hK, hD0, hN, hSK⟩ := hv
  have hx := B.exec
  have hb := B.bytes
  have hr := B.returns
  have hts := atoms_spec (ws := wsX6_readBeginning) B.pre
  have hown : s.vm.findClass RX6 = some m.cls := findClass_of_methodNamed B.named
  have hlocks := B.notSynchronized
  subst hsz
  have hD := hD0.self (sz := s.heap.size)
  clear hD0
  generalize hAe : va_A (Wd cy a sh n z) s.heap.size = A at hD hSK ⊢
  have hA : ∀ q : Nat, s.heap.size ≤ q → A q := fun q h => by rw [← hAe]; exact Or.inr h
  clear hAe
  have hS : va_S A s.heap s.heap [] := va_S.rf
  have hl := lv_entry ([.ref (a h0)]) (n := 3) (Nat.le_of_ble_eq_true rfl)
  rw [lg_entry_eq]
  generalize (lg_sl ([.ref (a h0)]) ++ List.replicate (3 - (lg_sl ([.ref (a h0)])).length) Slot.unset).toArray = ls at hl ⊢
  replace hl : lv_has ls 3 [(0, .ref (a h0))] := hl
  unfold fn_X6_readBeginning at hf
  refine de_start hS hP (fun H locs hS hP => ?_)
  refine lv_iconst (v := 0) hx hb dX6_readBeginning_0 (by decide) ?_
  refine lv_istore_n (lv' := [(1, .int 0), (0, .ref (a h0))]) hx hb dX6_readBeginning_1 rfl hl (by decide) rfl (fun ls hl2 => ?_)
  replace hl := hl2
  clear hl2
  have hl0 : lv_has ls 3 [(1, .int 0), (0, .ref (a h0))] := lv_sub hl [0, 1] rfl
  refine de_loop (h := 2) (fun (x : St × Int32) ls H locs => lv_has ls 3 [(1, .int x.2), (0, .ref (a h0))] ∧ va_P (dC, dI) vwCl (Wd cy a sh n x.1) H ∧ va_D A (Wd cy a sh n x.1) ∧ va_S A s.heap H locs) (fun f x => fn_X6_readBeginning_L2 F sh n h0 f x.1 x.2) (z8, r8) ?_ (fun _ => rfl) F (z, 0) ls H locs ⟨hl0, hP, hD, hS⟩ hf
  intro f_3 x ls H locs ih2 hI hf
  obtain ⟨z_2, p_1⟩ := x
  obtain ⟨hl2, hP2, hD2, hS2⟩ := hI
  replace hl : lv_has ls 3 [(1, .int p_1), (0, .ref (a h0))] := hl2
  replace hP := hP2
  replace hD := hD2
  replace hS := hS2
  clear hl2 hP2 hD2 hS2 hl0
  replace hf := fn_X6_readBeginning_L2_s hf
  refine lv_iload_n hx hb dX6_readBeginning_2 rfl (lv_at hl 0 rfl) ?_
  refine lv_iconst (v := 4) hx hb dX6_readBeginning_3 (by decide) ?_
  refine lv_icmp_ge (tgt := 36) hx hb dX6_readBeginning_4 (by decide) (fun c_4 => ?_) (fun c_4 => ?_)
  · skip
    rw [if_pos c_4] at hf
    refine lv_aload_n hx hb dX6_readBeginning_36 rfl (lv_at hl 1 rfl) ?_
    obtain ⟨g_5, hf⟩ := grd_some hf
    obtain ⟨kg_5, sg_5⟩ := okO_at g_5
    obtain ⟨k_6, ek_6, hf⟩ := lnk_some hf
    refine va_get (D := (dC, dI)) (ci := 6) (v := .ref (a k_6)) (C := RX6) (T := TX6) (N := 9) hx hb hts iwd_X6_readBeginning_X6 hown hK hP h0 (Wd_ob kg_5 sg_5 (by decide)) rfl 2 (by decide) (hts _ md_X6_readBeginning_3) (fun _ h9 => h9) (fl_q rfl ek_6) dX6_readBeginning_37 ?_
    refine lv_aload_n hx hb dX6_readBeginning_40 rfl (lv_at hl 1 rfl) ?_
    obtain ⟨z_7, r_8, hfc, hf⟩ := cal_some hf
    have hFc := de_free hD hS hA
    refine va_calli (va_runV (As := []) (rest := [.ref (a k_6)]) ⟨hx, hb, hml, hown, hts⟩ (de_X6_readShort l dC dI cy a sh n H.size F sk z_2 h0 hfc) (cwV 0 hts gX6_readBeginning_X6_readShort rfl rfl rfl (by decide +kernel) ⟨Nat.le_of_ble_eq_true rfl, Nat.le_of_ble_eq_true rfl⟩) ⟨fun a U g mk q => by obtain ⟨q0, q1, qP, qK, qD, qN, qS⟩ := q; exact ⟨q0, q1, qP, va_K.moved (u := U) (U := U.calling g mk a) (Vm.Alike.refl U.vm) qK, qD, qN.same rfl, SKs.moved (u := U) (U := U.calling g mk a) (Vm.Alike.refl U.vm) qS⟩, va_recv hK hP (ci := 6) (q0 := h0) rfl (Wd_ob kg_5 sg_5 (by decide)), fun U hU hW => ⟨rfl, by rw [hU], by rw [hU]; exact hP, va_K.moved hW.alike hK, hD.weaken (fun _ _ _ _ => trivial), hN.warm hW, by rw [hU]; exact ((hSK.kept hS.2.1).narrow hFc).moved hW.alike⟩⟩ rfl rfl hl.1 rfl (lv_room (Nat.le_of_ble_eq_true rfl)) dX6_readBeginning_41 ⟨Nat.le_of_ble_eq_true rfl, Nat.le_of_ble_eq_true rfl⟩) hS (fun q _ h => hFc q h) hFc (fun rr u t H_9 locs ht hvm hw hB hz1 hk1 hS2 => ?_)
    rw [hw]
    clear hw
    obtain ⟨hP1, -, hD1⟩ := hB
    rw [ht] at hP1
    replace hD := hD1.weaken (fun _ _ _ h => hFc _ h)
    replace hP := hP1
    replace hS := hS2
    clear hP1 hD1 hS2 hFc hfc hz1 hk1 hvm ht
    obtain ⟨g_10, hf⟩ := grd_some hf
    obtain ⟨kg_10, sg_10⟩ := okO_at g_10
    refine va_put (D := (dC, dI)) (ci := 5) (v := .int r_8) (ty := .int) (C := RX5) (T := TX5) (N := 15) hx hb hts iwd_X6_readBeginning_X5 tyX5 tyX5_ok nmX5 hown hK hP hD hS k_6 (Wd_ob kg_10 sg_10 (by decide)) rfl 2 (by decide) (hts _ md_X6_readBeginning_4) (fun _ h9 => h9) rfl (by decide +kernel) rfl rfl (by rw [fl_len]; decide) dX6_readBeginning_44 (fun H_11 locs hP2 hD2 hS2 => ?_)
    rw [Wd_si sg_10 (by decide) rfl] at hP2 hD2
    obtain ⟨z_12, ez_12⟩ : ∃ w, w = si z_7 k_6 2 r_8 := ⟨_, rfl⟩
    rw [← ez_12] at hP2 hD2
    replace hf := lt_at ez_12 hf
    clear ez_12
    replace hP := hP2
    replace hD := hD2
    replace hS := hS2
    clear hP2 hD2 hS2
    obtain ⟨h8, h9⟩ := ret_some hf
    rw [h8]
    exact W.vret hx hb hr (fun t ht hW => ⟨⟨(), rfl, trivial, by rw [ht]; exact hP, va_K.moved hW.alike hK, hD⟩, hS.F ht⟩) hS.2.2 dX6_readBeginning_47
  · skip
    rw [if_neg c_4] at hf
    refine lv_aload_n hx hb dX6_readBeginning_7 rfl (lv_at hl 1 rfl) ?_
    obtain ⟨g_13, hf⟩ := grd_some hf
    obtain ⟨kg_13, sg_13⟩ := okO_at g_13
    refine va_get (D := (dC, dI)) (ci := 6) (v := .int (z_2.1 h0 3)) (C := RX6) (T := TX6) (N := 9) hx hb hts iwd_X6_readBeginning_X6 hown hK hP h0 (Wd_ob kg_13 sg_13 (by decide)) rfl 3 (by decide) (hts _ md_X6_readBeginning_1) (fun _ h9 => h9) (fl_at (t := 0) rfl) dX6_readBeginning_8 ?_
    refine lv_topi (fun v_14 ev_14 => ?_)
    replace hf := lt_at ev_14 hf
    clear ev_14
    refine lv_istore_n (lv' := [(2, .int v_14), (1, .int p_1), (0, .ref (a h0))]) hx hb dX6_readBeginning_11 rfl hl (by decide) rfl (fun ls hl2 => ?_)
    replace hl := hl2
    clear hl2
    refine lv_aload_n hx hb dX6_readBeginning_12 rfl (lv_at hl 2 rfl) ?_
    obtain ⟨z_15, r_16, hfc, hf⟩ := cal_some hf
    have hFc := de_free hD hS hA
    refine va_calli (va_runV (As := []) (rest := []) ⟨hx, hb, hml, hown, hts⟩ (de_X6_readByte l dC dI cy a sh n H.size F sk z_2 h0 hfc) (cwV 0 hts gX6_readBeginning_X6_readByte rfl rfl rfl (by decide +kernel) ⟨Nat.le_of_ble_eq_true rfl, Nat.le_of_ble_eq_true rfl⟩) ⟨fun a U g mk q => by obtain ⟨q0, q1, qP, qK, qD, qN, qS⟩ := q; exact ⟨q0, q1, qP, va_K.moved (u := U) (U := U.calling g mk a) (Vm.Alike.refl U.vm) qK, qD, qN.same rfl, SKs.moved (u := U) (U := U.calling g mk a) (Vm.Alike.refl U.vm) qS⟩, va_recv hK hP (ci := 6) (q0 := h0) rfl (Wd_ob kg_13 sg_13 (by decide)), fun U hU hW => ⟨rfl, by rw [hU], by rw [hU]; exact hP, va_K.moved hW.alike hK, hD.weaken (fun _ _ _ _ => trivial), hN.warm hW, by rw [hU]; exact ((hSK.kept hS.2.1).narrow hFc).moved hW.alike⟩⟩ rfl rfl hl.1 rfl (lv_room (Nat.le_of_ble_eq_true rfl)) dX6_readBeginning_13 ⟨Nat.le_of_ble_eq_true rfl, Nat.le_of_ble_eq_true rfl⟩) hS (fun q _ h => hFc q h) hFc (fun rr u t H_17 locs ht hvm hw hB hz1 hk1 hS2 => ?_)
    rw [hw]
    clear hw
    obtain ⟨hP1, -, hD1⟩ := hB
    rw [ht] at hP1
    replace hD := hD1.weaken (fun _ _ _ h => hFc _ h)
    replace hP := hP1
    replace hS := hS2
    clear hP1 hD1 hS2 hFc hfc hz1 hk1 hvm ht
    refine va_gets hx hb hSK.1.1 hS hown (hts _ md_X6_readBeginning_2) (fun _ h => h) dX6_readBeginning_16 ?_
    refine lv_iload_n hx hb dX6_readBeginning_19 rfl (lv_at hl 1 rfl) ?_
    obtain ⟨v_18, ev_18, hf⟩ := bnd_some hf
    refine de_rb hx hb hK hP hS hSK ev_18 dX6_readBeginning_20 ?_
    refine de_cut (h := 30) (fun (x : St) => []) (fun x ls H locs => lv_has ls 3 [(1, .int p_1), (0, .ref (a h0))] ∧ va_P (dC, dI) vwCl (Wd cy a sh n x) H ∧ va_D A (Wd cy a sh n x) ∧ va_S A s.heap H locs) (fun x => fn_X6_readBeginning_B30 F sh n p_1 (fun z9 q1 => fn_X6_readBeginning_L2 F sh n h0 f_3 z9 q1) x) (z8, r8) ?_ (fun B30 => ?_)
    · intro x ls H locs hI hf
      obtain ⟨z_19, ez⟩ : ∃ w, w = x := ⟨_, rfl⟩
      subst ez
      obtain ⟨hl2, hP2, hD2, hS2⟩ := hI
      replace hl : lv_has ls 3 [(1, .int p_1), (0, .ref (a h0))] := hl2
      replace hP := hP2
      replace hD := hD2
      replace hS := hS2
      clear hl2 hP2 hD2 hS2
      replace hf := fn_X6_readBeginning_B30_s hf
      refine W.eq (g2 := F0 m 30 ls []) rfl ?_
      refine lv_iinc (v := (p_1 + 1)) (lv' := [(1, .int (p_1 + 1)), (0, .ref (a h0))]) hx hb dX6_readBeginning_30 hl (k := 0) rfl rfl (by decide) rfl (fun ls hl2 => ?_)
      replace hl := hl2
      clear hl2
      refine lv_goto (tgt := 2) hx hb dX6_readBeginning_33 (by decide) ?_
      exact ih2 (z_19, (p_1 + 1)) ls H locs ⟨lv_sub hl [0, 1] rfl, hP, hD, hS⟩ hf
    refine lv_icmp_eq (tgt := 30) hx hb dX6_readBeginning_21 (by decide) (fun c_20 => ?_) (fun c_20 => ?_)
    · skip
      rw [if_pos c_20] at hf
      exact B30 (z_15) ls H_17 locs ⟨lv_sub hl [1, 2] rfl, hP, hD, hS⟩ hf
    · skip
      rw [if_neg c_20] at hf
      refine lv_aload_n hx hb dX6_readBeginning_24 rfl (lv_at hl 2 rfl) ?_
      refine lv_iconst (v := 1) hx hb dX6_readBeginning_25 (by decide) ?_
      refine lv_iload_n hx hb dX6_readBeginning_26 rfl (lv_at hl 0 rfl) ?_
      obtain ⟨z_21, _u, hfc, hf⟩ := cal_some hf
      have hFc := de_free hD hS hA
      refine va_callv (va_runV (As := [.int 1, .int v_14]) (rest := []) ⟨hx, hb, hml, hown, hts⟩ (de_X6_fail l dC dI cy a sh n H_17.size F z_15 h0 1 v_14 hfc) (cwV 2 hts gX6_readBeginning_X6_fail rfl rfl rfl (by decide +kernel) ⟨Nat.le_of_ble_eq_true rfl, Nat.le_of_ble_eq_true rfl⟩) ⟨fun a U g mk q => by obtain ⟨q0, q1, qP, qK, qD, qN⟩ := q; exact ⟨q0, q1, qP, va_K.moved (u := U) (U := U.calling g mk a) (Vm.Alike.refl U.vm) qK, qD, qN.same rfl⟩, va_recv hK hP (ci := 6) (q0 := h0) rfl (Wd_ob kg_13 sg_13 (by decide)), fun U hU hW => ⟨rfl, by rw [hU], by rw [hU]; exact hP, va_K.moved hW.alike hK, hD.weaken (fun _ _ _ _ => trivial), hN.warm hW⟩⟩ rfl rfl hl.1 rfl (lv_room (Nat.le_of_ble_eq_true rfl)) dX6_readBeginning_27 ⟨Nat.le_of_ble_eq_true rfl, Nat.le_of_ble_eq_true rfl⟩) hS (fun q _ h => hFc q h) hFc (fun u t H_22 locs ht hvm hw hB hz1 hk1 hS2 => ?_)
      obtain ⟨hP1, -, hD1⟩ := hB
      rw [ht] at hP1
      replace hD := hD1.weaken (fun _ _ _ h => hFc _ h)
      replace hP := hP1
      replace hS := hS2
      clear hP1 hD1 hS2 hFc hfc hz1 hk1 hvm ht
      exact B30 (z_21) ls H_22 locs ⟨lv_sub hl [1, 2] rfl, hP, hD, hS⟩ hf

theorem md_X16_lookType_1 : (.fieldLink RX16 92 "ResourceLedgerModel$Unit" "structures" "I" : Cond) ∈ wsX16_lookType := List.mem_of_getElem? (i := 1) rfl
theorem iwd_X16_lookType_X16 : ∀ w ∈ wsX160, w ∈ wsX16_lookType := fun _ h => List.mem_cons_of_mem _ (List.mem_append_right _ h)
theorem md_X16_lookType_2 : (.fieldLink RX16 95 "ResourceLedgerModel$Unit" "foreigns" "I" : Cond) ∈ wsX16_lookType := List.mem_of_getElem? (i := 2) rfl
set_option maxHeartbeats 4000000 in
set_option maxRecDepth 100000 in
theorem de_X16_lookType (l : Launch) (dC : Nat → ClassId) (dI : Nat → Nat → Nat) (cy : Nat → ClassId) (a : Nat → Nat) (sh : Nat → Nat × Nat) (n sz : Nat) (F : Nat) (z : St) (h0 : Nat) (x0 : Int32) {z8 : St} {r8 : Int32} (hf : fn_X16_lookType F sh n z h0 x0 = some (z8, r8)) : Met l yX16_lookType wsX16_lookType ({ frames := 2, cells := 0, slots := 0, locals := 43 }) (va_Pc [.ref (a h0), .int x0] (fun U => U.heap.size = sz ∧ va_P (dC, dI) vwCl (Wd cy a sh n z) U.heap ∧ va_K (dC, dI) vwCl (TYS cy) U ∧ va_D (fun _ => True) (Wd cy a sh n z) ∧ NK U)) (va_Qi (fun (r9 : Int32) (u : Unit) => r9 = r8) (fun u t => va_P (dC, dI) vwCl (Wd cy a sh n z8) t.heap ∧ va_K (dC, dI) vwCl (TYS cy) t ∧ va_D (va_A (Wd cy a sh n z) sz) (Wd cy a sh n z8)) (va_A (Wd cy a sh n z) sz)) 0 0 (va_A (Wd cy a sh n z) sz) := by
  refine Met.ofW (cc := cX16_lookType) (maxL := 3) (ret := (some .int)) (by decide) rfl ?_
  intro p e s m args below meth c s₁ B hml hv
  obtain ⟨rfl, hsz, hP, hK, hD0, hN⟩ := hv
  have hx := B.exec
  have hb := B.bytes
  have hr := B.returns
  have hts := atoms_spec (ws := wsX16_lookType) B.pre
  have hown : s.vm.findClass RX16 = some m.cls := findClass_of_methodNamed B.named
  have hlocks := B.notSynchronized
  subst hsz
  have hD := hD0.self (sz := s.heap.size)
  clear hD0
  generalize hAe : va_A (Wd cy a sh n z) s.heap.size = A at hD ⊢
  have hA : ∀ q : Nat, s.heap.size ≤ q → A q := fun q h => by rw [← hAe]; exact Or.inr h
  clear hAe
  have hS : va_S A s.heap s.heap [] := va_S.rf
  have hl := lv_entry ([.ref (a h0), .int x0]) (n := 3) (Nat.le_of_ble_eq_true rfl)
  rw [lg_entry_eq]
  generalize (lg_sl ([.ref (a h0), .int x0]) ++ List.replicate (3 - (lg_sl ([.ref (a h0), .int x0])).length) Slot.unset).toArray = ls at hl ⊢
  replace hl : lv_has ls 3 [(0, .ref (a h0)), (1, .int x0)] := hl
  unfold fn_X16_lookType at hf
  refine de_start hS hP (fun H locs hS hP => ?_)
  refine lv_aload_n hx hb dX16_lookType_0 rfl (lv_at hl 0 rfl) ?_
  refine lv_iload_n hx hb dX16_lookType_1 rfl (lv_at hl 1 rfl) ?_
  obtain ⟨g_3, hf⟩ := grd_some hf
  obtain ⟨kg_3, sg_3⟩ := okO_at g_3
  obtain ⟨z_1, r_2, hfc, hf⟩ := cal_some hf
  have hFc := de_free hD hS hA
  refine va_calli (va_runV (As := [.int x0]) (rest := []) ⟨hx, hb, hml, hown, hts⟩ (de_X16_typeEnd l dC dI cy a sh n H.size F z h0 x0 hfc) (cwV 1 hts gX16_lookType_X16_typeEnd rfl rfl rfl (by decide +kernel) ⟨Nat.le_of_ble_eq_true rfl, Nat.le_of_ble_eq_true rfl⟩) ⟨fun a U g mk q => by obtain ⟨q0, q1, qP, qK, qD, qN⟩ := q; exact ⟨q0, q1, qP, va_K.moved (u := U) (U := U.calling g mk a) (Vm.Alike.refl U.vm) qK, qD, qN.same rfl⟩, va_recv hK hP (ci := 16) (q0 := h0) rfl (Wd_ob kg_3 sg_3 (by decide)), fun U hU hW => ⟨rfl, by rw [hU], by rw [hU]; exact hP, va_K.moved hW.alike hK, hD.weaken (fun _ _ _ _ => trivial), hN.warm hW⟩⟩ rfl rfl hl.1 rfl (lv_room (Nat.le_of_ble_eq_true rfl)) dX16_lookType_2 ⟨Nat.le_of_ble_eq_true rfl, Nat.le_of_ble_eq_true rfl⟩) hS (fun q _ h => hFc q h) hFc (fun rr u t H_4 locs ht hvm hw hB hz1 hk1 hS2 => ?_)
  rw [hw]
  clear hw
  obtain ⟨hP1, -, hD1⟩ := hB
  rw [ht] at hP1
  replace hD := hD1.weaken (fun _ _ _ h => hFc _ h)
  replace hP := hP1
  replace hS := hS2
  clear hP1 hD1 hS2 hFc hfc hz1 hk1 hvm ht
  refine lv_istore_n (lv' := [(2, .int r_2), (0, .ref (a h0)), (1, .int x0)]) hx hb dX16_lookType_5 rfl hl (by decide) rfl (fun ls hl2 => ?_)
  replace hl := hl2
  clear hl2
  refine lv_aload_n hx hb dX16_lookType_6 rfl (lv_at hl 1 rfl) ?_
  refine lv_iload_n hx hb dX16_lookType_7 rfl (lv_at hl 2 rfl) ?_
  obtain ⟨z_5, r_6, hfc, hf⟩ := cal_some hf
  have hFc := de_free hD hS hA
  refine va_calli (va_runV (As := [.int x0]) (rest := []) ⟨hx, hb, hml, hown, hts⟩ (de_X16_isStructureType l dC dI cy a sh n H_4.size F z_1 h0 x0 hfc) (cwV 1 hts gX16_lookType_X16_isStructureType rfl rfl rfl (by decide +kernel) ⟨Nat.le_of_ble_eq_true rfl, Nat.le_of_ble_eq_true rfl⟩) ⟨fun a U g mk q => by obtain ⟨q0, q1, qP, qK, qD, qN⟩ := q; exact ⟨q0, q1, qP, va_K.moved (u := U) (U := U.calling g mk a) (Vm.Alike.refl U.vm) qK, qD, qN.same rfl⟩, va_recv hK hP (ci := 16) (q0 := h0) rfl (Wd_ob kg_3 sg_3 (by decide)), fun U hU hW => ⟨rfl, by rw [hU], by rw [hU]; exact hP, va_K.moved hW.alike hK, hD.weaken (fun _ _ _ _ => trivial), hN.warm hW⟩⟩ rfl rfl hl.1 rfl (lv_room (Nat.le_of_ble_eq_true rfl)) dX16_lookType_8 ⟨Nat.le_of_ble_eq_true rfl, Nat.le_of_ble_eq_true rfl⟩) hS (fun q _ h => hFc q h) hFc (fun rr u t H_7 locs ht hvm hw hB hz1 hk1 hS2 => ?_)
  rw [hw]
  clear hw
  obtain ⟨hP1, -, hD1⟩ := hB
  rw [ht] at hP1
  replace hD := hD1.weaken (fun _ _ _ h => hFc _ h)
  replace hP := hP1
  replace hS := hS2
  clear hP1 hD1 hS2 hFc hfc hz1 hk1 hvm ht
  refine lv_if_eq (tgt := 42) hx hb dX16_lookType_11 (by decide) (fun c_8 => ?_) (fun c_8 => ?_)
  · skip
    rw [if_pos c_8] at hf
    refine lv_iload_n hx hb dX16_lookType_42 rfl (lv_at hl 0 rfl) ?_
    obtain ⟨h8, h9⟩ := ret_some hf
    rw [h8, h9]
    exact W.iret (v := r_2) hx hb hr (fun t ht hW => ⟨⟨r_2, (), rfl, rfl, by rw [ht]; exact hP, va_K.moved hW.alike hK, hD⟩, hS.F ht⟩) hS.2.2 dX16_lookType_43
  · skip
    rw [if_neg c_8] at hf
    refine lv_aload_n hx hb dX16_lookType_14 rfl (lv_at hl 1 rfl) ?_
    refine lv_iload_n hx hb dX16_lookType_15 rfl (lv_at hl 0 rfl) ?_
    refine lv_iconst (v := 1) hx hb dX16_lookType_16 (by decide) ?_
    refine lv_isub hx hb dX16_lookType_17 ?_
    obtain ⟨z_9, r_10, hfc, hf⟩ := cal_some hf
    have hFc := de_free hD hS hA
    refine va_calli (va_runV (As := [.int (r_2 - 1)]) (rest := []) ⟨hx, hb, hml, hown, hts⟩ (de_X16_byteAt l dC dI cy a sh n H_7.size F z_5 h0 (r_2 - 1) hfc) (cwV 1 hts gX16_lookType_X16_byteAt rfl rfl rfl (by decide +kernel) ⟨Nat.le_of_ble_eq_true rfl, Nat.le_of_ble_eq_true rfl⟩) ⟨fun a U g mk q => by obtain ⟨q0, q1, qP, qK, qD, qN⟩ := q; exact ⟨q0, q1, qP, va_K.moved (u := U) (U := U.calling g mk a) (Vm.Alike.refl U.vm) qK, qD, qN.same rfl⟩, va_recv hK hP (ci := 16) (q0 := h0) rfl (Wd_ob kg_3 sg_3 (by decide)), fun U hU hW => ⟨rfl, by rw [hU], by rw [hU]; exact hP, va_K.moved hW.alike hK, hD.weaken (fun _ _ _ _ => trivial), hN.warm hW⟩⟩ rfl rfl hl.1 rfl (lv_room (Nat.le_of_ble_eq_true rfl)) dX16_lookType_18 ⟨Nat.le_of_ble_eq_true rfl, Nat.le_of_ble_eq_true rfl⟩) hS (fun q _ h => hFc q h) hFc (fun rr u t H_11 locs ht hvm hw hB hz1 hk1 hS2 => ?_)
    rw [hw]
    clear hw
    obtain ⟨hP1, -, hD1⟩ := hB
    rw [ht] at hP1
    replace hD := hD1.weaken (fun _ _ _ h => hFc _ h)
    replace hP := hP1
    replace hS := hS2
    clear hP1 hD1 hS2 hFc hfc hz1 hk1 hvm ht
    refine lv_aload_n hx hb dX16_lookType_21 rfl (lv_at hl 1 rfl) ?_
    refine va_get (D := (dC, dI)) (ci := 16) (v := .int (z_9.1 h0 5)) (C := RX16) (T := TX16) (N := 18) hx hb hts iwd_X16_lookType_X16 hown hK hP h0 (Wd_ob kg_3 sg_3 (by decide)) rfl 5 (by decide) (hts _ md_X16_lookType_1) (fun _ h9 => h9) (fl_at (t := 0) rfl) dX16_lookType_22 ?_
    refine lv_aload_n hx hb dX16_lookType_25 rfl (lv_at hl 1 rfl) ?_
    refine va_get (D := (dC, dI)) (ci := 16) (v := .int (z_9.1 h0 6)) (C := RX16) (T := TX16) (N := 18) hx hb hts iwd_X16_lookType_X16 hown hK hP h0 (Wd_ob kg_3 sg_3 (by decide)) rfl 6 (by decide) (hts _ md_X16_lookType_2) (fun _ h9 => h9) (fl_at (t := 0) rfl) dX16_lookType_26 ?_
    refine lv_iadd hx hb dX16_lookType_29 ?_
    refine lv_icmp_lt (tgt := 42) hx hb dX16_lookType_30 (by decide) (fun c_12 => ?_) (fun c_12 => ?_)
    · skip
      rw [if_pos c_12] at hf
      refine lv_iload_n hx hb dX16_lookType_42 rfl (lv_at hl 0 rfl) ?_
      obtain ⟨h8, h9⟩ := ret_some hf
      rw [h8, h9]
      exact W.iret (v := r_2) hx hb hr (fun t ht hW => ⟨⟨r_2, (), rfl, rfl, by rw [ht]; exact hP, va_K.moved hW.alike hK, hD⟩, hS.F ht⟩) hS.2.2 dX16_lookType_43
    · skip
      rw [if_neg c_12] at hf
      refine lv_aload_n hx hb dX16_lookType_33 rfl (lv_at hl 1 rfl) ?_
      refine lv_bipush (v := 7) hx hb dX16_lookType_34 (by decide) ?_
      refine lv_iload_n hx hb dX16_lookType_36 rfl (lv_at hl 0 rfl) ?_
      refine lv_iconst (v := 1) hx hb dX16_lookType_37 (by decide) ?_
      refine lv_isub hx hb dX16_lookType_38 ?_
      obtain ⟨z_13, _u, hfc, hf⟩ := cal_some hf
      have hFc := de_free hD hS hA
      refine va_callv (va_runV (As := [.int 7, .int (r_2 - 1)]) (rest := []) ⟨hx, hb, hml, hown, hts⟩ (de_X16_fail l dC dI cy a sh n H_11.size F z_9 h0 7 (r_2 - 1) hfc) (cwV 2 hts gX16_lookType_X16_fail rfl rfl rfl (by decide +kernel) ⟨Nat.le_of_ble_eq_true rfl, Nat.le_of_ble_eq_true rfl⟩) ⟨fun a U g mk q => by obtain ⟨q0, q1, qP, qK, qD, qN⟩ := q; exact ⟨q0, q1, qP, va_K.moved (u := U) (U := U.calling g mk a) (Vm.Alike.refl U.vm) qK, qD, qN.same rfl⟩, va_recv hK hP (ci := 16) (q0 := h0) rfl (Wd_ob kg_3 sg_3 (by decide)), fun U hU hW => ⟨rfl, by rw [hU], by rw [hU]; exact hP, va_K.moved hW.alike hK, hD.weaken (fun _ _ _ _ => trivial), hN.warm hW⟩⟩ rfl rfl hl.1 rfl (lv_room (Nat.le_of_ble_eq_true rfl)) dX16_lookType_39 ⟨Nat.le_of_ble_eq_true rfl, Nat.le_of_ble_eq_true rfl⟩) hS (fun q _ h => hFc q h) hFc (fun u t H_14 locs ht hvm hw hB hz1 hk1 hS2 => ?_)
      obtain ⟨hP1, -, hD1⟩ := hB
      rw [ht] at hP1
      replace hD := hD1.weaken (fun _ _ _ h => hFc _ h)
      replace hP := hP1
      replace hS := hS2
      clear hP1 hD1 hS2 hFc hfc hz1 hk1 hvm ht
      refine lv_iload_n hx hb dX16_lookType_42 rfl (lv_at hl 0 rfl) ?_
      obtain ⟨h8, h9⟩ := ret_some hf
      rw [h8, h9]
      exact W.iret (v := r_2) hx hb hr (fun t ht hW => ⟨⟨r_2, (), rfl, rfl, by rw [ht]; exact hP, va_K.moved hW.alike hK, hD⟩, hS.F ht⟩) hS.2.2 dX16_lookType_43

set_option maxHeartbeats 4000000 in
set_option maxRecDepth 100000 in
theorem de_X16_count (l : Launch) (dC : Nat → ClassId) (dI : Nat → Nat → Nat) (cy : Nat → ClassId) (a : Nat → Nat) (sh : Nat → Nat × Nat) (n sz : Nat) (F : Nat) (z : St) (h0 : Nat) (x0 : Int32) (x1 : Int32) {z8 : St} {r8 : Int32} (hf : fn_X16_count F sh n z h0 x0 x1 = some (z8, r8)) : Met l yX16_count wsX16_count ({ frames := 2, cells := 0, slots := 0, locals := 44 }) (va_Pc [.ref (a h0), .int x0, .int x1] (fun U => U.heap.size = sz ∧ va_P (dC, dI) vwCl (Wd cy a sh n z) U.heap ∧ va_K (dC, dI) vwCl (TYS cy) U ∧ va_D (fun _ => True) (Wd cy a sh n z) ∧ NK U)) (va_Qi (fun (r9 : Int32) (u : Unit) => r9 = r8) (fun u t => va_P (dC, dI) vwCl (Wd cy a sh n z8) t.heap ∧ va_K (dC, dI) vwCl (TYS cy) t ∧ va_D (va_A (Wd cy a sh n z) sz) (Wd cy a sh n z8)) (va_A (Wd cy a sh n z) sz)) 0 0 (va_A (Wd cy a sh n z) sz) := by
  refine Met.ofW (cc := cX16_count) (maxL := 4) (ret := (some .int)) (by decide) rfl ?_
  intro p e s m args below meth c s₁ B hml hv
  obtain ⟨rfl, hsz, hP, hK, hD0, hN⟩ := hv
  have hx := B.exec
  have hb := B.bytes
  have hr := B.returns
  have hts := atoms_spec (ws := wsX16_count) B.pre
  have hown : s.vm.findClass RX16 = some m.cls := findClass_of_methodNamed B.named
  have hlocks := B.notSynchronized
  subst hsz
  have hD := hD0.self (sz := s.heap.size)
  clear hD0
  generalize hAe : va_A (Wd cy a sh n z) s.heap.size = A at hD ⊢
  have hA : ∀ q : Nat, s.heap.size ≤ q → A q := fun q h => by rw [← hAe]; exact Or.inr h
  clear hAe
  have hS : va_S A s.heap s.heap [] := va_S.rf
  have hl := lv_entry ([.ref (a h0), .int x0, .int x1]) (n := 4) (Nat.le_of_ble_eq_true rfl)
  rw [lg_entry_eq]
  generalize (lg_sl ([.ref (a h0), .int x0, .int x1]) ++ List.replicate (4 - (lg_sl ([.ref (a h0), .int x0, .int x1])).length) Slot.unset).toArray = ls at hl ⊢
  replace hl : lv_has ls 4 [(0, .ref (a h0)), (1, .int x0), (2, .int x1)] := hl
  unfold fn_X16_count at hf
  refine de_start hS hP (fun H locs hS hP => ?_)
  refine lv_aload_n hx hb dX16_count_0 rfl (lv_at hl 0 rfl) ?_
  refine lv_iconst (v := 1) hx hb dX16_count_1 (by decide) ?_
  obtain ⟨g_3, hf⟩ := grd_some hf
  obtain ⟨kg_3, sg_3⟩ := okO_at g_3
  obtain ⟨z_1, r_2, hfc, hf⟩ := cal_some hf
  have hFc := de_free hD hS hA
  refine va_calli (va_runV (As := [.int 1]) (rest := []) ⟨hx, hb, hml, hown, hts⟩ (de_X16_over l dC dI cy a sh n H.size F z h0 1 hfc) (cwV 1 hts gX16_count_X16_over rfl rfl rfl (by decide +kernel) ⟨Nat.le_of_ble_eq_true rfl, Nat.le_of_ble_eq_true rfl⟩) ⟨fun a U g mk q => by obtain ⟨q0, q1, qP, qK, qD, qN⟩ := q; exact ⟨q0, q1, qP, va_K.moved (u := U) (U := U.calling g mk a) (Vm.Alike.refl U.vm) qK, qD, qN.same rfl⟩, va_recv hK hP (ci := 16) (q0 := h0) rfl (Wd_ob kg_3 sg_3 (by decide)), fun U hU hW => ⟨rfl, by rw [hU], by rw [hU]; exact hP, va_K.moved hW.alike hK, hD.weaken (fun _ _ _ _ => trivial), hN.warm hW⟩⟩ rfl rfl hl.1 rfl (lv_room (Nat.le_of_ble_eq_true rfl)) dX16_count_2 ⟨Nat.le_of_ble_eq_true rfl, Nat.le_of_ble_eq_true rfl⟩) hS (fun q _ h => hFc q h) hFc (fun rr u t H_4 locs ht hvm hw hB hz1 hk1 hS2 => ?_)
  rw [hw]
  clear hw
  obtain ⟨hP1, -, hD1⟩ := hB
  rw [ht] at hP1
  replace hD := hD1.weaken (fun _ _ _ h => hFc _ h)
  replace hP := hP1
  replace hS := hS2
  clear hP1 hD1 hS2 hFc hfc hz1 hk1 hvm ht
  refine lv_istore_n (lv' := [(3, .int r_2), (0, .ref (a h0)), (1, .int x0), (2, .int x1)]) hx hb dX16_count_5 rfl hl (by decide) rfl (fun ls hl2 => ?_)
  replace hl := hl2
  clear hl2
  refine lv_aload_n hx hb dX16_count_6 rfl (lv_at hl 1 rfl) ?_
  obtain ⟨z_5, r_6, hfc, hf⟩ := cal_some hf
  have hFc := de_free hD hS hA
  refine va_calli (va_runV (As := []) (rest := []) ⟨hx, hb, hml, hown, hts⟩ (de_X16_isGood l dC dI cy a sh n H_4.size F z_1 h0 hfc) (cwV 0 hts gX16_count_X16_isGood rfl rfl rfl (by decide +kernel) ⟨Nat.le_of_ble_eq_true rfl, Nat.le_of_ble_eq_true rfl⟩) ⟨fun a U g mk q => by obtain ⟨q0, q1, qP, qK, qD, qN⟩ := q; exact ⟨q0, q1, qP, va_K.moved (u := U) (U := U.calling g mk a) (Vm.Alike.refl U.vm) qK, qD, qN.same rfl⟩, va_recv hK hP (ci := 16) (q0 := h0) rfl (Wd_ob kg_3 sg_3 (by decide)), fun U hU hW => ⟨rfl, by rw [hU], by rw [hU]; exact hP, va_K.moved hW.alike hK, hD.weaken (fun _ _ _ _ => trivial), hN.warm hW⟩⟩ rfl rfl hl.1 rfl (lv_room (Nat.le_of_ble_eq_true rfl)) dX16_count_7 ⟨Nat.le_of_ble_eq_true rfl, Nat.le_of_ble_eq_true rfl⟩) hS (fun q _ h => hFc q h) hFc (fun rr u t H_7 locs ht hvm hw hB hz1 hk1 hS2 => ?_)
  rw [hw]
  clear hw
  obtain ⟨hP1, -, hD1⟩ := hB
  rw [ht] at hP1
  replace hD := hD1.weaken (fun _ _ _ h => hFc _ h)
  replace hP := hP1
  replace hS := hS2
  clear hP1 hD1 hS2 hFc hfc hz1 hk1 hvm ht
  refine de_cut (h := 37) (fun (x : St) => []) (fun x ls H locs => lv_has ls 4 [(3, .int r_2), (0, .ref (a h0))] ∧ va_P (dC, dI) vwCl (Wd cy a sh n x) H ∧ va_D A (Wd cy a sh n x) ∧ va_S A s.heap H locs) (fun x => fn_X16_count_B37 F sh n h0 r_2 x) (z8, r8) ?_ (fun B37 => ?_)
  · intro x ls H locs hI hf
    obtain ⟨z_8, ez⟩ : ∃ w, w = x := ⟨_, rfl⟩
    subst ez
    obtain ⟨hl2, hP2, hD2, hS2⟩ := hI
    replace hl : lv_has ls 4 [(3, .int r_2), (0, .ref (a h0))] := hl2
    replace hP := hP2
    replace hD := hD2
    replace hS := hS2
    clear hl2 hP2 hD2 hS2
    replace hf := fn_X16_count_B37_s hf
    refine W.eq (g2 := F0 m 37 ls []) rfl ?_
    refine lv_aload_n hx hb dX16_count_37 rfl (lv_at hl 1 rfl) ?_
    obtain ⟨z_9, r_10, hfc, hf⟩ := cal_some hf
    have hFc := de_free hD hS hA
    refine va_calli (va_runV (As := []) (rest := []) ⟨hx, hb, hml, hown, hts⟩ (de_X16_isGood l dC dI cy a sh n H.size F z_8 h0 hfc) (cwV 0 hts gX16_count_X16_isGood rfl rfl rfl (by decide +kernel) ⟨Nat.le_of_ble_eq_true rfl, Nat.le_of_ble_eq_true rfl⟩) ⟨fun a U g mk q => by obtain ⟨q0, q1, qP, qK, qD, qN⟩ := q; exact ⟨q0, q1, qP, va_K.moved (u := U) (U := U.calling g mk a) (Vm.Alike.refl U.vm) qK, qD, qN.same rfl⟩, va_recv hK hP (ci := 16) (q0 := h0) rfl (Wd_ob kg_3 sg_3 (by decide)), fun U hU hW => ⟨rfl, by rw [hU], by rw [hU]; exact hP, va_K.moved hW.alike hK, hD.weaken (fun _ _ _ _ => trivial), hN.warm hW⟩⟩ rfl rfl hl.1 rfl (lv_room (Nat.le_of_ble_eq_true rfl)) dX16_count_38 ⟨Nat.le_of_ble_eq_true rfl, Nat.le_of_ble_eq_true rfl⟩) hS (fun q _ h => hFc q h) hFc (fun rr u t H_11 locs ht hvm hw hB hz1 hk1 hS2 => ?_)
    rw [hw]
    clear hw
    obtain ⟨hP1, -, hD1⟩ := hB
    rw [ht] at hP1
    replace hD := hD1.weaken (fun _ _ _ h => hFc _ h)
    replace hP := hP1
    replace hS := hS2
    clear hP1 hD1 hS2 hFc hfc hz1 hk1 hvm ht
    refine lv_if_eq (tgt := 52) hx hb dX16_count_41 (by decide) (fun c_12 => ?_) (fun c_12 => ?_)
    · skip
      rw [if_pos c_12] at hf
      refine lv_iconst (v := 0) hx hb dX16_count_52 (by decide) ?_
      obtain ⟨h8, h9⟩ := ret_some hf
      rw [h8, h9]
      exact W.iret (v := 0) hx hb hr (fun t ht hW => ⟨⟨0, (), rfl, rfl, by rw [ht]; exact hP, va_K.moved hW.alike hK, hD⟩, hS.F ht⟩) hS.2.2 dX16_count_53
    · skip
      rw [if_neg c_12] at hf
      refine lv_aload_n hx hb dX16_count_44 rfl (lv_at hl 1 rfl) ?_
      refine lv_iload_n hx hb dX16_count_45 rfl (lv_at hl 0 rfl) ?_
      obtain ⟨z_13, r_14, hfc, hf⟩ := cal_some hf
      have hFc := de_free hD hS hA
      refine va_calli (va_runV (As := [.int r_2]) (rest := []) ⟨hx, hb, hml, hown, hts⟩ (de_X16_byteAt l dC dI cy a sh n H_11.size F z_9 h0 r_2 hfc) (cwV 1 hts gX16_count_X16_byteAt rfl rfl rfl (by decide +kernel) ⟨Nat.le_of_ble_eq_true rfl, Nat.le_of_ble_eq_true rfl⟩) ⟨fun a U g mk q => by obtain ⟨q0, q1, qP, qK, qD, qN⟩ := q; exact ⟨q0, q1, qP, va_K.moved (u := U) (U := U.calling g mk a) (Vm.Alike.refl U.vm) qK, qD, qN.same rfl⟩, va_recv hK hP (ci := 16) (q0 := h0) rfl (Wd_ob kg_3 sg_3 (by decide)), fun U hU hW => ⟨rfl, by rw [hU], by rw [hU]; exact hP, va_K.moved hW.alike hK, hD.weaken (fun _ _ _ _ => trivial), hN.warm hW⟩⟩ rfl rfl hl.1 rfl (lv_room (Nat.le_of_ble_eq_true rfl)) dX16_count_46 ⟨Nat.le_of_ble_eq_true rfl, Nat.le_of_ble_eq_true rfl⟩) hS (fun q _ h => hFc q h) hFc (fun rr u t H_15 locs ht hvm hw hB hz1 hk1 hS2 => ?_)
      rw [hw]
      clear hw
      obtain ⟨hP1, -, hD1⟩ := hB
      rw [ht] at hP1
      replace hD := hD1.weaken (fun _ _ _ h => hFc _ h)
      replace hP := hP1
      replace hS := hS2
      clear hP1 hD1 hS2 hFc hfc hz1 hk1 hvm ht
      refine lv_goto (tgt := 53) hx hb dX16_count_49 (by decide) ?_
      obtain ⟨h8, h9⟩ := ret_some hf
      rw [h8, h9]
      exact W.iret (v := r_14) hx hb hr (fun t ht hW => ⟨⟨r_14, (), rfl, rfl, by rw [ht]; exact hP, va_K.moved hW.alike hK, hD⟩, hS.F ht⟩) hS.2.2 dX16_count_53
  refine lv_if_eq (tgt := 37) hx hb dX16_count_10 (by decide) (fun c_16 => ?_) (fun c_16 => ?_)
  · skip
    rw [if_pos c_16] at hf
    exact B37 (z_5) ls H_7 locs ⟨lv_sub hl [0, 1] rfl, hP, hD, hS⟩ hf
  · skip
    rw [if_neg c_16] at hf
    refine lv_aload_n hx hb dX16_count_13 rfl (lv_at hl 1 rfl) ?_
    refine lv_iload_n hx hb dX16_count_14 rfl (lv_at hl 0 rfl) ?_
    obtain ⟨z_17, r_18, hfc, hf⟩ := cal_some hf
    have hFc := de_free hD hS hA
    refine va_calli (va_runV (As := [.int r_2]) (rest := []) ⟨hx, hb, hml, hown, hts⟩ (de_X16_byteAt l dC dI cy a sh n H_7.size F z_5 h0 r_2 hfc) (cwV 1 hts gX16_count_X16_byteAt rfl rfl rfl (by decide +kernel) ⟨Nat.le_of_ble_eq_true rfl, Nat.le_of_ble_eq_true rfl⟩) ⟨fun a U g mk q => by obtain ⟨q0, q1, qP, qK, qD, qN⟩ := q; exact ⟨q0, q1, qP, va_K.moved (u := U) (U := U.calling g mk a) (Vm.Alike.refl U.vm) qK, qD, qN.same rfl⟩, va_recv hK hP (ci := 16) (q0 := h0) rfl (Wd_ob kg_3 sg_3 (by decide)), fun U hU hW => ⟨rfl, by rw [hU], by rw [hU]; exact hP, va_K.moved hW.alike hK, hD.weaken (fun _ _ _ _ => trivial), hN.warm hW⟩⟩ rfl rfl hl.1 rfl (lv_room (Nat.le_of_ble_eq_true rfl)) dX16_count_15 ⟨Nat.le_of_ble_eq_true rfl, Nat.le_of_ble_eq_true rfl⟩) hS (fun q _ h => hFc q h) hFc (fun rr u t H_19 locs ht hvm hw hB hz1 hk1 hS2 => ?_)
    rw [hw]
    clear hw
    obtain ⟨hP1, -, hD1⟩ := hB
    rw [ht] at hP1
    replace hD := hD1.weaken (fun _ _ _ h => hFc _ h)
    replace hP := hP1
    replace hS := hS2
    clear hP1 hD1 hS2 hFc hfc hz1 hk1 hvm ht
    refine lv_iload_n hx hb dX16_count_18 rfl (lv_at hl 2 rfl) ?_
    refine de_cut (h := 31) (fun (x : St) => []) (fun x ls H locs => lv_has ls 4 [(3, .int r_2), (0, .ref (a h0))] ∧ va_P (dC, dI) vwCl (Wd cy a sh n x) H ∧ va_D A (Wd cy a sh n x) ∧ va_S A s.heap H locs) (fun x => fn_X16_count_B31 F sh n h0 r_2 x) (z8, r8) ?_ (fun B31 => ?_)
    · intro x ls H locs hI hf
      obtain ⟨z_20, ez⟩ : ∃ w, w = x := ⟨_, rfl⟩
      subst ez
      obtain ⟨hl2, hP2, hD2, hS2⟩ := hI
      replace hl : lv_has ls 4 [(3, .int r_2), (0, .ref (a h0))] := hl2
      replace hP := hP2
      replace hD := hD2
      replace hS := hS2
      clear hl2 hP2 hD2 hS2
      replace hf := fn_X16_count_B31_s hf
      refine W.eq (g2 := F0 m 31 ls []) rfl ?_
      refine lv_aload_n hx hb dX16_count_31 rfl (lv_at hl 1 rfl) ?_
      refine lv_iconst (v := 3) hx hb dX16_count_32 (by decide) ?_
      refine lv_iload_n hx hb dX16_count_33 rfl (lv_at hl 0 rfl) ?_
      obtain ⟨z_21, _u, hfc, hf⟩ := cal_some hf
      have hFc := de_free hD hS hA
      refine va_callv (va_runV (As := [.int 3, .int r_2]) (rest := []) ⟨hx, hb, hml, hown, hts⟩ (de_X16_fail l dC dI cy a sh n H.size F z_20 h0 3 r_2 hfc) (cwV 2 hts gX16_count_X16_fail rfl rfl rfl (by decide +kernel) ⟨Nat.le_of_ble_eq_true rfl, Nat.le_of_ble_eq_true rfl⟩) ⟨fun a U g mk q => by obtain ⟨q0, q1, qP, qK, qD, qN⟩ := q; exact ⟨q0, q1, qP, va_K.moved (u := U) (U := U.calling g mk a) (Vm.Alike.refl U.vm) qK, qD, qN.same rfl⟩, va_recv hK hP (ci := 16) (q0 := h0) rfl (Wd_ob kg_3 sg_3 (by decide)), fun U hU hW => ⟨rfl, by rw [hU], by rw [hU]; exact hP, va_K.moved hW.alike hK, hD.weaken (fun _ _ _ _ => trivial), hN.warm hW⟩⟩ rfl rfl hl.1 rfl (lv_room (Nat.le_of_ble_eq_true rfl)) dX16_count_34 ⟨Nat.le_of_ble_eq_true rfl, Nat.le_of_ble_eq_true rfl⟩) hS (fun q _ h => hFc q h) hFc (fun u t H_22 locs ht hvm hw hB hz1 hk1 hS2 => ?_)
      obtain ⟨hP1, -, hD1⟩ := hB
      rw [ht] at hP1
      replace hD := hD1.weaken (fun _ _ _ h => hFc _ h)
      replace hP := hP1
      replace hS := hS2
      clear hP1 hD1 hS2 hFc hfc hz1 hk1 hvm ht
      exact B37 (z_21) ls H_22 locs ⟨lv_sub hl [0, 1] rfl, hP, hD, hS⟩ hf
    refine lv_icmp_lt (tgt := 31) hx hb dX16_count_19 (by decide) (fun c_23 => ?_) (fun c_23 => ?_)
    · skip
      rw [if_pos c_23] at hf
      exact B31 (z_17) ls H_19 locs ⟨lv_sub hl [0, 1] rfl, hP, hD, hS⟩ hf
    · skip
      rw [if_neg c_23] at hf
      refine lv_aload_n hx hb dX16_count_22 rfl (lv_at hl 1 rfl) ?_
      refine lv_iload_n hx hb dX16_count_23 rfl (lv_at hl 0 rfl) ?_
      obtain ⟨z_24, r_25, hfc, hf⟩ := cal_some hf
      have hFc := de_free hD hS hA
      refine va_calli (va_runV (As := [.int r_2]) (rest := []) ⟨hx, hb, hml, hown, hts⟩ (de_X16_byteAt l dC dI cy a sh n H_19.size F z_17 h0 r_2 hfc) (cwV 1 hts gX16_count_X16_byteAt rfl rfl rfl (by decide +kernel) ⟨Nat.le_of_ble_eq_true rfl, Nat.le_of_ble_eq_true rfl⟩) ⟨fun a U g mk q => by obtain ⟨q0, q1, qP, qK, qD, qN⟩ := q; exact ⟨q0, q1, qP, va_K.moved (u := U) (U := U.calling g mk a) (Vm.Alike.refl U.vm) qK, qD, qN.same rfl⟩, va_recv hK hP (ci := 16) (q0 := h0) rfl (Wd_ob kg_3 sg_3 (by decide)), fun U hU hW => ⟨rfl, by rw [hU], by rw [hU]; exact hP, va_K.moved hW.alike hK, hD.weaken (fun _ _ _ _ => trivial), hN.warm hW⟩⟩ rfl rfl hl.1 rfl (lv_room (Nat.le_of_ble_eq_true rfl)) dX16_count_24 ⟨Nat.le_of_ble_eq_true rfl, Nat.le_of_ble_eq_true rfl⟩) hS (fun q _ h => hFc q h) hFc (fun rr u t H_26 locs ht hvm hw hB hz1 hk1 hS2 => ?_)
      rw [hw]
      clear hw
      obtain ⟨hP1, -, hD1⟩ := hB
      rw [ht] at hP1
      replace hD := hD1.weaken (fun _ _ _ h => hFc _ h)
      replace hP := hP1
      replace hS := hS2
      clear hP1 hD1 hS2 hFc hfc hz1 hk1 hvm ht
      refine lv_iload_n hx hb dX16_count_27 rfl (lv_at hl 3 rfl) ?_
      refine lv_icmp_le (tgt := 37) hx hb dX16_count_28 (by decide) (fun c_27 => ?_) (fun c_27 => ?_)
      · skip
        rw [if_pos c_27] at hf
        exact B37 (z_24) ls H_26 locs ⟨lv_sub hl [0, 1] rfl, hP, hD, hS⟩ hf
      · skip
        rw [if_neg c_27] at hf
        exact B31 (z_24) ls H_26 locs ⟨lv_sub hl [0, 1] rfl, hP, hD, hS⟩ hf

theorem md_X4_withdraw_1 : (.fieldLink RX4 67 "ResourceLedger$Machine" "journal" "LResourceLedger$Journal;" : Cond) ∈ wsX4_withdraw := List.mem_of_getElem? (i := 1) rfl
theorem iwd_X4_withdraw_X4 : ∀ w ∈ wsX40, w ∈ wsX4_withdraw := fun _ h => List.mem_cons_of_mem _ (List.mem_append_left _ (List.mem_append_left _ (List.mem_append_right _ h)))
theorem md_X4_withdraw_2 : (.fieldLink RX4 329 "ResourceLedger$Journal" "balance" "[J" : Cond) ∈ wsX4_withdraw := List.mem_of_getElem? (i := 2) rfl
theorem iwd_X4_withdraw_X2 : ∀ w ∈ wsX20, w ∈ wsX4_withdraw := fun _ h => List.mem_cons_of_mem _ (List.mem_append_left _ (List.mem_append_right _ h))
set_option maxHeartbeats 4000000 in
set_option maxRecDepth 100000 in
theorem de_X4_withdraw (l : Launch) (dC : Nat → ClassId) (dI : Nat → Nat → Nat) (cy : Nat → ClassId) (a : Nat → Nat) (sh : Nat → Nat × Nat) (n sz : Nat) (F : Nat) (z : St) (h0 : Nat) (x0 : Int64) {z8 : St} {r8 : Unit} (hf : fn_X4_withdraw F sh n z h0 x0 = some (z8, r8)) : Met l yX4_withdraw wsX4_withdraw ({ frames := 2, cells := 0, slots := 0, locals := 50 }) (va_Pc [.ref (a h0), .long x0] (fun U => U.heap.size = sz ∧ va_P (dC, dI) vwCl (Wd cy a sh n z) U.heap ∧ va_K (dC, dI) vwCl (TYS cy) U ∧ va_D (fun _ => True) (Wd cy a sh n z) ∧ NK U)) (va_Qv (fun u : Unit => True) (fun u t => va_P (dC, dI) vwCl (Wd cy a sh n z8) t.heap ∧ va_K (dC, dI) vwCl (TYS cy) t ∧ va_D (va_A (Wd cy a sh n z) sz) (Wd cy a sh n z8)) (va_A (Wd cy a sh n z) sz)) 0 0 (va_A (Wd cy a sh n z) sz) := by
  refine Met.ofW (cc := cX4_withdraw) (maxL := 3) (ret := none) (by decide) rfl ?_
  intro p e s m args below meth c s₁ B hml hv
  obtain ⟨rfl, hsz, hP, hK, hD0, hN⟩ := hv
  have hx := B.exec
  have hb := B.bytes
  have hr := B.returns
  have hts := atoms_spec (ws := wsX4_withdraw) B.pre
  have hown : s.vm.findClass RX4 = some m.cls := findClass_of_methodNamed B.named
  have hlocks := B.notSynchronized
  subst hsz
  have hD := hD0.self (sz := s.heap.size)
  clear hD0
  generalize hAe : va_A (Wd cy a sh n z) s.heap.size = A at hD ⊢
  have hA : ∀ q : Nat, s.heap.size ≤ q → A q := fun q h => by rw [← hAe]; exact Or.inr h
  clear hAe
  have hS : va_S A s.heap s.heap [] := va_S.rf
  have hl := lv_entry ([.ref (a h0), .long x0]) (n := 3) (Nat.le_of_ble_eq_true rfl)
  rw [lg_entry_eq]
  generalize (lg_sl ([.ref (a h0), .long x0]) ++ List.replicate (3 - (lg_sl ([.ref (a h0), .long x0])).length) Slot.unset).toArray = ls at hl ⊢
  replace hl : lv_has ls 3 [(0, .ref (a h0)), (1, .long x0)] := hl
  unfold fn_X4_withdraw at hf
  refine de_start hS hP (fun H locs hS hP => ?_)
  refine lv_aload_n hx hb dX4_withdraw_0 rfl (lv_at hl 0 rfl) ?_
  obtain ⟨g_1, hf⟩ := grd_some hf
  obtain ⟨kg_1, sg_1⟩ := okO_at g_1
  obtain ⟨k_2, ek_2, hf⟩ := lnk_some hf
  refine va_get (D := (dC, dI)) (ci := 4) (v := .ref (a k_2)) (C := RX4) (T := TX4) (N := 18) hx hb hts iwd_X4_withdraw_X4 hown hK hP h0 (Wd_ob kg_1 sg_1 (by decide)) rfl 2 (by decide) (hts _ md_X4_withdraw_1) (fun _ h9 => h9) (fl_q rfl ek_2) dX4_withdraw_1 ?_
  obtain ⟨g_3, hf⟩ := grd_some hf
  obtain ⟨kg_3, sg_3⟩ := okO_at g_3
  obtain ⟨k_4, ek_4, hf⟩ := lnk_some hf
  refine va_get (D := (dC, dI)) (ci := 2) (v := .ref (a k_4)) (C := RX2) (T := TX2) (N := 11) hx hb hts iwd_X4_withdraw_X2 hown hK hP k_2 (Wd_ob kg_3 sg_3 (by decide)) rfl 9 (by decide) (hts _ md_X4_withdraw_2) (fun _ h9 => h9) (fl_q rfl ek_4) dX4_withdraw_4 ?_
  refine lv_iconst (v := 0) hx hb dX4_withdraw_7 (by decide) ?_
  obtain ⟨g_5, hf⟩ := grd_some hf
  obtain ⟨kg_5, sg_5, ig_5⟩ := okA_at g_5
  refine va_lald hx hb hK hP k_4 2 (Wd_al kg_5 sg_5) rfl ig_5 dX4_withdraw_8 ?_
  refine lv_lload_n hx hb dX4_withdraw_9 rfl (lv_at hl 1 rfl) ?_
  obtain ⟨z_6, r_7, hfc, hf⟩ := cal_some hf
  have hFc := de_free hD hS hA
  refine va_calli (va_runS (As := [.long (z.2.1 k_4 (0 : Int32).toNatClampNeg), .long x0]) (rest := []) ⟨hx, hb, hml, hown, hts⟩ (de_X10_below l dC dI cy a sh n H.size F z (z.2.1 k_4 (0 : Int32).toNatClampNeg) x0 hfc) (va_cwS 2 hts gX4_withdraw_X10_below rfl rfl rfl (by decide +kernel) ⟨Nat.le_of_ble_eq_true rfl, Nat.le_of_ble_eq_true rfl⟩) ⟨fun a U g mk q => by obtain ⟨q0, q1, qP, qK, qD, qN⟩ := q; exact ⟨q0, q1, qP, va_K.moved (u := U) (U := U.calling g mk a) (Vm.Alike.refl U.vm) qK, qD, qN.same rfl⟩, fun U hU hW => ⟨rfl, by rw [hU], by rw [hU]; exact hP, va_K.moved hW.alike hK, hD.weaken (fun _ _ _ _ => trivial), hN.warm hW⟩⟩ rfl rfl hl.1 rfl (lv_room (Nat.le_of_ble_eq_true rfl)) dX4_withdraw_10 ⟨Nat.le_of_ble_eq_true rfl, Nat.le_of_ble_eq_true rfl⟩) hS (fun q _ h => hFc q h) hFc (fun rr u t H_8 locs ht hvm hw hB hz1 hk1 hS2 => ?_)
  rw [hw]
  clear hw
  obtain ⟨hP1, -, hD1⟩ := hB
  rw [ht] at hP1
  replace hD := hD1.weaken (fun _ _ _ h => hFc _ h)
  replace hP := hP1
  replace hS := hS2
  clear hP1 hD1 hS2 hFc hfc hz1 hk1 hvm ht
  refine lv_if_eq (tgt := 23) hx hb dX4_withdraw_13 (by decide) (fun c_9 => ?_) (fun c_9 => ?_)
  · skip
    rw [if_pos c_9] at hf
    refine lv_aload_n hx hb dX4_withdraw_23 rfl (lv_at hl 0 rfl) ?_
    refine lv_iconst (v := 3) hx hb dX4_withdraw_24 (by decide) ?_
    obtain ⟨z_10, r_11, hfc, hf⟩ := cal_some hf
    have hFc := de_free hD hS hA
    refine va_calli (va_runV (As := [.int 3]) (rest := []) ⟨hx, hb, hml, hown, hts⟩ (de_X4_popOf l dC dI cy a sh n H_8.size F z_6 h0 3 hfc) (cwV 1 hts gX4_withdraw_X4_popOf rfl rfl rfl (by decide +kernel) ⟨Nat.le_of_ble_eq_true rfl, Nat.le_of_ble_eq_true rfl⟩) ⟨fun a U g mk q => by obtain ⟨q0, q1, qP, qK, qD, qN⟩ := q; exact ⟨q0, q1, qP, va_K.moved (u := U) (U := U.calling g mk a) (Vm.Alike.refl U.vm) qK, qD, qN.same rfl⟩, va_recv hK hP (ci := 4) (q0 := h0) rfl (Wd_ob kg_1 sg_1 (by decide)), fun U hU hW => ⟨rfl, by rw [hU], by rw [hU]; exact hP, va_K.moved hW.alike hK, hD.weaken (fun _ _ _ _ => trivial), hN.warm hW⟩⟩ rfl rfl hl.1 rfl (lv_room (Nat.le_of_ble_eq_true rfl)) dX4_withdraw_25 ⟨Nat.le_of_ble_eq_true rfl, Nat.le_of_ble_eq_true rfl⟩) hS (fun q _ h => hFc q h) hFc (fun rr u t H_12 locs ht hvm hw hB hz1 hk1 hS2 => ?_)
    rw [hw]
    clear hw
    obtain ⟨hP1, -, hD1⟩ := hB
    rw [ht] at hP1
    replace hD := hD1.weaken (fun _ _ _ h => hFc _ h)
    replace hP := hP1
    replace hS := hS2
    clear hP1 hD1 hS2 hFc hfc hz1 hk1 hvm ht
    refine lv_pop hx hb dX4_withdraw_28 rfl ?_
    refine lv_aload_n hx hb dX4_withdraw_29 rfl (lv_at hl 0 rfl) ?_
    obtain ⟨k_13, ek_13, hf⟩ := lnk_some hf
    refine va_get (D := (dC, dI)) (ci := 4) (v := .ref (a k_13)) (C := RX4) (T := TX4) (N := 18) hx hb hts iwd_X4_withdraw_X4 hown hK hP h0 (Wd_ob kg_1 sg_1 (by decide)) rfl 2 (by decide) (hts _ md_X4_withdraw_1) (fun _ h9 => h9) (fl_q rfl ek_13) dX4_withdraw_30 ?_
    obtain ⟨g_14, hf⟩ := grd_some hf
    obtain ⟨kg_14, sg_14⟩ := okO_at g_14
    obtain ⟨k_15, ek_15, hf⟩ := lnk_some hf
    refine va_get (D := (dC, dI)) (ci := 2) (v := .ref (a k_15)) (C := RX2) (T := TX2) (N := 11) hx hb hts iwd_X4_withdraw_X2 hown hK hP k_13 (Wd_ob kg_14 sg_14 (by decide)) rfl 9 (by decide) (hts _ md_X4_withdraw_2) (fun _ h9 => h9) (fl_q rfl ek_15) dX4_withdraw_33 ?_
    refine lv_iconst (v := 0) hx hb dX4_withdraw_36 (by decide) ?_
    refine lv_dup2_11 hx hb dX4_withdraw_37 rfl rfl ?_
    obtain ⟨g_16, hf⟩ := grd_some hf
    obtain ⟨kg_16, sg_16, ig_16⟩ := okA_at g_16
    refine va_lald hx hb hK hP k_15 2 (Wd_al kg_16 sg_16) rfl ig_16 dX4_withdraw_38 ?_
    refine lv_lload_n hx hb dX4_withdraw_39 rfl (lv_at hl 1 rfl) ?_
    refine lv_lsub hx hb dX4_withdraw_40 ?_
    obtain ⟨g_17, hf⟩ := grd_some hf
    obtain ⟨kg_17, sg_17, ig_17⟩ := okA_at g_17
    refine va_last hx hb hK hP hD hS k_15 2 (Wd_al kg_17 sg_17) rfl ig_17 dX4_withdraw_41 (fun H_18 locs hP2 hD2 hS2 => ?_)
    rw [Wd_tl sg_17] at hP2 hD2
    obtain ⟨z_19, ez_19⟩ : ∃ w, w = sl z_10 k_15 (0 : Int32).toNatClampNeg ((z_10.2.1 k_15 (0 : Int32).toNatClampNeg) - x0) := ⟨_, rfl⟩
    rw [← ez_19] at hP2 hD2
    replace hf := lt_at ez_19 hf
    clear ez_19
    replace hP := hP2
    replace hD := hD2
    replace hS := hS2
    clear hP2 hD2 hS2
    refine lv_aload_n hx hb dX4_withdraw_42 rfl (lv_at hl 0 rfl) ?_
    refine lv_bipush (v := 10) hx hb dX4_withdraw_43 (by decide) ?_
    refine lv_lconst (v := 0) hx hb dX4_withdraw_45 (by decide) ?_
    refine lv_lload_n hx hb dX4_withdraw_46 rfl (lv_at hl 1 rfl) ?_
    obtain ⟨z_20, _u, hfc, hf⟩ := cal_some hf
    have hFc := de_free hD hS hA
    refine va_callv (va_runV (As := [.int 10, .long 0, .long x0]) (rest := []) ⟨hx, hb, hml, hown, hts⟩ (de_X4_pushNumber l dC dI cy a sh n H_18.size F z_19 h0 10 0 x0 hfc) (cwV 3 hts gX4_withdraw_X4_pushNumber rfl rfl rfl (by decide +kernel) ⟨Nat.le_of_ble_eq_true rfl, Nat.le_of_ble_eq_true rfl⟩) ⟨fun a U g mk q => by obtain ⟨q0, q1, qP, qK, qD, qN⟩ := q; exact ⟨q0, q1, qP, va_K.moved (u := U) (U := U.calling g mk a) (Vm.Alike.refl U.vm) qK, qD, qN.same rfl⟩, va_recv hK hP (ci := 4) (q0 := h0) rfl (Wd_ob kg_1 sg_1 (by decide)), fun U hU hW => ⟨rfl, by rw [hU], by rw [hU]; exact hP, va_K.moved hW.alike hK, hD.weaken (fun _ _ _ _ => trivial), hN.warm hW⟩⟩ rfl rfl hl.1 rfl (lv_room (Nat.le_of_ble_eq_true rfl)) dX4_withdraw_47 ⟨Nat.le_of_ble_eq_true rfl, Nat.le_of_ble_eq_true rfl⟩) hS (fun q _ h => hFc q h) hFc (fun u t H_21 locs ht hvm hw hB hz1 hk1 hS2 => ?_)
    obtain ⟨hP1, -, hD1⟩ := hB
    rw [ht] at hP1
    replace hD := hD1.weaken (fun _ _ _ h => hFc _ h)
    replace hP := hP1
    replace hS := hS2
    clear hP1 hD1 hS2 hFc hfc hz1 hk1 hvm ht
    obtain ⟨h8, h9⟩ := ret_some hf
    rw [h8]
    exact W.vret hx hb hr (fun t ht hW => ⟨⟨(), rfl, trivial, by rw [ht]; exact hP, va_K.moved hW.alike hK, hD⟩, hS.F ht⟩) hS.2.2 dX4_withdraw_50
  · skip
    rw [if_neg c_9] at hf
    refine lv_aload_n hx hb dX4_withdraw_16 rfl (lv_at hl 0 rfl) ?_
    refine lv_iconst (v := 1) hx hb dX4_withdraw_17 (by decide) ?_
    refine lv_lconst (v := 1) hx hb dX4_withdraw_18 (by decide) ?_
    obtain ⟨z_22, _u, hfc, hf⟩ := cal_some hf
    have hFc := de_free hD hS hA
    refine va_callv (va_runV (As := [.int 1, .long 1]) (rest := []) ⟨hx, hb, hml, hown, hts⟩ (de_X4_end l dC dI cy a sh n H_8.size F z_6 h0 1 1 hfc) (cwV 2 hts gX4_withdraw_X4_end rfl rfl rfl (by decide +kernel) ⟨Nat.le_of_ble_eq_true rfl, Nat.le_of_ble_eq_true rfl⟩) ⟨fun a U g mk q => by obtain ⟨q0, q1, qP, qK, qD, qN⟩ := q; exact ⟨q0, q1, qP, va_K.moved (u := U) (U := U.calling g mk a) (Vm.Alike.refl U.vm) qK, qD, qN.same rfl⟩, va_recv hK hP (ci := 4) (q0 := h0) rfl (Wd_ob kg_1 sg_1 (by decide)), fun U hU hW => ⟨rfl, by rw [hU], by rw [hU]; exact hP, va_K.moved hW.alike hK, hD.weaken (fun _ _ _ _ => trivial), hN.warm hW⟩⟩ rfl rfl hl.1 rfl (lv_room (Nat.le_of_ble_eq_true rfl)) dX4_withdraw_19 ⟨Nat.le_of_ble_eq_true rfl, Nat.le_of_ble_eq_true rfl⟩) hS (fun q _ h => hFc q h) hFc (fun u t H_23 locs ht hvm hw hB hz1 hk1 hS2 => ?_)
    obtain ⟨hP1, -, hD1⟩ := hB
    rw [ht] at hP1
    replace hD := hD1.weaken (fun _ _ _ h => hFc _ h)
    replace hP := hP1
    replace hS := hS2
    clear hP1 hD1 hS2 hFc hfc hz1 hk1 hvm ht
    obtain ⟨h8, h9⟩ := ret_some hf
    rw [h8]
    exact W.vret hx hb hr (fun t ht hW => ⟨⟨(), rfl, trivial, by rw [ht]; exact hP, va_K.moved hW.alike hK, hD⟩, hS.F ht⟩) hS.2.2 dX4_withdraw_22

theorem md_X8_fits_1 : (.fieldLink RX8 59 "ResourceLedger$Transaction" "function" "I" : Cond) ∈ wsX8_fits := List.mem_of_getElem? (i := 1) rfl
theorem iwd_X8_fits_X8 : ∀ w ∈ wsX80, w ∈ wsX8_fits := fun _ h => List.mem_cons_of_mem _ (List.mem_append_left _ (List.mem_append_right _ h))
theorem md_X8_fits_2 : (.fieldLink RX8 46 "ResourceLedger$Transaction" "argumentCount" "I" : Cond) ∈ wsX8_fits := List.mem_of_getElem? (i := 2) rfl
theorem md_X8_fits_3 : (.fieldLink RX8 9 "ResourceLedger$Transaction" "argumentType" "[I" : Cond) ∈ wsX8_fits := List.mem_of_getElem? (i := 3) rfl
set_option maxHeartbeats 4000000 in
set_option maxRecDepth 100000 in
theorem de_X8_fits (l : Launch) (dC : Nat → ClassId) (dI : Nat → Nat → Nat) (cy : Nat → ClassId) (a : Nat → Nat) (sh : Nat → Nat × Nat) (n sz : Nat) (F : Nat) (z : St) (h0 : Nat) (x0 : Nat) {z8 : St} {r8 : Int32} (hf : fn_X8_fits F sh n z h0 x0 = some (z8, r8)) : Met l yX8_fits wsX8_fits ({ frames := 2, cells := 0, slots := 0, locals := 45 }) (va_Pc [.ref (a h0), .ref (a x0)] (fun U => U.heap.size = sz ∧ va_P (dC, dI) vwCl (Wd cy a sh n z) U.heap ∧ va_K (dC, dI) vwCl (TYS cy) U ∧ va_D (fun _ => True) (Wd cy a sh n z) ∧ NK U)) (va_Qi (fun (r9 : Int32) (u : Unit) => r9 = r8) (fun u t => va_P (dC, dI) vwCl (Wd cy a sh n z8) t.heap ∧ va_K (dC, dI) vwCl (TYS cy) t ∧ va_D (va_A (Wd cy a sh n z) sz) (Wd cy a sh n z8)) (va_A (Wd cy a sh n z) sz)) 0 0 (va_A (Wd cy a sh n z) sz) := by
  refine Met.ofW (cc := cX8_fits) (maxL := 3) (ret := (some .boolean)) (by decide) rfl ?_
  intro p e s m args below meth c s₁ B hml hv
  obtain ⟨rfl, hsz, hP, hK, hD0, hN⟩ := hv
  have hx := B.exec
  have hb := B.bytes
  have hr := B.returns
  have hts := atoms_spec (ws := wsX8_fits) B.pre
  have hown : s.vm.findClass RX8 = some m.cls := findClass_of_methodNamed B.named
  have hlocks := B.notSynchronized
  subst hsz
  have hD := hD0.self (sz := s.heap.size)
  clear hD0
  generalize hAe : va_A (Wd cy a sh n z) s.heap.size = A at hD ⊢
  have hA : ∀ q : Nat, s.heap.size ≤ q → A q := fun q h => by rw [← hAe]; exact Or.inr h
  clear hAe
  have hS : va_S A s.heap s.heap [] := va_S.rf
  have hl := lv_entry ([.ref (a h0), .ref (a x0)]) (n := 3) (Nat.le_of_ble_eq_true rfl)
  rw [lg_entry_eq]
  generalize (lg_sl ([.ref (a h0), .ref (a x0)]) ++ List.replicate (3 - (lg_sl ([.ref (a h0), .ref (a x0)])).length) Slot.unset).toArray = ls at hl ⊢
  replace hl : lv_has ls 3 [(0, .ref (a h0)), (1, .ref (a x0))] := hl
  unfold fn_X8_fits at hf
  refine de_start hS hP (fun H locs hS hP => ?_)
  refine lv_aload_n hx hb dX8_fits_0 rfl (lv_at hl 1 rfl) ?_
  refine lv_aload_n hx hb dX8_fits_1 rfl (lv_at hl 0 rfl) ?_
  obtain ⟨g_1, hf⟩ := grd_some hf
  obtain ⟨kg_1, sg_1⟩ := okO_at g_1
  refine va_get (D := (dC, dI)) (ci := 8) (v := .int (z.1 h0 5)) (C := RX8) (T := TX8) (N := 19) hx hb hts iwd_X8_fits_X8 hown hK hP h0 (Wd_ob kg_1 sg_1 (by decide)) rfl 5 (by decide) (hts _ md_X8_fits_1) (fun _ h9 => h9) (fl_at (t := 0) rfl) dX8_fits_2 ?_
  obtain ⟨g_4, hf⟩ := grd_some hf
  obtain ⟨kg_4, sg_4⟩ := okO_at g_4
  obtain ⟨z_2, r_3, hfc, hf⟩ := cal_some hf
  have hFc := de_free hD hS hA
  refine va_calli (va_runV (As := [.int (z.1 h0 5)]) (rest := []) ⟨hx, hb, hml, hown, hts⟩ (de_X5_takes l dC dI cy a sh n H.size F z x0 (z.1 h0 5) hfc) (cwV 1 hts gX8_fits_X5_takes rfl rfl rfl (by decide +kernel) ⟨Nat.le_of_ble_eq_true rfl, Nat.le_of_ble_eq_true rfl⟩) ⟨fun a U g mk q => by obtain ⟨q0, q1, qP, qK, qD, qN⟩ := q; exact ⟨q0, q1, qP, va_K.moved (u := U) (U := U.calling g mk a) (Vm.Alike.refl U.vm) qK, qD, qN.same rfl⟩, va_recv hK hP (ci := 5) (q0 := x0) rfl (Wd_ob kg_4 sg_4 (by decide)), fun U hU hW => ⟨rfl, by rw [hU], by rw [hU]; exact hP, va_K.moved hW.alike hK, hD.weaken (fun _ _ _ _ => trivial), hN.warm hW⟩⟩ rfl rfl hl.1 rfl (lv_room (Nat.le_of_ble_eq_true rfl)) dX8_fits_5 ⟨Nat.le_of_ble_eq_true rfl, Nat.le_of_ble_eq_true rfl⟩) hS (fun q _ h => hFc q h) hFc (fun rr u t H_5 locs ht hvm hw hB hz1 hk1 hS2 => ?_)
  rw [hw]
  clear hw
  obtain ⟨hP1, -, hD1⟩ := hB
  rw [ht] at hP1
  replace hD := hD1.weaken (fun _ _ _ h => hFc _ h)
  replace hP := hP1
  replace hS := hS2
  clear hP1 hD1 hS2 hFc hfc hz1 hk1 hvm ht
  refine lv_aload_n hx hb dX8_fits_8 rfl (lv_at hl 0 rfl) ?_
  refine va_get (D := (dC, dI)) (ci := 8) (v := .int (z_2.1 h0 7)) (C := RX8) (T := TX8) (N := 19) hx hb hts iwd_X8_fits_X8 hown hK hP h0 (Wd_ob kg_1 sg_1 (by decide)) rfl 7 (by decide) (hts _ md_X8_fits_2) (fun _ h9 => h9) (fl_at (t := 0) rfl) dX8_fits_9 ?_
  refine lv_icmp_eq (tgt := 17) hx hb dX8_fits_12 (by decide) (fun c_6 => ?_) (fun c_6 => ?_)
  · skip
    rw [if_pos c_6] at hf
    refine lv_iconst (v := 0) hx hb dX8_fits_17 (by decide) ?_
    refine lv_istore_n (lv' := [(2, .int 0), (0, .ref (a h0)), (1, .ref (a x0))]) hx hb dX8_fits_18 rfl hl (by decide) rfl (fun ls hl2 => ?_)
    replace hl := hl2
    clear hl2
    have hl0 : lv_has ls 3 [(2, .int 0), (0, .ref (a h0)), (1, .ref (a x0))] := lv_sub hl [0, 1, 2] rfl
    refine de_loop (h := 19) (fun (x : St × Int32) ls H locs => lv_has ls 3 [(2, .int x.2), (0, .ref (a h0)), (1, .ref (a x0))] ∧ va_P (dC, dI) vwCl (Wd cy a sh n x.1) H ∧ va_D A (Wd cy a sh n x.1) ∧ va_S A s.heap H locs) (fun f x => fn_X8_fits_L19 F sh n h0 x0 f x.1 x.2) (z8, r8) ?_ (fun _ => rfl) F (z_2, 0) ls H_5 locs ⟨hl0, hP, hD, hS⟩ hf
    intro f_9 x ls H locs ih19 hI hf
    obtain ⟨z_8, p_7⟩ := x
    obtain ⟨hl2, hP2, hD2, hS2⟩ := hI
    replace hl : lv_has ls 3 [(2, .int p_7), (0, .ref (a h0)), (1, .ref (a x0))] := hl2
    replace hP := hP2
    replace hD := hD2
    replace hS := hS2
    clear hl2 hP2 hD2 hS2 hl0
    replace hf := fn_X8_fits_L19_s hf
    refine lv_iload_n hx hb dX8_fits_19 rfl (lv_at hl 0 rfl) ?_
    refine lv_aload_n hx hb dX8_fits_20 rfl (lv_at hl 1 rfl) ?_
    refine va_get (D := (dC, dI)) (ci := 8) (v := .int (z_8.1 h0 7)) (C := RX8) (T := TX8) (N := 19) hx hb hts iwd_X8_fits_X8 hown hK hP h0 (Wd_ob kg_1 sg_1 (by decide)) rfl 7 (by decide) (hts _ md_X8_fits_2) (fun _ h9 => h9) (fl_at (t := 0) rfl) dX8_fits_21 ?_
    refine lv_icmp_ge (tgt := 55) hx hb dX8_fits_24 (by decide) (fun c_10 => ?_) (fun c_10 => ?_)
    · skip
      rw [if_pos c_10] at hf
      refine lv_iconst (v := 1) hx hb dX8_fits_55 (by decide) ?_
      obtain ⟨h8, h9⟩ := ret_some hf
      rw [h8, h9]
      exact W.zret (v := 1) hx hb hr rfl (fun t ht hW => ⟨⟨1, (), rfl, rfl, by rw [ht]; exact hP, va_K.moved hW.alike hK, hD⟩, hS.F ht⟩) hS.2.2 dX8_fits_56
    · skip
      rw [if_neg c_10] at hf
      refine lv_aload_n hx hb dX8_fits_27 rfl (lv_at hl 2 rfl) ?_
      refine lv_aload_n hx hb dX8_fits_28 rfl (lv_at hl 1 rfl) ?_
      refine va_get (D := (dC, dI)) (ci := 8) (v := .int (z_8.1 h0 5)) (C := RX8) (T := TX8) (N := 19) hx hb hts iwd_X8_fits_X8 hown hK hP h0 (Wd_ob kg_1 sg_1 (by decide)) rfl 5 (by decide) (hts _ md_X8_fits_1) (fun _ h9 => h9) (fl_at (t := 0) rfl) dX8_fits_29 ?_
      refine lv_iload_n hx hb dX8_fits_32 rfl (lv_at hl 0 rfl) ?_
      obtain ⟨z_11, r_12, hfc, hf⟩ := cal_some hf
      have hFc := de_free hD hS hA
      refine va_calll (va_runV (As := [.int (z_8.1 h0 5), .int p_7]) (rest := []) ⟨hx, hb, hml, hown, hts⟩ (de_X5_takenType l dC dI cy a sh n H.size F z_8 x0 (z_8.1 h0 5) p_7 hfc) (cwV 2 hts gX8_fits_X5_takenType rfl rfl rfl (by decide +kernel) ⟨Nat.le_of_ble_eq_true rfl, Nat.le_of_ble_eq_true rfl⟩) ⟨fun a U g mk q => by obtain ⟨q0, q1, qP, qK, qD, qN⟩ := q; exact ⟨q0, q1, qP, va_K.moved (u := U) (U := U.calling g mk a) (Vm.Alike.refl U.vm) qK, qD, qN.same rfl⟩, va_recv hK hP (ci := 5) (q0 := x0) rfl (Wd_ob kg_4 sg_4 (by decide)), fun U hU hW => ⟨rfl, by rw [hU], by rw [hU]; exact hP, va_K.moved hW.alike hK, hD.weaken (fun _ _ _ _ => trivial), hN.warm hW⟩⟩ rfl rfl hl.1 rfl (lv_room (Nat.le_of_ble_eq_true rfl)) dX8_fits_33 ⟨Nat.le_of_ble_eq_true rfl, Nat.le_of_ble_eq_true rfl⟩) hS (fun q _ h => hFc q h) hFc (fun rr u t H_13 locs ht hvm hw hB hz1 hk1 hS2 => ?_)
      rw [hw]
      clear hw
      obtain ⟨hP1, -, hD1⟩ := hB
      rw [ht] at hP1
      replace hD := hD1.weaken (fun _ _ _ h => hFc _ h)
      replace hP := hP1
      replace hS := hS2
      clear hP1 hD1 hS2 hFc hfc hz1 hk1 hvm ht
      refine lv_aload_n hx hb dX8_fits_36 rfl (lv_at hl 1 rfl) ?_
      obtain ⟨k_14, ek_14, hf⟩ := lnk_some hf
      refine va_get (D := (dC, dI)) (ci := 8) (v := .ref (a k_14)) (C := RX8) (T := TX8) (N := 19) hx hb hts iwd_X8_fits_X8 hown hK hP h0 (Wd_ob kg_1 sg_1 (by decide)) rfl 8 (by decide) (hts _ md_X8_fits_3) (fun _ h9 => h9) (fl_q rfl ek_14) dX8_fits_37 ?_
      refine lv_iload_n hx hb dX8_fits_40 rfl (lv_at hl 0 rfl) ?_
      obtain ⟨g_15, hf⟩ := grd_some hf
      obtain ⟨kg_15, sg_15, ig_15⟩ := okA_at g_15
      refine va_iald hx hb hK hP k_14 1 (Wd_ai kg_15 sg_15) rfl ig_15 dX8_fits_41 ?_
      refine lv_i2l (v := ((z_11.1 k_14 p_7.toNatClampNeg) : Int32).toInt64) hx hb dX8_fits_42 rfl ?_
      refine W.lcmp hx hb dX8_fits_43 ?_
      refine lv_if_eq (tgt := 49) hx hb dX8_fits_44 (by decide) (fun c_16 => ?_) (fun c_16 => ?_)
      · skip
        rw [lg_cmp_eq] at c_16
        rw [if_pos c_16] at hf
        refine lv_iinc (v := (p_7 + 1)) (lv' := [(2, .int (p_7 + 1)), (0, .ref (a h0)), (1, .ref (a x0))]) hx hb dX8_fits_49 hl (k := 0) rfl rfl (by decide) rfl (fun ls hl2 => ?_)
        replace hl := hl2
        clear hl2
        refine lv_goto (tgt := 19) hx hb dX8_fits_52 (by decide) ?_
        exact ih19 (z_11, (p_7 + 1)) ls H_13 locs ⟨lv_sub hl [0, 1, 2] rfl, hP, hD, hS⟩ hf
      · skip
        rw [lg_cmp_eq] at c_16
        rw [if_neg c_16] at hf
        refine lv_iconst (v := 0) hx hb dX8_fits_47 (by decide) ?_
        obtain ⟨h8, h9⟩ := ret_some hf
        rw [h8, h9]
        exact W.zret (v := 0) hx hb hr rfl (fun t ht hW => ⟨⟨0, (), rfl, rfl, by rw [ht]; exact hP, va_K.moved hW.alike hK, hD⟩, hS.F ht⟩) hS.2.2 dX8_fits_48
  · skip
    rw [if_neg c_6] at hf
    refine lv_iconst (v := 0) hx hb dX8_fits_15 (by decide) ?_
    obtain ⟨h8, h9⟩ := ret_some hf
    rw [h8, h9]
    exact W.zret (v := 0) hx hb hr rfl (fun t ht hW => ⟨⟨0, (), rfl, rfl, by rw [ht]; exact hP, va_K.moved hW.alike hK, hD⟩, hS.F ht⟩) hS.2.2 dX8_fits_16

theorem md_X4_split_1 : (.fieldLink RX4 12 "ResourceLedger$Machine" "heap" "LResourceLedger$Heap;" : Cond) ∈ wsX4_split := List.mem_of_getElem? (i := 1) rfl
theorem iwd_X4_split_X4 : ∀ w ∈ wsX40, w ∈ wsX4_split := fun _ h => List.mem_cons_of_mem _ (List.mem_append_left _ (List.mem_append_right _ h))
theorem md_X4_split_2 : (.fieldLink RX4 163 "ResourceLedger$Heap" "low" "[J" : Cond) ∈ wsX4_split := List.mem_of_getElem? (i := 2) rfl
theorem iwd_X4_split_X1 : ∀ w ∈ wsX10, w ∈ wsX4_split := fun _ h => List.mem_cons_of_mem _ (List.mem_append_right _ h)
theorem md_X4_split_3 : (.constantLong RX4 339 (2) : Cond) ∈ wsX4_split := List.mem_of_getElem? (i := 3) rfl
set_option maxHeartbeats 4000000 in
set_option maxRecDepth 100000 in
theorem de_X4_split (l : Launch) (dC : Nat → ClassId) (dI : Nat → Nat → Nat) (cy : Nat → ClassId) (a : Nat → Nat) (sh : Nat → Nat × Nat) (n sz : Nat) (F : Nat) (z : St) (h0 : Nat) (x0 : Int64) {z8 : St} {r8 : Unit} (hf : fn_X4_split F sh n z h0 x0 = some (z8, r8)) : Met l yX4_split wsX4_split ({ frames := 2, cells := 0, slots := 0, locals := 50 }) (va_Pc [.ref (a h0), .long x0] (fun U => U.heap.size = sz ∧ va_P (dC, dI) vwCl (Wd cy a sh n z) U.heap ∧ va_K (dC, dI) vwCl (TYS cy) U ∧ va_D (fun _ => True) (Wd cy a sh n z) ∧ NK U)) (va_Qv (fun u : Unit => True) (fun u t => va_P (dC, dI) vwCl (Wd cy a sh n z8) t.heap ∧ va_K (dC, dI) vwCl (TYS cy) t ∧ va_D (va_A (Wd cy a sh n z) sz) (Wd cy a sh n z8)) (va_A (Wd cy a sh n z) sz)) 0 0 (va_A (Wd cy a sh n z) sz) := by
  refine Met.ofW (cc := cX4_split) (maxL := 5) (ret := none) (by decide) rfl ?_
  intro p e s m args below meth c s₁ B hml hv
  obtain ⟨rfl, hsz, hP, hK, hD0, hN⟩ := hv
  have hx := B.exec
  have hb := B.bytes
  have hr := B.returns
  have hts := atoms_spec (ws := wsX4_split) B.pre
  have hown : s.vm.findClass RX4 = some m.cls := findClass_of_methodNamed B.named
  have hlocks := B.notSynchronized
  subst hsz
  have hD := hD0.self (sz := s.heap.size)
  clear hD0
  generalize hAe : va_A (Wd cy a sh n z) s.heap.size = A at hD ⊢
  have hA : ∀ q : Nat, s.heap.size ≤ q → A q := fun q h => by rw [← hAe]; exact Or.inr h
  clear hAe
  have hS : va_S A s.heap s.heap [] := va_S.rf
  have hl := lv_entry ([.ref (a h0), .long x0]) (n := 5) (Nat.le_of_ble_eq_true rfl)
  rw [lg_entry_eq]
  generalize (lg_sl ([.ref (a h0), .long x0]) ++ List.replicate (5 - (lg_sl ([.ref (a h0), .long x0])).length) Slot.unset).toArray = ls at hl ⊢
  replace hl : lv_has ls 5 [(0, .ref (a h0)), (1, .long x0)] := hl
  unfold fn_X4_split at hf
  refine de_start hS hP (fun H locs hS hP => ?_)
  refine lv_aload_n hx hb dX4_split_0 rfl (lv_at hl 0 rfl) ?_
  refine lv_iconst (v := 3) hx hb dX4_split_1 (by decide) ?_
  obtain ⟨g_3, hf⟩ := grd_some hf
  obtain ⟨kg_3, sg_3⟩ := okO_at g_3
  obtain ⟨z_1, r_2, hfc, hf⟩ := cal_some hf
  have hFc := de_free hD hS hA
  refine va_calli (va_runV (As := [.int 3]) (rest := []) ⟨hx, hb, hml, hown, hts⟩ (de_X4_popOf l dC dI cy a sh n H.size F z h0 3 hfc) (cwV 1 hts gX4_split_X4_popOf rfl rfl rfl (by decide +kernel) ⟨Nat.le_of_ble_eq_true rfl, Nat.le_of_ble_eq_true rfl⟩) ⟨fun a U g mk q => by obtain ⟨q0, q1, qP, qK, qD, qN⟩ := q; exact ⟨q0, q1, qP, va_K.moved (u := U) (U := U.calling g mk a) (Vm.Alike.refl U.vm) qK, qD, qN.same rfl⟩, va_recv hK hP (ci := 4) (q0 := h0) rfl (Wd_ob kg_3 sg_3 (by decide)), fun U hU hW => ⟨rfl, by rw [hU], by rw [hU]; exact hP, va_K.moved hW.alike hK, hD.weaken (fun _ _ _ _ => trivial), hN.warm hW⟩⟩ rfl rfl hl.1 rfl (lv_room (Nat.le_of_ble_eq_true rfl)) dX4_split_2 ⟨Nat.le_of_ble_eq_true rfl, Nat.le_of_ble_eq_true rfl⟩) hS (fun q _ h => hFc q h) hFc (fun rr u t H_4 locs ht hvm hw hB hz1 hk1 hS2 => ?_)
  rw [hw]
  clear hw
  obtain ⟨hP1, -, hD1⟩ := hB
  rw [ht] at hP1
  replace hD := hD1.weaken (fun _ _ _ h => hFc _ h)
  replace hP := hP1
  replace hS := hS2
  clear hP1 hD1 hS2 hFc hfc hz1 hk1 hvm ht
  refine lv_pop hx hb dX4_split_5 rfl ?_
  refine lv_aload_n hx hb dX4_split_6 rfl (lv_at hl 0 rfl) ?_
  obtain ⟨k_5, ek_5, hf⟩ := lnk_some hf
  refine va_get (D := (dC, dI)) (ci := 4) (v := .ref (a k_5)) (C := RX4) (T := TX4) (N := 18) hx hb hts iwd_X4_split_X4 hown hK hP h0 (Wd_ob kg_3 sg_3 (by decide)) rfl 1 (by decide) (hts _ md_X4_split_1) (fun _ h9 => h9) (fl_q rfl ek_5) dX4_split_7 ?_
  obtain ⟨g_6, hf⟩ := grd_some hf
  obtain ⟨kg_6, sg_6⟩ := okO_at g_6
  obtain ⟨k_7, ek_7, hf⟩ := lnk_some hf
  refine va_get (D := (dC, dI)) (ci := 1) (v := .ref (a k_7)) (C := RX1) (T := TX1) (N := 7) hx hb hts iwd_X4_split_X1 hown hK hP k_5 (Wd_ob kg_6 sg_6 (by decide)) rfl 1 (by decide) (hts _ md_X4_split_2) (fun _ h9 => h9) (fl_q rfl ek_7) dX4_split_10 ?_
  refine lv_aload_n hx hb dX4_split_13 rfl (lv_at hl 0 rfl) ?_
  refine lv_bipush (v := 10) hx hb dX4_split_14 (by decide) ?_
  obtain ⟨z_8, r_9, hfc, hf⟩ := cal_some hf
  have hFc := de_free hD hS hA
  refine va_calli (va_runV (As := [.int 10]) (rest := [.ref (a k_7)]) ⟨hx, hb, hml, hown, hts⟩ (de_X4_popOf l dC dI cy a sh n H_4.size F z_1 h0 10 hfc) (cwV 1 hts gX4_split_X4_popOf rfl rfl rfl (by decide +kernel) ⟨Nat.le_of_ble_eq_true rfl, Nat.le_of_ble_eq_true rfl⟩) ⟨fun a U g mk q => by obtain ⟨q0, q1, qP, qK, qD, qN⟩ := q; exact ⟨q0, q1, qP, va_K.moved (u := U) (U := U.calling g mk a) (Vm.Alike.refl U.vm) qK, qD, qN.same rfl⟩, va_recv hK hP (ci := 4) (q0 := h0) rfl (Wd_ob kg_3 sg_3 (by decide)), fun U hU hW => ⟨rfl, by rw [hU], by rw [hU]; exact hP, va_K.moved hW.alike hK, hD.weaken (fun _ _ _ _ => trivial), hN.warm hW⟩⟩ rfl rfl hl.1 rfl (lv_room (Nat.le_of_ble_eq_true rfl)) dX4_split_16 ⟨Nat.le_of_ble_eq_true rfl, Nat.le_of_ble_eq_true rfl⟩) hS (fun q _ h => hFc q h) hFc (fun rr u t H_10 locs ht hvm hw hB hz1 hk1 hS2 => ?_)
  rw [hw]
  clear hw
  obtain ⟨hP1, -, hD1⟩ := hB
  rw [ht] at hP1
  replace hD := hD1.weaken (fun _ _ _ h => hFc _ h)
  replace hP := hP1
  replace hS := hS2
  clear hP1 hD1 hS2 hFc hfc hz1 hk1 hvm ht
  obtain ⟨g_11, hf⟩ := grd_some hf
  obtain ⟨kg_11, sg_11, ig_11⟩ := okA_at g_11
  refine va_lald hx hb hK hP k_7 2 (Wd_al kg_11 sg_11) rfl ig_11 dX4_split_19 ?_
  refine lv_topl (fun v_12 ev_12 => ?_)
  replace hf := lt_at ev_12 hf
  clear ev_12
  refine lv_lstore_n (lv' := [(3, .long v_12), (0, .ref (a h0)), (1, .long x0)]) hx hb dX4_split_20 rfl hl (by decide) rfl (fun ls hl2 => ?_)
  replace hl := hl2
  clear hl2
  refine lv_lload_n hx hb dX4_split_21 rfl (lv_at hl 0 rfl) ?_
  refine lv_lload_n hx hb dX4_split_22 rfl (lv_at hl 2 rfl) ?_
  obtain ⟨z_13, r_14, hfc, hf⟩ := cal_some hf
  have hFc := de_free hD hS hA
  refine va_calli (va_runS (As := [.long v_12, .long x0]) (rest := []) ⟨hx, hb, hml, hown, hts⟩ (de_X10_below l dC dI cy a sh n H_10.size F z_8 v_12 x0 hfc) (va_cwS 2 hts gX4_split_X10_below rfl rfl rfl (by decide +kernel) ⟨Nat.le_of_ble_eq_true rfl, Nat.le_of_ble_eq_true rfl⟩) ⟨fun a U g mk q => by obtain ⟨q0, q1, qP, qK, qD, qN⟩ := q; exact ⟨q0, q1, qP, va_K.moved (u := U) (U := U.calling g mk a) (Vm.Alike.refl U.vm) qK, qD, qN.same rfl⟩, fun U hU hW => ⟨rfl, by rw [hU], by rw [hU]; exact hP, va_K.moved hW.alike hK, hD.weaken (fun _ _ _ _ => trivial), hN.warm hW⟩⟩ rfl rfl hl.1 rfl (lv_room (Nat.le_of_ble_eq_true rfl)) dX4_split_23 ⟨Nat.le_of_ble_eq_true rfl, Nat.le_of_ble_eq_true rfl⟩) hS (fun q _ h => hFc q h) hFc (fun rr u t H_15 locs ht hvm hw hB hz1 hk1 hS2 => ?_)
  rw [hw]
  clear hw
  obtain ⟨hP1, -, hD1⟩ := hB
  rw [ht] at hP1
  replace hD := hD1.weaken (fun _ _ _ h => hFc _ h)
  replace hP := hP1
  replace hS := hS2
  clear hP1 hD1 hS2 hFc hfc hz1 hk1 hvm ht
  refine lv_if_eq (tgt := 38) hx hb dX4_split_26 (by decide) (fun c_16 => ?_) (fun c_16 => ?_)
  · skip
    rw [if_pos c_16] at hf
    refine lv_aload_n hx hb dX4_split_38 rfl (lv_at hl 1 rfl) ?_
    refine lv_bipush (v := 10) hx hb dX4_split_39 (by decide) ?_
    refine lv_lconst (v := 0) hx hb dX4_split_41 (by decide) ?_
    refine lv_lload_n hx hb dX4_split_42 rfl (lv_at hl 0 rfl) ?_
    refine lv_lload_n hx hb dX4_split_43 rfl (lv_at hl 2 rfl) ?_
    refine lv_lsub hx hb dX4_split_44 ?_
    obtain ⟨z_17, _u, hfc, hf⟩ := cal_some hf
    have hFc := de_free hD hS hA
    refine va_callv (va_runV (As := [.int 10, .long 0, .long (v_12 - x0)]) (rest := []) ⟨hx, hb, hml, hown, hts⟩ (de_X4_pushNumber l dC dI cy a sh n H_15.size F z_13 h0 10 0 (v_12 - x0) hfc) (cwV 3 hts gX4_split_X4_pushNumber rfl rfl rfl (by decide +kernel) ⟨Nat.le_of_ble_eq_true rfl, Nat.le_of_ble_eq_true rfl⟩) ⟨fun a U g mk q => by obtain ⟨q0, q1, qP, qK, qD, qN⟩ := q; exact ⟨q0, q1, qP, va_K.moved (u := U) (U := U.calling g mk a) (Vm.Alike.refl U.vm) qK, qD, qN.same rfl⟩, va_recv hK hP (ci := 4) (q0 := h0) rfl (Wd_ob kg_3 sg_3 (by decide)), fun U hU hW => ⟨rfl, by rw [hU], by rw [hU]; exact hP, va_K.moved hW.alike hK, hD.weaken (fun _ _ _ _ => trivial), hN.warm hW⟩⟩ rfl rfl hl.1 rfl (lv_room (Nat.le_of_ble_eq_true rfl)) dX4_split_45 ⟨Nat.le_of_ble_eq_true rfl, Nat.le_of_ble_eq_true rfl⟩) hS (fun q _ h => hFc q h) hFc (fun u t H_18 locs ht hvm hw hB hz1 hk1 hS2 => ?_)
    obtain ⟨hP1, -, hD1⟩ := hB
    rw [ht] at hP1
    replace hD := hD1.weaken (fun _ _ _ h => hFc _ h)
    replace hP := hP1
    replace hS := hS2
    clear hP1 hD1 hS2 hFc hfc hz1 hk1 hvm ht
    refine lv_aload_n hx hb dX4_split_48 rfl (lv_at hl 1 rfl) ?_
    refine lv_bipush (v := 10) hx hb dX4_split_49 (by decide) ?_
    refine lv_lconst (v := 0) hx hb dX4_split_51 (by decide) ?_
    refine lv_lload_n hx hb dX4_split_52 rfl (lv_at hl 2 rfl) ?_
    obtain ⟨z_19, _u, hfc, hf⟩ := cal_some hf
    have hFc := de_free hD hS hA
    refine va_callv (va_runV (As := [.int 10, .long 0, .long x0]) (rest := []) ⟨hx, hb, hml, hown, hts⟩ (de_X4_pushNumber l dC dI cy a sh n H_18.size F z_17 h0 10 0 x0 hfc) (cwV 3 hts gX4_split_X4_pushNumber rfl rfl rfl (by decide +kernel) ⟨Nat.le_of_ble_eq_true rfl, Nat.le_of_ble_eq_true rfl⟩) ⟨fun a U g mk q => by obtain ⟨q0, q1, qP, qK, qD, qN⟩ := q; exact ⟨q0, q1, qP, va_K.moved (u := U) (U := U.calling g mk a) (Vm.Alike.refl U.vm) qK, qD, qN.same rfl⟩, va_recv hK hP (ci := 4) (q0 := h0) rfl (Wd_ob kg_3 sg_3 (by decide)), fun U hU hW => ⟨rfl, by rw [hU], by rw [hU]; exact hP, va_K.moved hW.alike hK, hD.weaken (fun _ _ _ _ => trivial), hN.warm hW⟩⟩ rfl rfl hl.1 rfl (lv_room (Nat.le_of_ble_eq_true rfl)) dX4_split_53 ⟨Nat.le_of_ble_eq_true rfl, Nat.le_of_ble_eq_true rfl⟩) hS (fun q _ h => hFc q h) hFc (fun u t H_20 locs ht hvm hw hB hz1 hk1 hS2 => ?_)
    obtain ⟨hP1, -, hD1⟩ := hB
    rw [ht] at hP1
    replace hD := hD1.weaken (fun _ _ _ h => hFc _ h)
    replace hP := hP1
    replace hS := hS2
    clear hP1 hD1 hS2 hFc hfc hz1 hk1 hvm ht
    obtain ⟨h8, h9⟩ := ret_some hf
    rw [h8]
    exact W.vret hx hb hr (fun t ht hW => ⟨⟨(), rfl, trivial, by rw [ht]; exact hP, va_K.moved hW.alike hK, hD⟩, hS.F ht⟩) hS.2.2 dX4_split_56
  · skip
    rw [if_neg c_16] at hf
    refine lv_aload_n hx hb dX4_split_29 rfl (lv_at hl 1 rfl) ?_
    refine lv_iconst (v := 1) hx hb dX4_split_30 (by decide) ?_
    refine lv_ldc2 hx hb hown (hts _ md_X4_split_3) dX4_split_31 ?_
    obtain ⟨z_21, _u, hfc, hf⟩ := cal_some hf
    have hFc := de_free hD hS hA
    refine va_callv (va_runV (As := [.int 1, .long 2]) (rest := []) ⟨hx, hb, hml, hown, hts⟩ (de_X4_end l dC dI cy a sh n H_15.size F z_13 h0 1 2 hfc) (cwV 2 hts gX4_split_X4_end rfl rfl rfl (by decide +kernel) ⟨Nat.le_of_ble_eq_true rfl, Nat.le_of_ble_eq_true rfl⟩) ⟨fun a U g mk q => by obtain ⟨q0, q1, qP, qK, qD, qN⟩ := q; exact ⟨q0, q1, qP, va_K.moved (u := U) (U := U.calling g mk a) (Vm.Alike.refl U.vm) qK, qD, qN.same rfl⟩, va_recv hK hP (ci := 4) (q0 := h0) rfl (Wd_ob kg_3 sg_3 (by decide)), fun U hU hW => ⟨rfl, by rw [hU], by rw [hU]; exact hP, va_K.moved hW.alike hK, hD.weaken (fun _ _ _ _ => trivial), hN.warm hW⟩⟩ rfl rfl hl.1 rfl (lv_room (Nat.le_of_ble_eq_true rfl)) dX4_split_34 ⟨Nat.le_of_ble_eq_true rfl, Nat.le_of_ble_eq_true rfl⟩) hS (fun q _ h => hFc q h) hFc (fun u t H_22 locs ht hvm hw hB hz1 hk1 hS2 => ?_)
    obtain ⟨hP1, -, hD1⟩ := hB
    rw [ht] at hP1
    replace hD := hD1.weaken (fun _ _ _ h => hFc _ h)
    replace hP := hP1
    replace hS := hS2
    clear hP1 hD1 hS2 hFc hfc hz1 hk1 hvm ht
    obtain ⟨h8, h9⟩ := ret_some hf
    rw [h8]
    exact W.vret hx hb hr (fun t ht hW => ⟨⟨(), rfl, trivial, by rw [ht]; exact hP, va_K.moved hW.alike hK, hD⟩, hS.F ht⟩) hS.2.2 dX4_split_37

theorem md_X0_finish_1 : (.fieldLink RX0 29 "ResourceLedger$Digest" "total" "J" : Cond) ∈ wsX0_finish := List.mem_of_getElem? (i := 1) rfl
theorem iwd_X0_finish_X0 : ∀ w ∈ wsX00, w ∈ wsX0_finish := fun _ h => List.mem_cons_of_mem _ (List.mem_append_right _ h)
theorem md_X0_finish_2 : (.constantLong RX0 44 (8) : Cond) ∈ wsX0_finish := List.mem_of_getElem? (i := 2) rfl
theorem md_X0_finish_3 : (.fieldLink RX0 25 "ResourceLedger$Digest" "filled" "I" : Cond) ∈ wsX0_finish := List.mem_of_getElem? (i := 3) rfl
set_option maxHeartbeats 4000000 in
set_option maxRecDepth 100000 in
theorem de_X0_finish (l : Launch) (dC : Nat → ClassId) (dI : Nat → Nat → Nat) (cy : Nat → ClassId) (a : Nat → Nat) (sh : Nat → Nat × Nat) (n sz : Nat) (F : Nat) (sk : Nat → Nat) (z : St) (h0 : Nat) {z8 : St} {r8 : Unit} (hf : fn_X0_finish F sh n z h0 = some (z8, r8)) : Met l yX0_finish wsX0_finish ({ frames := 2, cells := 0, slots := 0, locals := 53 }) (va_Pc [.ref (a h0)] (fun U => U.heap.size = sz ∧ va_P (dC, dI) vwCl (Wd cy a sh n z) U.heap ∧ va_K (dC, dI) vwCl (TYS cy) U ∧ va_D (fun _ => True) (Wd cy a sh n z) ∧ NK U ∧ SKs sk (a CBK) (va_A (Wd cy a sh n z) sz) U U.heap)) (va_Qv (fun u : Unit => True) (fun u t => va_P (dC, dI) vwCl (Wd cy a sh n z8) t.heap ∧ va_K (dC, dI) vwCl (TYS cy) t ∧ va_D (va_A (Wd cy a sh n z) sz) (Wd cy a sh n z8)) (va_A (Wd cy a sh n z) sz)) 0 0 (va_A (Wd cy a sh n z) sz) := by
  refine Met.ofW (cc := cX0_finish) (maxL := 4) (ret := none) (by decide) rfl ?_
  intro p e s m args below meth c s₁ B hml hv
  obtain ⟨rfl, hsz, hP, hK, hD0, hN, hSK⟩ := hv
  have hx := B.exec
  have hb := B.bytes
  have hr := B.returns
  have hts := atoms_spec (ws := wsX0_finish) B.pre
  have hown : s.vm.findClass RX0 = some m.cls := findClass_of_methodNamed B.named
  have hlocks := B.notSynchronized
  subst hsz
  have hD := hD0.self (sz := s.heap.size)
  clear hD0
  generalize hAe : va_A (Wd cy a sh n z) s.heap.size = A at hD hSK ⊢
  have hA : ∀ q : Nat, s.heap.size ≤ q → A q := fun q h => by rw [← hAe]; exact Or.inr h
  clear hAe
  have hS : va_S A s.heap s.heap [] := va_S.rf
  have hl := lv_entry ([.ref (a h0)]) (n := 4) (Nat.le_of_ble_eq_true rfl)
  rw [lg_entry_eq]
  generalize (lg_sl ([.ref (a h0)]) ++ List.replicate (4 - (lg_sl ([.ref (a h0)])).length) Slot.unset).toArray = ls at hl ⊢
  replace hl : lv_has ls 4 [(0, .ref (a h0))] := hl
  unfold fn_X0_finish at hf
  refine de_start hS hP (fun H locs hS hP => ?_)
  refine lv_aload_n hx hb dX0_finish_0 rfl (lv_at hl 0 rfl) ?_
  obtain ⟨g_1, hf⟩ := grd_some hf
  obtain ⟨kg_1, sg_1⟩ := okO_at g_1
  refine va_get (D := (dC, dI)) (ci := 0) (v := .long (z.2.1 h0 3)) (C := RX0) (T := TX0) (N := 4) hx hb hts iwd_X0_finish_X0 hown hK hP h0 (Wd_ob kg_1 sg_1 (by decide)) rfl 3 (by decide) (hts _ md_X0_finish_1) (fun _ h9 => h9) (fl_at (t := 1) rfl) dX0_finish_1 ?_
  refine lv_ldc2 hx hb hown (hts _ md_X0_finish_2) dX0_finish_4 ?_
  refine lv_lmul hx hb dX0_finish_7 ?_
  refine lv_topl (fun v_2 ev_2 => ?_)
  replace hf := lt_at ev_2 hf
  clear ev_2
  refine lv_lstore_n (lv' := [(1, .long v_2), (0, .ref (a h0))]) hx hb dX0_finish_8 rfl hl (by decide) rfl (fun ls hl2 => ?_)
  replace hl := hl2
  clear hl2
  refine lv_aload_n hx hb dX0_finish_9 rfl (lv_at hl 1 rfl) ?_
  refine lv_sipush (v := 128) hx hb dX0_finish_10 (by decide) ?_
  obtain ⟨z_3, _u, hfc, hf⟩ := cal_some hf
  have hFc := de_free hD hS hA
  refine va_callv (va_runV (As := [.int 128]) (rest := []) ⟨hx, hb, hml, hown, hts⟩ (de_X0_put l dC dI cy a sh n H.size F sk z h0 128 hfc) (cwV 1 hts gX0_finish_X0_put rfl rfl rfl (by decide +kernel) ⟨Nat.le_of_ble_eq_true rfl, Nat.le_of_ble_eq_true rfl⟩) ⟨fun a U g mk q => by obtain ⟨q0, q1, qP, qK, qD, qN, qS⟩ := q; exact ⟨q0, q1, qP, va_K.moved (u := U) (U := U.calling g mk a) (Vm.Alike.refl U.vm) qK, qD, qN.same rfl, SKs.moved (u := U) (U := U.calling g mk a) (Vm.Alike.refl U.vm) qS⟩, va_recv hK hP (ci := 0) (q0 := h0) rfl (Wd_ob kg_1 sg_1 (by decide)), fun U hU hW => ⟨rfl, by rw [hU], by rw [hU]; exact hP, va_K.moved hW.alike hK, hD.weaken (fun _ _ _ _ => trivial), hN.warm hW, by rw [hU]; exact ((hSK.kept hS.2.1).narrow hFc).moved hW.alike⟩⟩ rfl rfl hl.1 rfl (lv_room (Nat.le_of_ble_eq_true rfl)) dX0_finish_13 ⟨Nat.le_of_ble_eq_true rfl, Nat.le_of_ble_eq_true rfl⟩) hS (fun q _ h => hFc q h) hFc (fun u t H_4 locs ht hvm hw hB hz1 hk1 hS2 => ?_)
  obtain ⟨hP1, -, hD1⟩ := hB
  rw [ht] at hP1
  replace hD := hD1.weaken (fun _ _ _ h => hFc _ h)
  replace hP := hP1
  replace hS := hS2
  clear hP1 hD1 hS2 hFc hfc hz1 hk1 hvm ht
  refine lv_iconst (v := 0) hx hb dX0_finish_16 (by decide) ?_
  refine lv_istore_n (lv' := [(3, .int 0), (1, .long v_2), (0, .ref (a h0))]) hx hb dX0_finish_17 rfl hl (by decide) rfl (fun ls hl2 => ?_)
  replace hl := hl2
  clear hl2
  have hl0 : lv_has ls 4 [(3, .int 0), (1, .long v_2), (0, .ref (a h0))] := lv_sub hl [0, 1, 2] rfl
  refine de_loop (h := 18) (fun (x : St × Int32) ls H locs => lv_has ls 4 [(3, .int x.2), (1, .long v_2), (0, .ref (a h0))] ∧ va_P (dC, dI) vwCl (Wd cy a sh n x.1) H ∧ va_D A (Wd cy a sh n x.1) ∧ va_S A s.heap H locs) (fun f x => fn_X0_finish_L18 F sh n h0 v_2 f x.1 x.2) (z8, r8) ?_ (fun _ => rfl) F (z_3, 0) ls H_4 locs ⟨hl0, hP, hD, hS⟩ hf
  intro f_7 x ls H locs ih18 hI hf
  obtain ⟨z_6, p_5⟩ := x
  obtain ⟨hl2, hP2, hD2, hS2⟩ := hI
  replace hl : lv_has ls 4 [(3, .int p_5), (1, .long v_2), (0, .ref (a h0))] := hl2
  replace hP := hP2
  replace hD := hD2
  replace hS := hS2
  clear hl2 hP2 hD2 hS2 hl0
  replace hf := fn_X0_finish_L18_s hf
  refine lv_iload_n hx hb dX0_finish_18 rfl (lv_at hl 0 rfl) ?_
  refine lv_bipush (v := 64) hx hb dX0_finish_19 (by decide) ?_
  refine de_cut (h := 44) (fun (x : St) => []) (fun x ls H locs => lv_has ls 4 [(1, .long v_2), (0, .ref (a h0))] ∧ va_P (dC, dI) vwCl (Wd cy a sh n x) H ∧ va_D A (Wd cy a sh n x) ∧ va_S A s.heap H locs) (fun x => fn_X0_finish_B44 F sh n h0 v_2 x) (z8, r8) ?_ (fun B44 => ?_)
  · intro x ls H locs hI hf
    obtain ⟨z_8, ez⟩ : ∃ w, w = x := ⟨_, rfl⟩
    subst ez
    obtain ⟨hl2, hP2, hD2, hS2⟩ := hI
    replace hl : lv_has ls 4 [(1, .long v_2), (0, .ref (a h0))] := hl2
    replace hP := hP2
    replace hD := hD2
    replace hS := hS2
    clear hl2 hP2 hD2 hS2
    replace hf := fn_X0_finish_B44_s hf
    refine W.eq (g2 := F0 m 44 ls []) rfl ?_
    refine lv_bipush (v := 56) hx hb dX0_finish_44 (by decide) ?_
    refine lv_istore_n (lv' := [(3, .int 56), (1, .long v_2), (0, .ref (a h0))]) hx hb dX0_finish_46 rfl hl (by decide) rfl (fun ls hl2 => ?_)
    replace hl := hl2
    clear hl2
    have hl0 : lv_has ls 4 [(3, .int 56), (1, .long v_2), (0, .ref (a h0))] := lv_sub hl [0, 1, 2] rfl
    refine de_loop (h := 47) (fun (x : St × Int32) ls H locs => lv_has ls 4 [(3, .int x.2), (1, .long v_2), (0, .ref (a h0))] ∧ va_P (dC, dI) vwCl (Wd cy a sh n x.1) H ∧ va_D A (Wd cy a sh n x.1) ∧ va_S A s.heap H locs) (fun f x => fn_X0_finish_L47 F sh n h0 v_2 f x.1 x.2) (z8, r8) ?_ (fun _ => rfl) F (z_8, 56) ls H locs ⟨hl0, hP, hD, hS⟩ hf
    intro f_11 x ls H locs ih47 hI hf
    obtain ⟨z_10, p_9⟩ := x
    obtain ⟨hl2, hP2, hD2, hS2⟩ := hI
    replace hl : lv_has ls 4 [(3, .int p_9), (1, .long v_2), (0, .ref (a h0))] := hl2
    replace hP := hP2
    replace hD := hD2
    replace hS := hS2
    clear hl2 hP2 hD2 hS2 hl0
    replace hf := fn_X0_finish_L47_s hf
    refine lv_iload_n hx hb dX0_finish_47 rfl (lv_at hl 0 rfl) ?_
    refine lv_if_lt (tgt := 65) hx hb dX0_finish_48 (by decide) (fun c_12 => ?_) (fun c_12 => ?_)
    · skip
      rw [if_pos c_12] at hf
      obtain ⟨h8, h9⟩ := ret_some hf
      rw [h8]
      exact W.vret hx hb hr (fun t ht hW => ⟨⟨(), rfl, trivial, by rw [ht]; exact hP, va_K.moved hW.alike hK, hD⟩, hS.F ht⟩) hS.2.2 dX0_finish_65
    · skip
      rw [if_neg c_12] at hf
      refine lv_aload_n hx hb dX0_finish_51 rfl (lv_at hl 2 rfl) ?_
      refine lv_lload_n hx hb dX0_finish_52 rfl (lv_at hl 1 rfl) ?_
      refine lv_iload_n hx hb dX0_finish_53 rfl (lv_at hl 0 rfl) ?_
      refine lv_lushr (v := ((v_2 : Int64).toUInt64 >>> ((p_9 : Int32).toInt64.toUInt64 &&& Int64.toUInt64 63)).toInt64) hx hb dX0_finish_54 rfl ?_
      refine lv_l2i (v := ((((v_2 : Int64).toUInt64 >>> ((p_9 : Int32).toInt64.toUInt64 &&& Int64.toUInt64 63)).toInt64) : Int64).toInt32) hx hb dX0_finish_55 rfl ?_
      obtain ⟨z_13, _u, hfc, hf⟩ := cal_some hf
      have hFc := de_free hD hS hA
      refine va_callv (va_runV (As := [.int (((((v_2 : Int64).toUInt64 >>> ((p_9 : Int32).toInt64.toUInt64 &&& Int64.toUInt64 63)).toInt64) : Int64).toInt32)]) (rest := []) ⟨hx, hb, hml, hown, hts⟩ (de_X0_put l dC dI cy a sh n H.size F sk z_10 h0 (((((v_2 : Int64).toUInt64 >>> ((p_9 : Int32).toInt64.toUInt64 &&& Int64.toUInt64 63)).toInt64) : Int64).toInt32) hfc) (cwV 1 hts gX0_finish_X0_put rfl rfl rfl (by decide +kernel) ⟨Nat.le_of_ble_eq_true rfl, Nat.le_of_ble_eq_true rfl⟩) ⟨fun a U g mk q => by obtain ⟨q0, q1, qP, qK, qD, qN, qS⟩ := q; exact ⟨q0, q1, qP, va_K.moved (u := U) (U := U.calling g mk a) (Vm.Alike.refl U.vm) qK, qD, qN.same rfl, SKs.moved (u := U) (U := U.calling g mk a) (Vm.Alike.refl U.vm) qS⟩, va_recv hK hP (ci := 0) (q0 := h0) rfl (Wd_ob kg_1 sg_1 (by decide)), fun U hU hW => ⟨rfl, by rw [hU], by rw [hU]; exact hP, va_K.moved hW.alike hK, hD.weaken (fun _ _ _ _ => trivial), hN.warm hW, by rw [hU]; exact ((hSK.kept hS.2.1).narrow hFc).moved hW.alike⟩⟩ rfl rfl hl.1 rfl (lv_room (Nat.le_of_ble_eq_true rfl)) dX0_finish_56 ⟨Nat.le_of_ble_eq_true rfl, Nat.le_of_ble_eq_true rfl⟩) hS (fun q _ h => hFc q h) hFc (fun u t H_14 locs ht hvm hw hB hz1 hk1 hS2 => ?_)
      obtain ⟨hP1, -, hD1⟩ := hB
      rw [ht] at hP1
      replace hD := hD1.weaken (fun _ _ _ h => hFc _ h)
      replace hP := hP1
      replace hS := hS2
      clear hP1 hD1 hS2 hFc hfc hz1 hk1 hvm ht
      refine lv_iinc (v := (p_9 + (-8))) (lv' := [(3, .int (p_9 + (-8))), (1, .long v_2), (0, .ref (a h0))]) hx hb dX0_finish_59 hl (k := 0) rfl rfl (by decide) rfl (fun ls hl2 => ?_)
      replace hl := hl2
      clear hl2
      refine lv_goto (tgt := 47) hx hb dX0_finish_62 (by decide) ?_
      exact ih47 (z_13, (p_9 + (-8))) ls H_14 locs ⟨lv_sub hl [0, 1, 2] rfl, hP, hD, hS⟩ hf
  refine lv_icmp_ge (tgt := 44) hx hb dX0_finish_21 (by decide) (fun c_15 => ?_) (fun c_15 => ?_)
  · skip
    rw [if_pos c_15] at hf
    exact B44 (z_6) ls H locs ⟨lv_sub hl [1, 2] rfl, hP, hD, hS⟩ hf
  · skip
    rw [if_neg c_15] at hf
    refine lv_aload_n hx hb dX0_finish_24 rfl (lv_at hl 2 rfl) ?_
    refine va_get (D := (dC, dI)) (ci := 0) (v := .int (z_6.1 h0 2)) (C := RX0) (T := TX0) (N := 4) hx hb hts iwd_X0_finish_X0 hown hK hP h0 (Wd_ob kg_1 sg_1 (by decide)) rfl 2 (by decide) (hts _ md_X0_finish_3) (fun _ h9 => h9) (fl_at (t := 0) rfl) dX0_finish_25 ?_
    refine lv_bipush (v := 56) hx hb dX0_finish_28 (by decide) ?_
    refine lv_icmp_eq (tgt := 44) hx hb dX0_finish_30 (by decide) (fun c_16 => ?_) (fun c_16 => ?_)
    · skip
      rw [if_pos c_16] at hf
      exact B44 (z_6) ls H locs ⟨lv_sub hl [1, 2] rfl, hP, hD, hS⟩ hf
    · skip
      rw [if_neg c_16] at hf
      refine lv_aload_n hx hb dX0_finish_33 rfl (lv_at hl 2 rfl) ?_
      refine lv_iconst (v := 0) hx hb dX0_finish_34 (by decide) ?_
      obtain ⟨z_17, _u, hfc, hf⟩ := cal_some hf
      have hFc := de_free hD hS hA
      refine va_callv (va_runV (As := [.int 0]) (rest := []) ⟨hx, hb, hml, hown, hts⟩ (de_X0_put l dC dI cy a sh n H.size F sk z_6 h0 0 hfc) (cwV 1 hts gX0_finish_X0_put rfl rfl rfl (by decide +kernel) ⟨Nat.le_of_ble_eq_true rfl, Nat.le_of_ble_eq_true rfl⟩) ⟨fun a U g mk q => by obtain ⟨q0, q1, qP, qK, qD, qN, qS⟩ := q; exact ⟨q0, q1, qP, va_K.moved (u := U) (U := U.calling g mk a) (Vm.Alike.refl U.vm) qK, qD, qN.same rfl, SKs.moved (u := U) (U := U.calling g mk a) (Vm.Alike.refl U.vm) qS⟩, va_recv hK hP (ci := 0) (q0 := h0) rfl (Wd_ob kg_1 sg_1 (by decide)), fun U hU hW => ⟨rfl, by rw [hU], by rw [hU]; exact hP, va_K.moved hW.alike hK, hD.weaken (fun _ _ _ _ => trivial), hN.warm hW, by rw [hU]; exact ((hSK.kept hS.2.1).narrow hFc).moved hW.alike⟩⟩ rfl rfl hl.1 rfl (lv_room (Nat.le_of_ble_eq_true rfl)) dX0_finish_35 ⟨Nat.le_of_ble_eq_true rfl, Nat.le_of_ble_eq_true rfl⟩) hS (fun q _ h => hFc q h) hFc (fun u t H_18 locs ht hvm hw hB hz1 hk1 hS2 => ?_)
      obtain ⟨hP1, -, hD1⟩ := hB
      rw [ht] at hP1
      replace hD := hD1.weaken (fun _ _ _ h => hFc _ h)
      replace hP := hP1
      replace hS := hS2
      clear hP1 hD1 hS2 hFc hfc hz1 hk1 hvm ht
      refine lv_iinc (v := (p_5 + 1)) (lv' := [(3, .int (p_5 + 1)), (1, .long v_2), (0, .ref (a h0))]) hx hb dX0_finish_38 hl (k := 0) rfl rfl (by decide) rfl (fun ls hl2 => ?_)
      replace hl := hl2
      clear hl2
      refine lv_goto (tgt := 18) hx hb dX0_finish_41 (by decide) ?_
      exact ih18 (z_17, (p_5 + 1)) ls H_18 locs ⟨lv_sub hl [0, 1, 2] rfl, hP, hD, hS⟩ hf

theorem md_X4_borrowElement_1 : (.fieldLink RX4 12 "ResourceLedger$Machine" "heap" "LResourceLedger$Heap;" : Cond) ∈ wsX4_borrowElement := List.mem_of_getElem? (i := 1) rfl
theorem iwd_X4_borrowElement_X4 : ∀ w ∈ wsX40, w ∈ wsX4_borrowElement := fun _ h => List.mem_cons_of_mem _ (List.mem_append_left _ (List.mem_append_right _ h))
theorem md_X4_borrowElement_2 : (.fieldLink RX4 163 "ResourceLedger$Heap" "low" "[J" : Cond) ∈ wsX4_borrowElement := List.mem_of_getElem? (i := 2) rfl
theorem iwd_X4_borrowElement_X1 : ∀ w ∈ wsX10, w ∈ wsX4_borrowElement := fun _ h => List.mem_cons_of_mem _ (List.mem_append_right _ h)
theorem md_X4_borrowElement_3 : (.constantLong RX4 339 (2) : Cond) ∈ wsX4_borrowElement := List.mem_of_getElem? (i := 3) rfl
set_option maxHeartbeats 4000000 in
set_option maxRecDepth 100000 in
theorem de_X4_borrowElement (l : Launch) (dC : Nat → ClassId) (dI : Nat → Nat → Nat) (cy : Nat → ClassId) (a : Nat → Nat) (sh : Nat → Nat × Nat) (n sz : Nat) (F : Nat) (z : St) (h0 : Nat) (x0 : Int32) (x1 : Int64) {z8 : St} {r8 : Unit} (hf : fn_X4_borrowElement F sh n z h0 x0 x1 = some (z8, r8)) : Met l yX4_borrowElement wsX4_borrowElement ({ frames := 2, cells := 0, slots := 0, locals := 46 }) (va_Pc [.ref (a h0), .int x0, .long x1] (fun U => U.heap.size = sz ∧ va_P (dC, dI) vwCl (Wd cy a sh n z) U.heap ∧ va_K (dC, dI) vwCl (TYS cy) U ∧ va_D (fun _ => True) (Wd cy a sh n z) ∧ NK U)) (va_Qv (fun u : Unit => True) (fun u t => va_P (dC, dI) vwCl (Wd cy a sh n z8) t.heap ∧ va_K (dC, dI) vwCl (TYS cy) t ∧ va_D (va_A (Wd cy a sh n z) sz) (Wd cy a sh n z8)) (va_A (Wd cy a sh n z) sz)) 0 0 (va_A (Wd cy a sh n z) sz) := by
  refine Met.ofW (cc := cX4_borrowElement) (maxL := 7) (ret := none) (by decide) rfl ?_
  intro p e s m args below meth c s₁ B hml hv
  obtain ⟨rfl, hsz, hP, hK, hD0, hN⟩ := hv
  have hx := B.exec
  have hb := B.bytes
  have hr := B.returns
  have hts := atoms_spec (ws := wsX4_borrowElement) B.pre
  have hown : s.vm.findClass RX4 = some m.cls := findClass_of_methodNamed B.named
  have hlocks := B.notSynchronized
  subst hsz
  have hD := hD0.self (sz := s.heap.size)
  clear hD0
  generalize hAe : va_A (Wd cy a sh n z) s.heap.size = A at hD ⊢
  have hA : ∀ q : Nat, s.heap.size ≤ q → A q := fun q h => by rw [← hAe]; exact Or.inr h
  clear hAe
  have hS : va_S A s.heap s.heap [] := va_S.rf
  have hl := lv_entry ([.ref (a h0), .int x0, .long x1]) (n := 7) (Nat.le_of_ble_eq_true rfl)
  rw [lg_entry_eq]
  generalize (lg_sl ([.ref (a h0), .int x0, .long x1]) ++ List.replicate (7 - (lg_sl ([.ref (a h0), .int x0, .long x1])).length) Slot.unset).toArray = ls at hl ⊢
  replace hl : lv_has ls 7 [(0, .ref (a h0)), (1, .int x0), (2, .long x1)] := hl
  unfold fn_X4_borrowElement at hf
  refine de_start hS hP (fun H locs hS hP => ?_)
  refine lv_aload_n hx hb dX4_borrowElement_0 rfl (lv_at hl 0 rfl) ?_
  obtain ⟨g_1, hf⟩ := grd_some hf
  obtain ⟨kg_1, sg_1⟩ := okO_at g_1
  obtain ⟨k_2, ek_2, hf⟩ := lnk_some hf
  refine va_get (D := (dC, dI)) (ci := 4) (v := .ref (a k_2)) (C := RX4) (T := TX4) (N := 18) hx hb hts iwd_X4_borrowElement_X4 hown hK hP h0 (Wd_ob kg_1 sg_1 (by decide)) rfl 1 (by decide) (hts _ md_X4_borrowElement_1) (fun _ h9 => h9) (fl_q rfl ek_2) dX4_borrowElement_1 ?_
  obtain ⟨g_3, hf⟩ := grd_some hf
  obtain ⟨kg_3, sg_3⟩ := okO_at g_3
  obtain ⟨k_4, ek_4, hf⟩ := lnk_some hf
  refine va_get (D := (dC, dI)) (ci := 1) (v := .ref (a k_4)) (C := RX1) (T := TX1) (N := 7) hx hb hts iwd_X4_borrowElement_X1 hown hK hP k_2 (Wd_ob kg_3 sg_3 (by decide)) rfl 1 (by decide) (hts _ md_X4_borrowElement_2) (fun _ h9 => h9) (fl_q rfl ek_4) dX4_borrowElement_4 ?_
  refine lv_aload_n hx hb dX4_borrowElement_7 rfl (lv_at hl 0 rfl) ?_
  refine lv_iconst (v := 3) hx hb dX4_borrowElement_8 (by decide) ?_
  obtain ⟨z_5, r_6, hfc, hf⟩ := cal_some hf
  have hFc := de_free hD hS hA
  refine va_calli (va_runV (As := [.int 3]) (rest := [.ref (a k_4)]) ⟨hx, hb, hml, hown, hts⟩ (de_X4_popOf l dC dI cy a sh n H.size F z h0 3 hfc) (cwV 1 hts gX4_borrowElement_X4_popOf rfl rfl rfl (by decide +kernel) ⟨Nat.le_of_ble_eq_true rfl, Nat.le_of_ble_eq_true rfl⟩) ⟨fun a U g mk q => by obtain ⟨q0, q1, qP, qK, qD, qN⟩ := q; exact ⟨q0, q1, qP, va_K.moved (u := U) (U := U.calling g mk a) (Vm.Alike.refl U.vm) qK, qD, qN.same rfl⟩, va_recv hK hP (ci := 4) (q0 := h0) rfl (Wd_ob kg_1 sg_1 (by decide)), fun U hU hW => ⟨rfl, by rw [hU], by rw [hU]; exact hP, va_K.moved hW.alike hK, hD.weaken (fun _ _ _ _ => trivial), hN.warm hW⟩⟩ rfl rfl hl.1 rfl (lv_room (Nat.le_of_ble_eq_true rfl)) dX4_borrowElement_9 ⟨Nat.le_of_ble_eq_true rfl, Nat.le_of_ble_eq_true rfl⟩) hS (fun q _ h => hFc q h) hFc (fun rr u t H_7 locs ht hvm hw hB hz1 hk1 hS2 => ?_)
  rw [hw]
  clear hw
  obtain ⟨hP1, -, hD1⟩ := hB
  rw [ht] at hP1
  replace hD := hD1.weaken (fun _ _ _ h => hFc _ h)
  replace hP := hP1
  replace hS := hS2
  clear hP1 hD1 hS2 hFc hfc hz1 hk1 hvm ht
  obtain ⟨g_8, hf⟩ := grd_some hf
  obtain ⟨kg_8, sg_8, ig_8⟩ := okA_at g_8
  refine va_lald hx hb hK hP k_4 2 (Wd_al kg_8 sg_8) rfl ig_8 dX4_borrowElement_12 ?_
  refine lv_topl (fun v_9 ev_9 => ?_)
  replace hf := lt_at ev_9 hf
  clear ev_9
  refine lv_lstore (lv' := [(4, .long v_9), (0, .ref (a h0)), (1, .int x0), (2, .long x1)]) hx hb dX4_borrowElement_13 hl (by decide) rfl (fun ls hl2 => ?_)
  replace hl := hl2
  clear hl2
  refine lv_lload hx hb dX4_borrowElement_15 (lv_at hl 0 rfl) ?_
  refine lv_lload_n hx hb dX4_borrowElement_17 rfl (lv_at hl 3 rfl) ?_
  obtain ⟨z_10, r_11, hfc, hf⟩ := cal_some hf
  have hFc := de_free hD hS hA
  refine va_calli (va_runS (As := [.long v_9, .long x1]) (rest := []) ⟨hx, hb, hml, hown, hts⟩ (de_X10_below l dC dI cy a sh n H_7.size F z_5 v_9 x1 hfc) (va_cwS 2 hts gX4_borrowElement_X10_below rfl rfl rfl (by decide +kernel) ⟨Nat.le_of_ble_eq_true rfl, Nat.le_of_ble_eq_true rfl⟩) ⟨fun a U g mk q => by obtain ⟨q0, q1, qP, qK, qD, qN⟩ := q; exact ⟨q0, q1, qP, va_K.moved (u := U) (U := U.calling g mk a) (Vm.Alike.refl U.vm) qK, qD, qN.same rfl⟩, fun U hU hW => ⟨rfl, by rw [hU], by rw [hU]; exact hP, va_K.moved hW.alike hK, hD.weaken (fun _ _ _ _ => trivial), hN.warm hW⟩⟩ rfl rfl hl.1 rfl (lv_room (Nat.le_of_ble_eq_true rfl)) dX4_borrowElement_18 ⟨Nat.le_of_ble_eq_true rfl, Nat.le_of_ble_eq_true rfl⟩) hS (fun q _ h => hFc q h) hFc (fun rr u t H_12 locs ht hvm hw hB hz1 hk1 hS2 => ?_)
  rw [hw]
  clear hw
  obtain ⟨hP1, -, hD1⟩ := hB
  rw [ht] at hP1
  replace hD := hD1.weaken (fun _ _ _ h => hFc _ h)
  replace hP := hP1
  replace hS := hS2
  clear hP1 hD1 hS2 hFc hfc hz1 hk1 hvm ht
  refine lv_if_ne (tgt := 33) hx hb dX4_borrowElement_21 (by decide) (fun c_13 => ?_) (fun c_13 => ?_)
  · skip
    rw [if_neg c_13] at hf
    refine lv_aload_n hx hb dX4_borrowElement_33 rfl (lv_at hl 1 rfl) ?_
    obtain ⟨z_14, r_15, hfc, hf⟩ := cal_some hf
    have hFc := de_free hD hS hA
    refine va_calli (va_runV (As := []) (rest := []) ⟨hx, hb, hml, hown, hts⟩ (de_X4_pop l dC dI cy a sh n H_12.size F z_10 h0 hfc) (cwV 0 hts gX4_borrowElement_X4_pop rfl rfl rfl (by decide +kernel) ⟨Nat.le_of_ble_eq_true rfl, Nat.le_of_ble_eq_true rfl⟩) ⟨fun a U g mk q => by obtain ⟨q0, q1, qP, qK, qD, qN⟩ := q; exact ⟨q0, q1, qP, va_K.moved (u := U) (U := U.calling g mk a) (Vm.Alike.refl U.vm) qK, qD, qN.same rfl⟩, va_recv hK hP (ci := 4) (q0 := h0) rfl (Wd_ob kg_1 sg_1 (by decide)), fun U hU hW => ⟨rfl, by rw [hU], by rw [hU]; exact hP, va_K.moved hW.alike hK, hD.weaken (fun _ _ _ _ => trivial), hN.warm hW⟩⟩ rfl rfl hl.1 rfl (lv_room (Nat.le_of_ble_eq_true rfl)) dX4_borrowElement_34 ⟨Nat.le_of_ble_eq_true rfl, Nat.le_of_ble_eq_true rfl⟩) hS (fun q _ h => hFc q h) hFc (fun rr u t H_16 locs ht hvm hw hB hz1 hk1 hS2 => ?_)
    rw [hw]
    clear hw
    obtain ⟨hP1, -, hD1⟩ := hB
    rw [ht] at hP1
    replace hD := hD1.weaken (fun _ _ _ h => hFc _ h)
    replace hP := hP1
    replace hS := hS2
    clear hP1 hD1 hS2 hFc hfc hz1 hk1 hvm ht
    refine lv_istore (lv' := [(6, .int r_15), (4, .long v_9), (0, .ref (a h0)), (1, .int x0), (2, .long x1)]) hx hb dX4_borrowElement_37 hl (by decide) rfl (fun ls hl2 => ?_)
    replace hl := hl2
    clear hl2
    refine lv_aload_n hx hb dX4_borrowElement_39 rfl (lv_at hl 2 rfl) ?_
    obtain ⟨k_17, ek_17, hf⟩ := lnk_some hf
    refine va_get (D := (dC, dI)) (ci := 4) (v := .ref (a k_17)) (C := RX4) (T := TX4) (N := 18) hx hb hts iwd_X4_borrowElement_X4 hown hK hP h0 (Wd_ob kg_1 sg_1 (by decide)) rfl 1 (by decide) (hts _ md_X4_borrowElement_1) (fun _ h9 => h9) (fl_q rfl ek_17) dX4_borrowElement_40 ?_
    obtain ⟨g_18, hf⟩ := grd_some hf
    obtain ⟨kg_18, sg_18⟩ := okO_at g_18
    obtain ⟨k_19, ek_19, hf⟩ := lnk_some hf
    refine va_get (D := (dC, dI)) (ci := 1) (v := .ref (a k_19)) (C := RX1) (T := TX1) (N := 7) hx hb hts iwd_X4_borrowElement_X1 hown hK hP k_17 (Wd_ob kg_18 sg_18 (by decide)) rfl 1 (by decide) (hts _ md_X4_borrowElement_2) (fun _ h9 => h9) (fl_q rfl ek_19) dX4_borrowElement_43 ?_
    refine lv_iload hx hb dX4_borrowElement_46 (lv_at hl 0 rfl) ?_
    refine lv_aload_n hx hb dX4_borrowElement_48 rfl (lv_at hl 2 rfl) ?_
    obtain ⟨k_20, ek_20, hf⟩ := lnk_some hf
    refine va_get (D := (dC, dI)) (ci := 4) (v := .ref (a k_20)) (C := RX4) (T := TX4) (N := 18) hx hb hts iwd_X4_borrowElement_X4 hown hK hP h0 (Wd_ob kg_1 sg_1 (by decide)) rfl 1 (by decide) (hts _ md_X4_borrowElement_1) (fun _ h9 => h9) (fl_q rfl ek_20) dX4_borrowElement_49 ?_
    refine lv_iload_n hx hb dX4_borrowElement_52 rfl (lv_at hl 3 rfl) ?_
    refine lv_lload hx hb dX4_borrowElement_53 (lv_at hl 1 rfl) ?_
    obtain ⟨g_23, hf⟩ := grd_some hf
    obtain ⟨kg_23, sg_23⟩ := okO_at g_23
    obtain ⟨z_21, r_22, hfc, hf⟩ := cal_some hf
    have hFc := de_free hD hS hA
    refine va_calli (va_runV (As := [.int x0, .long v_9]) (rest := [.int r_15, .ref (a k_19)]) ⟨hx, hb, hml, hown, hts⟩ (de_X1_child l dC dI cy a sh n H_16.size F z_14 k_20 x0 v_9 hfc) (cwV 2 hts gX4_borrowElement_X1_child rfl rfl rfl (by decide +kernel) ⟨Nat.le_of_ble_eq_true rfl, Nat.le_of_ble_eq_true rfl⟩) ⟨fun a U g mk q => by obtain ⟨q0, q1, qP, qK, qD, qN⟩ := q; exact ⟨q0, q1, qP, va_K.moved (u := U) (U := U.calling g mk a) (Vm.Alike.refl U.vm) qK, qD, qN.same rfl⟩, va_recv hK hP (ci := 1) (q0 := k_20) rfl (Wd_ob kg_23 sg_23 (by decide)), fun U hU hW => ⟨rfl, by rw [hU], by rw [hU]; exact hP, va_K.moved hW.alike hK, hD.weaken (fun _ _ _ _ => trivial), hN.warm hW⟩⟩ rfl rfl hl.1 rfl (lv_room (Nat.le_of_ble_eq_true rfl)) dX4_borrowElement_55 ⟨Nat.le_of_ble_eq_true rfl, Nat.le_of_ble_eq_true rfl⟩) hS (fun q _ h => hFc q h) hFc (fun rr u t H_24 locs ht hvm hw hB hz1 hk1 hS2 => ?_)
    rw [hw]
    clear hw
    obtain ⟨hP1, -, hD1⟩ := hB
    rw [ht] at hP1
    replace hD := hD1.weaken (fun _ _ _ h => hFc _ h)
    replace hP := hP1
    replace hS := hS2
    clear hP1 hD1 hS2 hFc hfc hz1 hk1 hvm ht
    refine lv_i2l (v := (r_22 : Int32).toInt64) hx hb dX4_borrowElement_58 rfl ?_
    obtain ⟨g_25, hf⟩ := grd_some hf
    obtain ⟨kg_25, sg_25, ig_25⟩ := okA_at g_25
    refine va_last hx hb hK hP hD hS k_19 2 (Wd_al kg_25 sg_25) rfl ig_25 dX4_borrowElement_59 (fun H_26 locs hP2 hD2 hS2 => ?_)
    rw [Wd_tl sg_25] at hP2 hD2
    obtain ⟨z_27, ez_27⟩ : ∃ w, w = sl z_21 k_19 r_15.toNatClampNeg ((r_22 : Int32).toInt64) := ⟨_, rfl⟩
    rw [← ez_27] at hP2 hD2
    replace hf := lt_at ez_27 hf
    clear ez_27
    replace hP := hP2
    replace hD := hD2
    replace hS := hS2
    clear hP2 hD2 hS2
    refine lv_aload_n hx hb dX4_borrowElement_60 rfl (lv_at hl 2 rfl) ?_
    refine lv_iload hx hb dX4_borrowElement_61 (lv_at hl 0 rfl) ?_
    obtain ⟨z_28, _u, hfc, hf⟩ := cal_some hf
    have hFc := de_free hD hS hA
    refine va_callv (va_runV (As := [.int r_15]) (rest := []) ⟨hx, hb, hml, hown, hts⟩ (de_X4_push l dC dI cy a sh n H_26.size F z_27 h0 r_15 hfc) (cwV 1 hts gX4_borrowElement_X4_push rfl rfl rfl (by decide +kernel) ⟨Nat.le_of_ble_eq_true rfl, Nat.le_of_ble_eq_true rfl⟩) ⟨fun a U g mk q => by obtain ⟨q0, q1, qP, qK, qD, qN⟩ := q; exact ⟨q0, q1, qP, va_K.moved (u := U) (U := U.calling g mk a) (Vm.Alike.refl U.vm) qK, qD, qN.same rfl⟩, va_recv hK hP (ci := 4) (q0 := h0) rfl (Wd_ob kg_1 sg_1 (by decide)), fun U hU hW => ⟨rfl, by rw [hU], by rw [hU]; exact hP, va_K.moved hW.alike hK, hD.weaken (fun _ _ _ _ => trivial), hN.warm hW⟩⟩ rfl rfl hl.1 rfl (lv_room (Nat.le_of_ble_eq_true rfl)) dX4_borrowElement_63 ⟨Nat.le_of_ble_eq_true rfl, Nat.le_of_ble_eq_true rfl⟩) hS (fun q _ h => hFc q h) hFc (fun u t H_29 locs ht hvm hw hB hz1 hk1 hS2 => ?_)
    obtain ⟨hP1, -, hD1⟩ := hB
    rw [ht] at hP1
    replace hD := hD1.weaken (fun _ _ _ h => hFc _ h)
    replace hP := hP1
    replace hS := hS2
    clear hP1 hD1 hS2 hFc hfc hz1 hk1 hvm ht
    obtain ⟨h8, h9⟩ := ret_some hf
    rw [h8]
    exact W.vret hx hb hr (fun t ht hW => ⟨⟨(), rfl, trivial, by rw [ht]; exact hP, va_K.moved hW.alike hK, hD⟩, hS.F ht⟩) hS.2.2 dX4_borrowElement_66
  · skip
    rw [if_pos c_13] at hf
    refine lv_aload_n hx hb dX4_borrowElement_24 rfl (lv_at hl 1 rfl) ?_
    refine lv_iconst (v := 2) hx hb dX4_borrowElement_25 (by decide) ?_
    refine lv_ldc2 hx hb hown (hts _ md_X4_borrowElement_3) dX4_borrowElement_26 ?_
    obtain ⟨z_30, _u, hfc, hf⟩ := cal_some hf
    have hFc := de_free hD hS hA
    refine va_callv (va_runV (As := [.int 2, .long 2]) (rest := []) ⟨hx, hb, hml, hown, hts⟩ (de_X4_end l dC dI cy a sh n H_12.size F z_10 h0 2 2 hfc) (cwV 2 hts gX4_borrowElement_X4_end rfl rfl rfl (by decide +kernel) ⟨Nat.le_of_ble_eq_true rfl, Nat.le_of_ble_eq_true rfl⟩) ⟨fun a U g mk q => by obtain ⟨q0, q1, qP, qK, qD, qN⟩ := q; exact ⟨q0, q1, qP, va_K.moved (u := U) (U := U.calling g mk a) (Vm.Alike.refl U.vm) qK, qD, qN.same rfl⟩, va_recv hK hP (ci := 4) (q0 := h0) rfl (Wd_ob kg_1 sg_1 (by decide)), fun U hU hW => ⟨rfl, by rw [hU], by rw [hU]; exact hP, va_K.moved hW.alike hK, hD.weaken (fun _ _ _ _ => trivial), hN.warm hW⟩⟩ rfl rfl hl.1 rfl (lv_room (Nat.le_of_ble_eq_true rfl)) dX4_borrowElement_29 ⟨Nat.le_of_ble_eq_true rfl, Nat.le_of_ble_eq_true rfl⟩) hS (fun q _ h => hFc q h) hFc (fun u t H_31 locs ht hvm hw hB hz1 hk1 hS2 => ?_)
    obtain ⟨hP1, -, hD1⟩ := hB
    rw [ht] at hP1
    replace hD := hD1.weaken (fun _ _ _ h => hFc _ h)
    replace hP := hP1
    replace hS := hS2
    clear hP1 hD1 hS2 hFc hfc hz1 hk1 hvm ht
    obtain ⟨h8, h9⟩ := ret_some hf
    rw [h8]
    exact W.vret hx hb hr (fun t ht hW => ⟨⟨(), rfl, trivial, by rw [ht]; exact hP, va_K.moved hW.alike hK, hD⟩, hS.F ht⟩) hS.2.2 dX4_borrowElement_32

theorem md_X10_subtract_1 : (.fieldLink RX10 17 "ResourceLedger$Wide" "high" "J" : Cond) ∈ wsX10_subtract := List.mem_of_getElem? (i := 1) rfl
theorem iwd_X10_subtract_X10 : ∀ w ∈ wsX100, w ∈ wsX10_subtract := fun _ h => List.mem_cons_of_mem _ (List.mem_append_right _ h)
theorem md_X10_subtract_2 : (.fieldLink RX10 21 "ResourceLedger$Wide" "low" "J" : Cond) ∈ wsX10_subtract := List.mem_of_getElem? (i := 2) rfl
theorem md_X10_subtract_3 : (.fieldLink RX10 24 "ResourceLedger$Wide" "beyond" "Z" : Cond) ∈ wsX10_subtract := List.mem_of_getElem? (i := 3) rfl
set_option maxHeartbeats 4000000 in
set_option maxRecDepth 100000 in
theorem de_X10_subtract (l : Launch) (dC : Nat → ClassId) (dI : Nat → Nat → Nat) (cy : Nat → ClassId) (a : Nat → Nat) (sh : Nat → Nat × Nat) (n sz : Nat) (F : Nat) (z : St) (h0 : Nat) (x0 : Int64) (x1 : Int64) {z8 : St} {r8 : Unit} (hf : fn_X10_subtract F sh n z h0 x0 x1 = some (z8, r8)) : Met l yX10_subtract wsX10_subtract ({ frames := 2, cells := 0, slots := 0, locals := 50 }) (va_Pc [.ref (a h0), .long x0, .long x1] (fun U => U.heap.size = sz ∧ va_P (dC, dI) vwCl (Wd cy a sh n z) U.heap ∧ va_K (dC, dI) vwCl (TYS cy) U ∧ va_D (fun _ => True) (Wd cy a sh n z) ∧ NK U)) (va_Qv (fun u : Unit => True) (fun u t => va_P (dC, dI) vwCl (Wd cy a sh n z8) t.heap ∧ va_K (dC, dI) vwCl (TYS cy) t ∧ va_D (va_A (Wd cy a sh n z) sz) (Wd cy a sh n z8)) (va_A (Wd cy a sh n z) sz)) 0 0 (va_A (Wd cy a sh n z) sz) := by
  refine Met.ofW (cc := cX10_subtract) (maxL := 5) (ret := none) (by decide) rfl ?_
  intro p e s m args below meth c s₁ B hml hv
  obtain ⟨rfl, hsz, hP, hK, hD0, hN⟩ := hv
  have hx := B.exec
  have hb := B.bytes
  have hr := B.returns
  have hts := atoms_spec (ws := wsX10_subtract) B.pre
  have hown : s.vm.findClass RX10 = some m.cls := findClass_of_methodNamed B.named
  have hlocks := B.notSynchronized
  subst hsz
  have hD := hD0.self (sz := s.heap.size)
  clear hD0
  generalize hAe : va_A (Wd cy a sh n z) s.heap.size = A at hD ⊢
  have hA : ∀ q : Nat, s.heap.size ≤ q → A q := fun q h => by rw [← hAe]; exact Or.inr h
  clear hAe
  have hS : va_S A s.heap s.heap [] := va_S.rf
  have hl := lv_entry ([.ref (a h0), .long x0, .long x1]) (n := 5) (Nat.le_of_ble_eq_true rfl)
  rw [lg_entry_eq]
  generalize (lg_sl ([.ref (a h0), .long x0, .long x1]) ++ List.replicate (5 - (lg_sl ([.ref (a h0), .long x0, .long x1])).length) Slot.unset).toArray = ls at hl ⊢
  replace hl : lv_has ls 5 [(0, .ref (a h0)), (1, .long x0), (3, .long x1)] := hl
  unfold fn_X10_subtract at hf
  refine de_start hS hP (fun H locs hS hP => ?_)
  refine lv_aload_n hx hb dX10_subtract_0 rfl (lv_at hl 0 rfl) ?_
  refine lv_aload_n hx hb dX10_subtract_1 rfl (lv_at hl 0 rfl) ?_
  obtain ⟨g_1, hf⟩ := grd_some hf
  obtain ⟨kg_1, sg_1⟩ := okO_at g_1
  refine va_get (D := (dC, dI)) (ci := 10) (v := .long (z.2.1 h0 0)) (C := RX10) (T := TX10) (N := 5) hx hb hts iwd_X10_subtract_X10 hown hK hP h0 (Wd_ob kg_1 sg_1 (by decide)) rfl 0 (by decide) (hts _ md_X10_subtract_1) (fun _ h9 => h9) (fl_at (t := 1) rfl) dX10_subtract_2 ?_
  refine lv_aload_n hx hb dX10_subtract_5 rfl (lv_at hl 0 rfl) ?_
  refine va_get (D := (dC, dI)) (ci := 10) (v := .long (z.2.1 h0 1)) (C := RX10) (T := TX10) (N := 5) hx hb hts iwd_X10_subtract_X10 hown hK hP h0 (Wd_ob kg_1 sg_1 (by decide)) rfl 1 (by decide) (hts _ md_X10_subtract_2) (fun _ h9 => h9) (fl_at (t := 1) rfl) dX10_subtract_6 ?_
  refine lv_lload_n hx hb dX10_subtract_9 rfl (lv_at hl 1 rfl) ?_
  refine lv_lload_n hx hb dX10_subtract_10 rfl (lv_at hl 2 rfl) ?_
  obtain ⟨z_2, r_3, hfc, hf⟩ := cal_some hf
  have hFc := de_free hD hS hA
  refine va_calli (va_runS (As := [.long (z.2.1 h0 0), .long (z.2.1 h0 1), .long x0, .long x1]) (rest := [.ref (a h0)]) ⟨hx, hb, hml, hown, hts⟩ (de_X10_compare l dC dI cy a sh n H.size F z (z.2.1 h0 0) (z.2.1 h0 1) x0 x1 hfc) (va_cwS 4 hts gX10_subtract_X10_compare rfl rfl rfl (by decide +kernel) ⟨Nat.le_of_ble_eq_true rfl, Nat.le_of_ble_eq_true rfl⟩) ⟨fun a U g mk q => by obtain ⟨q0, q1, qP, qK, qD, qN⟩ := q; exact ⟨q0, q1, qP, va_K.moved (u := U) (U := U.calling g mk a) (Vm.Alike.refl U.vm) qK, qD, qN.same rfl⟩, fun U hU hW => ⟨rfl, by rw [hU], by rw [hU]; exact hP, va_K.moved hW.alike hK, hD.weaken (fun _ _ _ _ => trivial), hN.warm hW⟩⟩ rfl rfl hl.1 rfl (lv_room (Nat.le_of_ble_eq_true rfl)) dX10_subtract_11 ⟨Nat.le_of_ble_eq_true rfl, Nat.le_of_ble_eq_true rfl⟩) hS (fun q _ h => hFc q h) hFc (fun rr u t H_4 locs ht hvm hw hB hz1 hk1 hS2 => ?_)
  rw [hw]
  clear hw
  obtain ⟨hP1, -, hD1⟩ := hB
  rw [ht] at hP1
  replace hD := hD1.weaken (fun _ _ _ h => hFc _ h)
  replace hP := hP1
  replace hS := hS2
  clear hP1 hD1 hS2 hFc hfc hz1 hk1 hvm ht
  refine de_cut (h := 22) (fun (x : St × Int32) => [.int x.2, .ref (a h0)]) (fun x ls H locs => lv_has ls 5 [(0, .ref (a h0)), (1, .long x0), (3, .long x1)] ∧ va_P (dC, dI) vwCl (Wd cy a sh n x.1) H ∧ va_D A (Wd cy a sh n x.1) ∧ va_S A s.heap H locs) (fun x => fn_X10_subtract_B22 F sh n h0 x1 x0 x.1 x.2) (z8, r8) ?_ (fun B22 => ?_)
  · intro x ls H locs hI hf
    obtain ⟨z_6, p_5⟩ := x
    obtain ⟨hl2, hP2, hD2, hS2⟩ := hI
    replace hl : lv_has ls 5 [(0, .ref (a h0)), (1, .long x0), (3, .long x1)] := hl2
    replace hP := hP2
    replace hD := hD2
    replace hS := hS2
    clear hl2 hP2 hD2 hS2
    replace hf := fn_X10_subtract_B22_s hf
    refine W.eq (g2 := F0 m 22 ls [.int p_5, .ref (a h0)]) rfl ?_
    obtain ⟨g_7, hf⟩ := grd_some hf
    refine va_put (D := (dC, dI)) (ci := 10) (v := .int p_5) (ty := .boolean) (C := RX10) (T := TX10) (N := 5) hx hb hts iwd_X10_subtract_X10 tyX10 tyX10_ok nmX10 hown hK hP hD hS h0 (Wd_ob kg_1 sg_1 (by decide)) rfl 2 (by decide) (hts _ md_X10_subtract_3) (fun _ h9 => h9) rfl (by decide +kernel) (nar_z g_7) (fit_z g_7) (by rw [fl_len]; decide) dX10_subtract_22 (fun H_8 locs hP2 hD2 hS2 => ?_)
    rw [Wd_si sg_1 (by decide) rfl] at hP2 hD2
    obtain ⟨z_9, ez_9⟩ : ∃ w, w = si z_6 h0 2 p_5 := ⟨_, rfl⟩
    rw [← ez_9] at hP2 hD2
    replace hf := lt_at ez_9 hf
    clear ez_9
    replace hP := hP2
    replace hD := hD2
    replace hS := hS2
    clear hP2 hD2 hS2
    refine lv_aload_n hx hb dX10_subtract_25 rfl (lv_at hl 0 rfl) ?_
    refine lv_aload_n hx hb dX10_subtract_26 rfl (lv_at hl 0 rfl) ?_
    refine va_get (D := (dC, dI)) (ci := 10) (v := .long (z_9.2.1 h0 0)) (C := RX10) (T := TX10) (N := 5) hx hb hts iwd_X10_subtract_X10 hown hK hP h0 (Wd_ob kg_1 sg_1 (by decide)) rfl 0 (by decide) (hts _ md_X10_subtract_1) (fun _ h9 => h9) (fl_at (t := 1) rfl) dX10_subtract_27 ?_
    refine lv_lload_n hx hb dX10_subtract_30 rfl (lv_at hl 1 rfl) ?_
    refine lv_lsub hx hb dX10_subtract_31 ?_
    refine lv_aload_n hx hb dX10_subtract_32 rfl (lv_at hl 0 rfl) ?_
    refine va_get (D := (dC, dI)) (ci := 10) (v := .long (z_9.2.1 h0 1)) (C := RX10) (T := TX10) (N := 5) hx hb hts iwd_X10_subtract_X10 hown hK hP h0 (Wd_ob kg_1 sg_1 (by decide)) rfl 1 (by decide) (hts _ md_X10_subtract_2) (fun _ h9 => h9) (fl_at (t := 1) rfl) dX10_subtract_33 ?_
    refine lv_lload_n hx hb dX10_subtract_36 rfl (lv_at hl 2 rfl) ?_
    obtain ⟨z_10, r_11, hfc, hf⟩ := cal_some hf
    have hFc := de_free hD hS hA
    refine va_calli (va_runS (As := [.long (z_9.2.1 h0 1), .long x1]) (rest := [.long ((z_9.2.1 h0 0) - x0), .ref (a h0)]) ⟨hx, hb, hml, hown, hts⟩ (de_X10_below l dC dI cy a sh n H_8.size F z_9 (z_9.2.1 h0 1) x1 hfc) (va_cwS 2 hts gX10_subtract_X10_below rfl rfl rfl (by decide +kernel) ⟨Nat.le_of_ble_eq_true rfl, Nat.le_of_ble_eq_true rfl⟩) ⟨fun a U g mk q => by obtain ⟨q0, q1, qP, qK, qD, qN⟩ := q; exact ⟨q0, q1, qP, va_K.moved (u := U) (U := U.calling g mk a) (Vm.Alike.refl U.vm) qK, qD, qN.same rfl⟩, fun U hU hW => ⟨rfl, by rw [hU], by rw [hU]; exact hP, va_K.moved hW.alike hK, hD.weaken (fun _ _ _ _ => trivial), hN.warm hW⟩⟩ rfl rfl hl.1 rfl (lv_room (Nat.le_of_ble_eq_true rfl)) dX10_subtract_37 ⟨Nat.le_of_ble_eq_true rfl, Nat.le_of_ble_eq_true rfl⟩) hS (fun q _ h => hFc q h) hFc (fun rr u t H_12 locs ht hvm hw hB hz1 hk1 hS2 => ?_)
    rw [hw]
    clear hw
    obtain ⟨hP1, -, hD1⟩ := hB
    rw [ht] at hP1
    replace hD := hD1.weaken (fun _ _ _ h => hFc _ h)
    replace hP := hP1
    replace hS := hS2
    clear hP1 hD1 hS2 hFc hfc hz1 hk1 hvm ht
    refine de_cut (h := 48) (fun (x : St × Int32) => [.int x.2, .long ((z_9.2.1 h0 0) - x0), .ref (a h0)]) (fun x ls H locs => lv_has ls 5 [(0, .ref (a h0)), (3, .long x1)] ∧ va_P (dC, dI) vwCl (Wd cy a sh n x.1) H ∧ va_D A (Wd cy a sh n x.1) ∧ va_S A s.heap H locs) (fun x => fn_X10_subtract_B48 F sh n h0 z_9 x0 x1 x.1 x.2) (z8, r8) ?_ (fun B48 => ?_)
    · intro x ls H locs hI hf
      obtain ⟨z_14, p_13⟩ := x
      obtain ⟨hl2, hP2, hD2, hS2⟩ := hI
      replace hl : lv_has ls 5 [(0, .ref (a h0)), (3, .long x1)] := hl2
      replace hP := hP2
      replace hD := hD2
      replace hS := hS2
      clear hl2 hP2 hD2 hS2
      replace hf := fn_X10_subtract_B48_s hf
      refine W.eq (g2 := F0 m 48 ls [.int p_13, .long ((z_9.2.1 h0 0) - x0), .ref (a h0)]) rfl ?_
      refine lv_i2l (v := (p_13 : Int32).toInt64) hx hb dX10_subtract_48 rfl ?_
      refine lv_lsub hx hb dX10_subtract_49 ?_
      refine va_put (D := (dC, dI)) (ci := 10) (v := .long (((z_9.2.1 h0 0) - x0) - ((p_13 : Int32).toInt64))) (ty := .long) (C := RX10) (T := TX10) (N := 5) hx hb hts iwd_X10_subtract_X10 tyX10 tyX10_ok nmX10 hown hK hP hD hS h0 (Wd_ob kg_1 sg_1 (by decide)) rfl 0 (by decide) (hts _ md_X10_subtract_1) (fun _ h9 => h9) rfl (by decide +kernel) rfl rfl (by rw [fl_len]; decide) dX10_subtract_50 (fun H_15 locs hP2 hD2 hS2 => ?_)
      rw [Wd_sl sg_1 (by decide) rfl] at hP2 hD2
      obtain ⟨z_16, ez_16⟩ : ∃ w, w = sl z_14 h0 0 (((z_9.2.1 h0 0) - x0) - ((p_13 : Int32).toInt64)) := ⟨_, rfl⟩
      rw [← ez_16] at hP2 hD2
      replace hf := lt_at ez_16 hf
      clear ez_16
      replace hP := hP2
      replace hD := hD2
      replace hS := hS2
      clear hP2 hD2 hS2
      refine lv_aload_n hx hb dX10_subtract_53 rfl (lv_at hl 0 rfl) ?_
      refine lv_dup hx hb dX10_subtract_54 rfl ?_
      refine va_get (D := (dC, dI)) (ci := 10) (v := .long (z_16.2.1 h0 1)) (C := RX10) (T := TX10) (N := 5) hx hb hts iwd_X10_subtract_X10 hown hK hP h0 (Wd_ob kg_1 sg_1 (by decide)) rfl 1 (by decide) (hts _ md_X10_subtract_2) (fun _ h9 => h9) (fl_at (t := 1) rfl) dX10_subtract_55 ?_
      refine lv_lload_n hx hb dX10_subtract_58 rfl (lv_at hl 1 rfl) ?_
      refine lv_lsub hx hb dX10_subtract_59 ?_
      refine va_put (D := (dC, dI)) (ci := 10) (v := .long ((z_16.2.1 h0 1) - x1)) (ty := .long) (C := RX10) (T := TX10) (N := 5) hx hb hts iwd_X10_subtract_X10 tyX10 tyX10_ok nmX10 hown hK hP hD hS h0 (Wd_ob kg_1 sg_1 (by decide)) rfl 1 (by decide) (hts _ md_X10_subtract_2) (fun _ h9 => h9) rfl (by decide +kernel) rfl rfl (by rw [fl_len]; decide) dX10_subtract_60 (fun H_17 locs hP2 hD2 hS2 => ?_)
      rw [Wd_sl sg_1 (by decide) rfl] at hP2 hD2
      obtain ⟨z_18, ez_18⟩ : ∃ w, w = sl z_16 h0 1 ((z_16.2.1 h0 1) - x1) := ⟨_, rfl⟩
      rw [← ez_18] at hP2 hD2
      replace hf := lt_at ez_18 hf
      clear ez_18
      replace hP := hP2
      replace hD := hD2
      replace hS := hS2
      clear hP2 hD2 hS2
      obtain ⟨h8, h9⟩ := ret_some hf
      rw [h8]
      exact W.vret hx hb hr (fun t ht hW => ⟨⟨(), rfl, trivial, by rw [ht]; exact hP, va_K.moved hW.alike hK, hD⟩, hS.F ht⟩) hS.2.2 dX10_subtract_63
    refine lv_if_eq (tgt := 47) hx hb dX10_subtract_40 (by decide) (fun c_19 => ?_) (fun c_19 => ?_)
    · skip
      rw [if_pos c_19] at hf
      refine lv_iconst (v := 0) hx hb dX10_subtract_47 (by decide) ?_
      exact B48 (z_10, 0) ls H_12 locs ⟨lv_sub hl [0, 2] rfl, hP, hD, hS⟩ hf
    · skip
      rw [if_neg c_19] at hf
      refine lv_iconst (v := 1) hx hb dX10_subtract_43 (by decide) ?_
      refine lv_goto (tgt := 48) hx hb dX10_subtract_44 (by decide) ?_
      exact B48 (z_10, 1) ls H_12 locs ⟨lv_sub hl [0, 2] rfl, hP, hD, hS⟩ hf
  refine lv_if_ge (tgt := 21) hx hb dX10_subtract_14 (by decide) (fun c_20 => ?_) (fun c_20 => ?_)
  · skip
    rw [if_pos c_20] at hf
    refine lv_iconst (v := 0) hx hb dX10_subtract_21 (by decide) ?_
    exact B22 (z_2, 0) ls H_4 locs ⟨lv_sub hl [0, 1, 2] rfl, hP, hD, hS⟩ hf
  · skip
    rw [if_neg c_20] at hf
    refine lv_iconst (v := 1) hx hb dX10_subtract_17 (by decide) ?_
    refine lv_goto (tgt := 22) hx hb dX10_subtract_18 (by decide) ?_
    exact B22 (z_2, 1) ls H_4 locs ⟨lv_sub hl [0, 1, 2] rfl, hP, hD, hS⟩ hf

theorem md_X17_add_1 : (.fieldLink RX17 7 "ResourceLedgerModel$Wide" "a" "[I" : Cond) ∈ wsX17_add := List.mem_of_getElem? (i := 1) rfl
theorem iwd_X17_add_X17 : ∀ w ∈ wsX170, w ∈ wsX17_add := fun _ h => List.mem_cons_of_mem _ (List.mem_append_right _ h)
theorem md_X17_add_2 : (.fieldLink RX17 13 "ResourceLedgerModel$Wide" "b" "[I" : Cond) ∈ wsX17_add := List.mem_of_getElem? (i := 2) rfl
theorem md_X17_add_3 : (.fieldLink RX17 16 "ResourceLedgerModel$Wide" "\x72" "[I" : Cond) ∈ wsX17_add := List.mem_of_getElem? (i := 3) rfl
theorem md_X17_add_4 : (.constant RX17 65 (65535) : Cond) ∈ wsX17_add := List.mem_of_getElem? (i := 4) rfl
set_option maxHeartbeats 4000000 in
set_option maxRecDepth 100000 in
theorem de_X17_add (l : Launch) (dC : Nat → ClassId) (dI : Nat → Nat → Nat) (cy : Nat → ClassId) (a : Nat → Nat) (sh : Nat → Nat × Nat) (n sz : Nat) (F : Nat) (z : St) (h0 : Nat) (x0 : Int32) {z8 : St} {r8 : Int32} (hf : fn_X17_add F sh n z h0 x0 = some (z8, r8)) : Met l yX17_add wsX17_add ({ frames := 2, cells := 0, slots := 0, locals := 46 }) (va_Pc [.ref (a h0), .int x0] (fun U => U.heap.size = sz ∧ va_P (dC, dI) vwCl (Wd cy a sh n z) U.heap ∧ va_K (dC, dI) vwCl (TYS cy) U ∧ va_D (fun _ => True) (Wd cy a sh n z) ∧ NK U)) (va_Qi (fun (r9 : Int32) (u : Unit) => r9 = r8) (fun u t => va_P (dC, dI) vwCl (Wd cy a sh n z8) t.heap ∧ va_K (dC, dI) vwCl (TYS cy) t ∧ va_D (va_A (Wd cy a sh n z) sz) (Wd cy a sh n z8)) (va_A (Wd cy a sh n z) sz)) 0 0 (va_A (Wd cy a sh n z) sz) := by
  refine Met.ofW (cc := cX17_add) (maxL := 5) (ret := (some .boolean)) (by decide) rfl ?_
  intro p e s m args below meth c s₁ B hml hv
  obtain ⟨rfl, hsz, hP, hK, hD0, hN⟩ := hv
  have hx := B.exec
  have hb := B.bytes
  have hr := B.returns
  have hts := atoms_spec (ws := wsX17_add) B.pre
  have hown : s.vm.findClass RX17 = some m.cls := findClass_of_methodNamed B.named
  have hlocks := B.notSynchronized
  subst hsz
  have hD := hD0.self (sz := s.heap.size)
  clear hD0
  generalize hAe : va_A (Wd cy a sh n z) s.heap.size = A at hD ⊢
  have hA : ∀ q : Nat, s.heap.size ≤ q → A q := fun q h => by rw [← hAe]; exact Or.inr h
  clear hAe
  have hS : va_S A s.heap s.heap [] := va_S.rf
  have hl := lv_entry ([.ref (a h0), .int x0]) (n := 5) (Nat.le_of_ble_eq_true rfl)
  rw [lg_entry_eq]
  generalize (lg_sl ([.ref (a h0), .int x0]) ++ List.replicate (5 - (lg_sl ([.ref (a h0), .int x0])).length) Slot.unset).toArray = ls at hl ⊢
  replace hl : lv_has ls 5 [(0, .ref (a h0)), (1, .int x0)] := hl
  unfold fn_X17_add at hf
  refine de_start hS hP (fun H locs hS hP => ?_)
  refine lv_iconst (v := 0) hx hb dX17_add_0 (by decide) ?_
  refine lv_istore_n (lv' := [(2, .int 0), (0, .ref (a h0)), (1, .int x0)]) hx hb dX17_add_1 rfl hl (by decide) rfl (fun ls hl2 => ?_)
  replace hl := hl2
  clear hl2
  refine lv_iconst (v := 0) hx hb dX17_add_2 (by decide) ?_
  refine lv_istore_n (lv' := [(3, .int 0), (2, .int 0), (0, .ref (a h0)), (1, .int x0)]) hx hb dX17_add_3 rfl hl (by decide) rfl (fun ls hl2 => ?_)
  replace hl := hl2
  clear hl2
  have hl0 : lv_has ls 5 [(3, .int 0), (2, .int 0), (0, .ref (a h0)), (1, .int x0)] := lv_sub hl [0, 1, 2, 3] rfl
  refine de_loop (h := 4) (fun (x : St × Int32 × Int32) ls H locs => lv_has ls 5 [(3, .int x.2.2), (2, .int x.2.1), (0, .ref (a h0)), (1, .int x0)] ∧ va_P (dC, dI) vwCl (Wd cy a sh n x.1) H ∧ va_D A (Wd cy a sh n x.1) ∧ va_S A s.heap H locs) (fun f x => fn_X17_add_L4 F sh n h0 x0 f x.1 x.2.1 x.2.2) (z8, r8) ?_ (fun _ => rfl) F (z, 0, 0) ls H locs ⟨hl0, hP, hD, hS⟩ hf
  intro f_4 x ls H locs ih4 hI hf
  obtain ⟨z_3, p_1, p_2⟩ := x
  obtain ⟨hl2, hP2, hD2, hS2⟩ := hI
  replace hl : lv_has ls 5 [(3, .int p_2), (2, .int p_1), (0, .ref (a h0)), (1, .int x0)] := hl2
  replace hP := hP2
  replace hD := hD2
  replace hS := hS2
  clear hl2 hP2 hD2 hS2 hl0
  replace hf := fn_X17_add_L4_s hf
  refine lv_iload_n hx hb dX17_add_4 rfl (lv_at hl 0 rfl) ?_
  refine lv_bipush (v := 16) hx hb dX17_add_5 (by decide) ?_
  refine lv_icmp_ge (tgt := 50) hx hb dX17_add_7 (by decide) (fun c_5 => ?_) (fun c_5 => ?_)
  · skip
    rw [if_pos c_5] at hf
    refine lv_aload_n hx hb dX17_add_50 rfl (lv_at hl 2 rfl) ?_
    refine lv_iload_n hx hb dX17_add_51 rfl (lv_at hl 3 rfl) ?_
    obtain ⟨g_8, hf⟩ := grd_some hf
    obtain ⟨kg_8, sg_8⟩ := okO_at g_8
    obtain ⟨z_6, r_7, hfc, hf⟩ := cal_some hf
    have hFc := de_free hD hS hA
    refine va_calli (va_runV (As := [.int x0]) (rest := []) ⟨hx, hb, hml, hown, hts⟩ (de_X17_result l dC dI cy a sh n H.size F z_3 h0 x0 hfc) (cwV 1 hts gX17_add_X17_result rfl rfl rfl (by decide +kernel) ⟨Nat.le_of_ble_eq_true rfl, Nat.le_of_ble_eq_true rfl⟩) ⟨fun a U g mk q => by obtain ⟨q0, q1, qP, qK, qD, qN⟩ := q; exact ⟨q0, q1, qP, va_K.moved (u := U) (U := U.calling g mk a) (Vm.Alike.refl U.vm) qK, qD, qN.same rfl⟩, va_recv hK hP (ci := 17) (q0 := h0) rfl (Wd_ob kg_8 sg_8 (by decide)), fun U hU hW => ⟨rfl, by rw [hU], by rw [hU]; exact hP, va_K.moved hW.alike hK, hD.weaken (fun _ _ _ _ => trivial), hN.warm hW⟩⟩ rfl rfl hl.1 rfl (lv_room (Nat.le_of_ble_eq_true rfl)) dX17_add_52 ⟨Nat.le_of_ble_eq_true rfl, Nat.le_of_ble_eq_true rfl⟩) hS (fun q _ h => hFc q h) hFc (fun rr u t H_9 locs ht hvm hw hB hz1 hk1 hS2 => ?_)
    rw [hw]
    clear hw
    obtain ⟨hP1, -, hD1⟩ := hB
    rw [ht] at hP1
    replace hD := hD1.weaken (fun _ _ _ h => hFc _ h)
    replace hP := hP1
    replace hS := hS2
    clear hP1 hD1 hS2 hFc hfc hz1 hk1 hvm ht
    obtain ⟨g_10, hf⟩ := grd_some hf
    obtain ⟨h8, h9⟩ := ret_some hf
    rw [h8, h9]
    exact W.zret (v := r_7) hx hb hr (nar_z g_10) (fun t ht hW => ⟨⟨r_7, (), rfl, rfl, by rw [ht]; exact hP, va_K.moved hW.alike hK, hD⟩, hS.F ht⟩) hS.2.2 dX17_add_55
  · skip
    rw [if_neg c_5] at hf
    refine lv_aload_n hx hb dX17_add_10 rfl (lv_at hl 2 rfl) ?_
    obtain ⟨g_11, hf⟩ := grd_some hf
    obtain ⟨kg_11, sg_11⟩ := okO_at g_11
    obtain ⟨k_12, ek_12, hf⟩ := lnk_some hf
    refine va_get (D := (dC, dI)) (ci := 17) (v := .ref (a k_12)) (C := RX17) (T := TX17) (N := 5) hx hb hts iwd_X17_add_X17 hown hK hP h0 (Wd_ob kg_11 sg_11 (by decide)) rfl 0 (by decide) (hts _ md_X17_add_1) (fun _ h9 => h9) (fl_q rfl ek_12) dX17_add_11 ?_
    refine lv_iload_n hx hb dX17_add_14 rfl (lv_at hl 0 rfl) ?_
    obtain ⟨g_13, hf⟩ := grd_some hf
    obtain ⟨kg_13, sg_13, ig_13⟩ := okA_at g_13
    refine va_iald hx hb hK hP k_12 1 (Wd_ai kg_13 sg_13) rfl ig_13 dX17_add_15 ?_
    refine lv_aload_n hx hb dX17_add_16 rfl (lv_at hl 2 rfl) ?_
    obtain ⟨k_14, ek_14, hf⟩ := lnk_some hf
    refine va_get (D := (dC, dI)) (ci := 17) (v := .ref (a k_14)) (C := RX17) (T := TX17) (N := 5) hx hb hts iwd_X17_add_X17 hown hK hP h0 (Wd_ob kg_11 sg_11 (by decide)) rfl 1 (by decide) (hts _ md_X17_add_2) (fun _ h9 => h9) (fl_q rfl ek_14) dX17_add_17 ?_
    refine lv_iload_n hx hb dX17_add_20 rfl (lv_at hl 0 rfl) ?_
    obtain ⟨g_15, hf⟩ := grd_some hf
    obtain ⟨kg_15, sg_15, ig_15⟩ := okA_at g_15
    refine va_iald hx hb hK hP k_14 1 (Wd_ai kg_15 sg_15) rfl ig_15 dX17_add_21 ?_
    refine lv_iadd hx hb dX17_add_22 ?_
    refine lv_iload_n hx hb dX17_add_23 rfl (lv_at hl 1 rfl) ?_
    refine lv_iadd hx hb dX17_add_24 ?_
    refine lv_topi (fun v_16 ev_16 => ?_)
    replace hf := lt_at ev_16 hf
    clear ev_16
    refine lv_istore (lv' := [(4, .int v_16), (3, .int p_2), (2, .int p_1), (0, .ref (a h0)), (1, .int x0)]) hx hb dX17_add_25 hl (by decide) rfl (fun ls hl2 => ?_)
    replace hl := hl2
    clear hl2
    refine lv_aload_n hx hb dX17_add_27 rfl (lv_at hl 3 rfl) ?_
    obtain ⟨k_17, ek_17, hf⟩ := lnk_some hf
    refine va_get (D := (dC, dI)) (ci := 17) (v := .ref (a k_17)) (C := RX17) (T := TX17) (N := 5) hx hb hts iwd_X17_add_X17 hown hK hP h0 (Wd_ob kg_11 sg_11 (by decide)) rfl 2 (by decide) (hts _ md_X17_add_3) (fun _ h9 => h9) (fl_q rfl ek_17) dX17_add_28 ?_
    refine lv_iload_n hx hb dX17_add_31 rfl (lv_at hl 1 rfl) ?_
    refine lv_iload hx hb dX17_add_32 (lv_at hl 0 rfl) ?_
    refine lv_ldc hx hb hown (hts _ md_X17_add_4) dX17_add_34 ?_
    refine lv_iand hx hb dX17_add_36 ?_
    obtain ⟨g_18, hf⟩ := grd_some hf
    obtain ⟨kg_18, sg_18, ig_18⟩ := okA_at g_18
    refine va_iast hx hb hK hP hD hS k_17 1 (Wd_ai kg_18 sg_18) rfl ig_18 dX17_add_37 (fun H_19 locs hP2 hD2 hS2 => ?_)
    rw [Wd_ti sg_18] at hP2 hD2
    obtain ⟨z_20, ez_20⟩ : ∃ w, w = si z_3 k_17 p_2.toNatClampNeg (v_16 &&& 65535) := ⟨_, rfl⟩
    rw [← ez_20] at hP2 hD2
    replace hf := lt_at ez_20 hf
    clear ez_20
    replace hP := hP2
    replace hD := hD2
    replace hS := hS2
    clear hP2 hD2 hS2
    refine lv_iload hx hb dX17_add_38 (lv_at hl 0 rfl) ?_
    refine lv_bipush (v := 16) hx hb dX17_add_40 (by decide) ?_
    refine lv_ishr hx hb dX17_add_42 ?_
    refine lv_topi (fun v_21 ev_21 => ?_)
    replace hf := lt_at ev_21 hf
    clear ev_21
    refine lv_istore_n (lv' := [(2, .int v_21), (4, .int v_16), (3, .int p_2), (0, .ref (a h0)), (1, .int x0)]) hx hb dX17_add_43 rfl hl (by decide) rfl (fun ls hl2 => ?_)
    replace hl := hl2
    clear hl2
    refine lv_iinc (v := (p_2 + 1)) (lv' := [(3, .int (p_2 + 1)), (2, .int v_21), (4, .int v_16), (0, .ref (a h0)), (1, .int x0)]) hx hb dX17_add_44 hl (k := 2) rfl rfl (by decide) rfl (fun ls hl2 => ?_)
    replace hl := hl2
    clear hl2
    refine lv_goto (tgt := 4) hx hb dX17_add_47 (by decide) ?_
    exact ih4 (z_20, v_21, (p_2 + 1)) ls H_19 locs ⟨lv_sub hl [0, 1, 3, 4] rfl, hP, hD, hS⟩ hf

theorem md_X4_pushWide_1 : (.fieldLink RX4 12 "ResourceLedger$Machine" "heap" "LResourceLedger$Heap;" : Cond) ∈ wsX4_pushWide := List.mem_of_getElem? (i := 1) rfl
theorem iwd_X4_pushWide_X4 : ∀ w ∈ wsX40, w ∈ wsX4_pushWide := fun _ h => List.mem_cons_of_mem _ (List.mem_append_left _ (List.mem_append_left _ (List.mem_append_right _ h)))
theorem md_X4_pushWide_2 : (.fieldLink RX4 71 "ResourceLedger$Heap" "slips" "I" : Cond) ∈ wsX4_pushWide := List.mem_of_getElem? (i := 2) rfl
theorem iwd_X4_pushWide_X1 : ∀ w ∈ wsX10, w ∈ wsX4_pushWide := fun _ h => List.mem_cons_of_mem _ (List.mem_append_left _ (List.mem_append_right _ h))
theorem md_X4_pushWide_3 : (.fieldLink RX4 21 "ResourceLedger$Machine" "wide" "LResourceLedger$Wide;" : Cond) ∈ wsX4_pushWide := List.mem_of_getElem? (i := 3) rfl
theorem md_X4_pushWide_4 : (.fieldLink RX4 359 "ResourceLedger$Wide" "high" "J" : Cond) ∈ wsX4_pushWide := List.mem_of_getElem? (i := 4) rfl
theorem iwd_X4_pushWide_X10 : ∀ w ∈ wsX100, w ∈ wsX4_pushWide := fun _ h => List.mem_cons_of_mem _ (List.mem_append_right _ h)
theorem md_X4_pushWide_5 : (.fieldLink RX4 361 "ResourceLedger$Wide" "low" "J" : Cond) ∈ wsX4_pushWide := List.mem_of_getElem? (i := 5) rfl
set_option maxHeartbeats 4000000 in
set_option maxRecDepth 100000 in
theorem de_X4_pushWide (l : Launch) (dC : Nat → ClassId) (dI : Nat → Nat → Nat) (cy : Nat → ClassId) (a : Nat → Nat) (sh : Nat → Nat × Nat) (n sz : Nat) (F : Nat) (z : St) (h0 : Nat) (x0 : Int32) {z8 : St} {r8 : Unit} (hf : fn_X4_pushWide F sh n z h0 x0 = some (z8, r8)) : Met l yX4_pushWide wsX4_pushWide ({ frames := 2, cells := 0, slots := 0, locals := 50 }) (va_Pc [.ref (a h0), .int x0] (fun U => U.heap.size = sz ∧ va_P (dC, dI) vwCl (Wd cy a sh n z) U.heap ∧ va_K (dC, dI) vwCl (TYS cy) U ∧ va_D (fun _ => True) (Wd cy a sh n z) ∧ NK U)) (va_Qv (fun u : Unit => True) (fun u t => va_P (dC, dI) vwCl (Wd cy a sh n z8) t.heap ∧ va_K (dC, dI) vwCl (TYS cy) t ∧ va_D (va_A (Wd cy a sh n z) sz) (Wd cy a sh n z8)) (va_A (Wd cy a sh n z) sz)) 0 0 (va_A (Wd cy a sh n z) sz) := by
  refine Met.ofW (cc := cX4_pushWide) (maxL := 2) (ret := none) (by decide) rfl ?_
  intro p e s m args below meth c s₁ B hml hv
  obtain ⟨rfl, hsz, hP, hK, hD0, hN⟩ := hv
  have hx := B.exec
  have hb := B.bytes
  have hr := B.returns
  have hts := atoms_spec (ws := wsX4_pushWide) B.pre
  have hown : s.vm.findClass RX4 = some m.cls := findClass_of_methodNamed B.named
  have hlocks := B.notSynchronized
  subst hsz
  have hD := hD0.self (sz := s.heap.size)
  clear hD0
  generalize hAe : va_A (Wd cy a sh n z) s.heap.size = A at hD ⊢
  have hA : ∀ q : Nat, s.heap.size ≤ q → A q := fun q h => by rw [← hAe]; exact Or.inr h
  clear hAe
  have hS : va_S A s.heap s.heap [] := va_S.rf
  have hl := lv_entry ([.ref (a h0), .int x0]) (n := 2) (Nat.le_of_ble_eq_true rfl)
  rw [lg_entry_eq]
  generalize (lg_sl ([.ref (a h0), .int x0]) ++ List.replicate (2 - (lg_sl ([.ref (a h0), .int x0])).length) Slot.unset).toArray = ls at hl ⊢
  replace hl : lv_has ls 2 [(0, .ref (a h0)), (1, .int x0)] := hl
  unfold fn_X4_pushWide at hf
  refine de_start hS hP (fun H locs hS hP => ?_)
  refine lv_iload_n hx hb dX4_pushWide_0 rfl (lv_at hl 1 rfl) ?_
  refine lv_iconst (v := 1) hx hb dX4_pushWide_1 (by decide) ?_
  refine de_cut (h := 10) (fun (x : St) => []) (fun x ls H locs => lv_has ls 2 [(0, .ref (a h0))] ∧ va_P (dC, dI) vwCl (Wd cy a sh n x) H ∧ va_D A (Wd cy a sh n x) ∧ va_S A s.heap H locs) (fun x => fn_X4_pushWide_B10 F sh n h0 x) (z8, r8) ?_ (fun B10 => ?_)
  · intro x ls H locs hI hf
    obtain ⟨z_1, ez⟩ : ∃ w, w = x := ⟨_, rfl⟩
    subst ez
    obtain ⟨hl2, hP2, hD2, hS2⟩ := hI
    replace hl : lv_has ls 2 [(0, .ref (a h0))] := hl2
    replace hP := hP2
    replace hD := hD2
    replace hS := hS2
    clear hl2 hP2 hD2 hS2
    replace hf := fn_X4_pushWide_B10_s hf
    refine W.eq (g2 := F0 m 10 ls []) rfl ?_
    refine lv_aload_n hx hb dX4_pushWide_10 rfl (lv_at hl 0 rfl) ?_
    obtain ⟨g_2, hf⟩ := grd_some hf
    obtain ⟨kg_2, sg_2⟩ := okO_at g_2
    obtain ⟨k_3, ek_3, hf⟩ := lnk_some hf
    refine va_get (D := (dC, dI)) (ci := 4) (v := .ref (a k_3)) (C := RX4) (T := TX4) (N := 18) hx hb hts iwd_X4_pushWide_X4 hown hK hP h0 (Wd_ob kg_2 sg_2 (by decide)) rfl 1 (by decide) (hts _ md_X4_pushWide_1) (fun _ h9 => h9) (fl_q rfl ek_3) dX4_pushWide_11 ?_
    refine lv_dup hx hb dX4_pushWide_14 rfl ?_
    obtain ⟨g_4, hf⟩ := grd_some hf
    obtain ⟨kg_4, sg_4⟩ := okO_at g_4
    refine va_get (D := (dC, dI)) (ci := 1) (v := .int (z_1.1 k_3 6)) (C := RX1) (T := TX1) (N := 7) hx hb hts iwd_X4_pushWide_X1 hown hK hP k_3 (Wd_ob kg_4 sg_4 (by decide)) rfl 6 (by decide) (hts _ md_X4_pushWide_2) (fun _ h9 => h9) (fl_at (t := 0) rfl) dX4_pushWide_15 ?_
    refine lv_iconst (v := 1) hx hb dX4_pushWide_18 (by decide) ?_
    refine lv_iadd hx hb dX4_pushWide_19 ?_
    refine va_put (D := (dC, dI)) (ci := 1) (v := .int ((z_1.1 k_3 6) + 1)) (ty := .int) (C := RX1) (T := TX1) (N := 7) hx hb hts iwd_X4_pushWide_X1 tyX1 tyX1_ok nmX1 hown hK hP hD hS k_3 (Wd_ob kg_4 sg_4 (by decide)) rfl 6 (by decide) (hts _ md_X4_pushWide_2) (fun _ h9 => h9) rfl (by decide +kernel) rfl rfl (by rw [fl_len]; decide) dX4_pushWide_20 (fun H_5 locs hP2 hD2 hS2 => ?_)
    rw [Wd_si sg_4 (by decide) rfl] at hP2 hD2
    obtain ⟨z_6, ez_6⟩ : ∃ w, w = si z_1 k_3 6 ((z_1.1 k_3 6) + 1) := ⟨_, rfl⟩
    rw [← ez_6] at hP2 hD2
    replace hf := lt_at ez_6 hf
    clear ez_6
    replace hP := hP2
    replace hD := hD2
    replace hS := hS2
    clear hP2 hD2 hS2
    obtain ⟨h8, h9⟩ := ret_some hf
    rw [h8]
    exact W.vret hx hb hr (fun t ht hW => ⟨⟨(), rfl, trivial, by rw [ht]; exact hP, va_K.moved hW.alike hK, hD⟩, hS.F ht⟩) hS.2.2 dX4_pushWide_23
  refine lv_icmp_lt (tgt := 10) hx hb dX4_pushWide_2 (by decide) (fun c_7 => ?_) (fun c_7 => ?_)
  · skip
    rw [if_pos c_7] at hf
    exact B10 (z) ls H locs ⟨lv_sub hl [0] rfl, hP, hD, hS⟩ hf
  · skip
    rw [if_neg c_7] at hf
    refine lv_iload_n hx hb dX4_pushWide_5 rfl (lv_at hl 1 rfl) ?_
    refine lv_iconst (v := 4) hx hb dX4_pushWide_6 (by decide) ?_
    refine lv_icmp_le (tgt := 24) hx hb dX4_pushWide_7 (by decide) (fun c_8 => ?_) (fun c_8 => ?_)
    · skip
      rw [if_pos c_8] at hf
      refine lv_iload_n hx hb dX4_pushWide_24 rfl (lv_at hl 1 rfl) ?_
      refine lv_iconst (v := 1) hx hb dX4_pushWide_25 (by decide) ?_
      refine de_cut (h := 47) (fun (x : St) => []) (fun x ls H locs => lv_has ls 2 [(0, .ref (a h0)), (1, .int x0)] ∧ va_P (dC, dI) vwCl (Wd cy a sh n x) H ∧ va_D A (Wd cy a sh n x) ∧ va_S A s.heap H locs) (fun x => fn_X4_pushWide_B47 F sh n h0 x0 x) (z8, r8) ?_ (fun B47 => ?_)
      · intro x ls H locs hI hf
        obtain ⟨z_9, ez⟩ : ∃ w, w = x := ⟨_, rfl⟩
        subst ez
        obtain ⟨hl2, hP2, hD2, hS2⟩ := hI
        replace hl : lv_has ls 2 [(0, .ref (a h0)), (1, .int x0)] := hl2
        replace hP := hP2
        replace hD := hD2
        replace hS := hS2
        clear hl2 hP2 hD2 hS2
        replace hf := fn_X4_pushWide_B47_s hf
        refine W.eq (g2 := F0 m 47 ls []) rfl ?_
        refine lv_aload_n hx hb dX4_pushWide_47 rfl (lv_at hl 0 rfl) ?_
        refine lv_iload_n hx hb dX4_pushWide_48 rfl (lv_at hl 1 rfl) ?_
        refine lv_aload_n hx hb dX4_pushWide_49 rfl (lv_at hl 0 rfl) ?_
        obtain ⟨g_10, hf⟩ := grd_some hf
        obtain ⟨kg_10, sg_10⟩ := okO_at g_10
        obtain ⟨k_11, ek_11, hf⟩ := lnk_some hf
        refine va_get (D := (dC, dI)) (ci := 4) (v := .ref (a k_11)) (C := RX4) (T := TX4) (N := 18) hx hb hts iwd_X4_pushWide_X4 hown hK hP h0 (Wd_ob kg_10 sg_10 (by decide)) rfl 3 (by decide) (hts _ md_X4_pushWide_3) (fun _ h9 => h9) (fl_q rfl ek_11) dX4_pushWide_50 ?_
        obtain ⟨g_12, hf⟩ := grd_some hf
        obtain ⟨kg_12, sg_12⟩ := okO_at g_12
        refine va_get (D := (dC, dI)) (ci := 10) (v := .long (z_9.2.1 k_11 0)) (C := RX10) (T := TX10) (N := 5) hx hb hts iwd_X4_pushWide_X10 hown hK hP k_11 (Wd_ob kg_12 sg_12 (by decide)) rfl 0 (by decide) (hts _ md_X4_pushWide_4) (fun _ h9 => h9) (fl_at (t := 1) rfl) dX4_pushWide_53 ?_
        refine lv_aload_n hx hb dX4_pushWide_56 rfl (lv_at hl 0 rfl) ?_
        obtain ⟨k_13, ek_13, hf⟩ := lnk_some hf
        refine va_get (D := (dC, dI)) (ci := 4) (v := .ref (a k_13)) (C := RX4) (T := TX4) (N := 18) hx hb hts iwd_X4_pushWide_X4 hown hK hP h0 (Wd_ob kg_10 sg_10 (by decide)) rfl 3 (by decide) (hts _ md_X4_pushWide_3) (fun _ h9 => h9) (fl_q rfl ek_13) dX4_pushWide_57 ?_
        obtain ⟨g_14, hf⟩ := grd_some hf
        obtain ⟨kg_14, sg_14⟩ := okO_at g_14
        refine va_get (D := (dC, dI)) (ci := 10) (v := .long (z_9.2.1 k_13 1)) (C := RX10) (T := TX10) (N := 5) hx hb hts iwd_X4_pushWide_X10 hown hK hP k_13 (Wd_ob kg_14 sg_14 (by decide)) rfl 1 (by decide) (hts _ md_X4_pushWide_5) (fun _ h9 => h9) (fl_at (t := 1) rfl) dX4_pushWide_60 ?_
        obtain ⟨z_15, _u, hfc, hf⟩ := cal_some hf
        have hFc := de_free hD hS hA
        refine va_callv (va_runV (As := [.int x0, .long (z_9.2.1 k_11 0), .long (z_9.2.1 k_13 1)]) (rest := []) ⟨hx, hb, hml, hown, hts⟩ (de_X4_pushNumber l dC dI cy a sh n H.size F z_9 h0 x0 (z_9.2.1 k_11 0) (z_9.2.1 k_13 1) hfc) (cwV 3 hts gX4_pushWide_X4_pushNumber rfl rfl rfl (by decide +kernel) ⟨Nat.le_of_ble_eq_true rfl, Nat.le_of_ble_eq_true rfl⟩) ⟨fun a U g mk q => by obtain ⟨q0, q1, qP, qK, qD, qN⟩ := q; exact ⟨q0, q1, qP, va_K.moved (u := U) (U := U.calling g mk a) (Vm.Alike.refl U.vm) qK, qD, qN.same rfl⟩, va_recv hK hP (ci := 4) (q0 := h0) rfl (Wd_ob kg_10 sg_10 (by decide)), fun U hU hW => ⟨rfl, by rw [hU], by rw [hU]; exact hP, va_K.moved hW.alike hK, hD.weaken (fun _ _ _ _ => trivial), hN.warm hW⟩⟩ rfl rfl hl.1 rfl (lv_room (Nat.le_of_ble_eq_true rfl)) dX4_pushWide_63 ⟨Nat.le_of_ble_eq_true rfl, Nat.le_of_ble_eq_true rfl⟩) hS (fun q _ h => hFc q h) hFc (fun u t H_16 locs ht hvm hw hB hz1 hk1 hS2 => ?_)
        obtain ⟨hP1, -, hD1⟩ := hB
        rw [ht] at hP1
        replace hD := hD1.weaken (fun _ _ _ h => hFc _ h)
        replace hP := hP1
        replace hS := hS2
        clear hP1 hD1 hS2 hFc hfc hz1 hk1 hvm ht
        obtain ⟨h8, h9⟩ := ret_some hf
        rw [h8]
        exact W.vret hx hb hr (fun t ht hW => ⟨⟨(), rfl, trivial, by rw [ht]; exact hP, va_K.moved hW.alike hK, hD⟩, hS.F ht⟩) hS.2.2 dX4_pushWide_66
      refine lv_icmp_eq (tgt := 47) hx hb dX4_pushWide_26 (by decide) (fun c_17 => ?_) (fun c_17 => ?_)
      · skip
        rw [if_pos c_17] at hf
        exact B47 (z) ls H locs ⟨lv_sub hl [0, 1] rfl, hP, hD, hS⟩ hf
      · skip
        rw [if_neg c_17] at hf
        refine lv_aload_n hx hb dX4_pushWide_29 rfl (lv_at hl 0 rfl) ?_
        obtain ⟨g_18, hf⟩ := grd_some hf
        obtain ⟨kg_18, sg_18⟩ := okO_at g_18
        obtain ⟨k_19, ek_19, hf⟩ := lnk_some hf
        refine va_get (D := (dC, dI)) (ci := 4) (v := .ref (a k_19)) (C := RX4) (T := TX4) (N := 18) hx hb hts iwd_X4_pushWide_X4 hown hK hP h0 (Wd_ob kg_18 sg_18 (by decide)) rfl 3 (by decide) (hts _ md_X4_pushWide_3) (fun _ h9 => h9) (fl_q rfl ek_19) dX4_pushWide_30 ?_
        refine lv_iload_n hx hb dX4_pushWide_33 rfl (lv_at hl 1 rfl) ?_
        obtain ⟨g_22, hf⟩ := grd_some hf
        obtain ⟨kg_22, sg_22⟩ := okO_at g_22
        obtain ⟨z_20, r_21, hfc, hf⟩ := cal_some hf
        have hFc := de_free hD hS hA
        refine va_calli (va_runV (As := [.int x0]) (rest := []) ⟨hx, hb, hml, hown, hts⟩ (de_X10_fits l dC dI cy a sh n H.size F z k_19 x0 hfc) (cwV 1 hts gX4_pushWide_X10_fits rfl rfl rfl (by decide +kernel) ⟨Nat.le_of_ble_eq_true rfl, Nat.le_of_ble_eq_true rfl⟩) ⟨fun a U g mk q => by obtain ⟨q0, q1, qP, qK, qD, qN⟩ := q; exact ⟨q0, q1, qP, va_K.moved (u := U) (U := U.calling g mk a) (Vm.Alike.refl U.vm) qK, qD, qN.same rfl⟩, va_recv hK hP (ci := 10) (q0 := k_19) rfl (Wd_ob kg_22 sg_22 (by decide)), fun U hU hW => ⟨rfl, by rw [hU], by rw [hU]; exact hP, va_K.moved hW.alike hK, hD.weaken (fun _ _ _ _ => trivial), hN.warm hW⟩⟩ rfl rfl hl.1 rfl (lv_room (Nat.le_of_ble_eq_true rfl)) dX4_pushWide_34 ⟨Nat.le_of_ble_eq_true rfl, Nat.le_of_ble_eq_true rfl⟩) hS (fun q _ h => hFc q h) hFc (fun rr u t H_23 locs ht hvm hw hB hz1 hk1 hS2 => ?_)
        rw [hw]
        clear hw
        obtain ⟨hP1, -, hD1⟩ := hB
        rw [ht] at hP1
        replace hD := hD1.weaken (fun _ _ _ h => hFc _ h)
        replace hP := hP1
        replace hS := hS2
        clear hP1 hD1 hS2 hFc hfc hz1 hk1 hvm ht
        refine lv_if_ne (tgt := 47) hx hb dX4_pushWide_37 (by decide) (fun c_24 => ?_) (fun c_24 => ?_)
        · skip
          rw [if_neg c_24] at hf
          exact B47 (z_20) ls H_23 locs ⟨lv_sub hl [0, 1] rfl, hP, hD, hS⟩ hf
        · skip
          rw [if_pos c_24] at hf
          refine lv_aload_n hx hb dX4_pushWide_40 rfl (lv_at hl 0 rfl) ?_
          refine lv_iconst (v := 2) hx hb dX4_pushWide_41 (by decide) ?_
          refine lv_lconst (v := 1) hx hb dX4_pushWide_42 (by decide) ?_
          obtain ⟨z_25, _u, hfc, hf⟩ := cal_some hf
          have hFc := de_free hD hS hA
          refine va_callv (va_runV (As := [.int 2, .long 1]) (rest := []) ⟨hx, hb, hml, hown, hts⟩ (de_X4_end l dC dI cy a sh n H_23.size F z_20 h0 2 1 hfc) (cwV 2 hts gX4_pushWide_X4_end rfl rfl rfl (by decide +kernel) ⟨Nat.le_of_ble_eq_true rfl, Nat.le_of_ble_eq_true rfl⟩) ⟨fun a U g mk q => by obtain ⟨q0, q1, qP, qK, qD, qN⟩ := q; exact ⟨q0, q1, qP, va_K.moved (u := U) (U := U.calling g mk a) (Vm.Alike.refl U.vm) qK, qD, qN.same rfl⟩, va_recv hK hP (ci := 4) (q0 := h0) rfl (Wd_ob kg_18 sg_18 (by decide)), fun U hU hW => ⟨rfl, by rw [hU], by rw [hU]; exact hP, va_K.moved hW.alike hK, hD.weaken (fun _ _ _ _ => trivial), hN.warm hW⟩⟩ rfl rfl hl.1 rfl (lv_room (Nat.le_of_ble_eq_true rfl)) dX4_pushWide_43 ⟨Nat.le_of_ble_eq_true rfl, Nat.le_of_ble_eq_true rfl⟩) hS (fun q _ h => hFc q h) hFc (fun u t H_26 locs ht hvm hw hB hz1 hk1 hS2 => ?_)
          obtain ⟨hP1, -, hD1⟩ := hB
          rw [ht] at hP1
          replace hD := hD1.weaken (fun _ _ _ h => hFc _ h)
          replace hP := hP1
          replace hS := hS2
          clear hP1 hD1 hS2 hFc hfc hz1 hk1 hvm ht
          obtain ⟨h8, h9⟩ := ret_some hf
          rw [h8]
          exact W.vret hx hb hr (fun t ht hW => ⟨⟨(), rfl, trivial, by rw [ht]; exact hP, va_K.moved hW.alike hK, hD⟩, hS.F ht⟩) hS.2.2 dX4_pushWide_46
    · skip
      rw [if_neg c_8] at hf
      exact B10 (z) ls H locs ⟨lv_sub hl [0] rfl, hP, hD, hS⟩ hf

theorem md_X17_subtract_1 : (.fieldLink RX17 7 "ResourceLedgerModel$Wide" "a" "[I" : Cond) ∈ wsX17_subtract := List.mem_of_getElem? (i := 1) rfl
theorem iwd_X17_subtract_X17 : ∀ w ∈ wsX170, w ∈ wsX17_subtract := fun _ h => List.mem_cons_of_mem _ (List.mem_append_right _ h)
theorem md_X17_subtract_2 : (.fieldLink RX17 13 "ResourceLedgerModel$Wide" "b" "[I" : Cond) ∈ wsX17_subtract := List.mem_of_getElem? (i := 2) rfl
theorem md_X17_subtract_3 : (.fieldLink RX17 16 "ResourceLedgerModel$Wide" "\x72" "[I" : Cond) ∈ wsX17_subtract := List.mem_of_getElem? (i := 3) rfl
theorem md_X17_subtract_4 : (.constant RX17 65 (65535) : Cond) ∈ wsX17_subtract := List.mem_of_getElem? (i := 4) rfl
set_option maxHeartbeats 4000000 in
set_option maxRecDepth 100000 in
theorem de_X17_subtract (l : Launch) (dC : Nat → ClassId) (dI : Nat → Nat → Nat) (cy : Nat → ClassId) (a : Nat → Nat) (sh : Nat → Nat × Nat) (n sz : Nat) (F : Nat) (z : St) (h0 : Nat) (x0 : Int32) {z8 : St} {r8 : Int32} (hf : fn_X17_subtract F sh n z h0 x0 = some (z8, r8)) : Met l yX17_subtract wsX17_subtract ({ frames := 2, cells := 0, slots := 0, locals := 46 }) (va_Pc [.ref (a h0), .int x0] (fun U => U.heap.size = sz ∧ va_P (dC, dI) vwCl (Wd cy a sh n z) U.heap ∧ va_K (dC, dI) vwCl (TYS cy) U ∧ va_D (fun _ => True) (Wd cy a sh n z) ∧ NK U)) (va_Qi (fun (r9 : Int32) (u : Unit) => r9 = r8) (fun u t => va_P (dC, dI) vwCl (Wd cy a sh n z8) t.heap ∧ va_K (dC, dI) vwCl (TYS cy) t ∧ va_D (va_A (Wd cy a sh n z) sz) (Wd cy a sh n z8)) (va_A (Wd cy a sh n z) sz)) 0 0 (va_A (Wd cy a sh n z) sz) := by
  refine Met.ofW (cc := cX17_subtract) (maxL := 5) (ret := (some .boolean)) (by decide) rfl ?_
  intro p e s m args below meth c s₁ B hml hv
  obtain ⟨rfl, hsz, hP, hK, hD0, hN⟩ := hv
  have hx := B.exec
  have hb := B.bytes
  have hr := B.returns
  have hts := atoms_spec (ws := wsX17_subtract) B.pre
  have hown : s.vm.findClass RX17 = some m.cls := findClass_of_methodNamed B.named
  have hlocks := B.notSynchronized
  subst hsz
  have hD := hD0.self (sz := s.heap.size)
  clear hD0
  generalize hAe : va_A (Wd cy a sh n z) s.heap.size = A at hD ⊢
  have hA : ∀ q : Nat, s.heap.size ≤ q → A q := fun q h => by rw [← hAe]; exact Or.inr h
  clear hAe
  have hS : va_S A s.heap s.heap [] := va_S.rf
  have hl := lv_entry ([.ref (a h0), .int x0]) (n := 5) (Nat.le_of_ble_eq_true rfl)
  rw [lg_entry_eq]
  generalize (lg_sl ([.ref (a h0), .int x0]) ++ List.replicate (5 - (lg_sl ([.ref (a h0), .int x0])).length) Slot.unset).toArray = ls at hl ⊢
  replace hl : lv_has ls 5 [(0, .ref (a h0)), (1, .int x0)] := hl
  unfold fn_X17_subtract at hf
  refine de_start hS hP (fun H locs hS hP => ?_)
  refine lv_iconst (v := 0) hx hb dX17_subtract_0 (by decide) ?_
  refine lv_istore_n (lv' := [(2, .int 0), (0, .ref (a h0)), (1, .int x0)]) hx hb dX17_subtract_1 rfl hl (by decide) rfl (fun ls hl2 => ?_)
  replace hl := hl2
  clear hl2
  refine lv_iconst (v := 0) hx hb dX17_subtract_2 (by decide) ?_
  refine lv_istore_n (lv' := [(3, .int 0), (2, .int 0), (0, .ref (a h0)), (1, .int x0)]) hx hb dX17_subtract_3 rfl hl (by decide) rfl (fun ls hl2 => ?_)
  replace hl := hl2
  clear hl2
  have hl0 : lv_has ls 5 [(3, .int 0), (2, .int 0), (0, .ref (a h0)), (1, .int x0)] := lv_sub hl [0, 1, 2, 3] rfl
  refine de_loop (h := 4) (fun (x : St × Int32 × Int32) ls H locs => lv_has ls 5 [(3, .int x.2.2), (2, .int x.2.1), (0, .ref (a h0)), (1, .int x0)] ∧ va_P (dC, dI) vwCl (Wd cy a sh n x.1) H ∧ va_D A (Wd cy a sh n x.1) ∧ va_S A s.heap H locs) (fun f x => fn_X17_subtract_L4 F sh n h0 x0 f x.1 x.2.1 x.2.2) (z8, r8) ?_ (fun _ => rfl) F (z, 0, 0) ls H locs ⟨hl0, hP, hD, hS⟩ hf
  intro f_4 x ls H locs ih4 hI hf
  obtain ⟨z_3, p_1, p_2⟩ := x
  obtain ⟨hl2, hP2, hD2, hS2⟩ := hI
  replace hl : lv_has ls 5 [(3, .int p_2), (2, .int p_1), (0, .ref (a h0)), (1, .int x0)] := hl2
  replace hP := hP2
  replace hD := hD2
  replace hS := hS2
  clear hl2 hP2 hD2 hS2 hl0
  replace hf := fn_X17_subtract_L4_s hf
  refine lv_iload_n hx hb dX17_subtract_4 rfl (lv_at hl 0 rfl) ?_
  refine lv_bipush (v := 16) hx hb dX17_subtract_5 (by decide) ?_
  refine lv_icmp_ge (tgt := 55) hx hb dX17_subtract_7 (by decide) (fun c_5 => ?_) (fun c_5 => ?_)
  · skip
    rw [if_pos c_5] at hf
    refine lv_aload_n hx hb dX17_subtract_55 rfl (lv_at hl 2 rfl) ?_
    refine lv_iload_n hx hb dX17_subtract_56 rfl (lv_at hl 3 rfl) ?_
    obtain ⟨g_8, hf⟩ := grd_some hf
    obtain ⟨kg_8, sg_8⟩ := okO_at g_8
    obtain ⟨z_6, r_7, hfc, hf⟩ := cal_some hf
    have hFc := de_free hD hS hA
    refine va_calli (va_runV (As := [.int x0]) (rest := []) ⟨hx, hb, hml, hown, hts⟩ (de_X17_result l dC dI cy a sh n H.size F z_3 h0 x0 hfc) (cwV 1 hts gX17_subtract_X17_result rfl rfl rfl (by decide +kernel) ⟨Nat.le_of_ble_eq_true rfl, Nat.le_of_ble_eq_true rfl⟩) ⟨fun a U g mk q => by obtain ⟨q0, q1, qP, qK, qD, qN⟩ := q; exact ⟨q0, q1, qP, va_K.moved (u := U) (U := U.calling g mk a) (Vm.Alike.refl U.vm) qK, qD, qN.same rfl⟩, va_recv hK hP (ci := 17) (q0 := h0) rfl (Wd_ob kg_8 sg_8 (by decide)), fun U hU hW => ⟨rfl, by rw [hU], by rw [hU]; exact hP, va_K.moved hW.alike hK, hD.weaken (fun _ _ _ _ => trivial), hN.warm hW⟩⟩ rfl rfl hl.1 rfl (lv_room (Nat.le_of_ble_eq_true rfl)) dX17_subtract_57 ⟨Nat.le_of_ble_eq_true rfl, Nat.le_of_ble_eq_true rfl⟩) hS (fun q _ h => hFc q h) hFc (fun rr u t H_9 locs ht hvm hw hB hz1 hk1 hS2 => ?_)
    rw [hw]
    clear hw
    obtain ⟨hP1, -, hD1⟩ := hB
    rw [ht] at hP1
    replace hD := hD1.weaken (fun _ _ _ h => hFc _ h)
    replace hP := hP1
    replace hS := hS2
    clear hP1 hD1 hS2 hFc hfc hz1 hk1 hvm ht
    obtain ⟨g_10, hf⟩ := grd_some hf
    obtain ⟨h8, h9⟩ := ret_some hf
    rw [h8, h9]
    exact W.zret (v := r_7) hx hb hr (nar_z g_10) (fun t ht hW => ⟨⟨r_7, (), rfl, rfl, by rw [ht]; exact hP, va_K.moved hW.alike hK, hD⟩, hS.F ht⟩) hS.2.2 dX17_subtract_60
  · skip
    rw [if_neg c_5] at hf
    refine lv_aload_n hx hb dX17_subtract_10 rfl (lv_at hl 2 rfl) ?_
    obtain ⟨g_11, hf⟩ := grd_some hf
    obtain ⟨kg_11, sg_11⟩ := okO_at g_11
    obtain ⟨k_12, ek_12, hf⟩ := lnk_some hf
    refine va_get (D := (dC, dI)) (ci := 17) (v := .ref (a k_12)) (C := RX17) (T := TX17) (N := 5) hx hb hts iwd_X17_subtract_X17 hown hK hP h0 (Wd_ob kg_11 sg_11 (by decide)) rfl 0 (by decide) (hts _ md_X17_subtract_1) (fun _ h9 => h9) (fl_q rfl ek_12) dX17_subtract_11 ?_
    refine lv_iload_n hx hb dX17_subtract_14 rfl (lv_at hl 0 rfl) ?_
    obtain ⟨g_13, hf⟩ := grd_some hf
    obtain ⟨kg_13, sg_13, ig_13⟩ := okA_at g_13
    refine va_iald hx hb hK hP k_12 1 (Wd_ai kg_13 sg_13) rfl ig_13 dX17_subtract_15 ?_
    refine lv_aload_n hx hb dX17_subtract_16 rfl (lv_at hl 2 rfl) ?_
    obtain ⟨k_14, ek_14, hf⟩ := lnk_some hf
    refine va_get (D := (dC, dI)) (ci := 17) (v := .ref (a k_14)) (C := RX17) (T := TX17) (N := 5) hx hb hts iwd_X17_subtract_X17 hown hK hP h0 (Wd_ob kg_11 sg_11 (by decide)) rfl 1 (by decide) (hts _ md_X17_subtract_2) (fun _ h9 => h9) (fl_q rfl ek_14) dX17_subtract_17 ?_
    refine lv_iload_n hx hb dX17_subtract_20 rfl (lv_at hl 0 rfl) ?_
    obtain ⟨g_15, hf⟩ := grd_some hf
    obtain ⟨kg_15, sg_15, ig_15⟩ := okA_at g_15
    refine va_iald hx hb hK hP k_14 1 (Wd_ai kg_15 sg_15) rfl ig_15 dX17_subtract_21 ?_
    refine lv_isub hx hb dX17_subtract_22 ?_
    refine lv_iload_n hx hb dX17_subtract_23 rfl (lv_at hl 1 rfl) ?_
    refine lv_isub hx hb dX17_subtract_24 ?_
    refine lv_topi (fun v_16 ev_16 => ?_)
    replace hf := lt_at ev_16 hf
    clear ev_16
    refine lv_istore (lv' := [(4, .int v_16), (3, .int p_2), (2, .int p_1), (0, .ref (a h0)), (1, .int x0)]) hx hb dX17_subtract_25 hl (by decide) rfl (fun ls hl2 => ?_)
    replace hl := hl2
    clear hl2
    refine lv_aload_n hx hb dX17_subtract_27 rfl (lv_at hl 3 rfl) ?_
    obtain ⟨k_17, ek_17, hf⟩ := lnk_some hf
    refine va_get (D := (dC, dI)) (ci := 17) (v := .ref (a k_17)) (C := RX17) (T := TX17) (N := 5) hx hb hts iwd_X17_subtract_X17 hown hK hP h0 (Wd_ob kg_11 sg_11 (by decide)) rfl 2 (by decide) (hts _ md_X17_subtract_3) (fun _ h9 => h9) (fl_q rfl ek_17) dX17_subtract_28 ?_
    refine lv_iload_n hx hb dX17_subtract_31 rfl (lv_at hl 1 rfl) ?_
    refine lv_iload hx hb dX17_subtract_32 (lv_at hl 0 rfl) ?_
    refine lv_ldc hx hb hown (hts _ md_X17_subtract_4) dX17_subtract_34 ?_
    refine lv_iand hx hb dX17_subtract_36 ?_
    obtain ⟨g_18, hf⟩ := grd_some hf
    obtain ⟨kg_18, sg_18, ig_18⟩ := okA_at g_18
    refine va_iast hx hb hK hP hD hS k_17 1 (Wd_ai kg_18 sg_18) rfl ig_18 dX17_subtract_37 (fun H_19 locs hP2 hD2 hS2 => ?_)
    rw [Wd_ti sg_18] at hP2 hD2
    obtain ⟨z_20, ez_20⟩ : ∃ w, w = si z_3 k_17 p_2.toNatClampNeg (v_16 &&& 65535) := ⟨_, rfl⟩
    rw [← ez_20] at hP2 hD2
    replace hf := lt_at ez_20 hf
    clear ez_20
    replace hP := hP2
    replace hD := hD2
    replace hS := hS2
    clear hP2 hD2 hS2
    refine lv_iload hx hb dX17_subtract_38 (lv_at hl 0 rfl) ?_
    refine de_cut (h := 48) (fun (x : St × Int32) => [.int x.2]) (fun x ls H locs => lv_has ls 5 [(3, .int p_2), (0, .ref (a h0)), (1, .int x0)] ∧ va_P (dC, dI) vwCl (Wd cy a sh n x.1) H ∧ va_D A (Wd cy a sh n x.1) ∧ va_S A s.heap H locs) (fun x => fn_X17_subtract_B48 F sh n p_2 (fun z9 q2 q3 => fn_X17_subtract_L4 F sh n h0 x0 f_4 z9 q2 q3) x.1 x.2) (z8, r8) ?_ (fun B48 => ?_)
    · intro x ls H locs hI hf
      obtain ⟨z_22, p_21⟩ := x
      obtain ⟨hl2, hP2, hD2, hS2⟩ := hI
      replace hl : lv_has ls 5 [(3, .int p_2), (0, .ref (a h0)), (1, .int x0)] := hl2
      replace hP := hP2
      replace hD := hD2
      replace hS := hS2
      clear hl2 hP2 hD2 hS2
      replace hf := fn_X17_subtract_B48_s hf
      refine W.eq (g2 := F0 m 48 ls [.int p_21]) rfl ?_
      refine lv_istore_n (lv' := [(2, .int p_21), (3, .int p_2), (0, .ref (a h0)), (1, .int x0)]) hx hb dX17_subtract_48 rfl hl (by decide) rfl (fun ls hl2 => ?_)
      replace hl := hl2
      clear hl2
      refine lv_iinc (v := (p_2 + 1)) (lv' := [(3, .int (p_2 + 1)), (2, .int p_21), (0, .ref (a h0)), (1, .int x0)]) hx hb dX17_subtract_49 hl (k := 1) rfl rfl (by decide) rfl (fun ls hl2 => ?_)
      replace hl := hl2
      clear hl2
      refine lv_goto (tgt := 4) hx hb dX17_subtract_52 (by decide) ?_
      exact ih4 (z_22, p_21, (p_2 + 1)) ls H locs ⟨lv_sub hl [0, 1, 2, 3] rfl, hP, hD, hS⟩ hf
    refine lv_if_ge (tgt := 47) hx hb dX17_subtract_40 (by decide) (fun c_23 => ?_) (fun c_23 => ?_)
    · skip
      rw [if_pos c_23] at hf
      refine lv_iconst (v := 0) hx hb dX17_subtract_47 (by decide) ?_
      exact B48 (z_20, 0) ls H_19 locs ⟨lv_sub hl [1, 3, 4] rfl, hP, hD, hS⟩ hf
    · skip
      rw [if_neg c_23] at hf
      refine lv_iconst (v := 1) hx hb dX17_subtract_43 (by decide) ?_
      refine lv_goto (tgt := 48) hx hb dX17_subtract_44 (by decide) ?_
      exact B48 (z_20, 1) ls H_19 locs ⟨lv_sub hl [1, 3, 4] rfl, hP, hD, hS⟩ hf

theorem md_X13_takeReference_1 : (.fieldLink RX13 48 "ResourceLedgerModel$Looker" "fault" "I" : Cond) ∈ wsX13_takeReference := List.mem_of_getElem? (i := 1) rfl
theorem iwd_X13_takeReference_X13 : ∀ w ∈ wsX130, w ∈ wsX13_takeReference := fun _ h => List.mem_cons_of_mem _ (List.mem_append_right _ h)
theorem md_X13_takeReference_2 : (.fieldLink RX13 99 "ResourceLedgerModel$Looker" "taken" "J" : Cond) ∈ wsX13_takeReference := List.mem_of_getElem? (i := 2) rfl
set_option maxHeartbeats 4000000 in
set_option maxRecDepth 100000 in
theorem de_X13_takeReference (l : Launch) (dC : Nat → ClassId) (dI : Nat → Nat → Nat) (cy : Nat → ClassId) (a : Nat → Nat) (sh : Nat → Nat × Nat) (n sz : Nat) (F : Nat) (z : St) (h0 : Nat) (x0 : Int64) (x1 : Int32) {z8 : St} {r8 : Unit} (hf : fn_X13_takeReference F sh n z h0 x0 x1 = some (z8, r8)) : Met l yX13_takeReference wsX13_takeReference ({ frames := 2, cells := 0, slots := 0, locals := 44 }) (va_Pc [.ref (a h0), .long x0, .int x1] (fun U => U.heap.size = sz ∧ va_P (dC, dI) vwCl (Wd cy a sh n z) U.heap ∧ va_K (dC, dI) vwCl (TYS cy) U ∧ va_D (fun _ => True) (Wd cy a sh n z) ∧ NK U)) (va_Qv (fun u : Unit => True) (fun u t => va_P (dC, dI) vwCl (Wd cy a sh n z8) t.heap ∧ va_K (dC, dI) vwCl (TYS cy) t ∧ va_D (va_A (Wd cy a sh n z) sz) (Wd cy a sh n z8)) (va_A (Wd cy a sh n z) sz)) 0 0 (va_A (Wd cy a sh n z) sz) := by
  refine Met.ofW (cc := cX13_takeReference) (maxL := 5) (ret := none) (by decide) rfl ?_
  intro p e s m args below meth c s₁ B hml hv
  obtain ⟨rfl, hsz, hP, hK, hD0, hN⟩ := hv
  have hx := B.exec
  have hb := B.bytes
  have hr := B.returns
  have hts := atoms_spec (ws := wsX13_takeReference) B.pre
  have hown : s.vm.findClass RX13 = some m.cls := findClass_of_methodNamed B.named
  have hlocks := B.notSynchronized
  subst hsz
  have hD := hD0.self (sz := s.heap.size)
  clear hD0
  generalize hAe : va_A (Wd cy a sh n z) s.heap.size = A at hD ⊢
  have hA : ∀ q : Nat, s.heap.size ≤ q → A q := fun q h => by rw [← hAe]; exact Or.inr h
  clear hAe
  have hS : va_S A s.heap s.heap [] := va_S.rf
  have hl := lv_entry ([.ref (a h0), .long x0, .int x1]) (n := 5) (Nat.le_of_ble_eq_true rfl)
  rw [lg_entry_eq]
  generalize (lg_sl ([.ref (a h0), .long x0, .int x1]) ++ List.replicate (5 - (lg_sl ([.ref (a h0), .long x0, .int x1])).length) Slot.unset).toArray = ls at hl ⊢
  replace hl : lv_has ls 5 [(0, .ref (a h0)), (1, .long x0), (3, .int x1)] := hl
  unfold fn_X13_takeReference at hf
  refine de_start hS hP (fun H locs hS hP => ?_)
  refine lv_aload_n hx hb dX13_takeReference_0 rfl (lv_at hl 0 rfl) ?_
  obtain ⟨g_2, hf⟩ := grd_some hf
  obtain ⟨kg_2, sg_2⟩ := okO_at g_2
  obtain ⟨z_1, _u, hfc, hf⟩ := cal_some hf
  have hFc := de_free hD hS hA
  refine va_callv (va_runV (As := []) (rest := []) ⟨hx, hb, hml, hown, hts⟩ (de_X13_take l dC dI cy a sh n H.size F z h0 hfc) (cwV 0 hts gX13_takeReference_X13_take rfl rfl rfl (by decide +kernel) ⟨Nat.le_of_ble_eq_true rfl, Nat.le_of_ble_eq_true rfl⟩) ⟨fun a U g mk q => by obtain ⟨q0, q1, qP, qK, qD, qN⟩ := q; exact ⟨q0, q1, qP, va_K.moved (u := U) (U := U.calling g mk a) (Vm.Alike.refl U.vm) qK, qD, qN.same rfl⟩, va_recv hK hP (ci := 13) (q0 := h0) rfl (Wd_ob kg_2 sg_2 (by decide)), fun U hU hW => ⟨rfl, by rw [hU], by rw [hU]; exact hP, va_K.moved hW.alike hK, hD.weaken (fun _ _ _ _ => trivial), hN.warm hW⟩⟩ rfl rfl hl.1 rfl (lv_room (Nat.le_of_ble_eq_true rfl)) dX13_takeReference_1 ⟨Nat.le_of_ble_eq_true rfl, Nat.le_of_ble_eq_true rfl⟩) hS (fun q _ h => hFc q h) hFc (fun u t H_3 locs ht hvm hw hB hz1 hk1 hS2 => ?_)
  obtain ⟨hP1, -, hD1⟩ := hB
  rw [ht] at hP1
  replace hD := hD1.weaken (fun _ _ _ h => hFc _ h)
  replace hP := hP1
  replace hS := hS2
  clear hP1 hD1 hS2 hFc hfc hz1 hk1 hvm ht
  refine lv_aload_n hx hb dX13_takeReference_4 rfl (lv_at hl 0 rfl) ?_
  refine va_get (D := (dC, dI)) (ci := 13) (v := .int (z_1.1 h0 18)) (C := RX13) (T := TX13) (N := 22) hx hb hts iwd_X13_takeReference_X13 hown hK hP h0 (Wd_ob kg_2 sg_2 (by decide)) rfl 18 (by decide) (hts _ md_X13_takeReference_1) (fun _ h9 => h9) (fl_at (t := 0) rfl) dX13_takeReference_5 ?_
  refine lv_if_eq (tgt := 12) hx hb dX13_takeReference_8 (by decide) (fun c_4 => ?_) (fun c_4 => ?_)
  · skip
    rw [if_pos c_4] at hf
    refine lv_aload_n hx hb dX13_takeReference_12 rfl (lv_at hl 0 rfl) ?_
    refine va_get (D := (dC, dI)) (ci := 13) (v := .long (z_1.2.1 h0 19)) (C := RX13) (T := TX13) (N := 22) hx hb hts iwd_X13_takeReference_X13 hown hK hP h0 (Wd_ob kg_2 sg_2 (by decide)) rfl 19 (by decide) (hts _ md_X13_takeReference_2) (fun _ h9 => h9) (fl_at (t := 1) rfl) dX13_takeReference_13 ?_
    obtain ⟨z_5, r_6, hfc, hf⟩ := cal_some hf
    have hFc := de_free hD hS hA
    refine va_calli (va_runS (As := [.long (z_1.2.1 h0 19)]) (rest := []) ⟨hx, hb, hml, hown, hts⟩ (de_X13_isReference l dC dI cy a sh n H_3.size F z_1 (z_1.2.1 h0 19) hfc) (va_cwS 1 hts gX13_takeReference_X13_isReference rfl rfl rfl (by decide +kernel) ⟨Nat.le_of_ble_eq_true rfl, Nat.le_of_ble_eq_true rfl⟩) ⟨fun a U g mk q => by obtain ⟨q0, q1, qP, qK, qD, qN⟩ := q; exact ⟨q0, q1, qP, va_K.moved (u := U) (U := U.calling g mk a) (Vm.Alike.refl U.vm) qK, qD, qN.same rfl⟩, fun U hU hW => ⟨rfl, by rw [hU], by rw [hU]; exact hP, va_K.moved hW.alike hK, hD.weaken (fun _ _ _ _ => trivial), hN.warm hW⟩⟩ rfl rfl hl.1 rfl (lv_room (Nat.le_of_ble_eq_true rfl)) dX13_takeReference_16 ⟨Nat.le_of_ble_eq_true rfl, Nat.le_of_ble_eq_true rfl⟩) hS (fun q _ h => hFc q h) hFc (fun rr u t H_7 locs ht hvm hw hB hz1 hk1 hS2 => ?_)
    rw [hw]
    clear hw
    obtain ⟨hP1, -, hD1⟩ := hB
    rw [ht] at hP1
    replace hD := hD1.weaken (fun _ _ _ h => hFc _ h)
    replace hP := hP1
    replace hS := hS2
    clear hP1 hD1 hS2 hFc hfc hz1 hk1 hvm ht
    refine de_cut (h := 45) (fun (x : St × Int32) => [.int x.2]) (fun x ls H locs => lv_has ls 5 [(0, .ref (a h0)), (3, .int x1)] ∧ va_P (dC, dI) vwCl (Wd cy a sh n x.1) H ∧ va_D A (Wd cy a sh n x.1) ∧ va_S A s.heap H locs) (fun x => fn_X13_takeReference_B45 F sh n h0 x1 x.1 x.2) (z8, r8) ?_ (fun B45 => ?_)
    · intro x ls H locs hI hf
      obtain ⟨z_9, p_8⟩ := x
      obtain ⟨hl2, hP2, hD2, hS2⟩ := hI
      replace hl : lv_has ls 5 [(0, .ref (a h0)), (3, .int x1)] := hl2
      replace hP := hP2
      replace hD := hD2
      replace hS := hS2
      clear hl2 hP2 hD2 hS2
      replace hf := fn_X13_takeReference_B45_s hf
      refine W.eq (g2 := F0 m 45 ls [.int p_8]) rfl ?_
      refine lv_istore (lv' := [(4, .int p_8), (0, .ref (a h0)), (3, .int x1)]) hx hb dX13_takeReference_45 hl (by decide) rfl (fun ls hl2 => ?_)
      replace hl := hl2
      clear hl2
      refine lv_aload_n hx hb dX13_takeReference_47 rfl (lv_at hl 1 rfl) ?_
      refine lv_iload hx hb dX13_takeReference_48 (lv_at hl 0 rfl) ?_
      refine lv_iconst (v := 3) hx hb dX13_takeReference_50 (by decide) ?_
      obtain ⟨z_10, _u, hfc, hf⟩ := cal_some hf
      have hFc := de_free hD hS hA
      refine va_callv (va_runV (As := [.int p_8, .int 3]) (rest := []) ⟨hx, hb, hml, hown, hts⟩ (de_X13_need l dC dI cy a sh n H.size F z_9 h0 p_8 3 hfc) (cwV 2 hts gX13_takeReference_X13_need rfl rfl rfl (by decide +kernel) ⟨Nat.le_of_ble_eq_true rfl, Nat.le_of_ble_eq_true rfl⟩) ⟨fun a U g mk q => by obtain ⟨q0, q1, qP, qK, qD, qN⟩ := q; exact ⟨q0, q1, qP, va_K.moved (u := U) (U := U.calling g mk a) (Vm.Alike.refl U.vm) qK, qD, qN.same rfl⟩, va_recv hK hP (ci := 13) (q0 := h0) rfl (Wd_ob kg_2 sg_2 (by decide)), fun U hU hW => ⟨rfl, by rw [hU], by rw [hU]; exact hP, va_K.moved hW.alike hK, hD.weaken (fun _ _ _ _ => trivial), hN.warm hW⟩⟩ rfl rfl hl.1 rfl (lv_room (Nat.le_of_ble_eq_true rfl)) dX13_takeReference_51 ⟨Nat.le_of_ble_eq_true rfl, Nat.le_of_ble_eq_true rfl⟩) hS (fun q _ h => hFc q h) hFc (fun u t H_11 locs ht hvm hw hB hz1 hk1 hS2 => ?_)
      obtain ⟨hP1, -, hD1⟩ := hB
      rw [ht] at hP1
      replace hD := hD1.weaken (fun _ _ _ h => hFc _ h)
      replace hP := hP1
      replace hS := hS2
      clear hP1 hD1 hS2 hFc hfc hz1 hk1 hvm ht
      refine lv_aload_n hx hb dX13_takeReference_54 rfl (lv_at hl 1 rfl) ?_
      refine lv_iload_n hx hb dX13_takeReference_55 rfl (lv_at hl 2 rfl) ?_
      refine lv_if_eq (tgt := 69) hx hb dX13_takeReference_56 (by decide) (fun c_12 => ?_) (fun c_12 => ?_)
      · skip
        rw [if_pos c_12] at hf
        refine lv_iconst (v := 1) hx hb dX13_takeReference_69 (by decide) ?_
        refine lv_goto (tgt := 74) hx hb dX13_takeReference_70 (by decide) ?_
        refine lv_bipush (v := 7) hx hb dX13_takeReference_74 (by decide) ?_
        obtain ⟨z_13, _u, hfc, hf⟩ := cal_some hf
        have hFc := de_free hD hS hA
        refine va_callv (va_runV (As := [.int 1, .int 7]) (rest := []) ⟨hx, hb, hml, hown, hts⟩ (de_X13_need l dC dI cy a sh n H_11.size F z_10 h0 1 7 hfc) (cwV 2 hts gX13_takeReference_X13_need rfl rfl rfl (by decide +kernel) ⟨Nat.le_of_ble_eq_true rfl, Nat.le_of_ble_eq_true rfl⟩) ⟨fun a U g mk q => by obtain ⟨q0, q1, qP, qK, qD, qN⟩ := q; exact ⟨q0, q1, qP, va_K.moved (u := U) (U := U.calling g mk a) (Vm.Alike.refl U.vm) qK, qD, qN.same rfl⟩, va_recv hK hP (ci := 13) (q0 := h0) rfl (Wd_ob kg_2 sg_2 (by decide)), fun U hU hW => ⟨rfl, by rw [hU], by rw [hU]; exact hP, va_K.moved hW.alike hK, hD.weaken (fun _ _ _ _ => trivial), hN.warm hW⟩⟩ rfl rfl hl.1 rfl (lv_room (Nat.le_of_ble_eq_true rfl)) dX13_takeReference_76 ⟨Nat.le_of_ble_eq_true rfl, Nat.le_of_ble_eq_true rfl⟩) hS (fun q _ h => hFc q h) hFc (fun u t H_14 locs ht hvm hw hB hz1 hk1 hS2 => ?_)
        obtain ⟨hP1, -, hD1⟩ := hB
        rw [ht] at hP1
        replace hD := hD1.weaken (fun _ _ _ h => hFc _ h)
        replace hP := hP1
        replace hS := hS2
        clear hP1 hD1 hS2 hFc hfc hz1 hk1 hvm ht
        obtain ⟨h8, h9⟩ := ret_some hf
        rw [h8]
        exact W.vret hx hb hr (fun t ht hW => ⟨⟨(), rfl, trivial, by rw [ht]; exact hP, va_K.moved hW.alike hK, hD⟩, hS.F ht⟩) hS.2.2 dX13_takeReference_79
      · skip
        rw [if_neg c_12] at hf
        refine lv_aload_n hx hb dX13_takeReference_59 rfl (lv_at hl 1 rfl) ?_
        refine va_get (D := (dC, dI)) (ci := 13) (v := .long (z_10.2.1 h0 19)) (C := RX13) (T := TX13) (N := 22) hx hb hts iwd_X13_takeReference_X13 hown hK hP h0 (Wd_ob kg_2 sg_2 (by decide)) rfl 19 (by decide) (hts _ md_X13_takeReference_2) (fun _ h9 => h9) (fl_at (t := 1) rfl) dX13_takeReference_60 ?_
        obtain ⟨z_15, r_16, hfc, hf⟩ := cal_some hf
        have hFc := de_free hD hS hA
        refine va_calli (va_runS (As := [.long (z_10.2.1 h0 19)]) (rest := [.ref (a h0)]) ⟨hx, hb, hml, hown, hts⟩ (de_X13_writes l dC dI cy a sh n H_11.size F z_10 (z_10.2.1 h0 19) hfc) (va_cwS 1 hts gX13_takeReference_X13_writes rfl rfl rfl (by decide +kernel) ⟨Nat.le_of_ble_eq_true rfl, Nat.le_of_ble_eq_true rfl⟩) ⟨fun a U g mk q => by obtain ⟨q0, q1, qP, qK, qD, qN⟩ := q; exact ⟨q0, q1, qP, va_K.moved (u := U) (U := U.calling g mk a) (Vm.Alike.refl U.vm) qK, qD, qN.same rfl⟩, fun U hU hW => ⟨rfl, by rw [hU], by rw [hU]; exact hP, va_K.moved hW.alike hK, hD.weaken (fun _ _ _ _ => trivial), hN.warm hW⟩⟩ rfl rfl hl.1 rfl (lv_room (Nat.le_of_ble_eq_true rfl)) dX13_takeReference_63 ⟨Nat.le_of_ble_eq_true rfl, Nat.le_of_ble_eq_true rfl⟩) hS (fun q _ h => hFc q h) hFc (fun rr u t H_17 locs ht hvm hw hB hz1 hk1 hS2 => ?_)
        rw [hw]
        clear hw
        obtain ⟨hP1, -, hD1⟩ := hB
        rw [ht] at hP1
        replace hD := hD1.weaken (fun _ _ _ h => hFc _ h)
        replace hP := hP1
        replace hS := hS2
        clear hP1 hD1 hS2 hFc hfc hz1 hk1 hvm ht
        refine lv_if_eq (tgt := 73) hx hb dX13_takeReference_66 (by decide) (fun c_18 => ?_) (fun c_18 => ?_)
        · skip
          rw [if_pos c_18] at hf
          refine lv_iconst (v := 0) hx hb dX13_takeReference_73 (by decide) ?_
          refine lv_bipush (v := 7) hx hb dX13_takeReference_74 (by decide) ?_
          obtain ⟨z_19, _u, hfc, hf⟩ := cal_some hf
          have hFc := de_free hD hS hA
          refine va_callv (va_runV (As := [.int 0, .int 7]) (rest := []) ⟨hx, hb, hml, hown, hts⟩ (de_X13_need l dC dI cy a sh n H_17.size F z_15 h0 0 7 hfc) (cwV 2 hts gX13_takeReference_X13_need rfl rfl rfl (by decide +kernel) ⟨Nat.le_of_ble_eq_true rfl, Nat.le_of_ble_eq_true rfl⟩) ⟨fun a U g mk q => by obtain ⟨q0, q1, qP, qK, qD, qN⟩ := q; exact ⟨q0, q1, qP, va_K.moved (u := U) (U := U.calling g mk a) (Vm.Alike.refl U.vm) qK, qD, qN.same rfl⟩, va_recv hK hP (ci := 13) (q0 := h0) rfl (Wd_ob kg_2 sg_2 (by decide)), fun U hU hW => ⟨rfl, by rw [hU], by rw [hU]; exact hP, va_K.moved hW.alike hK, hD.weaken (fun _ _ _ _ => trivial), hN.warm hW⟩⟩ rfl rfl hl.1 rfl (lv_room (Nat.le_of_ble_eq_true rfl)) dX13_takeReference_76 ⟨Nat.le_of_ble_eq_true rfl, Nat.le_of_ble_eq_true rfl⟩) hS (fun q _ h => hFc q h) hFc (fun u t H_20 locs ht hvm hw hB hz1 hk1 hS2 => ?_)
          obtain ⟨hP1, -, hD1⟩ := hB
          rw [ht] at hP1
          replace hD := hD1.weaken (fun _ _ _ h => hFc _ h)
          replace hP := hP1
          replace hS := hS2
          clear hP1 hD1 hS2 hFc hfc hz1 hk1 hvm ht
          obtain ⟨h8, h9⟩ := ret_some hf
          rw [h8]
          exact W.vret hx hb hr (fun t ht hW => ⟨⟨(), rfl, trivial, by rw [ht]; exact hP, va_K.moved hW.alike hK, hD⟩, hS.F ht⟩) hS.2.2 dX13_takeReference_79
        · skip
          rw [if_neg c_18] at hf
          refine lv_iconst (v := 1) hx hb dX13_takeReference_69 (by decide) ?_
          refine lv_goto (tgt := 74) hx hb dX13_takeReference_70 (by decide) ?_
          refine lv_bipush (v := 7) hx hb dX13_takeReference_74 (by decide) ?_
          obtain ⟨z_21, _u, hfc, hf⟩ := cal_some hf
          have hFc := de_free hD hS hA
          refine va_callv (va_runV (As := [.int 1, .int 7]) (rest := []) ⟨hx, hb, hml, hown, hts⟩ (de_X13_need l dC dI cy a sh n H_17.size F z_15 h0 1 7 hfc) (cwV 2 hts gX13_takeReference_X13_need rfl rfl rfl (by decide +kernel) ⟨Nat.le_of_ble_eq_true rfl, Nat.le_of_ble_eq_true rfl⟩) ⟨fun a U g mk q => by obtain ⟨q0, q1, qP, qK, qD, qN⟩ := q; exact ⟨q0, q1, qP, va_K.moved (u := U) (U := U.calling g mk a) (Vm.Alike.refl U.vm) qK, qD, qN.same rfl⟩, va_recv hK hP (ci := 13) (q0 := h0) rfl (Wd_ob kg_2 sg_2 (by decide)), fun U hU hW => ⟨rfl, by rw [hU], by rw [hU]; exact hP, va_K.moved hW.alike hK, hD.weaken (fun _ _ _ _ => trivial), hN.warm hW⟩⟩ rfl rfl hl.1 rfl (lv_room (Nat.le_of_ble_eq_true rfl)) dX13_takeReference_76 ⟨Nat.le_of_ble_eq_true rfl, Nat.le_of_ble_eq_true rfl⟩) hS (fun q _ h => hFc q h) hFc (fun u t H_22 locs ht hvm hw hB hz1 hk1 hS2 => ?_)
          obtain ⟨hP1, -, hD1⟩ := hB
          rw [ht] at hP1
          replace hD := hD1.weaken (fun _ _ _ h => hFc _ h)
          replace hP := hP1
          replace hS := hS2
          clear hP1 hD1 hS2 hFc hfc hz1 hk1 hvm ht
          obtain ⟨h8, h9⟩ := ret_some hf
          rw [h8]
          exact W.vret hx hb hr (fun t ht hW => ⟨⟨(), rfl, trivial, by rw [ht]; exact hP, va_K.moved hW.alike hK, hD⟩, hS.F ht⟩) hS.2.2 dX13_takeReference_79
    refine de_cut (h := 44) (fun (x : St) => []) (fun x ls H locs => lv_has ls 5 [(0, .ref (a h0)), (3, .int x1)] ∧ va_P (dC, dI) vwCl (Wd cy a sh n x) H ∧ va_D A (Wd cy a sh n x) ∧ va_S A s.heap H locs) (fun x => fn_X13_takeReference_B44 F sh n h0 x1 x) (z8, r8) ?_ (fun B44 => ?_)
    · intro x ls H locs hI hf
      obtain ⟨z_23, ez⟩ : ∃ w, w = x := ⟨_, rfl⟩
      subst ez
      obtain ⟨hl2, hP2, hD2, hS2⟩ := hI
      replace hl : lv_has ls 5 [(0, .ref (a h0)), (3, .int x1)] := hl2
      replace hP := hP2
      replace hD := hD2
      replace hS := hS2
      clear hl2 hP2 hD2 hS2
      replace hf := fn_X13_takeReference_B44_s hf
      refine W.eq (g2 := F0 m 44 ls []) rfl ?_
      refine lv_iconst (v := 0) hx hb dX13_takeReference_44 (by decide) ?_
      exact B45 (z_23, 0) ls H locs ⟨lv_sub hl [0, 1] rfl, hP, hD, hS⟩ hf
    refine lv_if_eq (tgt := 44) hx hb dX13_takeReference_19 (by decide) (fun c_24 => ?_) (fun c_24 => ?_)
    · skip
      rw [if_pos c_24] at hf
      exact B44 (z_5) ls H_7 locs ⟨lv_sub hl [0, 2] rfl, hP, hD, hS⟩ hf
    · skip
      rw [if_neg c_24] at hf
      refine lv_lload_n hx hb dX13_takeReference_22 rfl (lv_at hl 1 rfl) ?_
      refine lv_lconst (v := 0) hx hb dX13_takeReference_23 (by decide) ?_
      refine W.lcmp hx hb dX13_takeReference_24 ?_
      refine de_cut (h := 40) (fun (x : St) => []) (fun x ls H locs => lv_has ls 5 [(0, .ref (a h0)), (3, .int x1)] ∧ va_P (dC, dI) vwCl (Wd cy a sh n x) H ∧ va_D A (Wd cy a sh n x) ∧ va_S A s.heap H locs) (fun x => fn_X13_takeReference_B40 F sh n h0 x1 x) (z8, r8) ?_ (fun B40 => ?_)
      · intro x ls H locs hI hf
        obtain ⟨z_25, ez⟩ : ∃ w, w = x := ⟨_, rfl⟩
        subst ez
        obtain ⟨hl2, hP2, hD2, hS2⟩ := hI
        replace hl : lv_has ls 5 [(0, .ref (a h0)), (3, .int x1)] := hl2
        replace hP := hP2
        replace hD := hD2
        replace hS := hS2
        clear hl2 hP2 hD2 hS2
        replace hf := fn_X13_takeReference_B40_s hf
        refine W.eq (g2 := F0 m 40 ls []) rfl ?_
        refine lv_iconst (v := 1) hx hb dX13_takeReference_40 (by decide) ?_
        refine lv_goto (tgt := 45) hx hb dX13_takeReference_41 (by decide) ?_
        exact B45 (z_25, 1) ls H locs ⟨lv_sub hl [0, 1] rfl, hP, hD, hS⟩ hf
      refine lv_if_eq (tgt := 40) hx hb dX13_takeReference_25 (by decide) (fun c_26 => ?_) (fun c_26 => ?_)
      · skip
        rw [lg_cmp_eq] at c_26
        rw [if_pos c_26] at hf
        exact B40 (z_5) ls H_7 locs ⟨lv_sub hl [0, 2] rfl, hP, hD, hS⟩ hf
      · skip
        rw [lg_cmp_eq] at c_26
        rw [if_neg c_26] at hf
        refine lv_aload_n hx hb dX13_takeReference_28 rfl (lv_at hl 0 rfl) ?_
        refine va_get (D := (dC, dI)) (ci := 13) (v := .long (z_5.2.1 h0 19)) (C := RX13) (T := TX13) (N := 22) hx hb hts iwd_X13_takeReference_X13 hown hK hP h0 (Wd_ob kg_2 sg_2 (by decide)) rfl 19 (by decide) (hts _ md_X13_takeReference_2) (fun _ h9 => h9) (fl_at (t := 1) rfl) dX13_takeReference_29 ?_
        obtain ⟨z_27, r_28, hfc, hf⟩ := cal_some hf
        have hFc := de_free hD hS hA
        refine va_calll (va_runS (As := [.long (z_5.2.1 h0 19)]) (rest := []) ⟨hx, hb, hml, hown, hts⟩ (de_X13_pointed l dC dI cy a sh n H_7.size F z_5 (z_5.2.1 h0 19) hfc) (va_cwS 1 hts gX13_takeReference_X13_pointed rfl rfl rfl (by decide +kernel) ⟨Nat.le_of_ble_eq_true rfl, Nat.le_of_ble_eq_true rfl⟩) ⟨fun a U g mk q => by obtain ⟨q0, q1, qP, qK, qD, qN⟩ := q; exact ⟨q0, q1, qP, va_K.moved (u := U) (U := U.calling g mk a) (Vm.Alike.refl U.vm) qK, qD, qN.same rfl⟩, fun U hU hW => ⟨rfl, by rw [hU], by rw [hU]; exact hP, va_K.moved hW.alike hK, hD.weaken (fun _ _ _ _ => trivial), hN.warm hW⟩⟩ rfl rfl hl.1 rfl (lv_room (Nat.le_of_ble_eq_true rfl)) dX13_takeReference_32 ⟨Nat.le_of_ble_eq_true rfl, Nat.le_of_ble_eq_true rfl⟩) hS (fun q _ h => hFc q h) hFc (fun rr u t H_29 locs ht hvm hw hB hz1 hk1 hS2 => ?_)
        rw [hw]
        clear hw
        obtain ⟨hP1, -, hD1⟩ := hB
        rw [ht] at hP1
        replace hD := hD1.weaken (fun _ _ _ h => hFc _ h)
        replace hP := hP1
        replace hS := hS2
        clear hP1 hD1 hS2 hFc hfc hz1 hk1 hvm ht
        refine lv_lload_n hx hb dX13_takeReference_35 rfl (lv_at hl 1 rfl) ?_
        refine W.lcmp hx hb dX13_takeReference_36 ?_
        refine lv_if_ne (tgt := 44) hx hb dX13_takeReference_37 (by decide) (fun c_30 => ?_) (fun c_30 => ?_)
        · skip
          rw [lg_cmp_eq] at c_30
          rw [if_neg c_30] at hf
          exact B44 (z_27) ls H_29 locs ⟨lv_sub hl [0, 2] rfl, hP, hD, hS⟩ hf
        · skip
          rw [lg_cmp_eq] at c_30
          rw [if_pos c_30] at hf
          exact B40 (z_27) ls H_29 locs ⟨lv_sub hl [0, 2] rfl, hP, hD, hS⟩ hf
  · skip
    rw [if_neg c_4] at hf
    obtain ⟨h8, h9⟩ := ret_some hf
    rw [h8]
    exact W.vret hx hb hr (fun t ht hW => ⟨⟨(), rfl, trivial, by rw [ht]; exact hP, va_K.moved hW.alike hK, hD⟩, hS.F ht⟩) hS.2.2 dX13_takeReference_11

theorem md_X18_takeAny_1 : (.fieldLink RX18 312 "ResourceLedgerModel" "height" "I" : Cond) ∈ wsX18_takeAny := List.mem_of_getElem? (i := 1) rfl
theorem iwd_X18_takeAny_X18 : ∀ w ∈ wsX180, w ∈ wsX18_takeAny := fun _ h => List.mem_cons_of_mem _ (List.mem_append_right _ h)
theorem md_X18_takeAny_5 : (.fieldLink RX18 309 "ResourceLedgerModel" "stack" "[I" : Cond) ∈ wsX18_takeAny := List.mem_of_getElem? (i := 5) rfl
theorem md_X18_takeAny_6 : (.fieldLink RX18 334 "ResourceLedgerModel" "taken" "I" : Cond) ∈ wsX18_takeAny := List.mem_of_getElem? (i := 6) rfl
theorem md_X18_takeAny_2 : (.fieldLink RX18 325 "ResourceLedgerModel" "bases" "[I" : Cond) ∈ wsX18_takeAny := List.mem_of_getElem? (i := 2) rfl
theorem md_X18_takeAny_3 : (.fieldLink RX18 328 "ResourceLedgerModel" "frames" "I" : Cond) ∈ wsX18_takeAny := List.mem_of_getElem? (i := 3) rfl
theorem md_X18_takeAny_4 : (.fieldLink RX18 315 "ResourceLedgerModel" "refers" "[Z" : Cond) ∈ wsX18_takeAny := List.mem_of_getElem? (i := 4) rfl
set_option maxHeartbeats 4000000 in
set_option maxRecDepth 100000 in
theorem de_X18_takeAny (l : Launch) (dC : Nat → ClassId) (dI : Nat → Nat → Nat) (cy : Nat → ClassId) (a : Nat → Nat) (sh : Nat → Nat × Nat) (n sz : Nat) (F : Nat) (z : St) (h0 : Nat) (x0 : Int32) {z8 : St} {r8 : Int32} (hf : fn_X18_takeAny F sh n z h0 x0 = some (z8, r8)) : Met l yX18_takeAny wsX18_takeAny ({ frames := 2, cells := 0, slots := 0, locals := 43 }) (va_Pc [.ref (a h0), .int x0] (fun U => U.heap.size = sz ∧ va_P (dC, dI) vwCl (Wd cy a sh n z) U.heap ∧ va_K (dC, dI) vwCl (TYS cy) U ∧ va_D (fun _ => True) (Wd cy a sh n z) ∧ NK U)) (va_Qi (fun (r9 : Int32) (u : Unit) => r9 = r8) (fun u t => va_P (dC, dI) vwCl (Wd cy a sh n z8) t.heap ∧ va_K (dC, dI) vwCl (TYS cy) t ∧ va_D (va_A (Wd cy a sh n z) sz) (Wd cy a sh n z8)) (va_A (Wd cy a sh n z) sz)) 0 0 (va_A (Wd cy a sh n z) sz) := by
  refine Met.ofW (cc := cX18_takeAny) (maxL := 2) (ret := (some .int)) (by decide) rfl ?_
  intro p e s m args below meth c s₁ B hml hv
  obtain ⟨rfl, hsz, hP, hK, hD0, hN⟩ := hv
  have hx := B.exec
  have hb := B.bytes
  have hr := B.returns
  have hts := atoms_spec (ws := wsX18_takeAny) B.pre
  have hown : s.vm.findClass RX18 = some m.cls := findClass_of_methodNamed B.named
  have hlocks := B.notSynchronized
  subst hsz
  have hD := hD0.self (sz := s.heap.size)
  clear hD0
  generalize hAe : va_A (Wd cy a sh n z) s.heap.size = A at hD ⊢
  have hA : ∀ q : Nat, s.heap.size ≤ q → A q := fun q h => by rw [← hAe]; exact Or.inr h
  clear hAe
  have hS : va_S A s.heap s.heap [] := va_S.rf
  have hl := lv_entry ([.ref (a h0), .int x0]) (n := 2) (Nat.le_of_ble_eq_true rfl)
  rw [lg_entry_eq]
  generalize (lg_sl ([.ref (a h0), .int x0]) ++ List.replicate (2 - (lg_sl ([.ref (a h0), .int x0])).length) Slot.unset).toArray = ls at hl ⊢
  replace hl : lv_has ls 2 [(0, .ref (a h0)), (1, .int x0)] := hl
  unfold fn_X18_takeAny at hf
  refine de_start hS hP (fun H locs hS hP => ?_)
  refine lv_aload_n hx hb dX18_takeAny_0 rfl (lv_at hl 0 rfl) ?_
  obtain ⟨g_3, hf⟩ := grd_some hf
  obtain ⟨kg_3, sg_3⟩ := okO_at g_3
  obtain ⟨z_1, r_2, hfc, hf⟩ := cal_some hf
  have hFc := de_free hD hS hA
  refine va_calli (va_runV (As := []) (rest := []) ⟨hx, hb, hml, hown, hts⟩ (de_X18_goesOn l dC dI cy a sh n H.size F z h0 hfc) (cwV 0 hts gX18_takeAny_X18_goesOn rfl rfl rfl (by decide +kernel) ⟨Nat.le_of_ble_eq_true rfl, Nat.le_of_ble_eq_true rfl⟩) ⟨fun a U g mk q => by obtain ⟨q0, q1, qP, qK, qD, qN⟩ := q; exact ⟨q0, q1, qP, va_K.moved (u := U) (U := U.calling g mk a) (Vm.Alike.refl U.vm) qK, qD, qN.same rfl⟩, va_recv hK hP (ci := 18) (q0 := h0) rfl (Wd_ob kg_3 sg_3 (by decide)), fun U hU hW => ⟨rfl, by rw [hU], by rw [hU]; exact hP, va_K.moved hW.alike hK, hD.weaken (fun _ _ _ _ => trivial), hN.warm hW⟩⟩ rfl rfl hl.1 rfl (lv_room (Nat.le_of_ble_eq_true rfl)) dX18_takeAny_1 ⟨Nat.le_of_ble_eq_true rfl, Nat.le_of_ble_eq_true rfl⟩) hS (fun q _ h => hFc q h) hFc (fun rr u t H_4 locs ht hvm hw hB hz1 hk1 hS2 => ?_)
  rw [hw]
  clear hw
  obtain ⟨hP1, -, hD1⟩ := hB
  rw [ht] at hP1
  replace hD := hD1.weaken (fun _ _ _ h => hFc _ h)
  replace hP := hP1
  replace hS := hS2
  clear hP1 hD1 hS2 hFc hfc hz1 hk1 hvm ht
  refine de_cut (h := 44) (fun (x : St) => []) (fun x ls H locs => lv_has ls 2 [(0, .ref (a h0))] ∧ va_P (dC, dI) vwCl (Wd cy a sh n x) H ∧ va_D A (Wd cy a sh n x) ∧ va_S A s.heap H locs) (fun x => fn_X18_takeAny_B44 F sh n h0 x) (z8, r8) ?_ (fun B44 => ?_)
  · intro x ls H locs hI hf
    obtain ⟨z_5, ez⟩ : ∃ w, w = x := ⟨_, rfl⟩
    subst ez
    obtain ⟨hl2, hP2, hD2, hS2⟩ := hI
    replace hl : lv_has ls 2 [(0, .ref (a h0))] := hl2
    replace hP := hP2
    replace hD := hD2
    replace hS := hS2
    clear hl2 hP2 hD2 hS2
    replace hf := fn_X18_takeAny_B44_s hf
    refine W.eq (g2 := F0 m 44 ls []) rfl ?_
    refine lv_aload_n hx hb dX18_takeAny_44 rfl (lv_at hl 0 rfl) ?_
    obtain ⟨z_6, r_7, hfc, hf⟩ := cal_some hf
    have hFc := de_free hD hS hA
    refine va_calli (va_runV (As := []) (rest := []) ⟨hx, hb, hml, hown, hts⟩ (de_X18_goesOn l dC dI cy a sh n H.size F z_5 h0 hfc) (cwV 0 hts gX18_takeAny_X18_goesOn rfl rfl rfl (by decide +kernel) ⟨Nat.le_of_ble_eq_true rfl, Nat.le_of_ble_eq_true rfl⟩) ⟨fun a U g mk q => by obtain ⟨q0, q1, qP, qK, qD, qN⟩ := q; exact ⟨q0, q1, qP, va_K.moved (u := U) (U := U.calling g mk a) (Vm.Alike.refl U.vm) qK, qD, qN.same rfl⟩, va_recv hK hP (ci := 18) (q0 := h0) rfl (Wd_ob kg_3 sg_3 (by decide)), fun U hU hW => ⟨rfl, by rw [hU], by rw [hU]; exact hP, va_K.moved hW.alike hK, hD.weaken (fun _ _ _ _ => trivial), hN.warm hW⟩⟩ rfl rfl hl.1 rfl (lv_room (Nat.le_of_ble_eq_true rfl)) dX18_takeAny_45 ⟨Nat.le_of_ble_eq_true rfl, Nat.le_of_ble_eq_true rfl⟩) hS (fun q _ h => hFc q h) hFc (fun rr u t H_8 locs ht hvm hw hB hz1 hk1 hS2 => ?_)
    rw [hw]
    clear hw
    obtain ⟨hP1, -, hD1⟩ := hB
    rw [ht] at hP1
    replace hD := hD1.weaken (fun _ _ _ h => hFc _ h)
    replace hP := hP1
    replace hS := hS2
    clear hP1 hD1 hS2 hFc hfc hz1 hk1 hvm ht
    refine lv_if_ne (tgt := 53) hx hb dX18_takeAny_48 (by decide) (fun c_9 => ?_) (fun c_9 => ?_)
    · skip
      rw [if_neg c_9] at hf
      refine lv_aload_n hx hb dX18_takeAny_53 rfl (lv_at hl 0 rfl) ?_
      refine lv_dup hx hb dX18_takeAny_54 rfl ?_
      refine va_get (D := (dC, dI)) (ci := 18) (v := .int (z_6.1 h0 45)) (C := RX18) (T := TX18) (N := 78) hx hb hts iwd_X18_takeAny_X18 hown hK hP h0 (Wd_ob kg_3 sg_3 (by decide)) rfl 45 (by decide) (hts _ md_X18_takeAny_1) (fun _ h9 => h9) (fl_at (t := 0) rfl) dX18_takeAny_55 ?_
      refine lv_iconst (v := 1) hx hb dX18_takeAny_58 (by decide) ?_
      refine lv_isub hx hb dX18_takeAny_59 ?_
      refine va_put (D := (dC, dI)) (ci := 18) (v := .int ((z_6.1 h0 45) - 1)) (ty := .int) (C := RX18) (T := TX18) (N := 78) hx hb hts iwd_X18_takeAny_X18 tyX18 tyX18_ok nmX18 hown hK hP hD hS h0 (Wd_ob kg_3 sg_3 (by decide)) rfl 45 (by decide) (hts _ md_X18_takeAny_1) (fun _ h9 => h9) rfl (by decide +kernel) rfl rfl (by rw [fl_len]; decide) dX18_takeAny_60 (fun H_10 locs hP2 hD2 hS2 => ?_)
      rw [Wd_si sg_3 (by decide) rfl] at hP2 hD2
      obtain ⟨z_11, ez_11⟩ : ∃ w, w = si z_6 h0 45 ((z_6.1 h0 45) - 1) := ⟨_, rfl⟩
      rw [← ez_11] at hP2 hD2
      replace hf := lt_at ez_11 hf
      clear ez_11
      replace hP := hP2
      replace hD := hD2
      replace hS := hS2
      clear hP2 hD2 hS2
      refine lv_aload_n hx hb dX18_takeAny_63 rfl (lv_at hl 0 rfl) ?_
      refine lv_aload_n hx hb dX18_takeAny_64 rfl (lv_at hl 0 rfl) ?_
      obtain ⟨k_12, ek_12, hf⟩ := lnk_some hf
      refine va_get (D := (dC, dI)) (ci := 18) (v := .ref (a k_12)) (C := RX18) (T := TX18) (N := 78) hx hb hts iwd_X18_takeAny_X18 hown hK hP h0 (Wd_ob kg_3 sg_3 (by decide)) rfl 43 (by decide) (hts _ md_X18_takeAny_5) (fun _ h9 => h9) (fl_q rfl ek_12) dX18_takeAny_65 ?_
      refine lv_aload_n hx hb dX18_takeAny_68 rfl (lv_at hl 0 rfl) ?_
      refine va_get (D := (dC, dI)) (ci := 18) (v := .int (z_11.1 h0 45)) (C := RX18) (T := TX18) (N := 78) hx hb hts iwd_X18_takeAny_X18 hown hK hP h0 (Wd_ob kg_3 sg_3 (by decide)) rfl 45 (by decide) (hts _ md_X18_takeAny_1) (fun _ h9 => h9) (fl_at (t := 0) rfl) dX18_takeAny_69 ?_
      obtain ⟨g_13, hf⟩ := grd_some hf
      obtain ⟨kg_13, sg_13, ig_13⟩ := okA_at g_13
      refine va_iald hx hb hK hP k_12 1 (Wd_ai kg_13 sg_13) rfl ig_13 dX18_takeAny_72 ?_
      refine va_put (D := (dC, dI)) (ci := 18) (v := .int (z_11.1 k_12 (z_11.1 h0 45).toNatClampNeg)) (ty := .int) (C := RX18) (T := TX18) (N := 78) hx hb hts iwd_X18_takeAny_X18 tyX18 tyX18_ok nmX18 hown hK hP hD hS h0 (Wd_ob kg_3 sg_3 (by decide)) rfl 46 (by decide) (hts _ md_X18_takeAny_6) (fun _ h9 => h9) rfl (by decide +kernel) rfl rfl (by rw [fl_len]; decide) dX18_takeAny_73 (fun H_14 locs hP2 hD2 hS2 => ?_)
      rw [Wd_si sg_3 (by decide) rfl] at hP2 hD2
      obtain ⟨z_15, ez_15⟩ : ∃ w, w = si z_11 h0 46 (z_11.1 k_12 (z_11.1 h0 45).toNatClampNeg) := ⟨_, rfl⟩
      rw [← ez_15] at hP2 hD2
      replace hf := lt_at ez_15 hf
      clear ez_15
      replace hP := hP2
      replace hD := hD2
      replace hS := hS2
      clear hP2 hD2 hS2
      refine lv_aload_n hx hb dX18_takeAny_76 rfl (lv_at hl 0 rfl) ?_
      refine va_get (D := (dC, dI)) (ci := 18) (v := .int (z_15.1 h0 46)) (C := RX18) (T := TX18) (N := 78) hx hb hts iwd_X18_takeAny_X18 hown hK hP h0 (Wd_ob kg_3 sg_3 (by decide)) rfl 46 (by decide) (hts _ md_X18_takeAny_6) (fun _ h9 => h9) (fl_at (t := 0) rfl) dX18_takeAny_77 ?_
      obtain ⟨h8, h9⟩ := ret_some hf
      rw [h8, h9]
      exact W.iret (v := (z_15.1 h0 46)) hx hb hr (fun t ht hW => ⟨⟨(z_15.1 h0 46), (), rfl, rfl, by rw [ht]; exact hP, va_K.moved hW.alike hK, hD⟩, hS.F ht⟩) hS.2.2 dX18_takeAny_80
    · skip
      rw [if_pos c_9] at hf
      refine lv_iconst (v := 0) hx hb dX18_takeAny_51 (by decide) ?_
      obtain ⟨h8, h9⟩ := ret_some hf
      rw [h8, h9]
      exact W.iret (v := 0) hx hb hr (fun t ht hW => ⟨⟨0, (), rfl, rfl, by rw [ht]; exact hP, va_K.moved hW.alike hK, hD⟩, hS.F ht⟩) hS.2.2 dX18_takeAny_52
  refine lv_if_eq (tgt := 44) hx hb dX18_takeAny_4 (by decide) (fun c_16 => ?_) (fun c_16 => ?_)
  · skip
    rw [if_pos c_16] at hf
    exact B44 (z_1) ls H_4 locs ⟨lv_sub hl [0] rfl, hP, hD, hS⟩ hf
  · skip
    rw [if_neg c_16] at hf
    refine lv_aload_n hx hb dX18_takeAny_7 rfl (lv_at hl 0 rfl) ?_
    refine va_get (D := (dC, dI)) (ci := 18) (v := .int (z_1.1 h0 45)) (C := RX18) (T := TX18) (N := 78) hx hb hts iwd_X18_takeAny_X18 hown hK hP h0 (Wd_ob kg_3 sg_3 (by decide)) rfl 45 (by decide) (hts _ md_X18_takeAny_1) (fun _ h9 => h9) (fl_at (t := 0) rfl) dX18_takeAny_8 ?_
    refine lv_aload_n hx hb dX18_takeAny_11 rfl (lv_at hl 0 rfl) ?_
    obtain ⟨k_17, ek_17, hf⟩ := lnk_some hf
    refine va_get (D := (dC, dI)) (ci := 18) (v := .ref (a k_17)) (C := RX18) (T := TX18) (N := 78) hx hb hts iwd_X18_takeAny_X18 hown hK hP h0 (Wd_ob kg_3 sg_3 (by decide)) rfl 40 (by decide) (hts _ md_X18_takeAny_2) (fun _ h9 => h9) (fl_q rfl ek_17) dX18_takeAny_12 ?_
    refine lv_aload_n hx hb dX18_takeAny_15 rfl (lv_at hl 0 rfl) ?_
    refine va_get (D := (dC, dI)) (ci := 18) (v := .int (z_1.1 h0 36)) (C := RX18) (T := TX18) (N := 78) hx hb hts iwd_X18_takeAny_X18 hown hK hP h0 (Wd_ob kg_3 sg_3 (by decide)) rfl 36 (by decide) (hts _ md_X18_takeAny_3) (fun _ h9 => h9) (fl_at (t := 0) rfl) dX18_takeAny_16 ?_
    refine lv_iconst (v := 1) hx hb dX18_takeAny_19 (by decide) ?_
    refine lv_isub hx hb dX18_takeAny_20 ?_
    obtain ⟨g_18, hf⟩ := grd_some hf
    obtain ⟨kg_18, sg_18, ig_18⟩ := okA_at g_18
    refine va_iald hx hb hK hP k_17 1 (Wd_ai kg_18 sg_18) rfl ig_18 dX18_takeAny_21 ?_
    refine de_cut (h := 40) (fun (x : St) => []) (fun x ls H locs => lv_has ls 2 [(0, .ref (a h0))] ∧ va_P (dC, dI) vwCl (Wd cy a sh n x) H ∧ va_D A (Wd cy a sh n x) ∧ va_S A s.heap H locs) (fun x => fn_X18_takeAny_B40 F sh n h0 x) (z8, r8) ?_ (fun B40 => ?_)
    · intro x ls H locs hI hf
      obtain ⟨z_19, ez⟩ : ∃ w, w = x := ⟨_, rfl⟩
      subst ez
      obtain ⟨hl2, hP2, hD2, hS2⟩ := hI
      replace hl : lv_has ls 2 [(0, .ref (a h0))] := hl2
      replace hP := hP2
      replace hD := hD2
      replace hS := hS2
      clear hl2 hP2 hD2 hS2
      replace hf := fn_X18_takeAny_B40_s hf
      refine W.eq (g2 := F0 m 40 ls []) rfl ?_
      refine lv_aload_n hx hb dX18_takeAny_40 rfl (lv_at hl 0 rfl) ?_
      obtain ⟨z_20, _u, hfc, hf⟩ := cal_some hf
      have hFc := de_free hD hS hA
      refine va_callv (va_runV (As := []) (rest := []) ⟨hx, hb, hml, hown, hts⟩ (de_X18_slip l dC dI cy a sh n H.size F z_19 h0 hfc) (cwV 0 hts gX18_takeAny_X18_slip rfl rfl rfl (by decide +kernel) ⟨Nat.le_of_ble_eq_true rfl, Nat.le_of_ble_eq_true rfl⟩) ⟨fun a U g mk q => by obtain ⟨q0, q1, qP, qK, qD, qN⟩ := q; exact ⟨q0, q1, qP, va_K.moved (u := U) (U := U.calling g mk a) (Vm.Alike.refl U.vm) qK, qD, qN.same rfl⟩, va_recv hK hP (ci := 18) (q0 := h0) rfl (Wd_ob kg_3 sg_3 (by decide)), fun U hU hW => ⟨rfl, by rw [hU], by rw [hU]; exact hP, va_K.moved hW.alike hK, hD.weaken (fun _ _ _ _ => trivial), hN.warm hW⟩⟩ rfl rfl hl.1 rfl (lv_room (Nat.le_of_ble_eq_true rfl)) dX18_takeAny_41 ⟨Nat.le_of_ble_eq_true rfl, Nat.le_of_ble_eq_true rfl⟩) hS (fun q _ h => hFc q h) hFc (fun u t H_21 locs ht hvm hw hB hz1 hk1 hS2 => ?_)
      obtain ⟨hP1, -, hD1⟩ := hB
      rw [ht] at hP1
      replace hD := hD1.weaken (fun _ _ _ h => hFc _ h)
      replace hP := hP1
      replace hS := hS2
      clear hP1 hD1 hS2 hFc hfc hz1 hk1 hvm ht
      exact B44 (z_20) ls H_21 locs ⟨lv_sub hl [0] rfl, hP, hD, hS⟩ hf
    refine lv_icmp_eq (tgt := 40) hx hb dX18_takeAny_22 (by decide) (fun c_22 => ?_) (fun c_22 => ?_)
    · skip
      rw [if_pos c_22] at hf
      exact B40 (z_1) ls H_4 locs ⟨lv_sub hl [0] rfl, hP, hD, hS⟩ hf
    · skip
      rw [if_neg c_22] at hf
      refine lv_aload_n hx hb dX18_takeAny_25 rfl (lv_at hl 0 rfl) ?_
      obtain ⟨k_23, ek_23, hf⟩ := lnk_some hf
      refine va_get (D := (dC, dI)) (ci := 18) (v := .ref (a k_23)) (C := RX18) (T := TX18) (N := 78) hx hb hts iwd_X18_takeAny_X18 hown hK hP h0 (Wd_ob kg_3 sg_3 (by decide)) rfl 44 (by decide) (hts _ md_X18_takeAny_4) (fun _ h9 => h9) (fl_q rfl ek_23) dX18_takeAny_26 ?_
      refine lv_aload_n hx hb dX18_takeAny_29 rfl (lv_at hl 0 rfl) ?_
      refine va_get (D := (dC, dI)) (ci := 18) (v := .int (z_1.1 h0 45)) (C := RX18) (T := TX18) (N := 78) hx hb hts iwd_X18_takeAny_X18 hown hK hP h0 (Wd_ob kg_3 sg_3 (by decide)) rfl 45 (by decide) (hts _ md_X18_takeAny_1) (fun _ h9 => h9) (fl_at (t := 0) rfl) dX18_takeAny_30 ?_
      refine lv_iconst (v := 1) hx hb dX18_takeAny_33 (by decide) ?_
      refine lv_isub hx hb dX18_takeAny_34 ?_
      obtain ⟨g_24, hf⟩ := grd_some hf
      obtain ⟨kg_24, sg_24, ig_24⟩ := okA_at g_24
      refine va_zald hx hb hK hP k_23 3 (Wd_az kg_24 sg_24) rfl ig_24 dX18_takeAny_35 ?_
      refine lv_iload_n hx hb dX18_takeAny_36 rfl (lv_at hl 1 rfl) ?_
      refine lv_icmp_eq (tgt := 44) hx hb dX18_takeAny_37 (by decide) (fun c_25 => ?_) (fun c_25 => ?_)
      · skip
        rw [if_pos c_25] at hf
        exact B44 (z_1) ls H_4 locs ⟨lv_sub hl [0] rfl, hP, hD, hS⟩ hf
      · skip
        rw [if_neg c_25] at hf
        exact B40 (z_1) ls H_4 locs ⟨lv_sub hl [0] rfl, hP, hD, hS⟩ hf

set_option maxHeartbeats 4000000 in
set_option maxRecDepth 100000 in
theorem de_X5_sameLists (l : Launch) (dC : Nat → ClassId) (dI : Nat → Nat → Nat) (cy : Nat → ClassId) (a : Nat → Nat) (sh : Nat → Nat × Nat) (n sz : Nat) (F : Nat) (z : St) (h0 : Nat) (x0 : Int32) (x1 : Nat) (x2 : Int32) {z8 : St} {r8 : Int32} (hf : fn_X5_sameLists F sh n z h0 x0 x1 x2 = some (z8, r8)) : Met l yX5_sameLists wsX5_sameLists ({ frames := 2, cells := 0, slots := 0, locals := 49 }) (va_Pc [.ref (a h0), .int x0, .ref (a x1), .int x2] (fun U => U.heap.size = sz ∧ va_P (dC, dI) vwCl (Wd cy a sh n z) U.heap ∧ va_K (dC, dI) vwCl (TYS cy) U ∧ va_D (fun _ => True) (Wd cy a sh n z) ∧ NK U)) (va_Qi (fun (r9 : Int32) (u : Unit) => r9 = r8) (fun u t => va_P (dC, dI) vwCl (Wd cy a sh n z8) t.heap ∧ va_K (dC, dI) vwCl (TYS cy) t ∧ va_D (va_A (Wd cy a sh n z) sz) (Wd cy a sh n z8)) (va_A (Wd cy a sh n z) sz)) 0 0 (va_A (Wd cy a sh n z) sz) := by
  refine Met.ofW (cc := cX5_sameLists) (maxL := 5) (ret := (some .boolean)) (by decide) rfl ?_
  intro p e s m args below meth c s₁ B hml hv
  obtain ⟨rfl, hsz, hP, hK, hD0, hN⟩ := hv
  have hx := B.exec
  have hb := B.bytes
  have hr := B.returns
  have hts := atoms_spec (ws := wsX5_sameLists) B.pre
  have hown : s.vm.findClass RX5 = some m.cls := findClass_of_methodNamed B.named
  have hlocks := B.notSynchronized
  subst hsz
  have hD := hD0.self (sz := s.heap.size)
  clear hD0
  generalize hAe : va_A (Wd cy a sh n z) s.heap.size = A at hD ⊢
  have hA : ∀ q : Nat, s.heap.size ≤ q → A q := fun q h => by rw [← hAe]; exact Or.inr h
  clear hAe
  have hS : va_S A s.heap s.heap [] := va_S.rf
  have hl := lv_entry ([.ref (a h0), .int x0, .ref (a x1), .int x2]) (n := 5) (Nat.le_of_ble_eq_true rfl)
  rw [lg_entry_eq]
  generalize (lg_sl ([.ref (a h0), .int x0, .ref (a x1), .int x2]) ++ List.replicate (5 - (lg_sl ([.ref (a h0), .int x0, .ref (a x1), .int x2])).length) Slot.unset).toArray = ls at hl ⊢
  replace hl : lv_has ls 5 [(0, .ref (a h0)), (1, .int x0), (2, .ref (a x1)), (3, .int x2)] := hl
  unfold fn_X5_sameLists at hf
  refine de_start hS hP (fun H locs hS hP => ?_)
  refine lv_aload_n hx hb dX5_sameLists_0 rfl (lv_at hl 0 rfl) ?_
  refine lv_iload_n hx hb dX5_sameLists_1 rfl (lv_at hl 1 rfl) ?_
  obtain ⟨g_3, hf⟩ := grd_some hf
  obtain ⟨kg_3, sg_3⟩ := okO_at g_3
  obtain ⟨z_1, r_2, hfc, hf⟩ := cal_some hf
  have hFc := de_free hD hS hA
  refine va_calli (va_runV (As := [.int x0]) (rest := []) ⟨hx, hb, hml, hown, hts⟩ (de_X5_takes l dC dI cy a sh n H.size F z h0 x0 hfc) (cwV 1 hts gX5_sameLists_X5_takes rfl rfl rfl (by decide +kernel) ⟨Nat.le_of_ble_eq_true rfl, Nat.le_of_ble_eq_true rfl⟩) ⟨fun a U g mk q => by obtain ⟨q0, q1, qP, qK, qD, qN⟩ := q; exact ⟨q0, q1, qP, va_K.moved (u := U) (U := U.calling g mk a) (Vm.Alike.refl U.vm) qK, qD, qN.same rfl⟩, va_recv hK hP (ci := 5) (q0 := h0) rfl (Wd_ob kg_3 sg_3 (by decide)), fun U hU hW => ⟨rfl, by rw [hU], by rw [hU]; exact hP, va_K.moved hW.alike hK, hD.weaken (fun _ _ _ _ => trivial), hN.warm hW⟩⟩ rfl rfl hl.1 rfl (lv_room (Nat.le_of_ble_eq_true rfl)) dX5_sameLists_2 ⟨Nat.le_of_ble_eq_true rfl, Nat.le_of_ble_eq_true rfl⟩) hS (fun q _ h => hFc q h) hFc (fun rr u t H_4 locs ht hvm hw hB hz1 hk1 hS2 => ?_)
  rw [hw]
  clear hw
  obtain ⟨hP1, -, hD1⟩ := hB
  rw [ht] at hP1
  replace hD := hD1.weaken (fun _ _ _ h => hFc _ h)
  replace hP := hP1
  replace hS := hS2
  clear hP1 hD1 hS2 hFc hfc hz1 hk1 hvm ht
  refine lv_aload_n hx hb dX5_sameLists_5 rfl (lv_at hl 2 rfl) ?_
  refine lv_iload_n hx hb dX5_sameLists_6 rfl (lv_at hl 3 rfl) ?_
  obtain ⟨g_7, hf⟩ := grd_some hf
  obtain ⟨kg_7, sg_7⟩ := okO_at g_7
  obtain ⟨z_5, r_6, hfc, hf⟩ := cal_some hf
  have hFc := de_free hD hS hA
  refine va_calli (va_runV (As := [.int x2]) (rest := [.int r_2]) ⟨hx, hb, hml, hown, hts⟩ (de_X5_takes l dC dI cy a sh n H_4.size F z_1 x1 x2 hfc) (cwV 1 hts gX5_sameLists_X5_takes rfl rfl rfl (by decide +kernel) ⟨Nat.le_of_ble_eq_true rfl, Nat.le_of_ble_eq_true rfl⟩) ⟨fun a U g mk q => by obtain ⟨q0, q1, qP, qK, qD, qN⟩ := q; exact ⟨q0, q1, qP, va_K.moved (u := U) (U := U.calling g mk a) (Vm.Alike.refl U.vm) qK, qD, qN.same rfl⟩, va_recv hK hP (ci := 5) (q0 := x1) rfl (Wd_ob kg_7 sg_7 (by decide)), fun U hU hW => ⟨rfl, by rw [hU], by rw [hU]; exact hP, va_K.moved hW.alike hK, hD.weaken (fun _ _ _ _ => trivial), hN.warm hW⟩⟩ rfl rfl hl.1 rfl (lv_room (Nat.le_of_ble_eq_true rfl)) dX5_sameLists_7 ⟨Nat.le_of_ble_eq_true rfl, Nat.le_of_ble_eq_true rfl⟩) hS (fun q _ h => hFc q h) hFc (fun rr u t H_8 locs ht hvm hw hB hz1 hk1 hS2 => ?_)
  rw [hw]
  clear hw
  obtain ⟨hP1, -, hD1⟩ := hB
  rw [ht] at hP1
  replace hD := hD1.weaken (fun _ _ _ h => hFc _ h)
  replace hP := hP1
  replace hS := hS2
  clear hP1 hD1 hS2 hFc hfc hz1 hk1 hvm ht
  refine lv_icmp_ne (tgt := 26) hx hb dX5_sameLists_10 (by decide) (fun c_9 => ?_) (fun c_9 => ?_)
  · skip
    rw [if_neg c_9] at hf
    refine lv_iconst (v := 0) hx hb dX5_sameLists_26 (by decide) ?_
    obtain ⟨h8, h9⟩ := ret_some hf
    rw [h8, h9]
    exact W.zret (v := 0) hx hb hr rfl (fun t ht hW => ⟨⟨0, (), rfl, rfl, by rw [ht]; exact hP, va_K.moved hW.alike hK, hD⟩, hS.F ht⟩) hS.2.2 dX5_sameLists_27
  · skip
    rw [if_pos c_9] at hf
    refine lv_aload_n hx hb dX5_sameLists_13 rfl (lv_at hl 0 rfl) ?_
    refine lv_iload_n hx hb dX5_sameLists_14 rfl (lv_at hl 1 rfl) ?_
    obtain ⟨z_10, r_11, hfc, hf⟩ := cal_some hf
    have hFc := de_free hD hS hA
    refine va_calli (va_runV (As := [.int x0]) (rest := []) ⟨hx, hb, hml, hown, hts⟩ (de_X5_gives l dC dI cy a sh n H_8.size F z_5 h0 x0 hfc) (cwV 1 hts gX5_sameLists_X5_gives rfl rfl rfl (by decide +kernel) ⟨Nat.le_of_ble_eq_true rfl, Nat.le_of_ble_eq_true rfl⟩) ⟨fun a U g mk q => by obtain ⟨q0, q1, qP, qK, qD, qN⟩ := q; exact ⟨q0, q1, qP, va_K.moved (u := U) (U := U.calling g mk a) (Vm.Alike.refl U.vm) qK, qD, qN.same rfl⟩, va_recv hK hP (ci := 5) (q0 := h0) rfl (Wd_ob kg_3 sg_3 (by decide)), fun U hU hW => ⟨rfl, by rw [hU], by rw [hU]; exact hP, va_K.moved hW.alike hK, hD.weaken (fun _ _ _ _ => trivial), hN.warm hW⟩⟩ rfl rfl hl.1 rfl (lv_room (Nat.le_of_ble_eq_true rfl)) dX5_sameLists_15 ⟨Nat.le_of_ble_eq_true rfl, Nat.le_of_ble_eq_true rfl⟩) hS (fun q _ h => hFc q h) hFc (fun rr u t H_12 locs ht hvm hw hB hz1 hk1 hS2 => ?_)
    rw [hw]
    clear hw
    obtain ⟨hP1, -, hD1⟩ := hB
    rw [ht] at hP1
    replace hD := hD1.weaken (fun _ _ _ h => hFc _ h)
    replace hP := hP1
    replace hS := hS2
    clear hP1 hD1 hS2 hFc hfc hz1 hk1 hvm ht
    refine lv_aload_n hx hb dX5_sameLists_18 rfl (lv_at hl 2 rfl) ?_
    refine lv_iload_n hx hb dX5_sameLists_19 rfl (lv_at hl 3 rfl) ?_
    obtain ⟨z_13, r_14, hfc, hf⟩ := cal_some hf
    have hFc := de_free hD hS hA
    refine va_calli (va_runV (As := [.int x2]) (rest := [.int r_11]) ⟨hx, hb, hml, hown, hts⟩ (de_X5_gives l dC dI cy a sh n H_12.size F z_10 x1 x2 hfc) (cwV 1 hts gX5_sameLists_X5_gives rfl rfl rfl (by decide +kernel) ⟨Nat.le_of_ble_eq_true rfl, Nat.le_of_ble_eq_true rfl⟩) ⟨fun a U g mk q => by obtain ⟨q0, q1, qP, qK, qD, qN⟩ := q; exact ⟨q0, q1, qP, va_K.moved (u := U) (U := U.calling g mk a) (Vm.Alike.refl U.vm) qK, qD, qN.same rfl⟩, va_recv hK hP (ci := 5) (q0 := x1) rfl (Wd_ob kg_7 sg_7 (by decide)), fun U hU hW => ⟨rfl, by rw [hU], by rw [hU]; exact hP, va_K.moved hW.alike hK, hD.weaken (fun _ _ _ _ => trivial), hN.warm hW⟩⟩ rfl rfl hl.1 rfl (lv_room (Nat.le_of_ble_eq_true rfl)) dX5_sameLists_20 ⟨Nat.le_of_ble_eq_true rfl, Nat.le_of_ble_eq_true rfl⟩) hS (fun q _ h => hFc q h) hFc (fun rr u t H_15 locs ht hvm hw hB hz1 hk1 hS2 => ?_)
    rw [hw]
    clear hw
    obtain ⟨hP1, -, hD1⟩ := hB
    rw [ht] at hP1
    replace hD := hD1.weaken (fun _ _ _ h => hFc _ h)
    replace hP := hP1
    replace hS := hS2
    clear hP1 hD1 hS2 hFc hfc hz1 hk1 hvm ht
    refine lv_icmp_eq (tgt := 28) hx hb dX5_sameLists_23 (by decide) (fun c_16 => ?_) (fun c_16 => ?_)
    · skip
      rw [if_pos c_16] at hf
      refine lv_iconst (v := 0) hx hb dX5_sameLists_28 (by decide) ?_
      refine lv_istore (lv' := [(4, .int 0), (0, .ref (a h0)), (1, .int x0), (2, .ref (a x1)), (3, .int x2)]) hx hb dX5_sameLists_29 hl (by decide) rfl (fun ls hl2 => ?_)
      replace hl := hl2
      clear hl2
      have hl0 : lv_has ls 5 [(4, .int 0), (0, .ref (a h0)), (1, .int x0), (2, .ref (a x1)), (3, .int x2)] := lv_sub hl [0, 1, 2, 3, 4] rfl
      refine de_loop (h := 31) (fun (x : St × Int32) ls H locs => lv_has ls 5 [(4, .int x.2), (0, .ref (a h0)), (1, .int x0), (2, .ref (a x1)), (3, .int x2)] ∧ va_P (dC, dI) vwCl (Wd cy a sh n x.1) H ∧ va_D A (Wd cy a sh n x.1) ∧ va_S A s.heap H locs) (fun f x => fn_X5_sameLists_L31 F sh n h0 x0 x1 x2 f x.1 x.2) (z8, r8) ?_ (fun _ => rfl) F (z_13, 0) ls H_15 locs ⟨hl0, hP, hD, hS⟩ hf
      intro f_19 x ls H locs ih31 hI hf
      obtain ⟨z_18, p_17⟩ := x
      obtain ⟨hl2, hP2, hD2, hS2⟩ := hI
      replace hl : lv_has ls 5 [(4, .int p_17), (0, .ref (a h0)), (1, .int x0), (2, .ref (a x1)), (3, .int x2)] := hl2
      replace hP := hP2
      replace hD := hD2
      replace hS := hS2
      clear hl2 hP2 hD2 hS2 hl0
      replace hf := fn_X5_sameLists_L31_s hf
      refine lv_iload hx hb dX5_sameLists_31 (lv_at hl 0 rfl) ?_
      refine lv_aload_n hx hb dX5_sameLists_33 rfl (lv_at hl 1 rfl) ?_
      refine lv_iload_n hx hb dX5_sameLists_34 rfl (lv_at hl 2 rfl) ?_
      obtain ⟨z_20, r_21, hfc, hf⟩ := cal_some hf
      have hFc := de_free hD hS hA
      refine va_calli (va_runV (As := [.int x0]) (rest := [.int p_17]) ⟨hx, hb, hml, hown, hts⟩ (de_X5_takes l dC dI cy a sh n H.size F z_18 h0 x0 hfc) (cwV 1 hts gX5_sameLists_X5_takes rfl rfl rfl (by decide +kernel) ⟨Nat.le_of_ble_eq_true rfl, Nat.le_of_ble_eq_true rfl⟩) ⟨fun a U g mk q => by obtain ⟨q0, q1, qP, qK, qD, qN⟩ := q; exact ⟨q0, q1, qP, va_K.moved (u := U) (U := U.calling g mk a) (Vm.Alike.refl U.vm) qK, qD, qN.same rfl⟩, va_recv hK hP (ci := 5) (q0 := h0) rfl (Wd_ob kg_3 sg_3 (by decide)), fun U hU hW => ⟨rfl, by rw [hU], by rw [hU]; exact hP, va_K.moved hW.alike hK, hD.weaken (fun _ _ _ _ => trivial), hN.warm hW⟩⟩ rfl rfl hl.1 rfl (lv_room (Nat.le_of_ble_eq_true rfl)) dX5_sameLists_35 ⟨Nat.le_of_ble_eq_true rfl, Nat.le_of_ble_eq_true rfl⟩) hS (fun q _ h => hFc q h) hFc (fun rr u t H_22 locs ht hvm hw hB hz1 hk1 hS2 => ?_)
      rw [hw]
      clear hw
      obtain ⟨hP1, -, hD1⟩ := hB
      rw [ht] at hP1
      replace hD := hD1.weaken (fun _ _ _ h => hFc _ h)
      replace hP := hP1
      replace hS := hS2
      clear hP1 hD1 hS2 hFc hfc hz1 hk1 hvm ht
      refine lv_aload_n hx hb dX5_sameLists_38 rfl (lv_at hl 1 rfl) ?_
      refine lv_iload_n hx hb dX5_sameLists_39 rfl (lv_at hl 2 rfl) ?_
      obtain ⟨z_23, r_24, hfc, hf⟩ := cal_some hf
      have hFc := de_free hD hS hA
      refine va_calli (va_runV (As := [.int x0]) (rest := [.int r_21, .int p_17]) ⟨hx, hb, hml, hown, hts⟩ (de_X5_gives l dC dI cy a sh n H_22.size F z_20 h0 x0 hfc) (cwV 1 hts gX5_sameLists_X5_gives rfl rfl rfl (by decide +kernel) ⟨Nat.le_of_ble_eq_true rfl, Nat.le_of_ble_eq_true rfl⟩) ⟨fun a U g mk q => by obtain ⟨q0, q1, qP, qK, qD, qN⟩ := q; exact ⟨q0, q1, qP, va_K.moved (u := U) (U := U.calling g mk a) (Vm.Alike.refl U.vm) qK, qD, qN.same rfl⟩, va_recv hK hP (ci := 5) (q0 := h0) rfl (Wd_ob kg_3 sg_3 (by decide)), fun U hU hW => ⟨rfl, by rw [hU], by rw [hU]; exact hP, va_K.moved hW.alike hK, hD.weaken (fun _ _ _ _ => trivial), hN.warm hW⟩⟩ rfl rfl hl.1 rfl (lv_room (Nat.le_of_ble_eq_true rfl)) dX5_sameLists_40 ⟨Nat.le_of_ble_eq_true rfl, Nat.le_of_ble_eq_true rfl⟩) hS (fun q _ h => hFc q h) hFc (fun rr u t H_25 locs ht hvm hw hB hz1 hk1 hS2 => ?_)
      rw [hw]
      clear hw
      obtain ⟨hP1, -, hD1⟩ := hB
      rw [ht] at hP1
      replace hD := hD1.weaken (fun _ _ _ h => hFc _ h)
      replace hP := hP1
      replace hS := hS2
      clear hP1 hD1 hS2 hFc hfc hz1 hk1 hvm ht
      refine lv_iadd hx hb dX5_sameLists_43 ?_
      refine lv_icmp_ge (tgt := 77) hx hb dX5_sameLists_44 (by decide) (fun c_26 => ?_) (fun c_26 => ?_)
      · skip
        rw [if_pos c_26] at hf
        refine lv_iconst (v := 1) hx hb dX5_sameLists_77 (by decide) ?_
        obtain ⟨h8, h9⟩ := ret_some hf
        rw [h8, h9]
        exact W.zret (v := 1) hx hb hr rfl (fun t ht hW => ⟨⟨1, (), rfl, rfl, by rw [ht]; exact hP, va_K.moved hW.alike hK, hD⟩, hS.F ht⟩) hS.2.2 dX5_sameLists_78
      · skip
        rw [if_neg c_26] at hf
        refine lv_aload_n hx hb dX5_sameLists_47 rfl (lv_at hl 1 rfl) ?_
        refine lv_aload_n hx hb dX5_sameLists_48 rfl (lv_at hl 1 rfl) ?_
        refine lv_iload_n hx hb dX5_sameLists_49 rfl (lv_at hl 2 rfl) ?_
        refine lv_iload hx hb dX5_sameLists_50 (lv_at hl 0 rfl) ?_
        obtain ⟨z_27, r_28, hfc, hf⟩ := cal_some hf
        have hFc := de_free hD hS hA
        refine va_calll (va_runV (As := [.int x0, .int p_17]) (rest := [.ref (a h0)]) ⟨hx, hb, hml, hown, hts⟩ (de_X5_takenType l dC dI cy a sh n H_25.size F z_23 h0 x0 p_17 hfc) (cwV 2 hts gX5_sameLists_X5_takenType rfl rfl rfl (by decide +kernel) ⟨Nat.le_of_ble_eq_true rfl, Nat.le_of_ble_eq_true rfl⟩) ⟨fun a U g mk q => by obtain ⟨q0, q1, qP, qK, qD, qN⟩ := q; exact ⟨q0, q1, qP, va_K.moved (u := U) (U := U.calling g mk a) (Vm.Alike.refl U.vm) qK, qD, qN.same rfl⟩, va_recv hK hP (ci := 5) (q0 := h0) rfl (Wd_ob kg_3 sg_3 (by decide)), fun U hU hW => ⟨rfl, by rw [hU], by rw [hU]; exact hP, va_K.moved hW.alike hK, hD.weaken (fun _ _ _ _ => trivial), hN.warm hW⟩⟩ rfl rfl hl.1 rfl (lv_room (Nat.le_of_ble_eq_true rfl)) dX5_sameLists_52 ⟨Nat.le_of_ble_eq_true rfl, Nat.le_of_ble_eq_true rfl⟩) hS (fun q _ h => hFc q h) hFc (fun rr u t H_29 locs ht hvm hw hB hz1 hk1 hS2 => ?_)
        rw [hw]
        clear hw
        obtain ⟨hP1, -, hD1⟩ := hB
        rw [ht] at hP1
        replace hD := hD1.weaken (fun _ _ _ h => hFc _ h)
        replace hP := hP1
        replace hS := hS2
        clear hP1 hD1 hS2 hFc hfc hz1 hk1 hvm ht
        refine lv_aload_n hx hb dX5_sameLists_55 rfl (lv_at hl 3 rfl) ?_
        refine lv_aload_n hx hb dX5_sameLists_56 rfl (lv_at hl 3 rfl) ?_
        refine lv_iload_n hx hb dX5_sameLists_57 rfl (lv_at hl 4 rfl) ?_
        refine lv_iload hx hb dX5_sameLists_58 (lv_at hl 0 rfl) ?_
        obtain ⟨z_30, r_31, hfc, hf⟩ := cal_some hf
        have hFc := de_free hD hS hA
        refine va_calll (va_runV (As := [.int x2, .int p_17]) (rest := [.ref (a x1), .long r_28, .ref (a h0)]) ⟨hx, hb, hml, hown, hts⟩ (de_X5_takenType l dC dI cy a sh n H_29.size F z_27 x1 x2 p_17 hfc) (cwV 2 hts gX5_sameLists_X5_takenType rfl rfl rfl (by decide +kernel) ⟨Nat.le_of_ble_eq_true rfl, Nat.le_of_ble_eq_true rfl⟩) ⟨fun a U g mk q => by obtain ⟨q0, q1, qP, qK, qD, qN⟩ := q; exact ⟨q0, q1, qP, va_K.moved (u := U) (U := U.calling g mk a) (Vm.Alike.refl U.vm) qK, qD, qN.same rfl⟩, va_recv hK hP (ci := 5) (q0 := x1) rfl (Wd_ob kg_7 sg_7 (by decide)), fun U hU hW => ⟨rfl, by rw [hU], by rw [hU]; exact hP, va_K.moved hW.alike hK, hD.weaken (fun _ _ _ _ => trivial), hN.warm hW⟩⟩ rfl rfl hl.1 rfl (lv_room (Nat.le_of_ble_eq_true rfl)) dX5_sameLists_60 ⟨Nat.le_of_ble_eq_true rfl, Nat.le_of_ble_eq_true rfl⟩) hS (fun q _ h => hFc q h) hFc (fun rr u t H_32 locs ht hvm hw hB hz1 hk1 hS2 => ?_)
        rw [hw]
        clear hw
        obtain ⟨hP1, -, hD1⟩ := hB
        rw [ht] at hP1
        replace hD := hD1.weaken (fun _ _ _ h => hFc _ h)
        replace hP := hP1
        replace hS := hS2
        clear hP1 hD1 hS2 hFc hfc hz1 hk1 hvm ht
        obtain ⟨z_33, r_34, hfc, hf⟩ := cal_some hf
        have hFc := de_free hD hS hA
        refine va_calli (va_runV (As := [.long r_28, .ref (a x1), .long r_31]) (rest := []) ⟨hx, hb, hml, hown, hts⟩ (de_X5_sameType l dC dI cy a sh n H_32.size F z_30 h0 r_28 x1 r_31 hfc) (cwV 3 hts gX5_sameLists_X5_sameType rfl rfl rfl (by decide +kernel) ⟨Nat.le_of_ble_eq_true rfl, Nat.le_of_ble_eq_true rfl⟩) ⟨fun a U g mk q => by obtain ⟨q0, q1, qP, qK, qD, qN⟩ := q; exact ⟨q0, q1, qP, va_K.moved (u := U) (U := U.calling g mk a) (Vm.Alike.refl U.vm) qK, qD, qN.same rfl⟩, va_recv hK hP (ci := 5) (q0 := h0) rfl (Wd_ob kg_3 sg_3 (by decide)), fun U hU hW => ⟨rfl, by rw [hU], by rw [hU]; exact hP, va_K.moved hW.alike hK, hD.weaken (fun _ _ _ _ => trivial), hN.warm hW⟩⟩ rfl rfl hl.1 rfl (lv_room (Nat.le_of_ble_eq_true rfl)) dX5_sameLists_63 ⟨Nat.le_of_ble_eq_true rfl, Nat.le_of_ble_eq_true rfl⟩) hS (fun q _ h => hFc q h) hFc (fun rr u t H_35 locs ht hvm hw hB hz1 hk1 hS2 => ?_)
        rw [hw]
        clear hw
        obtain ⟨hP1, -, hD1⟩ := hB
        rw [ht] at hP1
        replace hD := hD1.weaken (fun _ _ _ h => hFc _ h)
        replace hP := hP1
        replace hS := hS2
        clear hP1 hD1 hS2 hFc hfc hz1 hk1 hvm ht
        refine lv_if_ne (tgt := 71) hx hb dX5_sameLists_66 (by decide) (fun c_36 => ?_) (fun c_36 => ?_)
        · skip
          rw [if_neg c_36] at hf
          refine lv_iinc (v := (p_17 + 1)) (lv' := [(4, .int (p_17 + 1)), (0, .ref (a h0)), (1, .int x0), (2, .ref (a x1)), (3, .int x2)]) hx hb dX5_sameLists_71 hl (k := 0) rfl rfl (by decide) rfl (fun ls hl2 => ?_)
          replace hl := hl2
          clear hl2
          refine lv_goto (tgt := 31) hx hb dX5_sameLists_74 (by decide) ?_
          exact ih31 (z_33, (p_17 + 1)) ls H_35 locs ⟨lv_sub hl [0, 1, 2, 3, 4] rfl, hP, hD, hS⟩ hf
        · skip
          rw [if_pos c_36] at hf
          refine lv_iconst (v := 0) hx hb dX5_sameLists_69 (by decide) ?_
          obtain ⟨h8, h9⟩ := ret_some hf
          rw [h8, h9]
          exact W.zret (v := 0) hx hb hr rfl (fun t ht hW => ⟨⟨0, (), rfl, rfl, by rw [ht]; exact hP, va_K.moved hW.alike hK, hD⟩, hS.F ht⟩) hS.2.2 dX5_sameLists_70
    · skip
      rw [if_neg c_16] at hf
      refine lv_iconst (v := 0) hx hb dX5_sameLists_26 (by decide) ?_
      obtain ⟨h8, h9⟩ := ret_some hf
      rw [h8, h9]
      exact W.zret (v := 0) hx hb hr rfl (fun t ht hW => ⟨⟨0, (), rfl, rfl, by rw [ht]; exact hP, va_K.moved hW.alike hK, hD⟩, hS.F ht⟩) hS.2.2 dX5_sameLists_27

theorem md_X4_exchange_1 : (.fieldLink RX4 12 "ResourceLedger$Machine" "heap" "LResourceLedger$Heap;" : Cond) ∈ wsX4_exchange := List.mem_of_getElem? (i := 1) rfl
theorem iwd_X4_exchange_X4 : ∀ w ∈ wsX40, w ∈ wsX4_exchange := fun _ h => List.mem_cons_of_mem _ (List.mem_append_left _ (List.mem_append_right _ h))
theorem md_X4_exchange_2 : (.fieldLink RX4 163 "ResourceLedger$Heap" "low" "[J" : Cond) ∈ wsX4_exchange := List.mem_of_getElem? (i := 2) rfl
theorem iwd_X4_exchange_X1 : ∀ w ∈ wsX10, w ∈ wsX4_exchange := fun _ h => List.mem_cons_of_mem _ (List.mem_append_right _ h)
theorem md_X4_exchange_3 : (.constantLong RX4 339 (2) : Cond) ∈ wsX4_exchange := List.mem_of_getElem? (i := 3) rfl
set_option maxHeartbeats 4000000 in
set_option maxRecDepth 100000 in
theorem de_X4_exchange (l : Launch) (dC : Nat → ClassId) (dI : Nat → Nat → Nat) (cy : Nat → ClassId) (a : Nat → Nat) (sh : Nat → Nat × Nat) (n sz : Nat) (F : Nat) (z : St) (h0 : Nat) (x0 : Int32) (x1 : Int64) {z8 : St} {r8 : Unit} (hf : fn_X4_exchange F sh n z h0 x0 x1 = some (z8, r8)) : Met l yX4_exchange wsX4_exchange ({ frames := 2, cells := 0, slots := 0, locals := 49 }) (va_Pc [.ref (a h0), .int x0, .long x1] (fun U => U.heap.size = sz ∧ va_P (dC, dI) vwCl (Wd cy a sh n z) U.heap ∧ va_K (dC, dI) vwCl (TYS cy) U ∧ va_D (fun _ => True) (Wd cy a sh n z) ∧ NK U)) (va_Qv (fun u : Unit => True) (fun u t => va_P (dC, dI) vwCl (Wd cy a sh n z8) t.heap ∧ va_K (dC, dI) vwCl (TYS cy) t ∧ va_D (va_A (Wd cy a sh n z) sz) (Wd cy a sh n z8)) (va_A (Wd cy a sh n z) sz)) 0 0 (va_A (Wd cy a sh n z) sz) := by
  refine Met.ofW (cc := cX4_exchange) (maxL := 8) (ret := none) (by decide) rfl ?_
  intro p e s m args below meth c s₁ B hml hv
  obtain ⟨rfl, hsz, hP, hK, hD0, hN⟩ := hv
  have hx := B.exec
  have hb := B.bytes
  have hr := B.returns
  have hts := atoms_spec (ws := wsX4_exchange) B.pre
  have hown : s.vm.findClass RX4 = some m.cls := findClass_of_methodNamed B.named
  have hlocks := B.notSynchronized
  subst hsz
  have hD := hD0.self (sz := s.heap.size)
  clear hD0
  generalize hAe : va_A (Wd cy a sh n z) s.heap.size = A at hD ⊢
  have hA : ∀ q : Nat, s.heap.size ≤ q → A q := fun q h => by rw [← hAe]; exact Or.inr h
  clear hAe
  have hS : va_S A s.heap s.heap [] := va_S.rf
  have hl := lv_entry ([.ref (a h0), .int x0, .long x1]) (n := 8) (Nat.le_of_ble_eq_true rfl)
  rw [lg_entry_eq]
  generalize (lg_sl ([.ref (a h0), .int x0, .long x1]) ++ List.replicate (8 - (lg_sl ([.ref (a h0), .int x0, .long x1])).length) Slot.unset).toArray = ls at hl ⊢
  replace hl : lv_has ls 8 [(0, .ref (a h0)), (1, .int x0), (2, .long x1)] := hl
  unfold fn_X4_exchange at hf
  refine de_start hS hP (fun H locs hS hP => ?_)
  refine lv_aload_n hx hb dX4_exchange_0 rfl (lv_at hl 0 rfl) ?_
  obtain ⟨g_1, hf⟩ := grd_some hf
  obtain ⟨kg_1, sg_1⟩ := okO_at g_1
  obtain ⟨k_2, ek_2, hf⟩ := lnk_some hf
  refine va_get (D := (dC, dI)) (ci := 4) (v := .ref (a k_2)) (C := RX4) (T := TX4) (N := 18) hx hb hts iwd_X4_exchange_X4 hown hK hP h0 (Wd_ob kg_1 sg_1 (by decide)) rfl 1 (by decide) (hts _ md_X4_exchange_1) (fun _ h9 => h9) (fl_q rfl ek_2) dX4_exchange_1 ?_
  obtain ⟨g_3, hf⟩ := grd_some hf
  obtain ⟨kg_3, sg_3⟩ := okO_at g_3
  obtain ⟨k_4, ek_4, hf⟩ := lnk_some hf
  refine va_get (D := (dC, dI)) (ci := 1) (v := .ref (a k_4)) (C := RX1) (T := TX1) (N := 7) hx hb hts iwd_X4_exchange_X1 hown hK hP k_2 (Wd_ob kg_3 sg_3 (by decide)) rfl 1 (by decide) (hts _ md_X4_exchange_2) (fun _ h9 => h9) (fl_q rfl ek_4) dX4_exchange_4 ?_
  refine lv_aload_n hx hb dX4_exchange_7 rfl (lv_at hl 0 rfl) ?_
  refine lv_iconst (v := 3) hx hb dX4_exchange_8 (by decide) ?_
  obtain ⟨z_5, r_6, hfc, hf⟩ := cal_some hf
  have hFc := de_free hD hS hA
  refine va_calli (va_runV (As := [.int 3]) (rest := [.ref (a k_4)]) ⟨hx, hb, hml, hown, hts⟩ (de_X4_popOf l dC dI cy a sh n H.size F z h0 3 hfc) (cwV 1 hts gX4_exchange_X4_popOf rfl rfl rfl (by decide +kernel) ⟨Nat.le_of_ble_eq_true rfl, Nat.le_of_ble_eq_true rfl⟩) ⟨fun a U g mk q => by obtain ⟨q0, q1, qP, qK, qD, qN⟩ := q; exact ⟨q0, q1, qP, va_K.moved (u := U) (U := U.calling g mk a) (Vm.Alike.refl U.vm) qK, qD, qN.same rfl⟩, va_recv hK hP (ci := 4) (q0 := h0) rfl (Wd_ob kg_1 sg_1 (by decide)), fun U hU hW => ⟨rfl, by rw [hU], by rw [hU]; exact hP, va_K.moved hW.alike hK, hD.weaken (fun _ _ _ _ => trivial), hN.warm hW⟩⟩ rfl rfl hl.1 rfl (lv_room (Nat.le_of_ble_eq_true rfl)) dX4_exchange_9 ⟨Nat.le_of_ble_eq_true rfl, Nat.le_of_ble_eq_true rfl⟩) hS (fun q _ h => hFc q h) hFc (fun rr u t H_7 locs ht hvm hw hB hz1 hk1 hS2 => ?_)
  rw [hw]
  clear hw
  obtain ⟨hP1, -, hD1⟩ := hB
  rw [ht] at hP1
  replace hD := hD1.weaken (fun _ _ _ h => hFc _ h)
  replace hP := hP1
  replace hS := hS2
  clear hP1 hD1 hS2 hFc hfc hz1 hk1 hvm ht
  obtain ⟨g_8, hf⟩ := grd_some hf
  obtain ⟨kg_8, sg_8, ig_8⟩ := okA_at g_8
  refine va_lald hx hb hK hP k_4 2 (Wd_al kg_8 sg_8) rfl ig_8 dX4_exchange_12 ?_
  refine lv_topl (fun v_9 ev_9 => ?_)
  replace hf := lt_at ev_9 hf
  clear ev_9
  refine lv_lstore (lv' := [(4, .long v_9), (0, .ref (a h0)), (1, .int x0), (2, .long x1)]) hx hb dX4_exchange_13 hl (by decide) rfl (fun ls hl2 => ?_)
  replace hl := hl2
  clear hl2
  refine lv_aload_n hx hb dX4_exchange_15 rfl (lv_at hl 1 rfl) ?_
  obtain ⟨k_10, ek_10, hf⟩ := lnk_some hf
  refine va_get (D := (dC, dI)) (ci := 4) (v := .ref (a k_10)) (C := RX4) (T := TX4) (N := 18) hx hb hts iwd_X4_exchange_X4 hown hK hP h0 (Wd_ob kg_1 sg_1 (by decide)) rfl 1 (by decide) (hts _ md_X4_exchange_1) (fun _ h9 => h9) (fl_q rfl ek_10) dX4_exchange_16 ?_
  obtain ⟨g_11, hf⟩ := grd_some hf
  obtain ⟨kg_11, sg_11⟩ := okO_at g_11
  obtain ⟨k_12, ek_12, hf⟩ := lnk_some hf
  refine va_get (D := (dC, dI)) (ci := 1) (v := .ref (a k_12)) (C := RX1) (T := TX1) (N := 7) hx hb hts iwd_X4_exchange_X1 hown hK hP k_10 (Wd_ob kg_11 sg_11 (by decide)) rfl 1 (by decide) (hts _ md_X4_exchange_2) (fun _ h9 => h9) (fl_q rfl ek_12) dX4_exchange_19 ?_
  refine lv_aload_n hx hb dX4_exchange_22 rfl (lv_at hl 1 rfl) ?_
  refine lv_iconst (v := 3) hx hb dX4_exchange_23 (by decide) ?_
  obtain ⟨z_13, r_14, hfc, hf⟩ := cal_some hf
  have hFc := de_free hD hS hA
  refine va_calli (va_runV (As := [.int 3]) (rest := [.ref (a k_12)]) ⟨hx, hb, hml, hown, hts⟩ (de_X4_popOf l dC dI cy a sh n H_7.size F z_5 h0 3 hfc) (cwV 1 hts gX4_exchange_X4_popOf rfl rfl rfl (by decide +kernel) ⟨Nat.le_of_ble_eq_true rfl, Nat.le_of_ble_eq_true rfl⟩) ⟨fun a U g mk q => by obtain ⟨q0, q1, qP, qK, qD, qN⟩ := q; exact ⟨q0, q1, qP, va_K.moved (u := U) (U := U.calling g mk a) (Vm.Alike.refl U.vm) qK, qD, qN.same rfl⟩, va_recv hK hP (ci := 4) (q0 := h0) rfl (Wd_ob kg_1 sg_1 (by decide)), fun U hU hW => ⟨rfl, by rw [hU], by rw [hU]; exact hP, va_K.moved hW.alike hK, hD.weaken (fun _ _ _ _ => trivial), hN.warm hW⟩⟩ rfl rfl hl.1 rfl (lv_room (Nat.le_of_ble_eq_true rfl)) dX4_exchange_24 ⟨Nat.le_of_ble_eq_true rfl, Nat.le_of_ble_eq_true rfl⟩) hS (fun q _ h => hFc q h) hFc (fun rr u t H_15 locs ht hvm hw hB hz1 hk1 hS2 => ?_)
  rw [hw]
  clear hw
  obtain ⟨hP1, -, hD1⟩ := hB
  rw [ht] at hP1
  replace hD := hD1.weaken (fun _ _ _ h => hFc _ h)
  replace hP := hP1
  replace hS := hS2
  clear hP1 hD1 hS2 hFc hfc hz1 hk1 hvm ht
  obtain ⟨g_16, hf⟩ := grd_some hf
  obtain ⟨kg_16, sg_16, ig_16⟩ := okA_at g_16
  refine va_lald hx hb hK hP k_12 2 (Wd_al kg_16 sg_16) rfl ig_16 dX4_exchange_27 ?_
  refine lv_topl (fun v_17 ev_17 => ?_)
  replace hf := lt_at ev_17 hf
  clear ev_17
  refine lv_lstore (lv' := [(6, .long v_17), (4, .long v_9), (0, .ref (a h0)), (1, .int x0), (2, .long x1)]) hx hb dX4_exchange_28 hl (by decide) rfl (fun ls hl2 => ?_)
  replace hl := hl2
  clear hl2
  refine lv_lload hx hb dX4_exchange_30 (lv_at hl 1 rfl) ?_
  refine lv_lload_n hx hb dX4_exchange_32 rfl (lv_at hl 4 rfl) ?_
  obtain ⟨z_18, r_19, hfc, hf⟩ := cal_some hf
  have hFc := de_free hD hS hA
  refine va_calli (va_runS (As := [.long v_9, .long x1]) (rest := []) ⟨hx, hb, hml, hown, hts⟩ (de_X10_below l dC dI cy a sh n H_15.size F z_13 v_9 x1 hfc) (va_cwS 2 hts gX4_exchange_X10_below rfl rfl rfl (by decide +kernel) ⟨Nat.le_of_ble_eq_true rfl, Nat.le_of_ble_eq_true rfl⟩) ⟨fun a U g mk q => by obtain ⟨q0, q1, qP, qK, qD, qN⟩ := q; exact ⟨q0, q1, qP, va_K.moved (u := U) (U := U.calling g mk a) (Vm.Alike.refl U.vm) qK, qD, qN.same rfl⟩, fun U hU hW => ⟨rfl, by rw [hU], by rw [hU]; exact hP, va_K.moved hW.alike hK, hD.weaken (fun _ _ _ _ => trivial), hN.warm hW⟩⟩ rfl rfl hl.1 rfl (lv_room (Nat.le_of_ble_eq_true rfl)) dX4_exchange_33 ⟨Nat.le_of_ble_eq_true rfl, Nat.le_of_ble_eq_true rfl⟩) hS (fun q _ h => hFc q h) hFc (fun rr u t H_20 locs ht hvm hw hB hz1 hk1 hS2 => ?_)
  rw [hw]
  clear hw
  obtain ⟨hP1, -, hD1⟩ := hB
  rw [ht] at hP1
  replace hD := hD1.weaken (fun _ _ _ h => hFc _ h)
  replace hP := hP1
  replace hS := hS2
  clear hP1 hD1 hS2 hFc hfc hz1 hk1 hvm ht
  refine lv_if_eq (tgt := 48) hx hb dX4_exchange_36 (by decide) (fun c_21 => ?_) (fun c_21 => ?_)
  · skip
    rw [if_pos c_21] at hf
    refine lv_aload_n hx hb dX4_exchange_48 rfl (lv_at hl 2 rfl) ?_
    refine lv_iconst (v := 2) hx hb dX4_exchange_49 (by decide) ?_
    refine lv_ldc2 hx hb hown (hts _ md_X4_exchange_3) dX4_exchange_50 ?_
    obtain ⟨z_22, _u, hfc, hf⟩ := cal_some hf
    have hFc := de_free hD hS hA
    refine va_callv (va_runV (As := [.int 2, .long 2]) (rest := []) ⟨hx, hb, hml, hown, hts⟩ (de_X4_end l dC dI cy a sh n H_20.size F z_18 h0 2 2 hfc) (cwV 2 hts gX4_exchange_X4_end rfl rfl rfl (by decide +kernel) ⟨Nat.le_of_ble_eq_true rfl, Nat.le_of_ble_eq_true rfl⟩) ⟨fun a U g mk q => by obtain ⟨q0, q1, qP, qK, qD, qN⟩ := q; exact ⟨q0, q1, qP, va_K.moved (u := U) (U := U.calling g mk a) (Vm.Alike.refl U.vm) qK, qD, qN.same rfl⟩, va_recv hK hP (ci := 4) (q0 := h0) rfl (Wd_ob kg_1 sg_1 (by decide)), fun U hU hW => ⟨rfl, by rw [hU], by rw [hU]; exact hP, va_K.moved hW.alike hK, hD.weaken (fun _ _ _ _ => trivial), hN.warm hW⟩⟩ rfl rfl hl.1 rfl (lv_room (Nat.le_of_ble_eq_true rfl)) dX4_exchange_53 ⟨Nat.le_of_ble_eq_true rfl, Nat.le_of_ble_eq_true rfl⟩) hS (fun q _ h => hFc q h) hFc (fun u t H_23 locs ht hvm hw hB hz1 hk1 hS2 => ?_)
    obtain ⟨hP1, -, hD1⟩ := hB
    rw [ht] at hP1
    replace hD := hD1.weaken (fun _ _ _ h => hFc _ h)
    replace hP := hP1
    replace hS := hS2
    clear hP1 hD1 hS2 hFc hfc hz1 hk1 hvm ht
    obtain ⟨h8, h9⟩ := ret_some hf
    rw [h8]
    exact W.vret hx hb hr (fun t ht hW => ⟨⟨(), rfl, trivial, by rw [ht]; exact hP, va_K.moved hW.alike hK, hD⟩, hS.F ht⟩) hS.2.2 dX4_exchange_56
  · skip
    rw [if_neg c_21] at hf
    refine lv_lload hx hb dX4_exchange_39 (lv_at hl 0 rfl) ?_
    refine lv_lload_n hx hb dX4_exchange_41 rfl (lv_at hl 4 rfl) ?_
    obtain ⟨z_24, r_25, hfc, hf⟩ := cal_some hf
    have hFc := de_free hD hS hA
    refine va_calli (va_runS (As := [.long v_17, .long x1]) (rest := []) ⟨hx, hb, hml, hown, hts⟩ (de_X10_below l dC dI cy a sh n H_20.size F z_18 v_17 x1 hfc) (va_cwS 2 hts gX4_exchange_X10_below rfl rfl rfl (by decide +kernel) ⟨Nat.le_of_ble_eq_true rfl, Nat.le_of_ble_eq_true rfl⟩) ⟨fun a U g mk q => by obtain ⟨q0, q1, qP, qK, qD, qN⟩ := q; exact ⟨q0, q1, qP, va_K.moved (u := U) (U := U.calling g mk a) (Vm.Alike.refl U.vm) qK, qD, qN.same rfl⟩, fun U hU hW => ⟨rfl, by rw [hU], by rw [hU]; exact hP, va_K.moved hW.alike hK, hD.weaken (fun _ _ _ _ => trivial), hN.warm hW⟩⟩ rfl rfl hl.1 rfl (lv_room (Nat.le_of_ble_eq_true rfl)) dX4_exchange_42 ⟨Nat.le_of_ble_eq_true rfl, Nat.le_of_ble_eq_true rfl⟩) hS (fun q _ h => hFc q h) hFc (fun rr u t H_26 locs ht hvm hw hB hz1 hk1 hS2 => ?_)
    rw [hw]
    clear hw
    obtain ⟨hP1, -, hD1⟩ := hB
    rw [ht] at hP1
    replace hD := hD1.weaken (fun _ _ _ h => hFc _ h)
    replace hP := hP1
    replace hS := hS2
    clear hP1 hD1 hS2 hFc hfc hz1 hk1 hvm ht
    refine lv_if_ne (tgt := 57) hx hb dX4_exchange_45 (by decide) (fun c_27 => ?_) (fun c_27 => ?_)
    · skip
      rw [if_neg c_27] at hf
      refine lv_aload_n hx hb dX4_exchange_57 rfl (lv_at hl 2 rfl) ?_
      obtain ⟨z_28, r_29, hfc, hf⟩ := cal_some hf
      have hFc := de_free hD hS hA
      refine va_calli (va_runV (As := []) (rest := []) ⟨hx, hb, hml, hown, hts⟩ (de_X4_pop l dC dI cy a sh n H_26.size F z_24 h0 hfc) (cwV 0 hts gX4_exchange_X4_pop rfl rfl rfl (by decide +kernel) ⟨Nat.le_of_ble_eq_true rfl, Nat.le_of_ble_eq_true rfl⟩) ⟨fun a U g mk q => by obtain ⟨q0, q1, qP, qK, qD, qN⟩ := q; exact ⟨q0, q1, qP, va_K.moved (u := U) (U := U.calling g mk a) (Vm.Alike.refl U.vm) qK, qD, qN.same rfl⟩, va_recv hK hP (ci := 4) (q0 := h0) rfl (Wd_ob kg_1 sg_1 (by decide)), fun U hU hW => ⟨rfl, by rw [hU], by rw [hU]; exact hP, va_K.moved hW.alike hK, hD.weaken (fun _ _ _ _ => trivial), hN.warm hW⟩⟩ rfl rfl hl.1 rfl (lv_room (Nat.le_of_ble_eq_true rfl)) dX4_exchange_58 ⟨Nat.le_of_ble_eq_true rfl, Nat.le_of_ble_eq_true rfl⟩) hS (fun q _ h => hFc q h) hFc (fun rr u t H_30 locs ht hvm hw hB hz1 hk1 hS2 => ?_)
      rw [hw]
      clear hw
      obtain ⟨hP1, -, hD1⟩ := hB
      rw [ht] at hP1
      replace hD := hD1.weaken (fun _ _ _ h => hFc _ h)
      replace hP := hP1
      replace hS := hS2
      clear hP1 hD1 hS2 hFc hfc hz1 hk1 hvm ht
      refine lv_pop hx hb dX4_exchange_61 rfl ?_
      refine lv_aload_n hx hb dX4_exchange_62 rfl (lv_at hl 2 rfl) ?_
      obtain ⟨k_31, ek_31, hf⟩ := lnk_some hf
      refine va_get (D := (dC, dI)) (ci := 4) (v := .ref (a k_31)) (C := RX4) (T := TX4) (N := 18) hx hb hts iwd_X4_exchange_X4 hown hK hP h0 (Wd_ob kg_1 sg_1 (by decide)) rfl 1 (by decide) (hts _ md_X4_exchange_1) (fun _ h9 => h9) (fl_q rfl ek_31) dX4_exchange_63 ?_
      refine lv_aload_n hx hb dX4_exchange_66 rfl (lv_at hl 2 rfl) ?_
      obtain ⟨k_32, ek_32, hf⟩ := lnk_some hf
      refine va_get (D := (dC, dI)) (ci := 4) (v := .ref (a k_32)) (C := RX4) (T := TX4) (N := 18) hx hb hts iwd_X4_exchange_X4 hown hK hP h0 (Wd_ob kg_1 sg_1 (by decide)) rfl 1 (by decide) (hts _ md_X4_exchange_1) (fun _ h9 => h9) (fl_q rfl ek_32) dX4_exchange_67 ?_
      refine lv_iload_n hx hb dX4_exchange_70 rfl (lv_at hl 3 rfl) ?_
      refine lv_lload hx hb dX4_exchange_71 (lv_at hl 1 rfl) ?_
      obtain ⟨g_35, hf⟩ := grd_some hf
      obtain ⟨kg_35, sg_35⟩ := okO_at g_35
      obtain ⟨z_33, r_34, hfc, hf⟩ := cal_some hf
      have hFc := de_free hD hS hA
      refine va_calli (va_runV (As := [.int x0, .long v_9]) (rest := [.ref (a k_31)]) ⟨hx, hb, hml, hown, hts⟩ (de_X1_child l dC dI cy a sh n H_30.size F z_28 k_32 x0 v_9 hfc) (cwV 2 hts gX4_exchange_X1_child rfl rfl rfl (by decide +kernel) ⟨Nat.le_of_ble_eq_true rfl, Nat.le_of_ble_eq_true rfl⟩) ⟨fun a U g mk q => by obtain ⟨q0, q1, qP, qK, qD, qN⟩ := q; exact ⟨q0, q1, qP, va_K.moved (u := U) (U := U.calling g mk a) (Vm.Alike.refl U.vm) qK, qD, qN.same rfl⟩, va_recv hK hP (ci := 1) (q0 := k_32) rfl (Wd_ob kg_35 sg_35 (by decide)), fun U hU hW => ⟨rfl, by rw [hU], by rw [hU]; exact hP, va_K.moved hW.alike hK, hD.weaken (fun _ _ _ _ => trivial), hN.warm hW⟩⟩ rfl rfl hl.1 rfl (lv_room (Nat.le_of_ble_eq_true rfl)) dX4_exchange_73 ⟨Nat.le_of_ble_eq_true rfl, Nat.le_of_ble_eq_true rfl⟩) hS (fun q _ h => hFc q h) hFc (fun rr u t H_36 locs ht hvm hw hB hz1 hk1 hS2 => ?_)
      rw [hw]
      clear hw
      obtain ⟨hP1, -, hD1⟩ := hB
      rw [ht] at hP1
      replace hD := hD1.weaken (fun _ _ _ h => hFc _ h)
      replace hP := hP1
      replace hS := hS2
      clear hP1 hD1 hS2 hFc hfc hz1 hk1 hvm ht
      refine lv_aload_n hx hb dX4_exchange_76 rfl (lv_at hl 2 rfl) ?_
      obtain ⟨k_37, ek_37, hf⟩ := lnk_some hf
      refine va_get (D := (dC, dI)) (ci := 4) (v := .ref (a k_37)) (C := RX4) (T := TX4) (N := 18) hx hb hts iwd_X4_exchange_X4 hown hK hP h0 (Wd_ob kg_1 sg_1 (by decide)) rfl 1 (by decide) (hts _ md_X4_exchange_1) (fun _ h9 => h9) (fl_q rfl ek_37) dX4_exchange_77 ?_
      refine lv_iload_n hx hb dX4_exchange_80 rfl (lv_at hl 3 rfl) ?_
      refine lv_lload hx hb dX4_exchange_81 (lv_at hl 0 rfl) ?_
      obtain ⟨g_40, hf⟩ := grd_some hf
      obtain ⟨kg_40, sg_40⟩ := okO_at g_40
      obtain ⟨z_38, r_39, hfc, hf⟩ := cal_some hf
      have hFc := de_free hD hS hA
      refine va_calli (va_runV (As := [.int x0, .long v_17]) (rest := [.int r_34, .ref (a k_31)]) ⟨hx, hb, hml, hown, hts⟩ (de_X1_child l dC dI cy a sh n H_36.size F z_33 k_37 x0 v_17 hfc) (cwV 2 hts gX4_exchange_X1_child rfl rfl rfl (by decide +kernel) ⟨Nat.le_of_ble_eq_true rfl, Nat.le_of_ble_eq_true rfl⟩) ⟨fun a U g mk q => by obtain ⟨q0, q1, qP, qK, qD, qN⟩ := q; exact ⟨q0, q1, qP, va_K.moved (u := U) (U := U.calling g mk a) (Vm.Alike.refl U.vm) qK, qD, qN.same rfl⟩, va_recv hK hP (ci := 1) (q0 := k_37) rfl (Wd_ob kg_40 sg_40 (by decide)), fun U hU hW => ⟨rfl, by rw [hU], by rw [hU]; exact hP, va_K.moved hW.alike hK, hD.weaken (fun _ _ _ _ => trivial), hN.warm hW⟩⟩ rfl rfl hl.1 rfl (lv_room (Nat.le_of_ble_eq_true rfl)) dX4_exchange_83 ⟨Nat.le_of_ble_eq_true rfl, Nat.le_of_ble_eq_true rfl⟩) hS (fun q _ h => hFc q h) hFc (fun rr u t H_41 locs ht hvm hw hB hz1 hk1 hS2 => ?_)
      rw [hw]
      clear hw
      obtain ⟨hP1, -, hD1⟩ := hB
      rw [ht] at hP1
      replace hD := hD1.weaken (fun _ _ _ h => hFc _ h)
      replace hP := hP1
      replace hS := hS2
      clear hP1 hD1 hS2 hFc hfc hz1 hk1 hvm ht
      obtain ⟨g_43, hf⟩ := grd_some hf
      obtain ⟨kg_43, sg_43⟩ := okO_at g_43
      obtain ⟨z_42, _u, hfc, hf⟩ := cal_some hf
      have hFc := de_free hD hS hA
      refine va_callv (va_runV (As := [.int r_34, .int r_39]) (rest := []) ⟨hx, hb, hml, hown, hts⟩ (de_X1_swap l dC dI cy a sh n H_41.size F z_38 k_31 r_34 r_39 hfc) (cwV 2 hts gX4_exchange_X1_swap rfl rfl rfl (by decide +kernel) ⟨Nat.le_of_ble_eq_true rfl, Nat.le_of_ble_eq_true rfl⟩) ⟨fun a U g mk q => by obtain ⟨q0, q1, qP, qK, qD, qN⟩ := q; exact ⟨q0, q1, qP, va_K.moved (u := U) (U := U.calling g mk a) (Vm.Alike.refl U.vm) qK, qD, qN.same rfl⟩, va_recv hK hP (ci := 1) (q0 := k_31) rfl (Wd_ob kg_43 sg_43 (by decide)), fun U hU hW => ⟨rfl, by rw [hU], by rw [hU]; exact hP, va_K.moved hW.alike hK, hD.weaken (fun _ _ _ _ => trivial), hN.warm hW⟩⟩ rfl rfl hl.1 rfl (lv_room (Nat.le_of_ble_eq_true rfl)) dX4_exchange_86 ⟨Nat.le_of_ble_eq_true rfl, Nat.le_of_ble_eq_true rfl⟩) hS (fun q _ h => hFc q h) hFc (fun u t H_44 locs ht hvm hw hB hz1 hk1 hS2 => ?_)
      obtain ⟨hP1, -, hD1⟩ := hB
      rw [ht] at hP1
      replace hD := hD1.weaken (fun _ _ _ h => hFc _ h)
      replace hP := hP1
      replace hS := hS2
      clear hP1 hD1 hS2 hFc hfc hz1 hk1 hvm ht
      obtain ⟨h8, h9⟩ := ret_some hf
      rw [h8]
      exact W.vret hx hb hr (fun t ht hW => ⟨⟨(), rfl, trivial, by rw [ht]; exact hP, va_K.moved hW.alike hK, hD⟩, hS.F ht⟩) hS.2.2 dX4_exchange_89
    · skip
      rw [if_pos c_27] at hf
      refine lv_aload_n hx hb dX4_exchange_48 rfl (lv_at hl 2 rfl) ?_
      refine lv_iconst (v := 2) hx hb dX4_exchange_49 (by decide) ?_
      refine lv_ldc2 hx hb hown (hts _ md_X4_exchange_3) dX4_exchange_50 ?_
      obtain ⟨z_45, _u, hfc, hf⟩ := cal_some hf
      have hFc := de_free hD hS hA
      refine va_callv (va_runV (As := [.int 2, .long 2]) (rest := []) ⟨hx, hb, hml, hown, hts⟩ (de_X4_end l dC dI cy a sh n H_26.size F z_24 h0 2 2 hfc) (cwV 2 hts gX4_exchange_X4_end rfl rfl rfl (by decide +kernel) ⟨Nat.le_of_ble_eq_true rfl, Nat.le_of_ble_eq_true rfl⟩) ⟨fun a U g mk q => by obtain ⟨q0, q1, qP, qK, qD, qN⟩ := q; exact ⟨q0, q1, qP, va_K.moved (u := U) (U := U.calling g mk a) (Vm.Alike.refl U.vm) qK, qD, qN.same rfl⟩, va_recv hK hP (ci := 4) (q0 := h0) rfl (Wd_ob kg_1 sg_1 (by decide)), fun U hU hW => ⟨rfl, by rw [hU], by rw [hU]; exact hP, va_K.moved hW.alike hK, hD.weaken (fun _ _ _ _ => trivial), hN.warm hW⟩⟩ rfl rfl hl.1 rfl (lv_room (Nat.le_of_ble_eq_true rfl)) dX4_exchange_53 ⟨Nat.le_of_ble_eq_true rfl, Nat.le_of_ble_eq_true rfl⟩) hS (fun q _ h => hFc q h) hFc (fun u t H_46 locs ht hvm hw hB hz1 hk1 hS2 => ?_)
      obtain ⟨hP1, -, hD1⟩ := hB
      rw [ht] at hP1
      replace hD := hD1.weaken (fun _ _ _ h => hFc _ h)
      replace hP := hP1
      replace hS := hS2
      clear hP1 hD1 hS2 hFc hfc hz1 hk1 hvm ht
      obtain ⟨h8, h9⟩ := ret_some hf
      rw [h8]
      exact W.vret hx hb hr (fun t ht hW => ⟨⟨(), rfl, trivial, by rw [ht]; exact hP, va_K.moved hW.alike hK, hD⟩, hS.F ht⟩) hS.2.2 dX4_exchange_56

theorem md_X13_push_1 : (.fieldLink RX13 48 "ResourceLedgerModel$Looker" "fault" "I" : Cond) ∈ wsX13_push := List.mem_of_getElem? (i := 1) rfl
theorem iwd_X13_push_X13 : ∀ w ∈ wsX130, w ∈ wsX13_push := fun _ h => List.mem_cons_of_mem _ (List.mem_append_right _ h)
theorem md_X13_push_2 : (.fieldLink RX13 30 "ResourceLedgerModel$Looker" "types" "[J" : Cond) ∈ wsX13_push := List.mem_of_getElem? (i := 2) rfl
theorem md_X13_push_3 : (.fieldLink RX13 92 "ResourceLedgerModel$Looker" "height" "I" : Cond) ∈ wsX13_push := List.mem_of_getElem? (i := 3) rfl
theorem md_X13_push_4 : (.fieldLink RX13 33 "ResourceLedgerModel$Looker" "origins" "[J" : Cond) ∈ wsX13_push := List.mem_of_getElem? (i := 4) rfl
theorem md_X13_push_5 : (.fieldLink RX13 36 "ResourceLedgerModel$Looker" "insides" "[Z" : Cond) ∈ wsX13_push := List.mem_of_getElem? (i := 5) rfl
set_option maxHeartbeats 4000000 in
set_option maxRecDepth 100000 in
theorem de_X13_push (l : Launch) (dC : Nat → ClassId) (dI : Nat → Nat → Nat) (cy : Nat → ClassId) (a : Nat → Nat) (sh : Nat → Nat × Nat) (n sz : Nat) (F : Nat) (z : St) (h0 : Nat) (x0 : Int64) (x1 : Int64) (x2 : Int32) {z8 : St} {r8 : Unit} (hf : fn_X13_push F sh n z h0 x0 x1 x2 = some (z8, r8)) : Met l yX13_push wsX13_push ({ frames := 2, cells := 0, slots := 0, locals := 44 }) (va_Pc [.ref (a h0), .long x0, .long x1, .int x2] (fun U => U.heap.size = sz ∧ va_P (dC, dI) vwCl (Wd cy a sh n z) U.heap ∧ va_K (dC, dI) vwCl (TYS cy) U ∧ va_D (fun _ => True) (Wd cy a sh n z) ∧ NK U)) (va_Qv (fun u : Unit => True) (fun u t => va_P (dC, dI) vwCl (Wd cy a sh n z8) t.heap ∧ va_K (dC, dI) vwCl (TYS cy) t ∧ va_D (va_A (Wd cy a sh n z) sz) (Wd cy a sh n z8)) (va_A (Wd cy a sh n z) sz)) 0 0 (va_A (Wd cy a sh n z) sz) := by
  refine Met.ofW (cc := cX13_push) (maxL := 6) (ret := none) (by decide) rfl ?_
  intro p e s m args below meth c s₁ B hml hv
  obtain ⟨rfl, hsz, hP, hK, hD0, hN⟩ := hv
  have hx := B.exec
  have hb := B.bytes
  have hr := B.returns
  have hts := atoms_spec (ws := wsX13_push) B.pre
  have hown : s.vm.findClass RX13 = some m.cls := findClass_of_methodNamed B.named
  have hlocks := B.notSynchronized
  subst hsz
  have hD := hD0.self (sz := s.heap.size)
  clear hD0
  generalize hAe : va_A (Wd cy a sh n z) s.heap.size = A at hD ⊢
  have hA : ∀ q : Nat, s.heap.size ≤ q → A q := fun q h => by rw [← hAe]; exact Or.inr h
  clear hAe
  have hS : va_S A s.heap s.heap [] := va_S.rf
  have hl := lv_entry ([.ref (a h0), .long x0, .long x1, .int x2]) (n := 6) (Nat.le_of_ble_eq_true rfl)
  rw [lg_entry_eq]
  generalize (lg_sl ([.ref (a h0), .long x0, .long x1, .int x2]) ++ List.replicate (6 - (lg_sl ([.ref (a h0), .long x0, .long x1, .int x2])).length) Slot.unset).toArray = ls at hl ⊢
  replace hl : lv_has ls 6 [(0, .ref (a h0)), (1, .long x0), (3, .long x1), (5, .int x2)] := hl
  unfold fn_X13_push at hf
  refine de_start hS hP (fun H locs hS hP => ?_)
  refine lv_aload_n hx hb dX13_push_0 rfl (lv_at hl 0 rfl) ?_
  obtain ⟨g_1, hf⟩ := grd_some hf
  obtain ⟨kg_1, sg_1⟩ := okO_at g_1
  refine va_get (D := (dC, dI)) (ci := 13) (v := .int (z.1 h0 18)) (C := RX13) (T := TX13) (N := 22) hx hb hts iwd_X13_push_X13 hown hK hP h0 (Wd_ob kg_1 sg_1 (by decide)) rfl 18 (by decide) (hts _ md_X13_push_1) (fun _ h9 => h9) (fl_at (t := 0) rfl) dX13_push_1 ?_
  refine lv_if_eq (tgt := 8) hx hb dX13_push_4 (by decide) (fun c_2 => ?_) (fun c_2 => ?_)
  · skip
    rw [if_pos c_2] at hf
    refine lv_aload_n hx hb dX13_push_8 rfl (lv_at hl 0 rfl) ?_
    obtain ⟨k_3, ek_3, hf⟩ := lnk_some hf
    refine va_get (D := (dC, dI)) (ci := 13) (v := .ref (a k_3)) (C := RX13) (T := TX13) (N := 22) hx hb hts iwd_X13_push_X13 hown hK hP h0 (Wd_ob kg_1 sg_1 (by decide)) rfl 11 (by decide) (hts _ md_X13_push_2) (fun _ h9 => h9) (fl_q rfl ek_3) dX13_push_9 ?_
    refine lv_aload_n hx hb dX13_push_12 rfl (lv_at hl 0 rfl) ?_
    refine va_get (D := (dC, dI)) (ci := 13) (v := .int (z.1 h0 14)) (C := RX13) (T := TX13) (N := 22) hx hb hts iwd_X13_push_X13 hown hK hP h0 (Wd_ob kg_1 sg_1 (by decide)) rfl 14 (by decide) (hts _ md_X13_push_3) (fun _ h9 => h9) (fl_at (t := 0) rfl) dX13_push_13 ?_
    refine lv_lload_n hx hb dX13_push_16 rfl (lv_at hl 1 rfl) ?_
    obtain ⟨g_4, hf⟩ := grd_some hf
    obtain ⟨kg_4, sg_4, ig_4⟩ := okA_at g_4
    refine va_last hx hb hK hP hD hS k_3 2 (Wd_al kg_4 sg_4) rfl ig_4 dX13_push_17 (fun H_5 locs hP2 hD2 hS2 => ?_)
    rw [Wd_tl sg_4] at hP2 hD2
    obtain ⟨z_6, ez_6⟩ : ∃ w, w = sl z k_3 (z.1 h0 14).toNatClampNeg x0 := ⟨_, rfl⟩
    rw [← ez_6] at hP2 hD2
    replace hf := lt_at ez_6 hf
    clear ez_6
    replace hP := hP2
    replace hD := hD2
    replace hS := hS2
    clear hP2 hD2 hS2
    refine lv_aload_n hx hb dX13_push_18 rfl (lv_at hl 0 rfl) ?_
    obtain ⟨k_7, ek_7, hf⟩ := lnk_some hf
    refine va_get (D := (dC, dI)) (ci := 13) (v := .ref (a k_7)) (C := RX13) (T := TX13) (N := 22) hx hb hts iwd_X13_push_X13 hown hK hP h0 (Wd_ob kg_1 sg_1 (by decide)) rfl 12 (by decide) (hts _ md_X13_push_4) (fun _ h9 => h9) (fl_q rfl ek_7) dX13_push_19 ?_
    refine lv_aload_n hx hb dX13_push_22 rfl (lv_at hl 0 rfl) ?_
    refine va_get (D := (dC, dI)) (ci := 13) (v := .int (z_6.1 h0 14)) (C := RX13) (T := TX13) (N := 22) hx hb hts iwd_X13_push_X13 hown hK hP h0 (Wd_ob kg_1 sg_1 (by decide)) rfl 14 (by decide) (hts _ md_X13_push_3) (fun _ h9 => h9) (fl_at (t := 0) rfl) dX13_push_23 ?_
    refine lv_lload_n hx hb dX13_push_26 rfl (lv_at hl 1 rfl) ?_
    obtain ⟨z_8, r_9, hfc, hf⟩ := cal_some hf
    have hFc := de_free hD hS hA
    refine va_calli (va_runS (As := [.long x0]) (rest := [.int (z_6.1 h0 14), .ref (a k_7)]) ⟨hx, hb, hml, hown, hts⟩ (de_X13_isReference l dC dI cy a sh n H_5.size F z_6 x0 hfc) (va_cwS 1 hts gX13_push_X13_isReference rfl rfl rfl (by decide +kernel) ⟨Nat.le_of_ble_eq_true rfl, Nat.le_of_ble_eq_true rfl⟩) ⟨fun a U g mk q => by obtain ⟨q0, q1, qP, qK, qD, qN⟩ := q; exact ⟨q0, q1, qP, va_K.moved (u := U) (U := U.calling g mk a) (Vm.Alike.refl U.vm) qK, qD, qN.same rfl⟩, fun U hU hW => ⟨rfl, by rw [hU], by rw [hU]; exact hP, va_K.moved hW.alike hK, hD.weaken (fun _ _ _ _ => trivial), hN.warm hW⟩⟩ rfl rfl hl.1 rfl (lv_room (Nat.le_of_ble_eq_true rfl)) dX13_push_27 ⟨Nat.le_of_ble_eq_true rfl, Nat.le_of_ble_eq_true rfl⟩) hS (fun q _ h => hFc q h) hFc (fun rr u t H_10 locs ht hvm hw hB hz1 hk1 hS2 => ?_)
    rw [hw]
    clear hw
    obtain ⟨hP1, -, hD1⟩ := hB
    rw [ht] at hP1
    replace hD := hD1.weaken (fun _ _ _ h => hFc _ h)
    replace hP := hP1
    replace hS := hS2
    clear hP1 hD1 hS2 hFc hfc hz1 hk1 hvm ht
    refine de_cut (h := 38) (fun (x : St × Int64) => [.long x.2, .int (z_6.1 h0 14), .ref (a k_7)]) (fun x ls H locs => lv_has ls 6 [(0, .ref (a h0)), (1, .long x0), (5, .int x2)] ∧ va_P (dC, dI) vwCl (Wd cy a sh n x.1) H ∧ va_D A (Wd cy a sh n x.1) ∧ va_S A s.heap H locs) (fun x => fn_X13_push_B38 F sh n k_7 z_6 h0 x0 x2 x.1 x.2) (z8, r8) ?_ (fun B38 => ?_)
    · intro x ls H locs hI hf
      obtain ⟨z_12, p_11⟩ := x
      obtain ⟨hl2, hP2, hD2, hS2⟩ := hI
      replace hl : lv_has ls 6 [(0, .ref (a h0)), (1, .long x0), (5, .int x2)] := hl2
      replace hP := hP2
      replace hD := hD2
      replace hS := hS2
      clear hl2 hP2 hD2 hS2
      replace hf := fn_X13_push_B38_s hf
      refine W.eq (g2 := F0 m 38 ls [.long p_11, .int (z_6.1 h0 14), .ref (a k_7)]) rfl ?_
      obtain ⟨g_13, hf⟩ := grd_some hf
      obtain ⟨kg_13, sg_13, ig_13⟩ := okA_at g_13
      refine va_last hx hb hK hP hD hS k_7 2 (Wd_al kg_13 sg_13) rfl ig_13 dX13_push_38 (fun H_14 locs hP2 hD2 hS2 => ?_)
      rw [Wd_tl sg_13] at hP2 hD2
      obtain ⟨z_15, ez_15⟩ : ∃ w, w = sl z_12 k_7 (z_6.1 h0 14).toNatClampNeg p_11 := ⟨_, rfl⟩
      rw [← ez_15] at hP2 hD2
      replace hf := lt_at ez_15 hf
      clear ez_15
      replace hP := hP2
      replace hD := hD2
      replace hS := hS2
      clear hP2 hD2 hS2
      refine lv_aload_n hx hb dX13_push_39 rfl (lv_at hl 0 rfl) ?_
      obtain ⟨k_16, ek_16, hf⟩ := lnk_some hf
      refine va_get (D := (dC, dI)) (ci := 13) (v := .ref (a k_16)) (C := RX13) (T := TX13) (N := 22) hx hb hts iwd_X13_push_X13 hown hK hP h0 (Wd_ob kg_1 sg_1 (by decide)) rfl 13 (by decide) (hts _ md_X13_push_5) (fun _ h9 => h9) (fl_q rfl ek_16) dX13_push_40 ?_
      refine lv_aload_n hx hb dX13_push_43 rfl (lv_at hl 0 rfl) ?_
      refine va_get (D := (dC, dI)) (ci := 13) (v := .int (z_15.1 h0 14)) (C := RX13) (T := TX13) (N := 22) hx hb hts iwd_X13_push_X13 hown hK hP h0 (Wd_ob kg_1 sg_1 (by decide)) rfl 14 (by decide) (hts _ md_X13_push_3) (fun _ h9 => h9) (fl_at (t := 0) rfl) dX13_push_44 ?_
      refine lv_lload_n hx hb dX13_push_47 rfl (lv_at hl 1 rfl) ?_
      obtain ⟨z_17, r_18, hfc, hf⟩ := cal_some hf
      have hFc := de_free hD hS hA
      refine va_calli (va_runS (As := [.long x0]) (rest := [.int (z_15.1 h0 14), .ref (a k_16)]) ⟨hx, hb, hml, hown, hts⟩ (de_X13_isReference l dC dI cy a sh n H_14.size F z_15 x0 hfc) (va_cwS 1 hts gX13_push_X13_isReference rfl rfl rfl (by decide +kernel) ⟨Nat.le_of_ble_eq_true rfl, Nat.le_of_ble_eq_true rfl⟩) ⟨fun a U g mk q => by obtain ⟨q0, q1, qP, qK, qD, qN⟩ := q; exact ⟨q0, q1, qP, va_K.moved (u := U) (U := U.calling g mk a) (Vm.Alike.refl U.vm) qK, qD, qN.same rfl⟩, fun U hU hW => ⟨rfl, by rw [hU], by rw [hU]; exact hP, va_K.moved hW.alike hK, hD.weaken (fun _ _ _ _ => trivial), hN.warm hW⟩⟩ rfl rfl hl.1 rfl (lv_room (Nat.le_of_ble_eq_true rfl)) dX13_push_48 ⟨Nat.le_of_ble_eq_true rfl, Nat.le_of_ble_eq_true rfl⟩) hS (fun q _ h => hFc q h) hFc (fun rr u t H_19 locs ht hvm hw hB hz1 hk1 hS2 => ?_)
      rw [hw]
      clear hw
      obtain ⟨hP1, -, hD1⟩ := hB
      rw [ht] at hP1
      replace hD := hD1.weaken (fun _ _ _ h => hFc _ h)
      replace hP := hP1
      replace hS := hS2
      clear hP1 hD1 hS2 hFc hfc hz1 hk1 hvm ht
      refine de_cut (h := 64) (fun (x : St × Int32) => [.int x.2, .int (z_15.1 h0 14), .ref (a k_16)]) (fun x ls H locs => lv_has ls 6 [(0, .ref (a h0))] ∧ va_P (dC, dI) vwCl (Wd cy a sh n x.1) H ∧ va_D A (Wd cy a sh n x.1) ∧ va_S A s.heap H locs) (fun x => fn_X13_push_B64 F sh n k_16 z_15 h0 x.1 x.2) (z8, r8) ?_ (fun B64 => ?_)
      · intro x ls H locs hI hf
        obtain ⟨z_21, p_20⟩ := x
        obtain ⟨hl2, hP2, hD2, hS2⟩ := hI
        replace hl : lv_has ls 6 [(0, .ref (a h0))] := hl2
        replace hP := hP2
        replace hD := hD2
        replace hS := hS2
        clear hl2 hP2 hD2 hS2
        replace hf := fn_X13_push_B64_s hf
        refine W.eq (g2 := F0 m 64 ls [.int p_20, .int (z_15.1 h0 14), .ref (a k_16)]) rfl ?_
        obtain ⟨g_22, hf⟩ := grd_some hf
        obtain ⟨kg_22, sg_22, ig_22⟩ := okA_at g_22
        refine va_zast hx hb hK hP hD hS k_16 3 (Wd_az kg_22 sg_22) rfl ig_22 dX13_push_64 (fun H_23 locs hP2 hD2 hS2 => ?_)
        rw [Wd_tz sg_22] at hP2 hD2
        obtain ⟨z_24, ez_24⟩ : ∃ w, w = si z_21 k_16 (z_15.1 h0 14).toNatClampNeg (vp_nar .boolean p_20) := ⟨_, rfl⟩
        rw [← ez_24] at hP2 hD2
        replace hf := lt_at ez_24 hf
        clear ez_24
        replace hP := hP2
        replace hD := hD2
        replace hS := hS2
        clear hP2 hD2 hS2
        refine lv_aload_n hx hb dX13_push_65 rfl (lv_at hl 0 rfl) ?_
        refine lv_dup hx hb dX13_push_66 rfl ?_
        refine va_get (D := (dC, dI)) (ci := 13) (v := .int (z_24.1 h0 14)) (C := RX13) (T := TX13) (N := 22) hx hb hts iwd_X13_push_X13 hown hK hP h0 (Wd_ob kg_1 sg_1 (by decide)) rfl 14 (by decide) (hts _ md_X13_push_3) (fun _ h9 => h9) (fl_at (t := 0) rfl) dX13_push_67 ?_
        refine lv_iconst (v := 1) hx hb dX13_push_70 (by decide) ?_
        refine lv_iadd hx hb dX13_push_71 ?_
        refine va_put (D := (dC, dI)) (ci := 13) (v := .int ((z_24.1 h0 14) + 1)) (ty := .int) (C := RX13) (T := TX13) (N := 22) hx hb hts iwd_X13_push_X13 tyX13 tyX13_ok nmX13 hown hK hP hD hS h0 (Wd_ob kg_1 sg_1 (by decide)) rfl 14 (by decide) (hts _ md_X13_push_3) (fun _ h9 => h9) rfl (by decide +kernel) rfl rfl (by rw [fl_len]; decide) dX13_push_72 (fun H_25 locs hP2 hD2 hS2 => ?_)
        rw [Wd_si sg_1 (by decide) rfl] at hP2 hD2
        obtain ⟨z_26, ez_26⟩ : ∃ w, w = si z_24 h0 14 ((z_24.1 h0 14) + 1) := ⟨_, rfl⟩
        rw [← ez_26] at hP2 hD2
        replace hf := lt_at ez_26 hf
        clear ez_26
        replace hP := hP2
        replace hD := hD2
        replace hS := hS2
        clear hP2 hD2 hS2
        refine lv_aload_n hx hb dX13_push_75 rfl (lv_at hl 0 rfl) ?_
        refine va_get (D := (dC, dI)) (ci := 13) (v := .int (z_26.1 h0 14)) (C := RX13) (T := TX13) (N := 22) hx hb hts iwd_X13_push_X13 hown hK hP h0 (Wd_ob kg_1 sg_1 (by decide)) rfl 14 (by decide) (hts _ md_X13_push_3) (fun _ h9 => h9) (fl_at (t := 0) rfl) dX13_push_76 ?_
        refine lv_bipush (v := 64) hx hb dX13_push_79 (by decide) ?_
        refine lv_icmp_le (tgt := 89) hx hb dX13_push_81 (by decide) (fun c_27 => ?_) (fun c_27 => ?_)
        · skip
          rw [if_pos c_27] at hf
          obtain ⟨h8, h9⟩ := ret_some hf
          rw [h8]
          exact W.vret hx hb hr (fun t ht hW => ⟨⟨(), rfl, trivial, by rw [ht]; exact hP, va_K.moved hW.alike hK, hD⟩, hS.F ht⟩) hS.2.2 dX13_push_89
        · skip
          rw [if_neg c_27] at hf
          refine lv_aload_n hx hb dX13_push_84 rfl (lv_at hl 0 rfl) ?_
          refine lv_iconst (v := 2) hx hb dX13_push_85 (by decide) ?_
          obtain ⟨z_28, _u, hfc, hf⟩ := cal_some hf
          have hFc := de_free hD hS hA
          refine va_callv (va_runV (As := [.int 2]) (rest := []) ⟨hx, hb, hml, hown, hts⟩ (de_X13_fail l dC dI cy a sh n H_25.size F z_26 h0 2 hfc) (cwV 1 hts gX13_push_X13_fail rfl rfl rfl (by decide +kernel) ⟨Nat.le_of_ble_eq_true rfl, Nat.le_of_ble_eq_true rfl⟩) ⟨fun a U g mk q => by obtain ⟨q0, q1, qP, qK, qD, qN⟩ := q; exact ⟨q0, q1, qP, va_K.moved (u := U) (U := U.calling g mk a) (Vm.Alike.refl U.vm) qK, qD, qN.same rfl⟩, va_recv hK hP (ci := 13) (q0 := h0) rfl (Wd_ob kg_1 sg_1 (by decide)), fun U hU hW => ⟨rfl, by rw [hU], by rw [hU]; exact hP, va_K.moved hW.alike hK, hD.weaken (fun _ _ _ _ => trivial), hN.warm hW⟩⟩ rfl rfl hl.1 rfl (lv_room (Nat.le_of_ble_eq_true rfl)) dX13_push_86 ⟨Nat.le_of_ble_eq_true rfl, Nat.le_of_ble_eq_true rfl⟩) hS (fun q _ h => hFc q h) hFc (fun u t H_29 locs ht hvm hw hB hz1 hk1 hS2 => ?_)
          obtain ⟨hP1, -, hD1⟩ := hB
          rw [ht] at hP1
          replace hD := hD1.weaken (fun _ _ _ h => hFc _ h)
          replace hP := hP1
          replace hS := hS2
          clear hP1 hD1 hS2 hFc hfc hz1 hk1 hvm ht
          obtain ⟨h8, h9⟩ := ret_some hf
          rw [h8]
          exact W.vret hx hb hr (fun t ht hW => ⟨⟨(), rfl, trivial, by rw [ht]; exact hP, va_K.moved hW.alike hK, hD⟩, hS.F ht⟩) hS.2.2 dX13_push_89
      refine de_cut (h := 63) (fun (x : St) => [.int (z_15.1 h0 14), .ref (a k_16)]) (fun x ls H locs => lv_has ls 6 [(0, .ref (a h0))] ∧ va_P (dC, dI) vwCl (Wd cy a sh n x) H ∧ va_D A (Wd cy a sh n x) ∧ va_S A s.heap H locs) (fun x => fn_X13_push_B63 F sh n k_16 z_15 h0 x) (z8, r8) ?_ (fun B63 => ?_)
      · intro x ls H locs hI hf
        obtain ⟨z_30, ez⟩ : ∃ w, w = x := ⟨_, rfl⟩
        subst ez
        obtain ⟨hl2, hP2, hD2, hS2⟩ := hI
        replace hl : lv_has ls 6 [(0, .ref (a h0))] := hl2
        replace hP := hP2
        replace hD := hD2
        replace hS := hS2
        clear hl2 hP2 hD2 hS2
        replace hf := fn_X13_push_B63_s hf
        refine W.eq (g2 := F0 m 63 ls [.int (z_15.1 h0 14), .ref (a k_16)]) rfl ?_
        refine lv_iconst (v := 0) hx hb dX13_push_63 (by decide) ?_
        exact B64 (z_30, 0) ls H locs ⟨lv_sub hl [0] rfl, hP, hD, hS⟩ hf
      refine lv_if_eq (tgt := 63) hx hb dX13_push_51 (by decide) (fun c_31 => ?_) (fun c_31 => ?_)
      · skip
        rw [if_pos c_31] at hf
        exact B63 (z_17) ls H_19 locs ⟨lv_sub hl [0] rfl, hP, hD, hS⟩ hf
      · skip
        rw [if_neg c_31] at hf
        refine lv_iload hx hb dX13_push_54 (lv_at hl 2 rfl) ?_
        refine lv_if_eq (tgt := 63) hx hb dX13_push_56 (by decide) (fun c_32 => ?_) (fun c_32 => ?_)
        · skip
          rw [if_pos c_32] at hf
          exact B63 (z_17) ls H_19 locs ⟨lv_sub hl [0] rfl, hP, hD, hS⟩ hf
        · skip
          rw [if_neg c_32] at hf
          refine lv_iconst (v := 1) hx hb dX13_push_59 (by decide) ?_
          refine lv_goto (tgt := 64) hx hb dX13_push_60 (by decide) ?_
          exact B64 (z_17, 1) ls H_19 locs ⟨lv_sub hl [0] rfl, hP, hD, hS⟩ hf
    refine lv_if_eq (tgt := 37) hx hb dX13_push_30 (by decide) (fun c_33 => ?_) (fun c_33 => ?_)
    · skip
      rw [if_pos c_33] at hf
      refine lv_lconst (v := 0) hx hb dX13_push_37 (by decide) ?_
      exact B38 (z_8, 0) ls H_10 locs ⟨lv_sub hl [0, 1, 3] rfl, hP, hD, hS⟩ hf
    · skip
      rw [if_neg c_33] at hf
      refine lv_lload_n hx hb dX13_push_33 rfl (lv_at hl 2 rfl) ?_
      refine lv_goto (tgt := 38) hx hb dX13_push_34 (by decide) ?_
      exact B38 (z_8, x1) ls H_10 locs ⟨lv_sub hl [0, 1, 3] rfl, hP, hD, hS⟩ hf
  · skip
    rw [if_neg c_2] at hf
    obtain ⟨h8, h9⟩ := ret_some hf
    rw [h8]
    exact W.vret hx hb hr (fun t ht hW => ⟨⟨(), rfl, trivial, by rw [ht]; exact hP, va_K.moved hW.alike hK, hD⟩, hS.F ht⟩) hS.2.2 dX13_push_7

theorem md_X5_weakStructure_1 : (.fieldLink RX5 99 "ResourceLedger$Program" "ownStructures" "I" : Cond) ∈ wsX5_weakStructure := List.mem_of_getElem? (i := 1) rfl
theorem iwd_X5_weakStructure_X5 : ∀ w ∈ wsX50, w ∈ wsX5_weakStructure := fun _ h => List.mem_cons_of_mem _ (List.mem_append_right _ h)
set_option maxHeartbeats 4000000 in
set_option maxRecDepth 100000 in
theorem de_X5_weakStructure (l : Launch) (dC : Nat → ClassId) (dI : Nat → Nat → Nat) (cy : Nat → ClassId) (a : Nat → Nat) (sh : Nat → Nat × Nat) (n sz : Nat) (F : Nat) (z : St) (h0 : Nat) {z8 : St} {r8 : Int32} (hf : fn_X5_weakStructure F sh n z h0 = some (z8, r8)) : Met l yX5_weakStructure wsX5_weakStructure ({ frames := 2, cells := 0, slots := 0, locals := 46 }) (va_Pc [.ref (a h0)] (fun U => U.heap.size = sz ∧ va_P (dC, dI) vwCl (Wd cy a sh n z) U.heap ∧ va_K (dC, dI) vwCl (TYS cy) U ∧ va_D (fun _ => True) (Wd cy a sh n z) ∧ NK U)) (va_Qi (fun (r9 : Int32) (u : Unit) => r9 = r8) (fun u t => va_P (dC, dI) vwCl (Wd cy a sh n z8) t.heap ∧ va_K (dC, dI) vwCl (TYS cy) t ∧ va_D (va_A (Wd cy a sh n z) sz) (Wd cy a sh n z8)) (va_A (Wd cy a sh n z) sz)) 0 0 (va_A (Wd cy a sh n z) sz) := by
  refine Met.ofW (cc := cX5_weakStructure) (maxL := 5) (ret := (some .int)) (by decide) rfl ?_
  intro p e s m args below meth c s₁ B hml hv
  obtain ⟨rfl, hsz, hP, hK, hD0, hN⟩ := hv
  have hx := B.exec
  have hb := B.bytes
  have hr := B.returns
  have hts := atoms_spec (ws := wsX5_weakStructure) B.pre
  have hown : s.vm.findClass RX5 = some m.cls := findClass_of_methodNamed B.named
  have hlocks := B.notSynchronized
  subst hsz
  have hD := hD0.self (sz := s.heap.size)
  clear hD0
  generalize hAe : va_A (Wd cy a sh n z) s.heap.size = A at hD ⊢
  have hA : ∀ q : Nat, s.heap.size ≤ q → A q := fun q h => by rw [← hAe]; exact Or.inr h
  clear hAe
  have hS : va_S A s.heap s.heap [] := va_S.rf
  have hl := lv_entry ([.ref (a h0)]) (n := 5) (Nat.le_of_ble_eq_true rfl)
  rw [lg_entry_eq]
  generalize (lg_sl ([.ref (a h0)]) ++ List.replicate (5 - (lg_sl ([.ref (a h0)])).length) Slot.unset).toArray = ls at hl ⊢
  replace hl : lv_has ls 5 [(0, .ref (a h0))] := hl
  unfold fn_X5_weakStructure at hf
  refine de_start hS hP (fun H locs hS hP => ?_)
  refine lv_iconst (v := 0) hx hb dX5_weakStructure_0 (by decide) ?_
  refine lv_istore_n (lv' := [(1, .int 0), (0, .ref (a h0))]) hx hb dX5_weakStructure_1 rfl hl (by decide) rfl (fun ls hl2 => ?_)
  replace hl := hl2
  clear hl2
  have hl0 : lv_has ls 5 [(1, .int 0), (0, .ref (a h0))] := lv_sub hl [0, 1] rfl
  refine de_loop (h := 2) (fun (x : St × Int32) ls H locs => lv_has ls 5 [(1, .int x.2), (0, .ref (a h0))] ∧ va_P (dC, dI) vwCl (Wd cy a sh n x.1) H ∧ va_D A (Wd cy a sh n x.1) ∧ va_S A s.heap H locs) (fun f x => fn_X5_weakStructure_L2 F sh n h0 f x.1 x.2) (z8, r8) ?_ (fun _ => rfl) F (z, 0) ls H locs ⟨hl0, hP, hD, hS⟩ hf
  intro f_3 x ls H locs ih2 hI hf
  obtain ⟨z_2, p_1⟩ := x
  obtain ⟨hl2, hP2, hD2, hS2⟩ := hI
  replace hl : lv_has ls 5 [(1, .int p_1), (0, .ref (a h0))] := hl2
  replace hP := hP2
  replace hD := hD2
  replace hS := hS2
  clear hl2 hP2 hD2 hS2 hl0
  replace hf := fn_X5_weakStructure_L2_s hf
  refine lv_iload_n hx hb dX5_weakStructure_2 rfl (lv_at hl 0 rfl) ?_
  refine lv_aload_n hx hb dX5_weakStructure_3 rfl (lv_at hl 1 rfl) ?_
  obtain ⟨g_4, hf⟩ := grd_some hf
  obtain ⟨kg_4, sg_4⟩ := okO_at g_4
  refine va_get (D := (dC, dI)) (ci := 5) (v := .int (z_2.1 h0 8)) (C := RX5) (T := TX5) (N := 15) hx hb hts iwd_X5_weakStructure_X5 hown hK hP h0 (Wd_ob kg_4 sg_4 (by decide)) rfl 8 (by decide) (hts _ md_X5_weakStructure_1) (fun _ h9 => h9) (fl_at (t := 0) rfl) dX5_weakStructure_4 ?_
  refine lv_icmp_ge (tgt := 79) hx hb dX5_weakStructure_7 (by decide) (fun c_5 => ?_) (fun c_5 => ?_)
  · skip
    rw [if_pos c_5] at hf
    refine lv_iconst (v := (-1)) hx hb dX5_weakStructure_79 (by decide) ?_
    obtain ⟨h8, h9⟩ := ret_some hf
    rw [h8, h9]
    exact W.iret (v := (-1)) hx hb hr (fun t ht hW => ⟨⟨(-1), (), rfl, rfl, by rw [ht]; exact hP, va_K.moved hW.alike hK, hD⟩, hS.F ht⟩) hS.2.2 dX5_weakStructure_80
  · skip
    rw [if_neg c_5] at hf
    refine lv_aload_n hx hb dX5_weakStructure_10 rfl (lv_at hl 1 rfl) ?_
    refine lv_iload_n hx hb dX5_weakStructure_11 rfl (lv_at hl 0 rfl) ?_
    refine lv_iconst (v := 0) hx hb dX5_weakStructure_12 (by decide) ?_
    obtain ⟨z_6, r_7, hfc, hf⟩ := cal_some hf
    have hFc := de_free hD hS hA
    refine va_calli (va_runV (As := [.int p_1, .int 0]) (rest := []) ⟨hx, hb, hml, hown, hts⟩ (de_X5_structureColumn l dC dI cy a sh n H.size F z_2 h0 p_1 0 hfc) (cwV 2 hts gX5_weakStructure_X5_structureColumn rfl rfl rfl (by decide +kernel) ⟨Nat.le_of_ble_eq_true rfl, Nat.le_of_ble_eq_true rfl⟩) ⟨fun a U g mk q => by obtain ⟨q0, q1, qP, qK, qD, qN⟩ := q; exact ⟨q0, q1, qP, va_K.moved (u := U) (U := U.calling g mk a) (Vm.Alike.refl U.vm) qK, qD, qN.same rfl⟩, va_recv hK hP (ci := 5) (q0 := h0) rfl (Wd_ob kg_4 sg_4 (by decide)), fun U hU hW => ⟨rfl, by rw [hU], by rw [hU]; exact hP, va_K.moved hW.alike hK, hD.weaken (fun _ _ _ _ => trivial), hN.warm hW⟩⟩ rfl rfl hl.1 rfl (lv_room (Nat.le_of_ble_eq_true rfl)) dX5_weakStructure_13 ⟨Nat.le_of_ble_eq_true rfl, Nat.le_of_ble_eq_true rfl⟩) hS (fun q _ h => hFc q h) hFc (fun rr u t H_8 locs ht hvm hw hB hz1 hk1 hS2 => ?_)
    rw [hw]
    clear hw
    obtain ⟨hP1, -, hD1⟩ := hB
    rw [ht] at hP1
    replace hD := hD1.weaken (fun _ _ _ h => hFc _ h)
    replace hP := hP1
    replace hS := hS2
    clear hP1 hD1 hS2 hFc hfc hz1 hk1 hvm ht
    refine lv_istore_n (lv' := [(2, .int r_7), (1, .int p_1), (0, .ref (a h0))]) hx hb dX5_weakStructure_16 rfl hl (by decide) rfl (fun ls hl2 => ?_)
    replace hl := hl2
    clear hl2
    refine lv_iload_n hx hb dX5_weakStructure_17 rfl (lv_at hl 0 rfl) ?_
    refine lv_bipush (v := 7) hx hb dX5_weakStructure_18 (by decide) ?_
    refine lv_iand hx hb dX5_weakStructure_20 ?_
    refine lv_iload_n hx hb dX5_weakStructure_21 rfl (lv_at hl 0 rfl) ?_
    refine lv_bipush (v := 8) hx hb dX5_weakStructure_22 (by decide) ?_
    refine lv_iand hx hb dX5_weakStructure_24 ?_
    refine de_cut (h := 33) (fun (x : St × Int32) => [.int x.2, .int (r_7 &&& 7)]) (fun x ls H locs => lv_has ls 5 [(1, .int p_1), (0, .ref (a h0))] ∧ va_P (dC, dI) vwCl (Wd cy a sh n x.1) H ∧ va_D A (Wd cy a sh n x.1) ∧ va_S A s.heap H locs) (fun x => fn_X5_weakStructure_B33 F sh n r_7 h0 p_1 (fun z9 q1 => fn_X5_weakStructure_L2 F sh n h0 f_3 z9 q1) x.1 x.2) (z8, r8) ?_ (fun B33 => ?_)
    · intro x ls H locs hI hf
      obtain ⟨z_10, p_9⟩ := x
      obtain ⟨hl2, hP2, hD2, hS2⟩ := hI
      replace hl : lv_has ls 5 [(1, .int p_1), (0, .ref (a h0))] := hl2
      replace hP := hP2
      replace hD := hD2
      replace hS := hS2
      clear hl2 hP2 hD2 hS2
      replace hf := fn_X5_weakStructure_B33_s hf
      refine W.eq (g2 := F0 m 33 ls [.int p_9, .int (r_7 &&& 7)]) rfl ?_
      refine lv_ior hx hb dX5_weakStructure_33 ?_
      refine lv_topi (fun v_11 ev_11 => ?_)
      replace hf := lt_at ev_11 hf
      clear ev_11
      refine lv_istore_n (lv' := [(3, .int v_11), (1, .int p_1), (0, .ref (a h0))]) hx hb dX5_weakStructure_34 rfl hl (by decide) rfl (fun ls hl2 => ?_)
      replace hl := hl2
      clear hl2
      refine lv_iconst (v := 0) hx hb dX5_weakStructure_35 (by decide) ?_
      refine lv_istore (lv' := [(4, .int 0), (3, .int v_11), (1, .int p_1), (0, .ref (a h0))]) hx hb dX5_weakStructure_36 hl (by decide) rfl (fun ls hl2 => ?_)
      replace hl := hl2
      clear hl2
      have hl0 : lv_has ls 5 [(4, .int 0), (3, .int v_11), (1, .int p_1), (0, .ref (a h0))] := lv_sub hl [0, 1, 2, 3] rfl
      refine de_loop (h := 38) (fun (x : St × Int32) ls H locs => lv_has ls 5 [(4, .int x.2), (3, .int v_11), (1, .int p_1), (0, .ref (a h0))] ∧ va_P (dC, dI) vwCl (Wd cy a sh n x.1) H ∧ va_D A (Wd cy a sh n x.1) ∧ va_S A s.heap H locs) (fun f x => fn_X5_weakStructure_L38 F sh n h0 p_1 v_11 (fun z9 q1 => fn_X5_weakStructure_L2 F sh n h0 f_3 z9 q1) f x.1 x.2) (z8, r8) ?_ (fun _ => rfl) F (z_10, 0) ls H locs ⟨hl0, hP, hD, hS⟩ hf
      intro f_14 x ls H locs ih38 hI hf
      obtain ⟨z_13, p_12⟩ := x
      obtain ⟨hl2, hP2, hD2, hS2⟩ := hI
      replace hl : lv_has ls 5 [(4, .int p_12), (3, .int v_11), (1, .int p_1), (0, .ref (a h0))] := hl2
      replace hP := hP2
      replace hD := hD2
      replace hS := hS2
      clear hl2 hP2 hD2 hS2 hl0
      replace hf := fn_X5_weakStructure_L38_s hf
      refine lv_iload hx hb dX5_weakStructure_38 (lv_at hl 0 rfl) ?_
      refine lv_aload_n hx hb dX5_weakStructure_40 rfl (lv_at hl 3 rfl) ?_
      refine lv_iload_n hx hb dX5_weakStructure_41 rfl (lv_at hl 2 rfl) ?_
      obtain ⟨z_15, r_16, hfc, hf⟩ := cal_some hf
      have hFc := de_free hD hS hA
      refine va_calli (va_runV (As := [.int p_1]) (rest := [.int p_12]) ⟨hx, hb, hml, hown, hts⟩ (de_X5_fieldCount l dC dI cy a sh n H.size F z_13 h0 p_1 hfc) (cwV 1 hts gX5_weakStructure_X5_fieldCount rfl rfl rfl (by decide +kernel) ⟨Nat.le_of_ble_eq_true rfl, Nat.le_of_ble_eq_true rfl⟩) ⟨fun a U g mk q => by obtain ⟨q0, q1, qP, qK, qD, qN⟩ := q; exact ⟨q0, q1, qP, va_K.moved (u := U) (U := U.calling g mk a) (Vm.Alike.refl U.vm) qK, qD, qN.same rfl⟩, va_recv hK hP (ci := 5) (q0 := h0) rfl (Wd_ob kg_4 sg_4 (by decide)), fun U hU hW => ⟨rfl, by rw [hU], by rw [hU]; exact hP, va_K.moved hW.alike hK, hD.weaken (fun _ _ _ _ => trivial), hN.warm hW⟩⟩ rfl rfl hl.1 rfl (lv_room (Nat.le_of_ble_eq_true rfl)) dX5_weakStructure_42 ⟨Nat.le_of_ble_eq_true rfl, Nat.le_of_ble_eq_true rfl⟩) hS (fun q _ h => hFc q h) hFc (fun rr u t H_17 locs ht hvm hw hB hz1 hk1 hS2 => ?_)
      rw [hw]
      clear hw
      obtain ⟨hP1, -, hD1⟩ := hB
      rw [ht] at hP1
      replace hD := hD1.weaken (fun _ _ _ h => hFc _ h)
      replace hP := hP1
      replace hS := hS2
      clear hP1 hD1 hS2 hFc hfc hz1 hk1 hvm ht
      refine lv_icmp_ge (tgt := 73) hx hb dX5_weakStructure_45 (by decide) (fun c_18 => ?_) (fun c_18 => ?_)
      · skip
        rw [if_pos c_18] at hf
        refine lv_iinc (v := (p_1 + 1)) (lv' := [(1, .int (p_1 + 1)), (4, .int p_12), (3, .int v_11), (0, .ref (a h0))]) hx hb dX5_weakStructure_73 hl (k := 2) rfl rfl (by decide) rfl (fun ls hl2 => ?_)
        replace hl := hl2
        clear hl2
        refine lv_goto (tgt := 2) hx hb dX5_weakStructure_76 (by decide) ?_
        exact ih2 (z_15, (p_1 + 1)) ls H_17 locs ⟨lv_sub hl [0, 3] rfl, hP, hD, hS⟩ hf
      · skip
        rw [if_neg c_18] at hf
        refine lv_aload_n hx hb dX5_weakStructure_48 rfl (lv_at hl 3 rfl) ?_
        refine lv_aload_n hx hb dX5_weakStructure_49 rfl (lv_at hl 3 rfl) ?_
        refine lv_iload_n hx hb dX5_weakStructure_50 rfl (lv_at hl 2 rfl) ?_
        refine lv_iload hx hb dX5_weakStructure_51 (lv_at hl 0 rfl) ?_
        obtain ⟨z_19, r_20, hfc, hf⟩ := cal_some hf
        have hFc := de_free hD hS hA
        refine va_calll (va_runV (As := [.int p_1, .int p_12]) (rest := [.ref (a h0)]) ⟨hx, hb, hml, hown, hts⟩ (de_X5_fieldType l dC dI cy a sh n H_17.size F z_15 h0 p_1 p_12 hfc) (cwV 2 hts gX5_weakStructure_X5_fieldType rfl rfl rfl (by decide +kernel) ⟨Nat.le_of_ble_eq_true rfl, Nat.le_of_ble_eq_true rfl⟩) ⟨fun a U g mk q => by obtain ⟨q0, q1, qP, qK, qD, qN⟩ := q; exact ⟨q0, q1, qP, va_K.moved (u := U) (U := U.calling g mk a) (Vm.Alike.refl U.vm) qK, qD, qN.same rfl⟩, va_recv hK hP (ci := 5) (q0 := h0) rfl (Wd_ob kg_4 sg_4 (by decide)), fun U hU hW => ⟨rfl, by rw [hU], by rw [hU]; exact hP, va_K.moved hW.alike hK, hD.weaken (fun _ _ _ _ => trivial), hN.warm hW⟩⟩ rfl rfl hl.1 rfl (lv_room (Nat.le_of_ble_eq_true rfl)) dX5_weakStructure_53 ⟨Nat.le_of_ble_eq_true rfl, Nat.le_of_ble_eq_true rfl⟩) hS (fun q _ h => hFc q h) hFc (fun rr u t H_21 locs ht hvm hw hB hz1 hk1 hS2 => ?_)
        rw [hw]
        clear hw
        obtain ⟨hP1, -, hD1⟩ := hB
        rw [ht] at hP1
        replace hD := hD1.weaken (fun _ _ _ h => hFc _ h)
        replace hP := hP1
        replace hS := hS2
        clear hP1 hD1 hS2 hFc hfc hz1 hk1 hvm ht
        obtain ⟨z_22, r_23, hfc, hf⟩ := cal_some hf
        have hFc := de_free hD hS hA
        refine va_calli (va_runV (As := [.long r_20]) (rest := []) ⟨hx, hb, hml, hown, hts⟩ (de_X5_abilities l dC dI cy a sh n H_21.size F z_19 h0 r_20 hfc) (cwV 1 hts gX5_weakStructure_X5_abilities rfl rfl rfl (by decide +kernel) ⟨Nat.le_of_ble_eq_true rfl, Nat.le_of_ble_eq_true rfl⟩) ⟨fun a U g mk q => by obtain ⟨q0, q1, qP, qK, qD, qN⟩ := q; exact ⟨q0, q1, qP, va_K.moved (u := U) (U := U.calling g mk a) (Vm.Alike.refl U.vm) qK, qD, qN.same rfl⟩, va_recv hK hP (ci := 5) (q0 := h0) rfl (Wd_ob kg_4 sg_4 (by decide)), fun U hU hW => ⟨rfl, by rw [hU], by rw [hU]; exact hP, va_K.moved hW.alike hK, hD.weaken (fun _ _ _ _ => trivial), hN.warm hW⟩⟩ rfl rfl hl.1 rfl (lv_room (Nat.le_of_ble_eq_true rfl)) dX5_weakStructure_56 ⟨Nat.le_of_ble_eq_true rfl, Nat.le_of_ble_eq_true rfl⟩) hS (fun q _ h => hFc q h) hFc (fun rr u t H_24 locs ht hvm hw hB hz1 hk1 hS2 => ?_)
        rw [hw]
        clear hw
        obtain ⟨hP1, -, hD1⟩ := hB
        rw [ht] at hP1
        replace hD := hD1.weaken (fun _ _ _ h => hFc _ h)
        replace hP := hP1
        replace hS := hS2
        clear hP1 hD1 hS2 hFc hfc hz1 hk1 hvm ht
        refine lv_iload_n hx hb dX5_weakStructure_59 rfl (lv_at hl 1 rfl) ?_
        refine lv_iand hx hb dX5_weakStructure_60 ?_
        refine lv_iload_n hx hb dX5_weakStructure_61 rfl (lv_at hl 1 rfl) ?_
        refine lv_icmp_eq (tgt := 67) hx hb dX5_weakStructure_62 (by decide) (fun c_25 => ?_) (fun c_25 => ?_)
        · skip
          rw [if_pos c_25] at hf
          refine lv_iinc (v := (p_12 + 1)) (lv' := [(4, .int (p_12 + 1)), (3, .int v_11), (1, .int p_1), (0, .ref (a h0))]) hx hb dX5_weakStructure_67 hl (k := 0) rfl rfl (by decide) rfl (fun ls hl2 => ?_)
          replace hl := hl2
          clear hl2
          refine lv_goto (tgt := 38) hx hb dX5_weakStructure_70 (by decide) ?_
          exact ih38 (z_22, (p_12 + 1)) ls H_24 locs ⟨lv_sub hl [0, 1, 2, 3] rfl, hP, hD, hS⟩ hf
        · skip
          rw [if_neg c_25] at hf
          refine lv_iload_n hx hb dX5_weakStructure_65 rfl (lv_at hl 2 rfl) ?_
          obtain ⟨h8, h9⟩ := ret_some hf
          rw [h8, h9]
          exact W.iret (v := p_1) hx hb hr (fun t ht hW => ⟨⟨p_1, (), rfl, rfl, by rw [ht]; exact hP, va_K.moved hW.alike hK, hD⟩, hS.F ht⟩) hS.2.2 dX5_weakStructure_66
    refine lv_if_eq (tgt := 32) hx hb dX5_weakStructure_25 (by decide) (fun c_26 => ?_) (fun c_26 => ?_)
    · skip
      rw [if_pos c_26] at hf
      refine lv_iconst (v := 0) hx hb dX5_weakStructure_32 (by decide) ?_
      exact B33 (z_6, 0) ls H_8 locs ⟨lv_sub hl [1, 2] rfl, hP, hD, hS⟩ hf
    · skip
      rw [if_neg c_26] at hf
      refine lv_iconst (v := 4) hx hb dX5_weakStructure_28 (by decide) ?_
      refine lv_goto (tgt := 33) hx hb dX5_weakStructure_29 (by decide) ?_
      exact B33 (z_6, 4) ls H_8 locs ⟨lv_sub hl [1, 2] rfl, hP, hD, hS⟩ hf

theorem md_X13_abilitiesFor_1 : (.fieldLink RX13 72 "ResourceLedgerModel$Looker" "unit" "LResourceLedgerModel$Unit;" : Cond) ∈ wsX13_abilitiesFor := List.mem_of_getElem? (i := 1) rfl
theorem iwd_X13_abilitiesFor_X13 : ∀ w ∈ wsX130, w ∈ wsX13_abilitiesFor := fun _ h => List.mem_cons_of_mem _ (List.mem_append_left _ (List.mem_append_right _ h))
set_option maxHeartbeats 4000000 in
set_option maxRecDepth 100000 in
theorem de_X13_abilitiesFor (l : Launch) (dC : Nat → ClassId) (dI : Nat → Nat → Nat) (cy : Nat → ClassId) (a : Nat → Nat) (sh : Nat → Nat × Nat) (n sz : Nat) (F : Nat) (z : St) (h0 : Nat) (x0 : Int64) {z8 : St} {r8 : Int32} (hf : fn_X13_abilitiesFor F sh n z h0 x0 = some (z8, r8)) : Met l yX13_abilitiesFor wsX13_abilitiesFor ({ frames := 2, cells := 0, slots := 0, locals := 44 }) (va_Pc [.ref (a h0), .long x0] (fun U => U.heap.size = sz ∧ va_P (dC, dI) vwCl (Wd cy a sh n z) U.heap ∧ va_K (dC, dI) vwCl (TYS cy) U ∧ va_D (fun _ => True) (Wd cy a sh n z) ∧ NK U)) (va_Qi (fun (r9 : Int32) (u : Unit) => r9 = r8) (fun u t => va_P (dC, dI) vwCl (Wd cy a sh n z8) t.heap ∧ va_K (dC, dI) vwCl (TYS cy) t ∧ va_D (va_A (Wd cy a sh n z) sz) (Wd cy a sh n z8)) (va_A (Wd cy a sh n z) sz)) 0 0 (va_A (Wd cy a sh n z) sz) := by
  refine Met.ofW (cc := cX13_abilitiesFor) (maxL := 8) (ret := (some .int)) (by decide) rfl ?_
  intro p e s m args below meth c s₁ B hml hv
  obtain ⟨rfl, hsz, hP, hK, hD0, hN⟩ := hv
  have hx := B.exec
  have hb := B.bytes
  have hr := B.returns
  have hts := atoms_spec (ws := wsX13_abilitiesFor) B.pre
  have hown : s.vm.findClass RX13 = some m.cls := findClass_of_methodNamed B.named
  have hlocks := B.notSynchronized
  subst hsz
  have hD := hD0.self (sz := s.heap.size)
  clear hD0
  generalize hAe : va_A (Wd cy a sh n z) s.heap.size = A at hD ⊢
  have hA : ∀ q : Nat, s.heap.size ≤ q → A q := fun q h => by rw [← hAe]; exact Or.inr h
  clear hAe
  have hS : va_S A s.heap s.heap [] := va_S.rf
  have hl := lv_entry ([.ref (a h0), .long x0]) (n := 8) (Nat.le_of_ble_eq_true rfl)
  rw [lg_entry_eq]
  generalize (lg_sl ([.ref (a h0), .long x0]) ++ List.replicate (8 - (lg_sl ([.ref (a h0), .long x0])).length) Slot.unset).toArray = ls at hl ⊢
  replace hl : lv_has ls 8 [(0, .ref (a h0)), (1, .long x0)] := hl
  unfold fn_X13_abilitiesFor at hf
  refine de_start hS hP (fun H locs hS hP => ?_)
  refine lv_lload_n hx hb dX13_abilitiesFor_0 rfl (lv_at hl 1 rfl) ?_
  obtain ⟨z_1, r_2, hfc, hf⟩ := cal_some hf
  have hFc := de_free hD hS hA
  refine va_calli (va_runS (As := [.long x0]) (rest := []) ⟨hx, hb, hml, hown, hts⟩ (de_X13_isReference l dC dI cy a sh n H.size F z x0 hfc) (va_cwS 1 hts gX13_abilitiesFor_X13_isReference rfl rfl rfl (by decide +kernel) ⟨Nat.le_of_ble_eq_true rfl, Nat.le_of_ble_eq_true rfl⟩) ⟨fun a U g mk q => by obtain ⟨q0, q1, qP, qK, qD, qN⟩ := q; exact ⟨q0, q1, qP, va_K.moved (u := U) (U := U.calling g mk a) (Vm.Alike.refl U.vm) qK, qD, qN.same rfl⟩, fun U hU hW => ⟨rfl, by rw [hU], by rw [hU]; exact hP, va_K.moved hW.alike hK, hD.weaken (fun _ _ _ _ => trivial), hN.warm hW⟩⟩ rfl rfl hl.1 rfl (lv_room (Nat.le_of_ble_eq_true rfl)) dX13_abilitiesFor_1 ⟨Nat.le_of_ble_eq_true rfl, Nat.le_of_ble_eq_true rfl⟩) hS (fun q _ h => hFc q h) hFc (fun rr u t H_3 locs ht hvm hw hB hz1 hk1 hS2 => ?_)
  rw [hw]
  clear hw
  obtain ⟨hP1, -, hD1⟩ := hB
  rw [ht] at hP1
  replace hD := hD1.weaken (fun _ _ _ h => hFc _ h)
  replace hP := hP1
  replace hS := hS2
  clear hP1 hD1 hS2 hFc hfc hz1 hk1 hvm ht
  refine lv_if_eq (tgt := 9) hx hb dX13_abilitiesFor_4 (by decide) (fun c_4 => ?_) (fun c_4 => ?_)
  · skip
    rw [if_pos c_4] at hf
    refine lv_lload_n hx hb dX13_abilitiesFor_9 rfl (lv_at hl 1 rfl) ?_
    obtain ⟨z_5, r_6, hfc, hf⟩ := cal_some hf
    have hFc := de_free hD hS hA
    refine va_calli (va_runS (As := [.long x0]) (rest := []) ⟨hx, hb, hml, hown, hts⟩ (de_X13_bytesOf l dC dI cy a sh n H_3.size F z_1 x0 hfc) (va_cwS 1 hts gX13_abilitiesFor_X13_bytesOf rfl rfl rfl (by decide +kernel) ⟨Nat.le_of_ble_eq_true rfl, Nat.le_of_ble_eq_true rfl⟩) ⟨fun a U g mk q => by obtain ⟨q0, q1, qP, qK, qD, qN⟩ := q; exact ⟨q0, q1, qP, va_K.moved (u := U) (U := U.calling g mk a) (Vm.Alike.refl U.vm) qK, qD, qN.same rfl⟩, fun U hU hW => ⟨rfl, by rw [hU], by rw [hU]; exact hP, va_K.moved hW.alike hK, hD.weaken (fun _ _ _ _ => trivial), hN.warm hW⟩⟩ rfl rfl hl.1 rfl (lv_room (Nat.le_of_ble_eq_true rfl)) dX13_abilitiesFor_10 ⟨Nat.le_of_ble_eq_true rfl, Nat.le_of_ble_eq_true rfl⟩) hS (fun q _ h => hFc q h) hFc (fun rr u t H_7 locs ht hvm hw hB hz1 hk1 hS2 => ?_)
    rw [hw]
    clear hw
    obtain ⟨hP1, -, hD1⟩ := hB
    rw [ht] at hP1
    replace hD := hD1.weaken (fun _ _ _ h => hFc _ h)
    replace hP := hP1
    replace hS := hS2
    clear hP1 hD1 hS2 hFc hfc hz1 hk1 hvm ht
    refine lv_istore_n (lv' := [(3, .int r_6), (0, .ref (a h0)), (1, .long x0)]) hx hb dX13_abilitiesFor_13 rfl hl (by decide) rfl (fun ls hl2 => ?_)
    replace hl := hl2
    clear hl2
    refine lv_lload_n hx hb dX13_abilitiesFor_14 rfl (lv_at hl 2 rfl) ?_
    refine lv_iconst (v := 0) hx hb dX13_abilitiesFor_15 (by decide) ?_
    obtain ⟨z_8, r_9, hfc, hf⟩ := cal_some hf
    have hFc := de_free hD hS hA
    refine va_calli (va_runS (As := [.long x0, .int 0]) (rest := []) ⟨hx, hb, hml, hown, hts⟩ (de_X13_byteOf l dC dI cy a sh n H_7.size F z_5 x0 0 hfc) (va_cwS 2 hts gX13_abilitiesFor_X13_byteOf rfl rfl rfl (by decide +kernel) ⟨Nat.le_of_ble_eq_true rfl, Nat.le_of_ble_eq_true rfl⟩) ⟨fun a U g mk q => by obtain ⟨q0, q1, qP, qK, qD, qN⟩ := q; exact ⟨q0, q1, qP, va_K.moved (u := U) (U := U.calling g mk a) (Vm.Alike.refl U.vm) qK, qD, qN.same rfl⟩, fun U hU hW => ⟨rfl, by rw [hU], by rw [hU]; exact hP, va_K.moved hW.alike hK, hD.weaken (fun _ _ _ _ => trivial), hN.warm hW⟩⟩ rfl rfl hl.1 rfl (lv_room (Nat.le_of_ble_eq_true rfl)) dX13_abilitiesFor_16 ⟨Nat.le_of_ble_eq_true rfl, Nat.le_of_ble_eq_true rfl⟩) hS (fun q _ h => hFc q h) hFc (fun rr u t H_10 locs ht hvm hw hB hz1 hk1 hS2 => ?_)
    rw [hw]
    clear hw
    obtain ⟨hP1, -, hD1⟩ := hB
    rw [ht] at hP1
    replace hD := hD1.weaken (fun _ _ _ h => hFc _ h)
    replace hP := hP1
    replace hS := hS2
    clear hP1 hD1 hS2 hFc hfc hz1 hk1 hvm ht
    refine lv_istore (lv' := [(4, .int r_9), (3, .int r_6), (0, .ref (a h0)), (1, .long x0)]) hx hb dX13_abilitiesFor_19 hl (by decide) rfl (fun ls hl2 => ?_)
    replace hl := hl2
    clear hl2
    refine lv_lload_n hx hb dX13_abilitiesFor_21 rfl (lv_at hl 3 rfl) ?_
    refine lv_iload_n hx hb dX13_abilitiesFor_22 rfl (lv_at hl 1 rfl) ?_
    refine lv_iconst (v := 1) hx hb dX13_abilitiesFor_23 (by decide) ?_
    refine lv_isub hx hb dX13_abilitiesFor_24 ?_
    obtain ⟨z_11, r_12, hfc, hf⟩ := cal_some hf
    have hFc := de_free hD hS hA
    refine va_calli (va_runS (As := [.long x0, .int (r_6 - 1)]) (rest := []) ⟨hx, hb, hml, hown, hts⟩ (de_X13_byteOf l dC dI cy a sh n H_10.size F z_8 x0 (r_6 - 1) hfc) (va_cwS 2 hts gX13_abilitiesFor_X13_byteOf rfl rfl rfl (by decide +kernel) ⟨Nat.le_of_ble_eq_true rfl, Nat.le_of_ble_eq_true rfl⟩) ⟨fun a U g mk q => by obtain ⟨q0, q1, qP, qK, qD, qN⟩ := q; exact ⟨q0, q1, qP, va_K.moved (u := U) (U := U.calling g mk a) (Vm.Alike.refl U.vm) qK, qD, qN.same rfl⟩, fun U hU hW => ⟨rfl, by rw [hU], by rw [hU]; exact hP, va_K.moved hW.alike hK, hD.weaken (fun _ _ _ _ => trivial), hN.warm hW⟩⟩ rfl rfl hl.1 rfl (lv_room (Nat.le_of_ble_eq_true rfl)) dX13_abilitiesFor_25 ⟨Nat.le_of_ble_eq_true rfl, Nat.le_of_ble_eq_true rfl⟩) hS (fun q _ h => hFc q h) hFc (fun rr u t H_13 locs ht hvm hw hB hz1 hk1 hS2 => ?_)
    rw [hw]
    clear hw
    obtain ⟨hP1, -, hD1⟩ := hB
    rw [ht] at hP1
    replace hD := hD1.weaken (fun _ _ _ h => hFc _ h)
    replace hP := hP1
    replace hS := hS2
    clear hP1 hD1 hS2 hFc hfc hz1 hk1 hvm ht
    refine lv_bipush (v := 7) hx hb dX13_abilitiesFor_28 (by decide) ?_
    refine de_cut (h := 38) (fun (x : St × Int32) => [.int x.2]) (fun x ls H locs => lv_has ls 8 [(4, .int r_9), (3, .int r_6), (0, .ref (a h0)), (1, .long x0)] ∧ va_P (dC, dI) vwCl (Wd cy a sh n x.1) H ∧ va_D A (Wd cy a sh n x.1) ∧ va_S A s.heap H locs) (fun x => fn_X13_abilitiesFor_B38 F sh n r_6 h0 r_9 x0 x.1 x.2) (z8, r8) ?_ (fun B38 => ?_)
    · intro x ls H locs hI hf
      obtain ⟨z_15, p_14⟩ := x
      obtain ⟨hl2, hP2, hD2, hS2⟩ := hI
      replace hl : lv_has ls 8 [(4, .int r_9), (3, .int r_6), (0, .ref (a h0)), (1, .long x0)] := hl2
      replace hP := hP2
      replace hD := hD2
      replace hS := hS2
      clear hl2 hP2 hD2 hS2
      replace hf := fn_X13_abilitiesFor_B38_s hf
      refine W.eq (g2 := F0 m 38 ls [.int p_14]) rfl ?_
      refine lv_istore (lv' := [(5, .int p_14), (4, .int r_9), (3, .int r_6), (0, .ref (a h0)), (1, .long x0)]) hx hb dX13_abilitiesFor_38 hl (by decide) rfl (fun ls hl2 => ?_)
      replace hl := hl2
      clear hl2
      refine lv_iload_n hx hb dX13_abilitiesFor_40 rfl (lv_at hl 2 rfl) ?_
      refine lv_iconst (v := 1) hx hb dX13_abilitiesFor_41 (by decide) ?_
      refine de_cut (h := 60) (fun (x : St × Int32) => [.int x.2]) (fun x ls H locs => lv_has ls 8 [(5, .int p_14), (4, .int r_9), (0, .ref (a h0))] ∧ va_P (dC, dI) vwCl (Wd cy a sh n x.1) H ∧ va_D A (Wd cy a sh n x.1) ∧ va_S A s.heap H locs) (fun x => fn_X13_abilitiesFor_B60 F sh n p_14 h0 r_9 x.1 x.2) (z8, r8) ?_ (fun B60 => ?_)
      · intro x ls H locs hI hf
        obtain ⟨z_17, p_16⟩ := x
        obtain ⟨hl2, hP2, hD2, hS2⟩ := hI
        replace hl : lv_has ls 8 [(5, .int p_14), (4, .int r_9), (0, .ref (a h0))] := hl2
        replace hP := hP2
        replace hD := hD2
        replace hS := hS2
        clear hl2 hP2 hD2 hS2
        replace hf := fn_X13_abilitiesFor_B60_s hf
        refine W.eq (g2 := F0 m 60 ls [.int p_16]) rfl ?_
        refine lv_istore (lv' := [(6, .int p_16), (5, .int p_14), (4, .int r_9), (0, .ref (a h0))]) hx hb dX13_abilitiesFor_60 hl (by decide) rfl (fun ls hl2 => ?_)
        replace hl := hl2
        clear hl2
        refine lv_iload hx hb dX13_abilitiesFor_62 (lv_at hl 0 rfl) ?_
        refine de_cut (h := 81) (fun (x : St × Int32) => [.int x.2]) (fun x ls H locs => lv_has ls 8 [(5, .int p_14)] ∧ va_P (dC, dI) vwCl (Wd cy a sh n x.1) H ∧ va_D A (Wd cy a sh n x.1) ∧ va_S A s.heap H locs) (fun x => fn_X13_abilitiesFor_B81 F sh n p_14 x.1 x.2) (z8, r8) ?_ (fun B81 => ?_)
        · intro x ls H locs hI hf
          obtain ⟨z_19, p_18⟩ := x
          obtain ⟨hl2, hP2, hD2, hS2⟩ := hI
          replace hl : lv_has ls 8 [(5, .int p_14)] := hl2
          replace hP := hP2
          replace hD := hD2
          replace hS := hS2
          clear hl2 hP2 hD2 hS2
          replace hf := fn_X13_abilitiesFor_B81_s hf
          refine W.eq (g2 := F0 m 81 ls [.int p_18]) rfl ?_
          refine lv_istore (lv' := [(7, .int p_18), (5, .int p_14)]) hx hb dX13_abilitiesFor_81 hl (by decide) rfl (fun ls hl2 => ?_)
          replace hl := hl2
          clear hl2
          refine lv_iload hx hb dX13_abilitiesFor_83 (lv_at hl 1 rfl) ?_
          refine lv_if_eq (tgt := 96) hx hb dX13_abilitiesFor_85 (by decide) (fun c_20 => ?_) (fun c_20 => ?_)
          · skip
            rw [if_pos c_20] at hf
            refine lv_iload hx hb dX13_abilitiesFor_96 (lv_at hl 0 rfl) ?_
            obtain ⟨h8, h9⟩ := ret_some hf
            rw [h8, h9]
            exact W.iret (v := p_18) hx hb hr (fun t ht hW => ⟨⟨p_18, (), rfl, rfl, by rw [ht]; exact hP, va_K.moved hW.alike hK, hD⟩, hS.F ht⟩) hS.2.2 dX13_abilitiesFor_98
          · skip
            rw [if_neg c_20] at hf
            refine lv_iload hx hb dX13_abilitiesFor_88 (lv_at hl 0 rfl) ?_
            refine lv_bipush (v := (-9)) hx hb dX13_abilitiesFor_90 (by decide) ?_
            refine lv_iand hx hb dX13_abilitiesFor_92 ?_
            refine lv_goto (tgt := 98) hx hb dX13_abilitiesFor_93 (by decide) ?_
            obtain ⟨h8, h9⟩ := ret_some hf
            rw [h8, h9]
            exact W.iret (v := (p_18 &&& (-9))) hx hb hr (fun t ht hW => ⟨⟨(p_18 &&& (-9)), (), rfl, rfl, by rw [ht]; exact hP, va_K.moved hW.alike hK, hD⟩, hS.F ht⟩) hS.2.2 dX13_abilitiesFor_98
        refine lv_if_eq (tgt := 79) hx hb dX13_abilitiesFor_64 (by decide) (fun c_21 => ?_) (fun c_21 => ?_)
        · skip
          rw [if_pos c_21] at hf
          refine lv_bipush (v := 7) hx hb dX13_abilitiesFor_79 (by decide) ?_
          exact B81 (z_17, 7) ls H locs ⟨lv_sub hl [1] rfl, hP, hD, hS⟩ hf
        · skip
          rw [if_neg c_21] at hf
          refine lv_aload_n hx hb dX13_abilitiesFor_67 rfl (lv_at hl 3 rfl) ?_
          obtain ⟨g_22, hf⟩ := grd_some hf
          obtain ⟨kg_22, sg_22⟩ := okO_at g_22
          obtain ⟨k_23, ek_23, hf⟩ := lnk_some hf
          refine va_get (D := (dC, dI)) (ci := 13) (v := .ref (a k_23)) (C := RX13) (T := TX13) (N := 22) hx hb hts iwd_X13_abilitiesFor_X13 hown hK hP h0 (Wd_ob kg_22 sg_22 (by decide)) rfl 0 (by decide) (hts _ md_X13_abilitiesFor_1) (fun _ h9 => h9) (fl_q rfl ek_23) dX13_abilitiesFor_68 ?_
          refine lv_iload hx hb dX13_abilitiesFor_71 (lv_at hl 2 rfl) ?_
          obtain ⟨g_26, hf⟩ := grd_some hf
          obtain ⟨kg_26, sg_26⟩ := okO_at g_26
          obtain ⟨z_24, r_25, hfc, hf⟩ := cal_some hf
          have hFc := de_free hD hS hA
          refine va_calli (va_runV (As := [.int r_9]) (rest := []) ⟨hx, hb, hml, hown, hts⟩ (de_X16_abilitiesOf l dC dI cy a sh n H.size F z_17 k_23 r_9 hfc) (cwV 1 hts gX13_abilitiesFor_X16_abilitiesOf rfl rfl rfl (by decide +kernel) ⟨Nat.le_of_ble_eq_true rfl, Nat.le_of_ble_eq_true rfl⟩) ⟨fun a U g mk q => by obtain ⟨q0, q1, qP, qK, qD, qN⟩ := q; exact ⟨q0, q1, qP, va_K.moved (u := U) (U := U.calling g mk a) (Vm.Alike.refl U.vm) qK, qD, qN.same rfl⟩, va_recv hK hP (ci := 16) (q0 := k_23) rfl (Wd_ob kg_26 sg_26 (by decide)), fun U hU hW => ⟨rfl, by rw [hU], by rw [hU]; exact hP, va_K.moved hW.alike hK, hD.weaken (fun _ _ _ _ => trivial), hN.warm hW⟩⟩ rfl rfl hl.1 rfl (lv_room (Nat.le_of_ble_eq_true rfl)) dX13_abilitiesFor_73 ⟨Nat.le_of_ble_eq_true rfl, Nat.le_of_ble_eq_true rfl⟩) hS (fun q _ h => hFc q h) hFc (fun rr u t H_27 locs ht hvm hw hB hz1 hk1 hS2 => ?_)
          rw [hw]
          clear hw
          obtain ⟨hP1, -, hD1⟩ := hB
          rw [ht] at hP1
          replace hD := hD1.weaken (fun _ _ _ h => hFc _ h)
          replace hP := hP1
          replace hS := hS2
          clear hP1 hD1 hS2 hFc hfc hz1 hk1 hvm ht
          refine lv_goto (tgt := 81) hx hb dX13_abilitiesFor_76 (by decide) ?_
          exact B81 (z_24, r_25) ls H_27 locs ⟨lv_sub hl [1] rfl, hP, hD, hS⟩ hf
      refine de_cut (h := 59) (fun (x : St) => []) (fun x ls H locs => lv_has ls 8 [(5, .int p_14), (4, .int r_9), (0, .ref (a h0))] ∧ va_P (dC, dI) vwCl (Wd cy a sh n x) H ∧ va_D A (Wd cy a sh n x) ∧ va_S A s.heap H locs) (fun x => fn_X13_abilitiesFor_B59 F sh n p_14 h0 r_9 x) (z8, r8) ?_ (fun B59 => ?_)
      · intro x ls H locs hI hf
        obtain ⟨z_28, ez⟩ : ∃ w, w = x := ⟨_, rfl⟩
        subst ez
        obtain ⟨hl2, hP2, hD2, hS2⟩ := hI
        replace hl : lv_has ls 8 [(5, .int p_14), (4, .int r_9), (0, .ref (a h0))] := hl2
        replace hP := hP2
        replace hD := hD2
        replace hS := hS2
        clear hl2 hP2 hD2 hS2
        replace hf := fn_X13_abilitiesFor_B59_s hf
        refine W.eq (g2 := F0 m 59 ls []) rfl ?_
        refine lv_iconst (v := 0) hx hb dX13_abilitiesFor_59 (by decide) ?_
        exact B60 (z_28, 0) ls H locs ⟨lv_sub hl [0, 1, 2] rfl, hP, hD, hS⟩ hf
      refine lv_icmp_le (tgt := 59) hx hb dX13_abilitiesFor_42 (by decide) (fun c_29 => ?_) (fun c_29 => ?_)
      · skip
        rw [if_pos c_29] at hf
        exact B59 (z_15) ls H locs ⟨lv_sub hl [0, 1, 3] rfl, hP, hD, hS⟩ hf
      · skip
        rw [if_neg c_29] at hf
        refine lv_lload_n hx hb dX13_abilitiesFor_45 rfl (lv_at hl 4 rfl) ?_
        refine lv_iconst (v := 1) hx hb dX13_abilitiesFor_46 (by decide) ?_
        obtain ⟨z_30, r_31, hfc, hf⟩ := cal_some hf
        have hFc := de_free hD hS hA
        refine va_calli (va_runS (As := [.long x0, .int 1]) (rest := []) ⟨hx, hb, hml, hown, hts⟩ (de_X13_byteOf l dC dI cy a sh n H.size F z_15 x0 1 hfc) (va_cwS 2 hts gX13_abilitiesFor_X13_byteOf rfl rfl rfl (by decide +kernel) ⟨Nat.le_of_ble_eq_true rfl, Nat.le_of_ble_eq_true rfl⟩) ⟨fun a U g mk q => by obtain ⟨q0, q1, qP, qK, qD, qN⟩ := q; exact ⟨q0, q1, qP, va_K.moved (u := U) (U := U.calling g mk a) (Vm.Alike.refl U.vm) qK, qD, qN.same rfl⟩, fun U hU hW => ⟨rfl, by rw [hU], by rw [hU]; exact hP, va_K.moved hW.alike hK, hD.weaken (fun _ _ _ _ => trivial), hN.warm hW⟩⟩ rfl rfl hl.1 rfl (lv_room (Nat.le_of_ble_eq_true rfl)) dX13_abilitiesFor_47 ⟨Nat.le_of_ble_eq_true rfl, Nat.le_of_ble_eq_true rfl⟩) hS (fun q _ h => hFc q h) hFc (fun rr u t H_32 locs ht hvm hw hB hz1 hk1 hS2 => ?_)
        rw [hw]
        clear hw
        obtain ⟨hP1, -, hD1⟩ := hB
        rw [ht] at hP1
        replace hD := hD1.weaken (fun _ _ _ h => hFc _ h)
        replace hP := hP1
        replace hS := hS2
        clear hP1 hD1 hS2 hFc hfc hz1 hk1 hvm ht
        refine lv_bipush (v := 6) hx hb dX13_abilitiesFor_50 (by decide) ?_
        refine lv_icmp_ne (tgt := 59) hx hb dX13_abilitiesFor_52 (by decide) (fun c_33 => ?_) (fun c_33 => ?_)
        · skip
          rw [if_neg c_33] at hf
          exact B59 (z_30) ls H_32 locs ⟨lv_sub hl [0, 1, 3] rfl, hP, hD, hS⟩ hf
        · skip
          rw [if_pos c_33] at hf
          refine lv_iconst (v := 1) hx hb dX13_abilitiesFor_55 (by decide) ?_
          refine lv_goto (tgt := 60) hx hb dX13_abilitiesFor_56 (by decide) ?_
          exact B60 (z_30, 1) ls H_32 locs ⟨lv_sub hl [0, 1, 3] rfl, hP, hD, hS⟩ hf
    refine lv_icmp_ne (tgt := 37) hx hb dX13_abilitiesFor_30 (by decide) (fun c_34 => ?_) (fun c_34 => ?_)
    · skip
      rw [if_neg c_34] at hf
      refine lv_iconst (v := 0) hx hb dX13_abilitiesFor_37 (by decide) ?_
      exact B38 (z_11, 0) ls H_13 locs ⟨lv_sub hl [0, 1, 2, 3] rfl, hP, hD, hS⟩ hf
    · skip
      rw [if_pos c_34] at hf
      refine lv_iconst (v := 1) hx hb dX13_abilitiesFor_33 (by decide) ?_
      refine lv_goto (tgt := 38) hx hb dX13_abilitiesFor_34 (by decide) ?_
      exact B38 (z_11, 1) ls H_13 locs ⟨lv_sub hl [0, 1, 2, 3] rfl, hP, hD, hS⟩ hf
  · skip
    rw [if_neg c_4] at hf
    refine lv_iconst (v := 3) hx hb dX13_abilitiesFor_7 (by decide) ?_
    obtain ⟨h8, h9⟩ := ret_some hf
    rw [h8, h9]
    exact W.iret (v := 3) hx hb hr (fun t ht hW => ⟨⟨3, (), rfl, rfl, by rw [ht]; exact hP, va_K.moved hW.alike hK, hD⟩, hS.F ht⟩) hS.2.2 dX13_abilitiesFor_8

theorem md_X3_isLive_1 : (.fieldLink RX3 95 "ResourceLedger$Looker" "depth" "I" : Cond) ∈ wsX3_isLive := List.mem_of_getElem? (i := 1) rfl
theorem iwd_X3_isLive_X3 : ∀ w ∈ wsX30, w ∈ wsX3_isLive := fun _ h => List.mem_cons_of_mem _ (List.mem_append_right _ h)
theorem md_X3_isLive_4 : (.fieldLink RX3 25 "ResourceLedger$Looker" "localOrigins" "[J" : Cond) ∈ wsX3_isLive := List.mem_of_getElem? (i := 4) rfl
theorem md_X3_isLive_5 : (.fieldLink RX3 22 "ResourceLedger$Looker" "localType" "[J" : Cond) ∈ wsX3_isLive := List.mem_of_getElem? (i := 5) rfl
theorem md_X3_isLive_2 : (.fieldLink RX3 15 "ResourceLedger$Looker" "stackOrigins" "[J" : Cond) ∈ wsX3_isLive := List.mem_of_getElem? (i := 2) rfl
theorem md_X3_isLive_3 : (.fieldLink RX3 11 "ResourceLedger$Looker" "stackType" "[J" : Cond) ∈ wsX3_isLive := List.mem_of_getElem? (i := 3) rfl
set_option maxHeartbeats 4000000 in
set_option maxRecDepth 100000 in
theorem de_X3_isLive (l : Launch) (dC : Nat → ClassId) (dI : Nat → Nat → Nat) (cy : Nat → ClassId) (a : Nat → Nat) (sh : Nat → Nat × Nat) (n sz : Nat) (F : Nat) (z : St) (h0 : Nat) (x0 : Int64) (x1 : Int32) {z8 : St} {r8 : Int32} (hf : fn_X3_isLive F sh n z h0 x0 x1 = some (z8, r8)) : Met l yX3_isLive wsX3_isLive ({ frames := 2, cells := 0, slots := 0, locals := 43 }) (va_Pc [.ref (a h0), .long x0, .int x1] (fun U => U.heap.size = sz ∧ va_P (dC, dI) vwCl (Wd cy a sh n z) U.heap ∧ va_K (dC, dI) vwCl (TYS cy) U ∧ va_D (fun _ => True) (Wd cy a sh n z) ∧ NK U)) (va_Qi (fun (r9 : Int32) (u : Unit) => r9 = r8) (fun u t => va_P (dC, dI) vwCl (Wd cy a sh n z8) t.heap ∧ va_K (dC, dI) vwCl (TYS cy) t ∧ va_D (va_A (Wd cy a sh n z) sz) (Wd cy a sh n z8)) (va_A (Wd cy a sh n z) sz)) 0 0 (va_A (Wd cy a sh n z) sz) := by
  refine Met.ofW (cc := cX3_isLive) (maxL := 5) (ret := (some .boolean)) (by decide) rfl ?_
  intro p e s m args below meth c s₁ B hml hv
  obtain ⟨rfl, hsz, hP, hK, hD0, hN⟩ := hv
  have hx := B.exec
  have hb := B.bytes
  have hr := B.returns
  have hts := atoms_spec (ws := wsX3_isLive) B.pre
  have hown : s.vm.findClass RX3 = some m.cls := findClass_of_methodNamed B.named
  have hlocks := B.notSynchronized
  subst hsz
  have hD := hD0.self (sz := s.heap.size)
  clear hD0
  generalize hAe : va_A (Wd cy a sh n z) s.heap.size = A at hD ⊢
  have hA : ∀ q : Nat, s.heap.size ≤ q → A q := fun q h => by rw [← hAe]; exact Or.inr h
  clear hAe
  have hS : va_S A s.heap s.heap [] := va_S.rf
  have hl := lv_entry ([.ref (a h0), .long x0, .int x1]) (n := 5) (Nat.le_of_ble_eq_true rfl)
  rw [lg_entry_eq]
  generalize (lg_sl ([.ref (a h0), .long x0, .int x1]) ++ List.replicate (5 - (lg_sl ([.ref (a h0), .long x0, .int x1])).length) Slot.unset).toArray = ls at hl ⊢
  replace hl : lv_has ls 5 [(0, .ref (a h0)), (1, .long x0), (3, .int x1)] := hl
  unfold fn_X3_isLive at hf
  refine de_start hS hP (fun H locs hS hP => ?_)
  refine lv_iconst (v := 0) hx hb dX3_isLive_0 (by decide) ?_
  refine lv_istore (lv' := [(4, .int 0), (0, .ref (a h0)), (1, .long x0), (3, .int x1)]) hx hb dX3_isLive_1 hl (by decide) rfl (fun ls hl2 => ?_)
  replace hl := hl2
  clear hl2
  have hl0 : lv_has ls 5 [(4, .int 0), (0, .ref (a h0)), (1, .long x0), (3, .int x1)] := lv_sub hl [0, 1, 2, 3] rfl
  refine de_loop (h := 3) (fun (x : St × Int32) ls H locs => lv_has ls 5 [(4, .int x.2), (0, .ref (a h0)), (1, .long x0), (3, .int x1)] ∧ va_P (dC, dI) vwCl (Wd cy a sh n x.1) H ∧ va_D A (Wd cy a sh n x.1) ∧ va_S A s.heap H locs) (fun f x => fn_X3_isLive_L3 F sh n h0 x0 x1 f x.1 x.2) (z8, r8) ?_ (fun _ => rfl) F (z, 0) ls H locs ⟨hl0, hP, hD, hS⟩ hf
  intro f_3 x ls H locs ih3 hI hf
  obtain ⟨z_2, p_1⟩ := x
  obtain ⟨hl2, hP2, hD2, hS2⟩ := hI
  replace hl : lv_has ls 5 [(4, .int p_1), (0, .ref (a h0)), (1, .long x0), (3, .int x1)] := hl2
  replace hP := hP2
  replace hD := hD2
  replace hS := hS2
  clear hl2 hP2 hD2 hS2 hl0
  replace hf := fn_X3_isLive_L3_s hf
  refine lv_iload hx hb dX3_isLive_3 (lv_at hl 0 rfl) ?_
  refine lv_aload_n hx hb dX3_isLive_5 rfl (lv_at hl 1 rfl) ?_
  obtain ⟨g_4, hf⟩ := grd_some hf
  obtain ⟨kg_4, sg_4⟩ := okO_at g_4
  refine va_get (D := (dC, dI)) (ci := 3) (v := .int (z_2.1 h0 8)) (C := RX3) (T := TX3) (N := 22) hx hb hts iwd_X3_isLive_X3 hown hK hP h0 (Wd_ob kg_4 sg_4 (by decide)) rfl 8 (by decide) (hts _ md_X3_isLive_1) (fun _ h9 => h9) (fl_at (t := 0) rfl) dX3_isLive_6 ?_
  refine lv_icmp_ge (tgt := 51) hx hb dX3_isLive_9 (by decide) (fun c_5 => ?_) (fun c_5 => ?_)
  · skip
    rw [if_pos c_5] at hf
    refine lv_iconst (v := 0) hx hb dX3_isLive_51 (by decide) ?_
    refine lv_istore (lv' := [(4, .int 0), (0, .ref (a h0)), (1, .long x0), (3, .int x1)]) hx hb dX3_isLive_52 hl (by decide) rfl (fun ls hl2 => ?_)
    replace hl := hl2
    clear hl2
    have hl0 : lv_has ls 5 [(4, .int 0), (0, .ref (a h0)), (1, .long x0), (3, .int x1)] := lv_sub hl [0, 1, 2, 3] rfl
    refine de_loop (h := 54) (fun (x : St × Int32) ls H locs => lv_has ls 5 [(4, .int x.2), (0, .ref (a h0)), (1, .long x0), (3, .int x1)] ∧ va_P (dC, dI) vwCl (Wd cy a sh n x.1) H ∧ va_D A (Wd cy a sh n x.1) ∧ va_S A s.heap H locs) (fun f x => fn_X3_isLive_L54 F sh n h0 x0 x1 f x.1 x.2) (z8, r8) ?_ (fun _ => rfl) F (z_2, 0) ls H locs ⟨hl0, hP, hD, hS⟩ hf
    intro f_8 x ls H locs ih54 hI hf
    obtain ⟨z_7, p_6⟩ := x
    obtain ⟨hl2, hP2, hD2, hS2⟩ := hI
    replace hl : lv_has ls 5 [(4, .int p_6), (0, .ref (a h0)), (1, .long x0), (3, .int x1)] := hl2
    replace hP := hP2
    replace hD := hD2
    replace hS := hS2
    clear hl2 hP2 hD2 hS2 hl0
    replace hf := fn_X3_isLive_L54_s hf
    refine lv_iload hx hb dX3_isLive_54 (lv_at hl 0 rfl) ?_
    refine lv_bipush (v := 40) hx hb dX3_isLive_56 (by decide) ?_
    refine lv_icmp_ge (tgt := 100) hx hb dX3_isLive_58 (by decide) (fun c_9 => ?_) (fun c_9 => ?_)
    · skip
      rw [if_pos c_9] at hf
      refine lv_iconst (v := 0) hx hb dX3_isLive_100 (by decide) ?_
      obtain ⟨h8, h9⟩ := ret_some hf
      rw [h8, h9]
      exact W.zret (v := 0) hx hb hr rfl (fun t ht hW => ⟨⟨0, (), rfl, rfl, by rw [ht]; exact hP, va_K.moved hW.alike hK, hD⟩, hS.F ht⟩) hS.2.2 dX3_isLive_101
    · skip
      rw [if_neg c_9] at hf
      refine lv_aload_n hx hb dX3_isLive_61 rfl (lv_at hl 1 rfl) ?_
      obtain ⟨k_10, ek_10, hf⟩ := lnk_some hf
      refine va_get (D := (dC, dI)) (ci := 3) (v := .ref (a k_10)) (C := RX3) (T := TX3) (N := 22) hx hb hts iwd_X3_isLive_X3 hown hK hP h0 (Wd_ob kg_4 sg_4 (by decide)) rfl 10 (by decide) (hts _ md_X3_isLive_4) (fun _ h9 => h9) (fl_q rfl ek_10) dX3_isLive_62 ?_
      refine lv_iload hx hb dX3_isLive_65 (lv_at hl 0 rfl) ?_
      obtain ⟨g_11, hf⟩ := grd_some hf
      obtain ⟨kg_11, sg_11, ig_11⟩ := okA_at g_11
      refine va_lald hx hb hK hP k_10 2 (Wd_al kg_11 sg_11) rfl ig_11 dX3_isLive_67 ?_
      refine lv_lload_n hx hb dX3_isLive_68 rfl (lv_at hl 2 rfl) ?_
      refine lv_land hx hb dX3_isLive_69 ?_
      refine lv_lconst (v := 0) hx hb dX3_isLive_70 (by decide) ?_
      refine W.lcmp hx hb dX3_isLive_71 ?_
      refine de_cut (h := 94) (fun (x : St) => []) (fun x ls H locs => lv_has ls 5 [(4, .int p_6), (0, .ref (a h0)), (1, .long x0), (3, .int x1)] ∧ va_P (dC, dI) vwCl (Wd cy a sh n x) H ∧ va_D A (Wd cy a sh n x) ∧ va_S A s.heap H locs) (fun x => fn_X3_isLive_B94 F sh n p_6 (fun z9 q4 => fn_X3_isLive_L54 F sh n h0 x0 x1 f_8 z9 q4) x) (z8, r8) ?_ (fun B94 => ?_)
      · intro x ls H locs hI hf
        obtain ⟨z_12, ez⟩ : ∃ w, w = x := ⟨_, rfl⟩
        subst ez
        obtain ⟨hl2, hP2, hD2, hS2⟩ := hI
        replace hl : lv_has ls 5 [(4, .int p_6), (0, .ref (a h0)), (1, .long x0), (3, .int x1)] := hl2
        replace hP := hP2
        replace hD := hD2
        replace hS := hS2
        clear hl2 hP2 hD2 hS2
        replace hf := fn_X3_isLive_B94_s hf
        refine W.eq (g2 := F0 m 94 ls []) rfl ?_
        refine lv_iinc (v := (p_6 + 1)) (lv' := [(4, .int (p_6 + 1)), (0, .ref (a h0)), (1, .long x0), (3, .int x1)]) hx hb dX3_isLive_94 hl (k := 0) rfl rfl (by decide) rfl (fun ls hl2 => ?_)
        replace hl := hl2
        clear hl2
        refine lv_goto (tgt := 54) hx hb dX3_isLive_97 (by decide) ?_
        exact ih54 (z_12, (p_6 + 1)) ls H locs ⟨lv_sub hl [0, 1, 2, 3] rfl, hP, hD, hS⟩ hf
      refine lv_if_eq (tgt := 94) hx hb dX3_isLive_72 (by decide) (fun c_13 => ?_) (fun c_13 => ?_)
      · skip
        rw [lg_cmp_eq] at c_13
        rw [if_pos c_13] at hf
        exact B94 (z_7) ls H locs ⟨lv_sub hl [0, 1, 2, 3] rfl, hP, hD, hS⟩ hf
      · skip
        rw [lg_cmp_eq] at c_13
        rw [if_neg c_13] at hf
        refine lv_iload_n hx hb dX3_isLive_75 rfl (lv_at hl 3 rfl) ?_
        refine lv_if_eq (tgt := 92) hx hb dX3_isLive_76 (by decide) (fun c_14 => ?_) (fun c_14 => ?_)
        · skip
          rw [if_pos c_14] at hf
          refine lv_iconst (v := 1) hx hb dX3_isLive_92 (by decide) ?_
          obtain ⟨h8, h9⟩ := ret_some hf
          rw [h8, h9]
          exact W.zret (v := 1) hx hb hr rfl (fun t ht hW => ⟨⟨1, (), rfl, rfl, by rw [ht]; exact hP, va_K.moved hW.alike hK, hD⟩, hS.F ht⟩) hS.2.2 dX3_isLive_93
        · skip
          rw [if_neg c_14] at hf
          refine lv_aload_n hx hb dX3_isLive_79 rfl (lv_at hl 1 rfl) ?_
          obtain ⟨k_15, ek_15, hf⟩ := lnk_some hf
          refine va_get (D := (dC, dI)) (ci := 3) (v := .ref (a k_15)) (C := RX3) (T := TX3) (N := 22) hx hb hts iwd_X3_isLive_X3 hown hK hP h0 (Wd_ob kg_4 sg_4 (by decide)) rfl 9 (by decide) (hts _ md_X3_isLive_5) (fun _ h9 => h9) (fl_q rfl ek_15) dX3_isLive_80 ?_
          refine lv_iload hx hb dX3_isLive_83 (lv_at hl 0 rfl) ?_
          obtain ⟨g_16, hf⟩ := grd_some hf
          obtain ⟨kg_16, sg_16, ig_16⟩ := okA_at g_16
          refine va_lald hx hb hK hP k_15 2 (Wd_al kg_16 sg_16) rfl ig_16 dX3_isLive_85 ?_
          obtain ⟨z_17, r_18, hfc, hf⟩ := cal_some hf
          have hFc := de_free hD hS hA
          refine va_calli (va_runS (As := [.long (z_7.2.1 k_15 p_6.toNatClampNeg)]) (rest := []) ⟨hx, hb, hml, hown, hts⟩ (de_X3_writes l dC dI cy a sh n H.size F z_7 (z_7.2.1 k_15 p_6.toNatClampNeg) hfc) (va_cwS 1 hts gX3_isLive_X3_writes rfl rfl rfl (by decide +kernel) ⟨Nat.le_of_ble_eq_true rfl, Nat.le_of_ble_eq_true rfl⟩) ⟨fun a U g mk q => by obtain ⟨q0, q1, qP, qK, qD, qN⟩ := q; exact ⟨q0, q1, qP, va_K.moved (u := U) (U := U.calling g mk a) (Vm.Alike.refl U.vm) qK, qD, qN.same rfl⟩, fun U hU hW => ⟨rfl, by rw [hU], by rw [hU]; exact hP, va_K.moved hW.alike hK, hD.weaken (fun _ _ _ _ => trivial), hN.warm hW⟩⟩ rfl rfl hl.1 rfl (lv_room (Nat.le_of_ble_eq_true rfl)) dX3_isLive_86 ⟨Nat.le_of_ble_eq_true rfl, Nat.le_of_ble_eq_true rfl⟩) hS (fun q _ h => hFc q h) hFc (fun rr u t H_19 locs ht hvm hw hB hz1 hk1 hS2 => ?_)
          rw [hw]
          clear hw
          obtain ⟨hP1, -, hD1⟩ := hB
          rw [ht] at hP1
          replace hD := hD1.weaken (fun _ _ _ h => hFc _ h)
          replace hP := hP1
          replace hS := hS2
          clear hP1 hD1 hS2 hFc hfc hz1 hk1 hvm ht
          refine lv_if_eq (tgt := 94) hx hb dX3_isLive_89 (by decide) (fun c_20 => ?_) (fun c_20 => ?_)
          · skip
            rw [if_pos c_20] at hf
            exact B94 (z_17) ls H_19 locs ⟨lv_sub hl [0, 1, 2, 3] rfl, hP, hD, hS⟩ hf
          · skip
            rw [if_neg c_20] at hf
            refine lv_iconst (v := 1) hx hb dX3_isLive_92 (by decide) ?_
            obtain ⟨h8, h9⟩ := ret_some hf
            rw [h8, h9]
            exact W.zret (v := 1) hx hb hr rfl (fun t ht hW => ⟨⟨1, (), rfl, rfl, by rw [ht]; exact hP, va_K.moved hW.alike hK, hD⟩, hS.F ht⟩) hS.2.2 dX3_isLive_93
  · skip
    rw [if_neg c_5] at hf
    refine lv_aload_n hx hb dX3_isLive_12 rfl (lv_at hl 1 rfl) ?_
    obtain ⟨k_21, ek_21, hf⟩ := lnk_some hf
    refine va_get (D := (dC, dI)) (ci := 3) (v := .ref (a k_21)) (C := RX3) (T := TX3) (N := 22) hx hb hts iwd_X3_isLive_X3 hown hK hP h0 (Wd_ob kg_4 sg_4 (by decide)) rfl 6 (by decide) (hts _ md_X3_isLive_2) (fun _ h9 => h9) (fl_q rfl ek_21) dX3_isLive_13 ?_
    refine lv_iload hx hb dX3_isLive_16 (lv_at hl 0 rfl) ?_
    obtain ⟨g_22, hf⟩ := grd_some hf
    obtain ⟨kg_22, sg_22, ig_22⟩ := okA_at g_22
    refine va_lald hx hb hK hP k_21 2 (Wd_al kg_22 sg_22) rfl ig_22 dX3_isLive_18 ?_
    refine lv_lload_n hx hb dX3_isLive_19 rfl (lv_at hl 2 rfl) ?_
    refine lv_land hx hb dX3_isLive_20 ?_
    refine lv_lconst (v := 0) hx hb dX3_isLive_21 (by decide) ?_
    refine W.lcmp hx hb dX3_isLive_22 ?_
    refine de_cut (h := 45) (fun (x : St) => []) (fun x ls H locs => lv_has ls 5 [(4, .int p_1), (0, .ref (a h0)), (1, .long x0), (3, .int x1)] ∧ va_P (dC, dI) vwCl (Wd cy a sh n x) H ∧ va_D A (Wd cy a sh n x) ∧ va_S A s.heap H locs) (fun x => fn_X3_isLive_B45 F sh n p_1 (fun z9 q4 => fn_X3_isLive_L3 F sh n h0 x0 x1 f_3 z9 q4) x) (z8, r8) ?_ (fun B45 => ?_)
    · intro x ls H locs hI hf
      obtain ⟨z_23, ez⟩ : ∃ w, w = x := ⟨_, rfl⟩
      subst ez
      obtain ⟨hl2, hP2, hD2, hS2⟩ := hI
      replace hl : lv_has ls 5 [(4, .int p_1), (0, .ref (a h0)), (1, .long x0), (3, .int x1)] := hl2
      replace hP := hP2
      replace hD := hD2
      replace hS := hS2
      clear hl2 hP2 hD2 hS2
      replace hf := fn_X3_isLive_B45_s hf
      refine W.eq (g2 := F0 m 45 ls []) rfl ?_
      refine lv_iinc (v := (p_1 + 1)) (lv' := [(4, .int (p_1 + 1)), (0, .ref (a h0)), (1, .long x0), (3, .int x1)]) hx hb dX3_isLive_45 hl (k := 0) rfl rfl (by decide) rfl (fun ls hl2 => ?_)
      replace hl := hl2
      clear hl2
      refine lv_goto (tgt := 3) hx hb dX3_isLive_48 (by decide) ?_
      exact ih3 (z_23, (p_1 + 1)) ls H locs ⟨lv_sub hl [0, 1, 2, 3] rfl, hP, hD, hS⟩ hf
    refine lv_if_eq (tgt := 45) hx hb dX3_isLive_23 (by decide) (fun c_24 => ?_) (fun c_24 => ?_)
    · skip
      rw [lg_cmp_eq] at c_24
      rw [if_pos c_24] at hf
      exact B45 (z_2) ls H locs ⟨lv_sub hl [0, 1, 2, 3] rfl, hP, hD, hS⟩ hf
    · skip
      rw [lg_cmp_eq] at c_24
      rw [if_neg c_24] at hf
      refine lv_iload_n hx hb dX3_isLive_26 rfl (lv_at hl 3 rfl) ?_
      refine lv_if_eq (tgt := 43) hx hb dX3_isLive_27 (by decide) (fun c_25 => ?_) (fun c_25 => ?_)
      · skip
        rw [if_pos c_25] at hf
        refine lv_iconst (v := 1) hx hb dX3_isLive_43 (by decide) ?_
        obtain ⟨h8, h9⟩ := ret_some hf
        rw [h8, h9]
        exact W.zret (v := 1) hx hb hr rfl (fun t ht hW => ⟨⟨1, (), rfl, rfl, by rw [ht]; exact hP, va_K.moved hW.alike hK, hD⟩, hS.F ht⟩) hS.2.2 dX3_isLive_44
      · skip
        rw [if_neg c_25] at hf
        refine lv_aload_n hx hb dX3_isLive_30 rfl (lv_at hl 1 rfl) ?_
        obtain ⟨k_26, ek_26, hf⟩ := lnk_some hf
        refine va_get (D := (dC, dI)) (ci := 3) (v := .ref (a k_26)) (C := RX3) (T := TX3) (N := 22) hx hb hts iwd_X3_isLive_X3 hown hK hP h0 (Wd_ob kg_4 sg_4 (by decide)) rfl 5 (by decide) (hts _ md_X3_isLive_3) (fun _ h9 => h9) (fl_q rfl ek_26) dX3_isLive_31 ?_
        refine lv_iload hx hb dX3_isLive_34 (lv_at hl 0 rfl) ?_
        obtain ⟨g_27, hf⟩ := grd_some hf
        obtain ⟨kg_27, sg_27, ig_27⟩ := okA_at g_27
        refine va_lald hx hb hK hP k_26 2 (Wd_al kg_27 sg_27) rfl ig_27 dX3_isLive_36 ?_
        obtain ⟨z_28, r_29, hfc, hf⟩ := cal_some hf
        have hFc := de_free hD hS hA
        refine va_calli (va_runS (As := [.long (z_2.2.1 k_26 p_1.toNatClampNeg)]) (rest := []) ⟨hx, hb, hml, hown, hts⟩ (de_X3_writes l dC dI cy a sh n H.size F z_2 (z_2.2.1 k_26 p_1.toNatClampNeg) hfc) (va_cwS 1 hts gX3_isLive_X3_writes rfl rfl rfl (by decide +kernel) ⟨Nat.le_of_ble_eq_true rfl, Nat.le_of_ble_eq_true rfl⟩) ⟨fun a U g mk q => by obtain ⟨q0, q1, qP, qK, qD, qN⟩ := q; exact ⟨q0, q1, qP, va_K.moved (u := U) (U := U.calling g mk a) (Vm.Alike.refl U.vm) qK, qD, qN.same rfl⟩, fun U hU hW => ⟨rfl, by rw [hU], by rw [hU]; exact hP, va_K.moved hW.alike hK, hD.weaken (fun _ _ _ _ => trivial), hN.warm hW⟩⟩ rfl rfl hl.1 rfl (lv_room (Nat.le_of_ble_eq_true rfl)) dX3_isLive_37 ⟨Nat.le_of_ble_eq_true rfl, Nat.le_of_ble_eq_true rfl⟩) hS (fun q _ h => hFc q h) hFc (fun rr u t H_30 locs ht hvm hw hB hz1 hk1 hS2 => ?_)
        rw [hw]
        clear hw
        obtain ⟨hP1, -, hD1⟩ := hB
        rw [ht] at hP1
        replace hD := hD1.weaken (fun _ _ _ h => hFc _ h)
        replace hP := hP1
        replace hS := hS2
        clear hP1 hD1 hS2 hFc hfc hz1 hk1 hvm ht
        refine lv_if_eq (tgt := 45) hx hb dX3_isLive_40 (by decide) (fun c_31 => ?_) (fun c_31 => ?_)
        · skip
          rw [if_pos c_31] at hf
          exact B45 (z_28) ls H_30 locs ⟨lv_sub hl [0, 1, 2, 3] rfl, hP, hD, hS⟩ hf
        · skip
          rw [if_neg c_31] at hf
          refine lv_iconst (v := 1) hx hb dX3_isLive_43 (by decide) ?_
          obtain ⟨h8, h9⟩ := ret_some hf
          rw [h8, h9]
          exact W.zret (v := 1) hx hb hr rfl (fun t ht hW => ⟨⟨1, (), rfl, rfl, by rw [ht]; exact hP, va_K.moved hW.alike hK, hD⟩, hS.F ht⟩) hS.2.2 dX3_isLive_44

theorem md_X6_readForeignStructures_1 : (.fieldLink RX6 17 "ResourceLedger$Reader" "p" "LResourceLedger$Program;" : Cond) ∈ wsX6_readForeignStructures := List.mem_of_getElem? (i := 1) rfl
theorem iwd_X6_readForeignStructures_X6 : ∀ w ∈ wsX60, w ∈ wsX6_readForeignStructures := fun _ h => List.mem_cons_of_mem _ (List.mem_append_left _ (List.mem_append_right _ h))
theorem md_X6_readForeignStructures_2 : (.fieldLink RX6 100 "ResourceLedger$Program" "ownStructures" "I" : Cond) ∈ wsX6_readForeignStructures := List.mem_of_getElem? (i := 2) rfl
theorem iwd_X6_readForeignStructures_X5 : ∀ w ∈ wsX50, w ∈ wsX6_readForeignStructures := fun _ h => List.mem_cons_of_mem _ (List.mem_append_right _ h)
theorem md_X6_readForeignStructures_3 : (.fieldLink RX6 103 "ResourceLedger$Program" "allStructures" "I" : Cond) ∈ wsX6_readForeignStructures := List.mem_of_getElem? (i := 3) rfl
theorem md_X6_readForeignStructures_4 : (.fieldLink RX6 21 "ResourceLedger$Reader" "fault" "I" : Cond) ∈ wsX6_readForeignStructures := List.mem_of_getElem? (i := 4) rfl
set_option maxHeartbeats 4000000 in
set_option maxRecDepth 100000 in
theorem de_X6_readForeignStructures (l : Launch) (dC : Nat → ClassId) (dI : Nat → Nat → Nat) (cy : Nat → ClassId) (a : Nat → Nat) (sh : Nat → Nat × Nat) (n sz : Nat) (F : Nat) (sk : Nat → Nat) (z : St) (h0 : Nat) {z8 : St} {r8 : Unit} (hf : fn_X6_readForeignStructures F sh n z h0 = some (z8, r8)) : Met l yX6_readForeignStructures wsX6_readForeignStructures ({ frames := 2, cells := 0, slots := 0, locals := 46 }) (va_Pc [.ref (a h0)] (fun U => U.heap.size = sz ∧ va_P (dC, dI) vwCl (Wd cy a sh n z) U.heap ∧ va_K (dC, dI) vwCl (TYS cy) U ∧ va_D (fun _ => True) (Wd cy a sh n z) ∧ NK U ∧ SKs sk (a CBK) (va_A (Wd cy a sh n z) sz) U U.heap)) (va_Qv (fun u : Unit => True) (fun u t => va_P (dC, dI) vwCl (Wd cy a sh n z8) t.heap ∧ va_K (dC, dI) vwCl (TYS cy) t ∧ va_D (va_A (Wd cy a sh n z) sz) (Wd cy a sh n z8)) (va_A (Wd cy a sh n z) sz)) 0 0 (va_A (Wd cy a sh n z) sz) := by
  refine Met.ofW (cc := cX6_readForeignStructures) (maxL := 3) (ret := none) (by decide) rfl ?_
  intro p e s m args below meth c s₁ B hml hv
  obtain ⟨rfl, hsz, hP, hK, hD0, hN, hSK⟩ := hv
  have hx := B.exec
  have hb := B.bytes
  have hr := B.returns
  have hts := atoms_spec (ws := wsX6_readForeignStructures) B.pre
  have hown : s.vm.findClass RX6 = some m.cls := findClass_of_methodNamed B.named
  have hlocks := B.notSynchronized
  subst hsz
  have hD := hD0.self (sz := s.heap.size)
  clear hD0
  generalize hAe : va_A (Wd cy a sh n z) s.heap.size = A at hD hSK ⊢
  have hA : ∀ q : Nat, s.heap.size ≤ q → A q := fun q h => by rw [← hAe]; exact Or.inr h
  clear hAe
  have hS : va_S A s.heap s.heap [] := va_S.rf
  have hl := lv_entry ([.ref (a h0)]) (n := 3) (Nat.le_of_ble_eq_true rfl)
  rw [lg_entry_eq]
  generalize (lg_sl ([.ref (a h0)]) ++ List.replicate (3 - (lg_sl ([.ref (a h0)])).length) Slot.unset).toArray = ls at hl ⊢
  replace hl : lv_has ls 3 [(0, .ref (a h0))] := hl
  unfold fn_X6_readForeignStructures at hf
  refine de_start hS hP (fun H locs hS hP => ?_)
  refine lv_aload_n hx hb dX6_readForeignStructures_0 rfl (lv_at hl 0 rfl) ?_
  refine lv_iconst (v := 0) hx hb dX6_readForeignStructures_1 (by decide) ?_
  refine lv_bipush (v := 32) hx hb dX6_readForeignStructures_2 (by decide) ?_
  obtain ⟨g_3, hf⟩ := grd_some hf
  obtain ⟨kg_3, sg_3⟩ := okO_at g_3
  obtain ⟨z_1, r_2, hfc, hf⟩ := cal_some hf
  have hFc := de_free hD hS hA
  refine va_calli (va_runV (As := [.int 0, .int 32]) (rest := []) ⟨hx, hb, hml, hown, hts⟩ (de_X6_readNumber l dC dI cy a sh n H.size F sk z h0 0 32 hfc) (cwV 2 hts gX6_readForeignStructures_X6_readNumber rfl rfl rfl (by decide +kernel) ⟨Nat.le_of_ble_eq_true rfl, Nat.le_of_ble_eq_true rfl⟩) ⟨fun a U g mk q => by obtain ⟨q0, q1, qP, qK, qD, qN, qS⟩ := q; exact ⟨q0, q1, qP, va_K.moved (u := U) (U := U.calling g mk a) (Vm.Alike.refl U.vm) qK, qD, qN.same rfl, SKs.moved (u := U) (U := U.calling g mk a) (Vm.Alike.refl U.vm) qS⟩, va_recv hK hP (ci := 6) (q0 := h0) rfl (Wd_ob kg_3 sg_3 (by decide)), fun U hU hW => ⟨rfl, by rw [hU], by rw [hU]; exact hP, va_K.moved hW.alike hK, hD.weaken (fun _ _ _ _ => trivial), hN.warm hW, by rw [hU]; exact ((hSK.kept hS.2.1).narrow hFc).moved hW.alike⟩⟩ rfl rfl hl.1 rfl (lv_room (Nat.le_of_ble_eq_true rfl)) dX6_readForeignStructures_4 ⟨Nat.le_of_ble_eq_true rfl, Nat.le_of_ble_eq_true rfl⟩) hS (fun q _ h => hFc q h) hFc (fun rr u t H_4 locs ht hvm hw hB hz1 hk1 hS2 => ?_)
  rw [hw]
  clear hw
  obtain ⟨hP1, -, hD1⟩ := hB
  rw [ht] at hP1
  replace hD := hD1.weaken (fun _ _ _ h => hFc _ h)
  replace hP := hP1
  replace hS := hS2
  clear hP1 hD1 hS2 hFc hfc hz1 hk1 hvm ht
  refine lv_istore_n (lv' := [(1, .int r_2), (0, .ref (a h0))]) hx hb dX6_readForeignStructures_7 rfl hl (by decide) rfl (fun ls hl2 => ?_)
  replace hl := hl2
  clear hl2
  refine lv_aload_n hx hb dX6_readForeignStructures_8 rfl (lv_at hl 1 rfl) ?_
  obtain ⟨k_5, ek_5, hf⟩ := lnk_some hf
  refine va_get (D := (dC, dI)) (ci := 6) (v := .ref (a k_5)) (C := RX6) (T := TX6) (N := 9) hx hb hts iwd_X6_readForeignStructures_X6 hown hK hP h0 (Wd_ob kg_3 sg_3 (by decide)) rfl 2 (by decide) (hts _ md_X6_readForeignStructures_1) (fun _ h9 => h9) (fl_q rfl ek_5) dX6_readForeignStructures_9 ?_
  refine lv_aload_n hx hb dX6_readForeignStructures_12 rfl (lv_at hl 1 rfl) ?_
  obtain ⟨k_6, ek_6, hf⟩ := lnk_some hf
  refine va_get (D := (dC, dI)) (ci := 6) (v := .ref (a k_6)) (C := RX6) (T := TX6) (N := 9) hx hb hts iwd_X6_readForeignStructures_X6 hown hK hP h0 (Wd_ob kg_3 sg_3 (by decide)) rfl 2 (by decide) (hts _ md_X6_readForeignStructures_1) (fun _ h9 => h9) (fl_q rfl ek_6) dX6_readForeignStructures_13 ?_
  obtain ⟨g_7, hf⟩ := grd_some hf
  obtain ⟨kg_7, sg_7⟩ := okO_at g_7
  refine va_get (D := (dC, dI)) (ci := 5) (v := .int (z_1.1 k_6 8)) (C := RX5) (T := TX5) (N := 15) hx hb hts iwd_X6_readForeignStructures_X5 hown hK hP k_6 (Wd_ob kg_7 sg_7 (by decide)) rfl 8 (by decide) (hts _ md_X6_readForeignStructures_2) (fun _ h9 => h9) (fl_at (t := 0) rfl) dX6_readForeignStructures_16 ?_
  refine lv_iload_n hx hb dX6_readForeignStructures_19 rfl (lv_at hl 0 rfl) ?_
  refine lv_iadd hx hb dX6_readForeignStructures_20 ?_
  obtain ⟨g_8, hf⟩ := grd_some hf
  obtain ⟨kg_8, sg_8⟩ := okO_at g_8
  refine va_put (D := (dC, dI)) (ci := 5) (v := .int ((z_1.1 k_6 8) + r_2)) (ty := .int) (C := RX5) (T := TX5) (N := 15) hx hb hts iwd_X6_readForeignStructures_X5 tyX5 tyX5_ok nmX5 hown hK hP hD hS k_5 (Wd_ob kg_8 sg_8 (by decide)) rfl 9 (by decide) (hts _ md_X6_readForeignStructures_3) (fun _ h9 => h9) rfl (by decide +kernel) rfl rfl (by rw [fl_len]; decide) dX6_readForeignStructures_21 (fun H_9 locs hP2 hD2 hS2 => ?_)
  rw [Wd_si sg_8 (by decide) rfl] at hP2 hD2
  obtain ⟨z_10, ez_10⟩ : ∃ w, w = si z_1 k_5 9 ((z_1.1 k_6 8) + r_2) := ⟨_, rfl⟩
  rw [← ez_10] at hP2 hD2
  replace hf := lt_at ez_10 hf
  clear ez_10
  replace hP := hP2
  replace hD := hD2
  replace hS := hS2
  clear hP2 hD2 hS2
  refine lv_aload_n hx hb dX6_readForeignStructures_24 rfl (lv_at hl 1 rfl) ?_
  obtain ⟨k_11, ek_11, hf⟩ := lnk_some hf
  refine va_get (D := (dC, dI)) (ci := 6) (v := .ref (a k_11)) (C := RX6) (T := TX6) (N := 9) hx hb hts iwd_X6_readForeignStructures_X6 hown hK hP h0 (Wd_ob kg_3 sg_3 (by decide)) rfl 2 (by decide) (hts _ md_X6_readForeignStructures_1) (fun _ h9 => h9) (fl_q rfl ek_11) dX6_readForeignStructures_25 ?_
  obtain ⟨g_12, hf⟩ := grd_some hf
  obtain ⟨kg_12, sg_12⟩ := okO_at g_12
  refine va_get (D := (dC, dI)) (ci := 5) (v := .int (z_10.1 k_11 8)) (C := RX5) (T := TX5) (N := 15) hx hb hts iwd_X6_readForeignStructures_X5 hown hK hP k_11 (Wd_ob kg_12 sg_12 (by decide)) rfl 8 (by decide) (hts _ md_X6_readForeignStructures_2) (fun _ h9 => h9) (fl_at (t := 0) rfl) dX6_readForeignStructures_28 ?_
  refine lv_topi (fun v_13 ev_13 => ?_)
  replace hf := lt_at ev_13 hf
  clear ev_13
  refine lv_istore_n (lv' := [(2, .int v_13), (1, .int r_2), (0, .ref (a h0))]) hx hb dX6_readForeignStructures_31 rfl hl (by decide) rfl (fun ls hl2 => ?_)
  replace hl := hl2
  clear hl2
  have hl0 : lv_has ls 3 [(2, .int v_13), (0, .ref (a h0))] := lv_sub hl [0, 2] rfl
  refine de_loop (h := 32) (fun (x : St × Int32) ls H locs => lv_has ls 3 [(2, .int x.2), (0, .ref (a h0))] ∧ va_P (dC, dI) vwCl (Wd cy a sh n x.1) H ∧ va_D A (Wd cy a sh n x.1) ∧ va_S A s.heap H locs) (fun f x => fn_X6_readForeignStructures_L32 F sh n h0 f x.1 x.2) (z8, r8) ?_ (fun _ => rfl) F (z_10, v_13) ls H_9 locs ⟨hl0, hP, hD, hS⟩ hf
  intro f_16 x ls H locs ih32 hI hf
  obtain ⟨z_15, p_14⟩ := x
  obtain ⟨hl2, hP2, hD2, hS2⟩ := hI
  replace hl : lv_has ls 3 [(2, .int p_14), (0, .ref (a h0))] := hl2
  replace hP := hP2
  replace hD := hD2
  replace hS := hS2
  clear hl2 hP2 hD2 hS2 hl0
  replace hf := fn_X6_readForeignStructures_L32_s hf
  refine lv_iload_n hx hb dX6_readForeignStructures_32 rfl (lv_at hl 0 rfl) ?_
  refine lv_aload_n hx hb dX6_readForeignStructures_33 rfl (lv_at hl 1 rfl) ?_
  obtain ⟨k_17, ek_17, hf⟩ := lnk_some hf
  refine va_get (D := (dC, dI)) (ci := 6) (v := .ref (a k_17)) (C := RX6) (T := TX6) (N := 9) hx hb hts iwd_X6_readForeignStructures_X6 hown hK hP h0 (Wd_ob kg_3 sg_3 (by decide)) rfl 2 (by decide) (hts _ md_X6_readForeignStructures_1) (fun _ h9 => h9) (fl_q rfl ek_17) dX6_readForeignStructures_34 ?_
  obtain ⟨g_18, hf⟩ := grd_some hf
  obtain ⟨kg_18, sg_18⟩ := okO_at g_18
  refine va_get (D := (dC, dI)) (ci := 5) (v := .int (z_15.1 k_17 9)) (C := RX5) (T := TX5) (N := 15) hx hb hts iwd_X6_readForeignStructures_X5 hown hK hP k_17 (Wd_ob kg_18 sg_18 (by decide)) rfl 9 (by decide) (hts _ md_X6_readForeignStructures_3) (fun _ h9 => h9) (fl_at (t := 0) rfl) dX6_readForeignStructures_37 ?_
  refine lv_icmp_ge (tgt := 108) hx hb dX6_readForeignStructures_40 (by decide) (fun c_19 => ?_) (fun c_19 => ?_)
  · skip
    rw [if_pos c_19] at hf
    obtain ⟨h8, h9⟩ := ret_some hf
    rw [h8]
    exact W.vret hx hb hr (fun t ht hW => ⟨⟨(), rfl, trivial, by rw [ht]; exact hP, va_K.moved hW.alike hK, hD⟩, hS.F ht⟩) hS.2.2 dX6_readForeignStructures_108
  · skip
    rw [if_neg c_19] at hf
    refine lv_aload_n hx hb dX6_readForeignStructures_43 rfl (lv_at hl 1 rfl) ?_
    refine va_get (D := (dC, dI)) (ci := 6) (v := .int (z_15.1 h0 1)) (C := RX6) (T := TX6) (N := 9) hx hb hts iwd_X6_readForeignStructures_X6 hown hK hP h0 (Wd_ob kg_3 sg_3 (by decide)) rfl 1 (by decide) (hts _ md_X6_readForeignStructures_4) (fun _ h9 => h9) (fl_at (t := 0) rfl) dX6_readForeignStructures_44 ?_
    refine lv_if_ne (tgt := 108) hx hb dX6_readForeignStructures_47 (by decide) (fun c_20 => ?_) (fun c_20 => ?_)
    · skip
      rw [if_neg c_20] at hf
      obtain ⟨h8, h9⟩ := ret_some hf
      rw [h8]
      exact W.vret hx hb hr (fun t ht hW => ⟨⟨(), rfl, trivial, by rw [ht]; exact hP, va_K.moved hW.alike hK, hD⟩, hS.F ht⟩) hS.2.2 dX6_readForeignStructures_108
    · skip
      rw [if_pos c_20] at hf
      refine lv_aload_n hx hb dX6_readForeignStructures_50 rfl (lv_at hl 1 rfl) ?_
      obtain ⟨k_21, ek_21, hf⟩ := lnk_some hf
      refine va_get (D := (dC, dI)) (ci := 6) (v := .ref (a k_21)) (C := RX6) (T := TX6) (N := 9) hx hb hts iwd_X6_readForeignStructures_X6 hown hK hP h0 (Wd_ob kg_3 sg_3 (by decide)) rfl 2 (by decide) (hts _ md_X6_readForeignStructures_1) (fun _ h9 => h9) (fl_q rfl ek_21) dX6_readForeignStructures_51 ?_
      refine lv_iload_n hx hb dX6_readForeignStructures_54 rfl (lv_at hl 0 rfl) ?_
      refine lv_iconst (v := 4) hx hb dX6_readForeignStructures_55 (by decide) ?_
      refine lv_aload_n hx hb dX6_readForeignStructures_56 rfl (lv_at hl 1 rfl) ?_
      obtain ⟨z_22, r_23, hfc, hf⟩ := cal_some hf
      have hFc := de_free hD hS hA
      refine va_calli (va_runV (As := []) (rest := [.int 4, .int p_14, .ref (a k_21)]) ⟨hx, hb, hml, hown, hts⟩ (de_X6_readShort l dC dI cy a sh n H.size F sk z_15 h0 hfc) (cwV 0 hts gX6_readForeignStructures_X6_readShort rfl rfl rfl (by decide +kernel) ⟨Nat.le_of_ble_eq_true rfl, Nat.le_of_ble_eq_true rfl⟩) ⟨fun a U g mk q => by obtain ⟨q0, q1, qP, qK, qD, qN, qS⟩ := q; exact ⟨q0, q1, qP, va_K.moved (u := U) (U := U.calling g mk a) (Vm.Alike.refl U.vm) qK, qD, qN.same rfl, SKs.moved (u := U) (U := U.calling g mk a) (Vm.Alike.refl U.vm) qS⟩, va_recv hK hP (ci := 6) (q0 := h0) rfl (Wd_ob kg_3 sg_3 (by decide)), fun U hU hW => ⟨rfl, by rw [hU], by rw [hU]; exact hP, va_K.moved hW.alike hK, hD.weaken (fun _ _ _ _ => trivial), hN.warm hW, by rw [hU]; exact ((hSK.kept hS.2.1).narrow hFc).moved hW.alike⟩⟩ rfl rfl hl.1 rfl (lv_room (Nat.le_of_ble_eq_true rfl)) dX6_readForeignStructures_57 ⟨Nat.le_of_ble_eq_true rfl, Nat.le_of_ble_eq_true rfl⟩) hS (fun q _ h => hFc q h) hFc (fun rr u t H_24 locs ht hvm hw hB hz1 hk1 hS2 => ?_)
      rw [hw]
      clear hw
      obtain ⟨hP1, -, hD1⟩ := hB
      rw [ht] at hP1
      replace hD := hD1.weaken (fun _ _ _ h => hFc _ h)
      replace hP := hP1
      replace hS := hS2
      clear hP1 hD1 hS2 hFc hfc hz1 hk1 hvm ht
      obtain ⟨g_26, hf⟩ := grd_some hf
      obtain ⟨kg_26, sg_26⟩ := okO_at g_26
      obtain ⟨z_25, _u, hfc, hf⟩ := cal_some hf
      have hFc := de_free hD hS hA
      refine va_callv (va_runV (As := [.int p_14, .int 4, .int r_23]) (rest := []) ⟨hx, hb, hml, hown, hts⟩ (de_X5_setStructure l dC dI cy a sh n H_24.size F z_22 k_21 p_14 4 r_23 hfc) (cwV 3 hts gX6_readForeignStructures_X5_setStructure rfl rfl rfl (by decide +kernel) ⟨Nat.le_of_ble_eq_true rfl, Nat.le_of_ble_eq_true rfl⟩) ⟨fun a U g mk q => by obtain ⟨q0, q1, qP, qK, qD, qN⟩ := q; exact ⟨q0, q1, qP, va_K.moved (u := U) (U := U.calling g mk a) (Vm.Alike.refl U.vm) qK, qD, qN.same rfl⟩, va_recv hK hP (ci := 5) (q0 := k_21) rfl (Wd_ob kg_26 sg_26 (by decide)), fun U hU hW => ⟨rfl, by rw [hU], by rw [hU]; exact hP, va_K.moved hW.alike hK, hD.weaken (fun _ _ _ _ => trivial), hN.warm hW⟩⟩ rfl rfl hl.1 rfl (lv_room (Nat.le_of_ble_eq_true rfl)) dX6_readForeignStructures_60 ⟨Nat.le_of_ble_eq_true rfl, Nat.le_of_ble_eq_true rfl⟩) hS (fun q _ h => hFc q h) hFc (fun u t H_27 locs ht hvm hw hB hz1 hk1 hS2 => ?_)
      obtain ⟨hP1, -, hD1⟩ := hB
      rw [ht] at hP1
      replace hD := hD1.weaken (fun _ _ _ h => hFc _ h)
      replace hP := hP1
      replace hS := hS2
      clear hP1 hD1 hS2 hFc hfc hz1 hk1 hvm ht
      refine lv_aload_n hx hb dX6_readForeignStructures_63 rfl (lv_at hl 1 rfl) ?_
      obtain ⟨k_28, ek_28, hf⟩ := lnk_some hf
      refine va_get (D := (dC, dI)) (ci := 6) (v := .ref (a k_28)) (C := RX6) (T := TX6) (N := 9) hx hb hts iwd_X6_readForeignStructures_X6 hown hK hP h0 (Wd_ob kg_3 sg_3 (by decide)) rfl 2 (by decide) (hts _ md_X6_readForeignStructures_1) (fun _ h9 => h9) (fl_q rfl ek_28) dX6_readForeignStructures_64 ?_
      refine lv_iload_n hx hb dX6_readForeignStructures_67 rfl (lv_at hl 0 rfl) ?_
      refine lv_iconst (v := 5) hx hb dX6_readForeignStructures_68 (by decide) ?_
      refine lv_aload_n hx hb dX6_readForeignStructures_69 rfl (lv_at hl 1 rfl) ?_
      obtain ⟨z_29, r_30, hfc, hf⟩ := cal_some hf
      have hFc := de_free hD hS hA
      refine va_calli (va_runV (As := []) (rest := [.int 5, .int p_14, .ref (a k_28)]) ⟨hx, hb, hml, hown, hts⟩ (de_X6_readByte l dC dI cy a sh n H_27.size F sk z_25 h0 hfc) (cwV 0 hts gX6_readForeignStructures_X6_readByte rfl rfl rfl (by decide +kernel) ⟨Nat.le_of_ble_eq_true rfl, Nat.le_of_ble_eq_true rfl⟩) ⟨fun a U g mk q => by obtain ⟨q0, q1, qP, qK, qD, qN, qS⟩ := q; exact ⟨q0, q1, qP, va_K.moved (u := U) (U := U.calling g mk a) (Vm.Alike.refl U.vm) qK, qD, qN.same rfl, SKs.moved (u := U) (U := U.calling g mk a) (Vm.Alike.refl U.vm) qS⟩, va_recv hK hP (ci := 6) (q0 := h0) rfl (Wd_ob kg_3 sg_3 (by decide)), fun U hU hW => ⟨rfl, by rw [hU], by rw [hU]; exact hP, va_K.moved hW.alike hK, hD.weaken (fun _ _ _ _ => trivial), hN.warm hW, by rw [hU]; exact ((hSK.kept hS.2.1).narrow hFc).moved hW.alike⟩⟩ rfl rfl hl.1 rfl (lv_room (Nat.le_of_ble_eq_true rfl)) dX6_readForeignStructures_70 ⟨Nat.le_of_ble_eq_true rfl, Nat.le_of_ble_eq_true rfl⟩) hS (fun q _ h => hFc q h) hFc (fun rr u t H_31 locs ht hvm hw hB hz1 hk1 hS2 => ?_)
      rw [hw]
      clear hw
      obtain ⟨hP1, -, hD1⟩ := hB
      rw [ht] at hP1
      replace hD := hD1.weaken (fun _ _ _ h => hFc _ h)
      replace hP := hP1
      replace hS := hS2
      clear hP1 hD1 hS2 hFc hfc hz1 hk1 hvm ht
      obtain ⟨g_33, hf⟩ := grd_some hf
      obtain ⟨kg_33, sg_33⟩ := okO_at g_33
      obtain ⟨z_32, _u, hfc, hf⟩ := cal_some hf
      have hFc := de_free hD hS hA
      refine va_callv (va_runV (As := [.int p_14, .int 5, .int r_30]) (rest := []) ⟨hx, hb, hml, hown, hts⟩ (de_X5_setStructure l dC dI cy a sh n H_31.size F z_29 k_28 p_14 5 r_30 hfc) (cwV 3 hts gX6_readForeignStructures_X5_setStructure rfl rfl rfl (by decide +kernel) ⟨Nat.le_of_ble_eq_true rfl, Nat.le_of_ble_eq_true rfl⟩) ⟨fun a U g mk q => by obtain ⟨q0, q1, qP, qK, qD, qN⟩ := q; exact ⟨q0, q1, qP, va_K.moved (u := U) (U := U.calling g mk a) (Vm.Alike.refl U.vm) qK, qD, qN.same rfl⟩, va_recv hK hP (ci := 5) (q0 := k_28) rfl (Wd_ob kg_33 sg_33 (by decide)), fun U hU hW => ⟨rfl, by rw [hU], by rw [hU]; exact hP, va_K.moved hW.alike hK, hD.weaken (fun _ _ _ _ => trivial), hN.warm hW⟩⟩ rfl rfl hl.1 rfl (lv_room (Nat.le_of_ble_eq_true rfl)) dX6_readForeignStructures_73 ⟨Nat.le_of_ble_eq_true rfl, Nat.le_of_ble_eq_true rfl⟩) hS (fun q _ h => hFc q h) hFc (fun u t H_34 locs ht hvm hw hB hz1 hk1 hS2 => ?_)
      obtain ⟨hP1, -, hD1⟩ := hB
      rw [ht] at hP1
      replace hD := hD1.weaken (fun _ _ _ h => hFc _ h)
      replace hP := hP1
      replace hS := hS2
      clear hP1 hD1 hS2 hFc hfc hz1 hk1 hvm ht
      refine lv_aload_n hx hb dX6_readForeignStructures_76 rfl (lv_at hl 1 rfl) ?_
      obtain ⟨k_35, ek_35, hf⟩ := lnk_some hf
      refine va_get (D := (dC, dI)) (ci := 6) (v := .ref (a k_35)) (C := RX6) (T := TX6) (N := 9) hx hb hts iwd_X6_readForeignStructures_X6 hown hK hP h0 (Wd_ob kg_3 sg_3 (by decide)) rfl 2 (by decide) (hts _ md_X6_readForeignStructures_1) (fun _ h9 => h9) (fl_q rfl ek_35) dX6_readForeignStructures_77 ?_
      refine lv_iload_n hx hb dX6_readForeignStructures_80 rfl (lv_at hl 0 rfl) ?_
      refine lv_iconst (v := 0) hx hb dX6_readForeignStructures_81 (by decide) ?_
      refine lv_aload_n hx hb dX6_readForeignStructures_82 rfl (lv_at hl 1 rfl) ?_
      refine lv_iconst (v := 0) hx hb dX6_readForeignStructures_83 (by decide) ?_
      refine lv_bipush (v := 15) hx hb dX6_readForeignStructures_84 (by decide) ?_
      obtain ⟨z_36, r_37, hfc, hf⟩ := cal_some hf
      have hFc := de_free hD hS hA
      refine va_calli (va_runV (As := [.int 0, .int 15]) (rest := [.int 0, .int p_14, .ref (a k_35)]) ⟨hx, hb, hml, hown, hts⟩ (de_X6_readNumber l dC dI cy a sh n H_34.size F sk z_32 h0 0 15 hfc) (cwV 2 hts gX6_readForeignStructures_X6_readNumber rfl rfl rfl (by decide +kernel) ⟨Nat.le_of_ble_eq_true rfl, Nat.le_of_ble_eq_true rfl⟩) ⟨fun a U g mk q => by obtain ⟨q0, q1, qP, qK, qD, qN, qS⟩ := q; exact ⟨q0, q1, qP, va_K.moved (u := U) (U := U.calling g mk a) (Vm.Alike.refl U.vm) qK, qD, qN.same rfl, SKs.moved (u := U) (U := U.calling g mk a) (Vm.Alike.refl U.vm) qS⟩, va_recv hK hP (ci := 6) (q0 := h0) rfl (Wd_ob kg_3 sg_3 (by decide)), fun U hU hW => ⟨rfl, by rw [hU], by rw [hU]; exact hP, va_K.moved hW.alike hK, hD.weaken (fun _ _ _ _ => trivial), hN.warm hW, by rw [hU]; exact ((hSK.kept hS.2.1).narrow hFc).moved hW.alike⟩⟩ rfl rfl hl.1 rfl (lv_room (Nat.le_of_ble_eq_true rfl)) dX6_readForeignStructures_86 ⟨Nat.le_of_ble_eq_true rfl, Nat.le_of_ble_eq_true rfl⟩) hS (fun q _ h => hFc q h) hFc (fun rr u t H_38 locs ht hvm hw hB hz1 hk1 hS2 => ?_)
      rw [hw]
      clear hw
      obtain ⟨hP1, -, hD1⟩ := hB
      rw [ht] at hP1
      replace hD := hD1.weaken (fun _ _ _ h => hFc _ h)
      replace hP := hP1
      replace hS := hS2
      clear hP1 hD1 hS2 hFc hfc hz1 hk1 hvm ht
      obtain ⟨g_40, hf⟩ := grd_some hf
      obtain ⟨kg_40, sg_40⟩ := okO_at g_40
      obtain ⟨z_39, _u, hfc, hf⟩ := cal_some hf
      have hFc := de_free hD hS hA
      refine va_callv (va_runV (As := [.int p_14, .int 0, .int r_37]) (rest := []) ⟨hx, hb, hml, hown, hts⟩ (de_X5_setStructure l dC dI cy a sh n H_38.size F z_36 k_35 p_14 0 r_37 hfc) (cwV 3 hts gX6_readForeignStructures_X5_setStructure rfl rfl rfl (by decide +kernel) ⟨Nat.le_of_ble_eq_true rfl, Nat.le_of_ble_eq_true rfl⟩) ⟨fun a U g mk q => by obtain ⟨q0, q1, qP, qK, qD, qN⟩ := q; exact ⟨q0, q1, qP, va_K.moved (u := U) (U := U.calling g mk a) (Vm.Alike.refl U.vm) qK, qD, qN.same rfl⟩, va_recv hK hP (ci := 5) (q0 := k_35) rfl (Wd_ob kg_40 sg_40 (by decide)), fun U hU hW => ⟨rfl, by rw [hU], by rw [hU]; exact hP, va_K.moved hW.alike hK, hD.weaken (fun _ _ _ _ => trivial), hN.warm hW⟩⟩ rfl rfl hl.1 rfl (lv_room (Nat.le_of_ble_eq_true rfl)) dX6_readForeignStructures_89 ⟨Nat.le_of_ble_eq_true rfl, Nat.le_of_ble_eq_true rfl⟩) hS (fun q _ h => hFc q h) hFc (fun u t H_41 locs ht hvm hw hB hz1 hk1 hS2 => ?_)
      obtain ⟨hP1, -, hD1⟩ := hB
      rw [ht] at hP1
      replace hD := hD1.weaken (fun _ _ _ h => hFc _ h)
      replace hP := hP1
      replace hS := hS2
      clear hP1 hD1 hS2 hFc hfc hz1 hk1 hvm ht
      refine lv_aload_n hx hb dX6_readForeignStructures_92 rfl (lv_at hl 1 rfl) ?_
      obtain ⟨k_42, ek_42, hf⟩ := lnk_some hf
      refine va_get (D := (dC, dI)) (ci := 6) (v := .ref (a k_42)) (C := RX6) (T := TX6) (N := 9) hx hb hts iwd_X6_readForeignStructures_X6 hown hK hP h0 (Wd_ob kg_3 sg_3 (by decide)) rfl 2 (by decide) (hts _ md_X6_readForeignStructures_1) (fun _ h9 => h9) (fl_q rfl ek_42) dX6_readForeignStructures_93 ?_
      refine lv_iload_n hx hb dX6_readForeignStructures_96 rfl (lv_at hl 0 rfl) ?_
      refine lv_iconst (v := 3) hx hb dX6_readForeignStructures_97 (by decide) ?_
      refine lv_iconst (v := 0) hx hb dX6_readForeignStructures_98 (by decide) ?_
      obtain ⟨g_44, hf⟩ := grd_some hf
      obtain ⟨kg_44, sg_44⟩ := okO_at g_44
      obtain ⟨z_43, _u, hfc, hf⟩ := cal_some hf
      have hFc := de_free hD hS hA
      refine va_callv (va_runV (As := [.int p_14, .int 3, .int 0]) (rest := []) ⟨hx, hb, hml, hown, hts⟩ (de_X5_setStructure l dC dI cy a sh n H_41.size F z_39 k_42 p_14 3 0 hfc) (cwV 3 hts gX6_readForeignStructures_X5_setStructure rfl rfl rfl (by decide +kernel) ⟨Nat.le_of_ble_eq_true rfl, Nat.le_of_ble_eq_true rfl⟩) ⟨fun a U g mk q => by obtain ⟨q0, q1, qP, qK, qD, qN⟩ := q; exact ⟨q0, q1, qP, va_K.moved (u := U) (U := U.calling g mk a) (Vm.Alike.refl U.vm) qK, qD, qN.same rfl⟩, va_recv hK hP (ci := 5) (q0 := k_42) rfl (Wd_ob kg_44 sg_44 (by decide)), fun U hU hW => ⟨rfl, by rw [hU], by rw [hU]; exact hP, va_K.moved hW.alike hK, hD.weaken (fun _ _ _ _ => trivial), hN.warm hW⟩⟩ rfl rfl hl.1 rfl (lv_room (Nat.le_of_ble_eq_true rfl)) dX6_readForeignStructures_99 ⟨Nat.le_of_ble_eq_true rfl, Nat.le_of_ble_eq_true rfl⟩) hS (fun q _ h => hFc q h) hFc (fun u t H_45 locs ht hvm hw hB hz1 hk1 hS2 => ?_)
      obtain ⟨hP1, -, hD1⟩ := hB
      rw [ht] at hP1
      replace hD := hD1.weaken (fun _ _ _ h => hFc _ h)
      replace hP := hP1
      replace hS := hS2
      clear hP1 hD1 hS2 hFc hfc hz1 hk1 hvm ht
      refine lv_iinc (v := (p_14 + 1)) (lv' := [(2, .int (p_14 + 1)), (0, .ref (a h0))]) hx hb dX6_readForeignStructures_102 hl (k := 0) rfl rfl (by decide) rfl (fun ls hl2 => ?_)
      replace hl := hl2
      clear hl2
      refine lv_goto (tgt := 32) hx hb dX6_readForeignStructures_105 (by decide) ?_
      exact ih32 (z_43, (p_14 + 1)) ls H_45 locs ⟨lv_sub hl [0, 1] rfl, hP, hD, hS⟩ hf

theorem md_X16_operand_1 : (.fieldLink RX16 29 "ResourceLedgerModel$Unit" "instructionAt" "[I" : Cond) ∈ wsX16_operand := List.mem_of_getElem? (i := 1) rfl
theorem iwd_X16_operand_X16 : ∀ w ∈ wsX160, w ∈ wsX16_operand := fun _ h => List.mem_cons_of_mem _ (List.mem_append_right _ h)
theorem md_X16_operand_2 : (.fieldLink RX16 26 "ResourceLedgerModel$Unit" "firsts" "[I" : Cond) ∈ wsX16_operand := List.mem_of_getElem? (i := 2) rfl
set_option maxHeartbeats 4000000 in
set_option maxRecDepth 100000 in
theorem de_X16_operand (l : Launch) (dC : Nat → ClassId) (dI : Nat → Nat → Nat) (cy : Nat → ClassId) (a : Nat → Nat) (sh : Nat → Nat × Nat) (n sz : Nat) (F : Nat) (z : St) (h0 : Nat) (x0 : Int32) (x1 : Int32) (x2 : Int32) {z8 : St} {r8 : Int64} (hf : fn_X16_operand F sh n z h0 x0 x1 x2 = some (z8, r8)) : Met l yX16_operand wsX16_operand ({ frames := 2, cells := 0, slots := 0, locals := 46 }) (va_Pc [.ref (a h0), .int x0, .int x1, .int x2] (fun U => U.heap.size = sz ∧ va_P (dC, dI) vwCl (Wd cy a sh n z) U.heap ∧ va_K (dC, dI) vwCl (TYS cy) U ∧ va_D (fun _ => True) (Wd cy a sh n z) ∧ NK U)) (va_Ql (fun (r9 : Int64) (u : Unit) => r9 = r8) (fun u t => va_P (dC, dI) vwCl (Wd cy a sh n z8) t.heap ∧ va_K (dC, dI) vwCl (TYS cy) t ∧ va_D (va_A (Wd cy a sh n z) sz) (Wd cy a sh n z8)) (va_A (Wd cy a sh n z) sz)) 0 0 (va_A (Wd cy a sh n z) sz) := by
  refine Met.ofW (cc := cX16_operand) (maxL := 8) (ret := (some .long)) (by decide) rfl ?_
  intro p e s m args below meth c s₁ B hml hv
  obtain ⟨rfl, hsz, hP, hK, hD0, hN⟩ := hv
  have hx := B.exec
  have hb := B.bytes
  have hr := B.returns
  have hts := atoms_spec (ws := wsX16_operand) B.pre
  have hown : s.vm.findClass RX16 = some m.cls := findClass_of_methodNamed B.named
  have hlocks := B.notSynchronized
  subst hsz
  have hD := hD0.self (sz := s.heap.size)
  clear hD0
  generalize hAe : va_A (Wd cy a sh n z) s.heap.size = A at hD ⊢
  have hA : ∀ q : Nat, s.heap.size ≤ q → A q := fun q h => by rw [← hAe]; exact Or.inr h
  clear hAe
  have hS : va_S A s.heap s.heap [] := va_S.rf
  have hl := lv_entry ([.ref (a h0), .int x0, .int x1, .int x2]) (n := 8) (Nat.le_of_ble_eq_true rfl)
  rw [lg_entry_eq]
  generalize (lg_sl ([.ref (a h0), .int x0, .int x1, .int x2]) ++ List.replicate (8 - (lg_sl ([.ref (a h0), .int x0, .int x1, .int x2])).length) Slot.unset).toArray = ls at hl ⊢
  replace hl : lv_has ls 8 [(0, .ref (a h0)), (1, .int x0), (2, .int x1), (3, .int x2)] := hl
  unfold fn_X16_operand at hf
  refine de_start hS hP (fun H locs hS hP => ?_)
  refine lv_aload_n hx hb dX16_operand_0 rfl (lv_at hl 0 rfl) ?_
  obtain ⟨g_1, hf⟩ := grd_some hf
  obtain ⟨kg_1, sg_1⟩ := okO_at g_1
  obtain ⟨k_2, ek_2, hf⟩ := lnk_some hf
  refine va_get (D := (dC, dI)) (ci := 16) (v := .ref (a k_2)) (C := RX16) (T := TX16) (N := 18) hx hb hts iwd_X16_operand_X16 hown hK hP h0 (Wd_ob kg_1 sg_1 (by decide)) rfl 16 (by decide) (hts _ md_X16_operand_1) (fun _ h9 => h9) (fl_q rfl ek_2) dX16_operand_1 ?_
  refine lv_aload_n hx hb dX16_operand_4 rfl (lv_at hl 0 rfl) ?_
  obtain ⟨k_3, ek_3, hf⟩ := lnk_some hf
  refine va_get (D := (dC, dI)) (ci := 16) (v := .ref (a k_3)) (C := RX16) (T := TX16) (N := 18) hx hb hts iwd_X16_operand_X16 hown hK hP h0 (Wd_ob kg_1 sg_1 (by decide)) rfl 15 (by decide) (hts _ md_X16_operand_2) (fun _ h9 => h9) (fl_q rfl ek_3) dX16_operand_5 ?_
  refine lv_iload_n hx hb dX16_operand_8 rfl (lv_at hl 1 rfl) ?_
  obtain ⟨g_4, hf⟩ := grd_some hf
  obtain ⟨kg_4, sg_4, ig_4⟩ := okA_at g_4
  refine va_iald hx hb hK hP k_3 1 (Wd_ai kg_4 sg_4) rfl ig_4 dX16_operand_9 ?_
  refine lv_iload_n hx hb dX16_operand_10 rfl (lv_at hl 2 rfl) ?_
  refine lv_iadd hx hb dX16_operand_11 ?_
  obtain ⟨g_5, hf⟩ := grd_some hf
  obtain ⟨kg_5, sg_5, ig_5⟩ := okA_at g_5
  refine va_iald hx hb hK hP k_2 1 (Wd_ai kg_5 sg_5) rfl ig_5 dX16_operand_12 ?_
  refine lv_topi (fun v_6 ev_6 => ?_)
  replace hf := lt_at ev_6 hf
  clear ev_6
  refine lv_istore (lv' := [(4, .int v_6), (0, .ref (a h0)), (1, .int x0), (2, .int x1), (3, .int x2)]) hx hb dX16_operand_13 hl (by decide) rfl (fun ls hl2 => ?_)
  replace hl := hl2
  clear hl2
  refine lv_aload_n hx hb dX16_operand_15 rfl (lv_at hl 1 rfl) ?_
  refine lv_iload hx hb dX16_operand_16 (lv_at hl 0 rfl) ?_
  obtain ⟨z_7, r_8, hfc, hf⟩ := cal_some hf
  have hFc := de_free hD hS hA
  refine va_calli (va_runV (As := [.int v_6]) (rest := []) ⟨hx, hb, hml, hown, hts⟩ (de_X16_byteAt l dC dI cy a sh n H.size F z h0 v_6 hfc) (cwV 1 hts gX16_operand_X16_byteAt rfl rfl rfl (by decide +kernel) ⟨Nat.le_of_ble_eq_true rfl, Nat.le_of_ble_eq_true rfl⟩) ⟨fun a U g mk q => by obtain ⟨q0, q1, qP, qK, qD, qN⟩ := q; exact ⟨q0, q1, qP, va_K.moved (u := U) (U := U.calling g mk a) (Vm.Alike.refl U.vm) qK, qD, qN.same rfl⟩, va_recv hK hP (ci := 16) (q0 := h0) rfl (Wd_ob kg_1 sg_1 (by decide)), fun U hU hW => ⟨rfl, by rw [hU], by rw [hU]; exact hP, va_K.moved hW.alike hK, hD.weaken (fun _ _ _ _ => trivial), hN.warm hW⟩⟩ rfl rfl hl.1 rfl (lv_room (Nat.le_of_ble_eq_true rfl)) dX16_operand_18 ⟨Nat.le_of_ble_eq_true rfl, Nat.le_of_ble_eq_true rfl⟩) hS (fun q _ h => hFc q h) hFc (fun rr u t H_9 locs ht hvm hw hB hz1 hk1 hS2 => ?_)
  rw [hw]
  clear hw
  obtain ⟨hP1, -, hD1⟩ := hB
  rw [ht] at hP1
  replace hD := hD1.weaken (fun _ _ _ h => hFc _ h)
  replace hP := hP1
  replace hS := hS2
  clear hP1 hD1 hS2 hFc hfc hz1 hk1 hvm ht
  refine lv_istore (lv' := [(5, .int r_8), (4, .int v_6), (0, .ref (a h0)), (1, .int x0), (2, .int x1), (3, .int x2)]) hx hb dX16_operand_21 hl (by decide) rfl (fun ls hl2 => ?_)
  replace hl := hl2
  clear hl2
  refine lv_iload hx hb dX16_operand_23 (lv_at hl 0 rfl) ?_
  obtain ⟨z_10, r_11, hfc, hf⟩ := cal_some hf
  have hFc := de_free hD hS hA
  refine va_calli (va_runS (As := [.int r_8]) (rest := []) ⟨hx, hb, hml, hown, hts⟩ (de_X16_operandBytes l dC dI cy a sh n H_9.size F z_7 r_8 hfc) (va_cwS 1 hts gX16_operand_X16_operandBytes rfl rfl rfl (by decide +kernel) ⟨Nat.le_of_ble_eq_true rfl, Nat.le_of_ble_eq_true rfl⟩) ⟨fun a U g mk q => by obtain ⟨q0, q1, qP, qK, qD, qN⟩ := q; exact ⟨q0, q1, qP, va_K.moved (u := U) (U := U.calling g mk a) (Vm.Alike.refl U.vm) qK, qD, qN.same rfl⟩, fun U hU hW => ⟨rfl, by rw [hU], by rw [hU]; exact hP, va_K.moved hW.alike hK, hD.weaken (fun _ _ _ _ => trivial), hN.warm hW⟩⟩ rfl rfl hl.1 rfl (lv_room (Nat.le_of_ble_eq_true rfl)) dX16_operand_25 ⟨Nat.le_of_ble_eq_true rfl, Nat.le_of_ble_eq_true rfl⟩) hS (fun q _ h => hFc q h) hFc (fun rr u t H_12 locs ht hvm hw hB hz1 hk1 hS2 => ?_)
  rw [hw]
  clear hw
  obtain ⟨hP1, -, hD1⟩ := hB
  rw [ht] at hP1
  replace hD := hD1.weaken (fun _ _ _ h => hFc _ h)
  replace hP := hP1
  replace hS := hS2
  clear hP1 hD1 hS2 hFc hfc hz1 hk1 hvm ht
  refine lv_istore (lv' := [(6, .int r_11), (5, .int r_8), (4, .int v_6), (0, .ref (a h0)), (1, .int x0), (2, .int x1), (3, .int x2)]) hx hb dX16_operand_28 hl (by decide) rfl (fun ls hl2 => ?_)
  replace hl := hl2
  clear hl2
  refine lv_iload hx hb dX16_operand_30 (lv_at hl 1 rfl) ?_
  refine lv_bipush (v := 16) hx hb dX16_operand_32 (by decide) ?_
  refine de_cut (h := 63) (fun (x : St × Int32) => [.int x.2]) (fun x ls H locs => lv_has ls 8 [(6, .int r_11), (4, .int v_6), (0, .ref (a h0)), (3, .int x2)] ∧ va_P (dC, dI) vwCl (Wd cy a sh n x.1) H ∧ va_D A (Wd cy a sh n x.1) ∧ va_S A s.heap H locs) (fun x => fn_X16_operand_B63 F sh n x2 h0 v_6 r_11 x.1 x.2) (z8, r8) ?_ (fun B63 => ?_)
  · intro x ls H locs hI hf
    obtain ⟨z_14, p_13⟩ := x
    obtain ⟨hl2, hP2, hD2, hS2⟩ := hI
    replace hl : lv_has ls 8 [(6, .int r_11), (4, .int v_6), (0, .ref (a h0)), (3, .int x2)] := hl2
    replace hP := hP2
    replace hD := hD2
    replace hS := hS2
    clear hl2 hP2 hD2 hS2
    replace hf := fn_X16_operand_B63_s hf
    refine W.eq (g2 := F0 m 63 ls [.int p_13]) rfl ?_
    refine lv_istore (lv' := [(7, .int p_13), (6, .int r_11), (4, .int v_6), (0, .ref (a h0)), (3, .int x2)]) hx hb dX16_operand_63 hl (by decide) rfl (fun ls hl2 => ?_)
    replace hl := hl2
    clear hl2
    refine lv_iload hx hb dX16_operand_65 (lv_at hl 0 rfl) ?_
    refine lv_if_ne (tgt := 89) hx hb dX16_operand_67 (by decide) (fun c_15 => ?_) (fun c_15 => ?_)
    · skip
      rw [if_neg c_15] at hf
      refine lv_aload_n hx hb dX16_operand_89 rfl (lv_at hl 3 rfl) ?_
      refine lv_iload hx hb dX16_operand_90 (lv_at hl 2 rfl) ?_
      refine lv_iconst (v := 1) hx hb dX16_operand_92 (by decide) ?_
      refine lv_iadd hx hb dX16_operand_93 ?_
      refine lv_iload_n hx hb dX16_operand_94 rfl (lv_at hl 4 rfl) ?_
      refine lv_iload hx hb dX16_operand_95 (lv_at hl 1 rfl) ?_
      refine lv_imul hx hb dX16_operand_97 ?_
      refine lv_iconst (v := 2) hx hb dX16_operand_98 (by decide) ?_
      refine lv_idiv hx hb dX16_operand_99 (by decide) ?_
      refine lv_iadd hx hb dX16_operand_100 ?_
      refine lv_iload hx hb dX16_operand_101 (lv_at hl 1 rfl) ?_
      refine lv_iconst (v := 2) hx hb dX16_operand_103 (by decide) ?_
      refine lv_idiv hx hb dX16_operand_104 (by decide) ?_
      obtain ⟨z_16, r_17, hfc, hf⟩ := cal_some hf
      have hFc := de_free hD hS hA
      refine va_calll (va_runV (As := [.int ((v_6 + 1) + ((x2 * r_11) / 2)), .int (r_11 / 2)]) (rest := []) ⟨hx, hb, hml, hown, hts⟩ (de_X16_number_ l dC dI cy a sh n H.size F z_14 h0 ((v_6 + 1) + ((x2 * r_11) / 2)) (r_11 / 2) hfc) (cwV 2 hts gX16_operand_X16_number_ rfl rfl rfl (by decide +kernel) ⟨Nat.le_of_ble_eq_true rfl, Nat.le_of_ble_eq_true rfl⟩) ⟨fun a U g mk q => by obtain ⟨q0, q1, qP, qK, qD, qN⟩ := q; exact ⟨q0, q1, qP, va_K.moved (u := U) (U := U.calling g mk a) (Vm.Alike.refl U.vm) qK, qD, qN.same rfl⟩, va_recv hK hP (ci := 16) (q0 := h0) rfl (Wd_ob kg_1 sg_1 (by decide)), fun U hU hW => ⟨rfl, by rw [hU], by rw [hU]; exact hP, va_K.moved hW.alike hK, hD.weaken (fun _ _ _ _ => trivial), hN.warm hW⟩⟩ rfl rfl hl.1 rfl (lv_room (Nat.le_of_ble_eq_true rfl)) dX16_operand_105 ⟨Nat.le_of_ble_eq_true rfl, Nat.le_of_ble_eq_true rfl⟩) hS (fun q _ h => hFc q h) hFc (fun rr u t H_18 locs ht hvm hw hB hz1 hk1 hS2 => ?_)
      rw [hw]
      clear hw
      obtain ⟨hP1, -, hD1⟩ := hB
      rw [ht] at hP1
      replace hD := hD1.weaken (fun _ _ _ h => hFc _ h)
      replace hP := hP1
      replace hS := hS2
      clear hP1 hD1 hS2 hFc hfc hz1 hk1 hvm ht
      obtain ⟨h8, h9⟩ := ret_some hf
      rw [h8, h9]
      exact W.lret (v := r_17) hx hb hr (fun t ht hW => ⟨⟨r_17, (), rfl, rfl, by rw [ht]; exact hP, va_K.moved hW.alike hK, hD⟩, hS.F ht⟩) hS.2.2 dX16_operand_108
    · skip
      rw [if_pos c_15] at hf
      refine lv_iload_n hx hb dX16_operand_70 rfl (lv_at hl 4 rfl) ?_
      refine lv_if_ne (tgt := 87) hx hb dX16_operand_71 (by decide) (fun c_19 => ?_) (fun c_19 => ?_)
      · skip
        rw [if_neg c_19] at hf
        refine lv_lconst (v := 0) hx hb dX16_operand_87 (by decide) ?_
        obtain ⟨h8, h9⟩ := ret_some hf
        rw [h8, h9]
        exact W.lret (v := 0) hx hb hr (fun t ht hW => ⟨⟨0, (), rfl, rfl, by rw [ht]; exact hP, va_K.moved hW.alike hK, hD⟩, hS.F ht⟩) hS.2.2 dX16_operand_88
      · skip
        rw [if_pos c_19] at hf
        refine lv_aload_n hx hb dX16_operand_74 rfl (lv_at hl 3 rfl) ?_
        refine lv_iload hx hb dX16_operand_75 (lv_at hl 2 rfl) ?_
        refine lv_iconst (v := 1) hx hb dX16_operand_77 (by decide) ?_
        refine lv_iadd hx hb dX16_operand_78 ?_
        refine lv_iload hx hb dX16_operand_79 (lv_at hl 1 rfl) ?_
        obtain ⟨z_20, r_21, hfc, hf⟩ := cal_some hf
        have hFc := de_free hD hS hA
        refine va_calll (va_runV (As := [.int (v_6 + 1), .int r_11]) (rest := []) ⟨hx, hb, hml, hown, hts⟩ (de_X16_number_ l dC dI cy a sh n H.size F z_14 h0 (v_6 + 1) r_11 hfc) (cwV 2 hts gX16_operand_X16_number_ rfl rfl rfl (by decide +kernel) ⟨Nat.le_of_ble_eq_true rfl, Nat.le_of_ble_eq_true rfl⟩) ⟨fun a U g mk q => by obtain ⟨q0, q1, qP, qK, qD, qN⟩ := q; exact ⟨q0, q1, qP, va_K.moved (u := U) (U := U.calling g mk a) (Vm.Alike.refl U.vm) qK, qD, qN.same rfl⟩, va_recv hK hP (ci := 16) (q0 := h0) rfl (Wd_ob kg_1 sg_1 (by decide)), fun U hU hW => ⟨rfl, by rw [hU], by rw [hU]; exact hP, va_K.moved hW.alike hK, hD.weaken (fun _ _ _ _ => trivial), hN.warm hW⟩⟩ rfl rfl hl.1 rfl (lv_room (Nat.le_of_ble_eq_true rfl)) dX16_operand_81 ⟨Nat.le_of_ble_eq_true rfl, Nat.le_of_ble_eq_true rfl⟩) hS (fun q _ h => hFc q h) hFc (fun rr u t H_22 locs ht hvm hw hB hz1 hk1 hS2 => ?_)
        rw [hw]
        clear hw
        obtain ⟨hP1, -, hD1⟩ := hB
        rw [ht] at hP1
        replace hD := hD1.weaken (fun _ _ _ h => hFc _ h)
        replace hP := hP1
        replace hS := hS2
        clear hP1 hD1 hS2 hFc hfc hz1 hk1 hvm ht
        refine lv_goto (tgt := 88) hx hb dX16_operand_84 (by decide) ?_
        obtain ⟨h8, h9⟩ := ret_some hf
        rw [h8, h9]
        exact W.lret (v := r_21) hx hb hr (fun t ht hW => ⟨⟨r_21, (), rfl, rfl, by rw [ht]; exact hP, va_K.moved hW.alike hK, hD⟩, hS.F ht⟩) hS.2.2 dX16_operand_88
  refine de_cut (h := 58) (fun (x : St) => []) (fun x ls H locs => lv_has ls 8 [(6, .int r_11), (4, .int v_6), (0, .ref (a h0)), (3, .int x2)] ∧ va_P (dC, dI) vwCl (Wd cy a sh n x) H ∧ va_D A (Wd cy a sh n x) ∧ va_S A s.heap H locs) (fun x => fn_X16_operand_B58 F sh n x2 h0 v_6 r_11 x) (z8, r8) ?_ (fun B58 => ?_)
  · intro x ls H locs hI hf
    obtain ⟨z_23, ez⟩ : ∃ w, w = x := ⟨_, rfl⟩
    subst ez
    obtain ⟨hl2, hP2, hD2, hS2⟩ := hI
    replace hl : lv_has ls 8 [(6, .int r_11), (4, .int v_6), (0, .ref (a h0)), (3, .int x2)] := hl2
    replace hP := hP2
    replace hD := hD2
    replace hS := hS2
    clear hl2 hP2 hD2 hS2
    replace hf := fn_X16_operand_B58_s hf
    refine W.eq (g2 := F0 m 58 ls []) rfl ?_
    refine lv_iconst (v := 1) hx hb dX16_operand_58 (by decide) ?_
    refine lv_goto (tgt := 63) hx hb dX16_operand_59 (by decide) ?_
    exact B63 (z_23, 1) ls H locs ⟨lv_sub hl [0, 1, 2, 3] rfl, hP, hD, hS⟩ hf
  refine lv_icmp_eq (tgt := 58) hx hb dX16_operand_34 (by decide) (fun c_24 => ?_) (fun c_24 => ?_)
  · skip
    rw [if_pos c_24] at hf
    exact B58 (z_10) ls H_12 locs ⟨lv_sub hl [0, 2, 3, 6] rfl, hP, hD, hS⟩ hf
  · skip
    rw [if_neg c_24] at hf
    refine lv_iload hx hb dX16_operand_37 (lv_at hl 1 rfl) ?_
    refine lv_bipush (v := 17) hx hb dX16_operand_39 (by decide) ?_
    refine lv_icmp_eq (tgt := 58) hx hb dX16_operand_41 (by decide) (fun c_25 => ?_) (fun c_25 => ?_)
    · skip
      rw [if_pos c_25] at hf
      exact B58 (z_10) ls H_12 locs ⟨lv_sub hl [0, 2, 3, 6] rfl, hP, hD, hS⟩ hf
    · skip
      rw [if_neg c_25] at hf
      refine lv_iload hx hb dX16_operand_44 (lv_at hl 1 rfl) ?_
      refine lv_bipush (v := 52) hx hb dX16_operand_46 (by decide) ?_
      refine lv_icmp_eq (tgt := 58) hx hb dX16_operand_48 (by decide) (fun c_26 => ?_) (fun c_26 => ?_)
      · skip
        rw [if_pos c_26] at hf
        exact B58 (z_10) ls H_12 locs ⟨lv_sub hl [0, 2, 3, 6] rfl, hP, hD, hS⟩ hf
      · skip
        rw [if_neg c_26] at hf
        refine lv_iload hx hb dX16_operand_51 (lv_at hl 1 rfl) ?_
        refine lv_bipush (v := 7) hx hb dX16_operand_53 (by decide) ?_
        refine lv_icmp_ne (tgt := 62) hx hb dX16_operand_55 (by decide) (fun c_27 => ?_) (fun c_27 => ?_)
        · skip
          rw [if_neg c_27] at hf
          refine lv_iconst (v := 0) hx hb dX16_operand_62 (by decide) ?_
          exact B63 (z_10, 0) ls H_12 locs ⟨lv_sub hl [0, 2, 3, 6] rfl, hP, hD, hS⟩ hf
        · skip
          rw [if_pos c_27] at hf
          exact B58 (z_10) ls H_12 locs ⟨lv_sub hl [0, 2, 3, 6] rfl, hP, hD, hS⟩ hf

theorem md_X4_set_1 : (.fieldLink RX4 75 "ResourceLedger$Machine" "t" "LResourceLedger$Transaction;" : Cond) ∈ wsX4_set := List.mem_of_getElem? (i := 1) rfl
theorem iwd_X4_set_X4 : ∀ w ∈ wsX40, w ∈ wsX4_set := fun _ h => List.mem_cons_of_mem _ (List.mem_append_left _ (List.mem_append_left _ (List.mem_append_left _ (List.mem_append_right _ h))))
theorem md_X4_set_2 : (.fieldLink RX4 277 "ResourceLedger$Transaction" "sender" "J" : Cond) ∈ wsX4_set := List.mem_of_getElem? (i := 2) rfl
theorem iwd_X4_set_X8 : ∀ w ∈ wsX80, w ∈ wsX4_set := fun _ h => List.mem_cons_of_mem _ (List.mem_append_left _ (List.mem_append_left _ (List.mem_append_right _ h)))
set_option maxHeartbeats 4000000 in
set_option maxRecDepth 100000 in
theorem de_X4_set (l : Launch) (dC : Nat → ClassId) (dI : Nat → Nat → Nat) (cy : Nat → ClassId) (a : Nat → Nat) (sh : Nat → Nat × Nat) (n sz : Nat) (F : Nat) (sk : Nat → Nat) (z : St) (h0 : Nat) (x0 : Int32) (x1 : Nat) (x2 : Int32) {z8 : St} {r8 : Unit} (hf : fn_X4_set F sh n z h0 x0 x1 x2 = some (z8, r8)) : Met l yX4_set wsX4_set ({ frames := 2, cells := 0, slots := 0, locals := 50 }) (va_Pc [.ref (a h0), .int x0, .ref (a x1), .int x2] (fun U => U.heap.size = sz ∧ va_P (dC, dI) vwCl (Wd cy a sh n z) U.heap ∧ va_K (dC, dI) vwCl (TYS cy) U ∧ va_D (fun _ => True) (Wd cy a sh n z) ∧ NK U ∧ SKs sk (a CBK) (va_A (Wd cy a sh n z) sz) U U.heap)) (va_Qv (fun u : Unit => True) (fun u t => va_P (dC, dI) vwCl (Wd cy a sh n z8) t.heap ∧ va_K (dC, dI) vwCl (TYS cy) t ∧ va_D (va_A (Wd cy a sh n z) sz) (Wd cy a sh n z8)) (va_A (Wd cy a sh n z) sz)) 0 0 (va_A (Wd cy a sh n z) sz) := by
  refine Met.ofW (cc := cX4_set) (maxL := 4) (ret := none) (by decide) rfl ?_
  intro p e s m args below meth c s₁ B hml hv
  obtain ⟨rfl, hsz, hP, hK, hD0, hN, hSK⟩ := hv
  have hx := B.exec
  have hb := B.bytes
  have hr := B.returns
  have hts := atoms_spec (ws := wsX4_set) B.pre
  have hown : s.vm.findClass RX4 = some m.cls := findClass_of_methodNamed B.named
  have hlocks := B.notSynchronized
  subst hsz
  have hD := hD0.self (sz := s.heap.size)
  clear hD0
  generalize hAe : va_A (Wd cy a sh n z) s.heap.size = A at hD hSK ⊢
  have hA : ∀ q : Nat, s.heap.size ≤ q → A q := fun q h => by rw [← hAe]; exact Or.inr h
  clear hAe
  have hS : va_S A s.heap s.heap [] := va_S.rf
  have hl := lv_entry ([.ref (a h0), .int x0, .ref (a x1), .int x2]) (n := 4) (Nat.le_of_ble_eq_true rfl)
  rw [lg_entry_eq]
  generalize (lg_sl ([.ref (a h0), .int x0, .ref (a x1), .int x2]) ++ List.replicate (4 - (lg_sl ([.ref (a h0), .int x0, .ref (a x1), .int x2])).length) Slot.unset).toArray = ls at hl ⊢
  replace hl : lv_has ls 4 [(0, .ref (a h0)), (1, .int x0), (2, .ref (a x1)), (3, .int x2)] := hl
  unfold fn_X4_set at hf
  refine de_start hS hP (fun H locs hS hP => ?_)
  refine lv_iload_n hx hb dX4_set_0 rfl (lv_at hl 1 rfl) ?_
  by_cases c_1 : x0 = 5
  · skip
    rw [if_pos c_1] at hf
    refine lv_lookup (tgt := 68) hx hb dX4_set_1 (by decide) (by rw [c_1]) (by decide) ?_
    refine lv_aload_n hx hb dX4_set_68 rfl (lv_at hl 0 rfl) ?_
    refine lv_iconst (v := 2) hx hb dX4_set_69 (by decide) ?_
    refine lv_lconst (v := 0) hx hb dX4_set_70 (by decide) ?_
    refine lv_aload_n hx hb dX4_set_71 rfl (lv_at hl 2 rfl) ?_
    refine lv_iload_n hx hb dX4_set_72 rfl (lv_at hl 3 rfl) ?_
    obtain ⟨g_4, hf⟩ := grd_some hf
    obtain ⟨kg_4, sg_4⟩ := okO_at g_4
    obtain ⟨z_2, r_3, hfc, hf⟩ := cal_some hf
    have hFc := de_free hD hS hA
    refine va_calli (va_runV (As := [.int x2]) (rest := [.long 0, .int 2, .ref (a h0)]) ⟨hx, hb, hml, hown, hts⟩ (de_X5_at l dC dI cy a sh n H.size F sk z x1 x2 hfc) (cwV 1 hts gX4_set_X5_at rfl rfl rfl (by decide +kernel) ⟨Nat.le_of_ble_eq_true rfl, Nat.le_of_ble_eq_true rfl⟩) ⟨fun a U g mk q => by obtain ⟨q0, q1, qP, qK, qD, qN, qS⟩ := q; exact ⟨q0, q1, qP, va_K.moved (u := U) (U := U.calling g mk a) (Vm.Alike.refl U.vm) qK, qD, qN.same rfl, SKs.moved (u := U) (U := U.calling g mk a) (Vm.Alike.refl U.vm) qS⟩, va_recv hK hP (ci := 5) (q0 := x1) rfl (Wd_ob kg_4 sg_4 (by decide)), fun U hU hW => ⟨rfl, by rw [hU], by rw [hU]; exact hP, va_K.moved hW.alike hK, hD.weaken (fun _ _ _ _ => trivial), hN.warm hW, by rw [hU]; exact ((hSK.kept hS.2.1).narrow hFc).moved hW.alike⟩⟩ rfl rfl hl.1 rfl (lv_room (Nat.le_of_ble_eq_true rfl)) dX4_set_73 ⟨Nat.le_of_ble_eq_true rfl, Nat.le_of_ble_eq_true rfl⟩) hS (fun q _ h => hFc q h) hFc (fun rr u t H_5 locs ht hvm hw hB hz1 hk1 hS2 => ?_)
    rw [hw]
    clear hw
    obtain ⟨hP1, -, hD1⟩ := hB
    rw [ht] at hP1
    replace hD := hD1.weaken (fun _ _ _ h => hFc _ h)
    replace hP := hP1
    replace hS := hS2
    clear hP1 hD1 hS2 hFc hfc hz1 hk1 hvm ht
    refine lv_i2l (v := (r_3 : Int32).toInt64) hx hb dX4_set_76 rfl ?_
    obtain ⟨g_7, hf⟩ := grd_some hf
    obtain ⟨kg_7, sg_7⟩ := okO_at g_7
    obtain ⟨z_6, _u, hfc, hf⟩ := cal_some hf
    have hFc := de_free hD hS hA
    refine va_callv (va_runV (As := [.int 2, .long 0, .long ((r_3 : Int32).toInt64)]) (rest := []) ⟨hx, hb, hml, hown, hts⟩ (de_X4_pushNumber l dC dI cy a sh n H_5.size F z_2 h0 2 0 ((r_3 : Int32).toInt64) hfc) (cwV 3 hts gX4_set_X4_pushNumber rfl rfl rfl (by decide +kernel) ⟨Nat.le_of_ble_eq_true rfl, Nat.le_of_ble_eq_true rfl⟩) ⟨fun a U g mk q => by obtain ⟨q0, q1, qP, qK, qD, qN⟩ := q; exact ⟨q0, q1, qP, va_K.moved (u := U) (U := U.calling g mk a) (Vm.Alike.refl U.vm) qK, qD, qN.same rfl⟩, va_recv hK hP (ci := 4) (q0 := h0) rfl (Wd_ob kg_7 sg_7 (by decide)), fun U hU hW => ⟨rfl, by rw [hU], by rw [hU]; exact hP, va_K.moved hW.alike hK, hD.weaken (fun _ _ _ _ => trivial), hN.warm hW⟩⟩ rfl rfl hl.1 rfl (lv_room (Nat.le_of_ble_eq_true rfl)) dX4_set_77 ⟨Nat.le_of_ble_eq_true rfl, Nat.le_of_ble_eq_true rfl⟩) hS (fun q _ h => hFc q h) hFc (fun u t H_8 locs ht hvm hw hB hz1 hk1 hS2 => ?_)
    obtain ⟨hP1, -, hD1⟩ := hB
    rw [ht] at hP1
    replace hD := hD1.weaken (fun _ _ _ h => hFc _ h)
    replace hP := hP1
    replace hS := hS2
    clear hP1 hD1 hS2 hFc hfc hz1 hk1 hvm ht
    refine lv_goto (tgt := 170) hx hb dX4_set_80 (by decide) ?_
    obtain ⟨h8, h9⟩ := ret_some hf
    rw [h8]
    exact W.vret hx hb hr (fun t ht hW => ⟨⟨(), rfl, trivial, by rw [ht]; exact hP, va_K.moved hW.alike hK, hD⟩, hS.F ht⟩) hS.2.2 dX4_set_170
  rw [if_neg c_1] at hf
  by_cases c_9 : x0 = 6
  · skip
    rw [if_pos c_9] at hf
    refine lv_lookup (tgt := 83) hx hb dX4_set_1 (by decide) (by rw [c_9]) (by decide) ?_
    refine lv_aload_n hx hb dX4_set_83 rfl (lv_at hl 0 rfl) ?_
    refine lv_iconst (v := 3) hx hb dX4_set_84 (by decide) ?_
    refine lv_lconst (v := 0) hx hb dX4_set_85 (by decide) ?_
    refine lv_aload_n hx hb dX4_set_86 rfl (lv_at hl 2 rfl) ?_
    refine lv_iload_n hx hb dX4_set_87 rfl (lv_at hl 3 rfl) ?_
    refine lv_bipush (v := 8) hx hb dX4_set_88 (by decide) ?_
    obtain ⟨g_12, hf⟩ := grd_some hf
    obtain ⟨kg_12, sg_12⟩ := okO_at g_12
    obtain ⟨z_10, r_11, hfc, hf⟩ := cal_some hf
    have hFc := de_free hD hS hA
    refine va_calll (va_runV (As := [.int x2, .int 8]) (rest := [.long 0, .int 3, .ref (a h0)]) ⟨hx, hb, hml, hown, hts⟩ (de_X5_numberAt l dC dI cy a sh n H.size F sk z x1 x2 8 hfc) (cwV 2 hts gX4_set_X5_numberAt rfl rfl rfl (by decide +kernel) ⟨Nat.le_of_ble_eq_true rfl, Nat.le_of_ble_eq_true rfl⟩) ⟨fun a U g mk q => by obtain ⟨q0, q1, qP, qK, qD, qN, qS⟩ := q; exact ⟨q0, q1, qP, va_K.moved (u := U) (U := U.calling g mk a) (Vm.Alike.refl U.vm) qK, qD, qN.same rfl, SKs.moved (u := U) (U := U.calling g mk a) (Vm.Alike.refl U.vm) qS⟩, va_recv hK hP (ci := 5) (q0 := x1) rfl (Wd_ob kg_12 sg_12 (by decide)), fun U hU hW => ⟨rfl, by rw [hU], by rw [hU]; exact hP, va_K.moved hW.alike hK, hD.weaken (fun _ _ _ _ => trivial), hN.warm hW, by rw [hU]; exact ((hSK.kept hS.2.1).narrow hFc).moved hW.alike⟩⟩ rfl rfl hl.1 rfl (lv_room (Nat.le_of_ble_eq_true rfl)) dX4_set_90 ⟨Nat.le_of_ble_eq_true rfl, Nat.le_of_ble_eq_true rfl⟩) hS (fun q _ h => hFc q h) hFc (fun rr u t H_13 locs ht hvm hw hB hz1 hk1 hS2 => ?_)
    rw [hw]
    clear hw
    obtain ⟨hP1, -, hD1⟩ := hB
    rw [ht] at hP1
    replace hD := hD1.weaken (fun _ _ _ h => hFc _ h)
    replace hP := hP1
    replace hS := hS2
    clear hP1 hD1 hS2 hFc hfc hz1 hk1 hvm ht
    obtain ⟨g_15, hf⟩ := grd_some hf
    obtain ⟨kg_15, sg_15⟩ := okO_at g_15
    obtain ⟨z_14, _u, hfc, hf⟩ := cal_some hf
    have hFc := de_free hD hS hA
    refine va_callv (va_runV (As := [.int 3, .long 0, .long r_11]) (rest := []) ⟨hx, hb, hml, hown, hts⟩ (de_X4_pushNumber l dC dI cy a sh n H_13.size F z_10 h0 3 0 r_11 hfc) (cwV 3 hts gX4_set_X4_pushNumber rfl rfl rfl (by decide +kernel) ⟨Nat.le_of_ble_eq_true rfl, Nat.le_of_ble_eq_true rfl⟩) ⟨fun a U g mk q => by obtain ⟨q0, q1, qP, qK, qD, qN⟩ := q; exact ⟨q0, q1, qP, va_K.moved (u := U) (U := U.calling g mk a) (Vm.Alike.refl U.vm) qK, qD, qN.same rfl⟩, va_recv hK hP (ci := 4) (q0 := h0) rfl (Wd_ob kg_15 sg_15 (by decide)), fun U hU hW => ⟨rfl, by rw [hU], by rw [hU]; exact hP, va_K.moved hW.alike hK, hD.weaken (fun _ _ _ _ => trivial), hN.warm hW⟩⟩ rfl rfl hl.1 rfl (lv_room (Nat.le_of_ble_eq_true rfl)) dX4_set_93 ⟨Nat.le_of_ble_eq_true rfl, Nat.le_of_ble_eq_true rfl⟩) hS (fun q _ h => hFc q h) hFc (fun u t H_16 locs ht hvm hw hB hz1 hk1 hS2 => ?_)
    obtain ⟨hP1, -, hD1⟩ := hB
    rw [ht] at hP1
    replace hD := hD1.weaken (fun _ _ _ h => hFc _ h)
    replace hP := hP1
    replace hS := hS2
    clear hP1 hD1 hS2 hFc hfc hz1 hk1 hvm ht
    refine lv_goto (tgt := 170) hx hb dX4_set_96 (by decide) ?_
    obtain ⟨h8, h9⟩ := ret_some hf
    rw [h8]
    exact W.vret hx hb hr (fun t ht hW => ⟨⟨(), rfl, trivial, by rw [ht]; exact hP, va_K.moved hW.alike hK, hD⟩, hS.F ht⟩) hS.2.2 dX4_set_170
  rw [if_neg c_9] at hf
  by_cases c_17 : x0 = 7
  · skip
    rw [if_pos c_17] at hf
    refine lv_lookup (tgt := 99) hx hb dX4_set_1 (by decide) (by rw [c_17]) (by decide) ?_
    refine lv_aload_n hx hb dX4_set_99 rfl (lv_at hl 0 rfl) ?_
    refine lv_iconst (v := 4) hx hb dX4_set_100 (by decide) ?_
    refine lv_aload_n hx hb dX4_set_101 rfl (lv_at hl 2 rfl) ?_
    refine lv_iload_n hx hb dX4_set_102 rfl (lv_at hl 3 rfl) ?_
    refine lv_bipush (v := 8) hx hb dX4_set_103 (by decide) ?_
    obtain ⟨g_20, hf⟩ := grd_some hf
    obtain ⟨kg_20, sg_20⟩ := okO_at g_20
    obtain ⟨z_18, r_19, hfc, hf⟩ := cal_some hf
    have hFc := de_free hD hS hA
    refine va_calll (va_runV (As := [.int x2, .int 8]) (rest := [.int 4, .ref (a h0)]) ⟨hx, hb, hml, hown, hts⟩ (de_X5_numberAt l dC dI cy a sh n H.size F sk z x1 x2 8 hfc) (cwV 2 hts gX4_set_X5_numberAt rfl rfl rfl (by decide +kernel) ⟨Nat.le_of_ble_eq_true rfl, Nat.le_of_ble_eq_true rfl⟩) ⟨fun a U g mk q => by obtain ⟨q0, q1, qP, qK, qD, qN, qS⟩ := q; exact ⟨q0, q1, qP, va_K.moved (u := U) (U := U.calling g mk a) (Vm.Alike.refl U.vm) qK, qD, qN.same rfl, SKs.moved (u := U) (U := U.calling g mk a) (Vm.Alike.refl U.vm) qS⟩, va_recv hK hP (ci := 5) (q0 := x1) rfl (Wd_ob kg_20 sg_20 (by decide)), fun U hU hW => ⟨rfl, by rw [hU], by rw [hU]; exact hP, va_K.moved hW.alike hK, hD.weaken (fun _ _ _ _ => trivial), hN.warm hW, by rw [hU]; exact ((hSK.kept hS.2.1).narrow hFc).moved hW.alike⟩⟩ rfl rfl hl.1 rfl (lv_room (Nat.le_of_ble_eq_true rfl)) dX4_set_105 ⟨Nat.le_of_ble_eq_true rfl, Nat.le_of_ble_eq_true rfl⟩) hS (fun q _ h => hFc q h) hFc (fun rr u t H_21 locs ht hvm hw hB hz1 hk1 hS2 => ?_)
    rw [hw]
    clear hw
    obtain ⟨hP1, -, hD1⟩ := hB
    rw [ht] at hP1
    replace hD := hD1.weaken (fun _ _ _ h => hFc _ h)
    replace hP := hP1
    replace hS := hS2
    clear hP1 hD1 hS2 hFc hfc hz1 hk1 hvm ht
    refine lv_aload_n hx hb dX4_set_108 rfl (lv_at hl 2 rfl) ?_
    refine lv_iload_n hx hb dX4_set_109 rfl (lv_at hl 3 rfl) ?_
    refine lv_bipush (v := 8) hx hb dX4_set_110 (by decide) ?_
    refine lv_iadd hx hb dX4_set_112 ?_
    refine lv_bipush (v := 8) hx hb dX4_set_113 (by decide) ?_
    obtain ⟨z_22, r_23, hfc, hf⟩ := cal_some hf
    have hFc := de_free hD hS hA
    refine va_calll (va_runV (As := [.int (x2 + 8), .int 8]) (rest := [.long r_19, .int 4, .ref (a h0)]) ⟨hx, hb, hml, hown, hts⟩ (de_X5_numberAt l dC dI cy a sh n H_21.size F sk z_18 x1 (x2 + 8) 8 hfc) (cwV 2 hts gX4_set_X5_numberAt rfl rfl rfl (by decide +kernel) ⟨Nat.le_of_ble_eq_true rfl, Nat.le_of_ble_eq_true rfl⟩) ⟨fun a U g mk q => by obtain ⟨q0, q1, qP, qK, qD, qN, qS⟩ := q; exact ⟨q0, q1, qP, va_K.moved (u := U) (U := U.calling g mk a) (Vm.Alike.refl U.vm) qK, qD, qN.same rfl, SKs.moved (u := U) (U := U.calling g mk a) (Vm.Alike.refl U.vm) qS⟩, va_recv hK hP (ci := 5) (q0 := x1) rfl (Wd_ob kg_20 sg_20 (by decide)), fun U hU hW => ⟨rfl, by rw [hU], by rw [hU]; exact hP, va_K.moved hW.alike hK, hD.weaken (fun _ _ _ _ => trivial), hN.warm hW, by rw [hU]; exact ((hSK.kept hS.2.1).narrow hFc).moved hW.alike⟩⟩ rfl rfl hl.1 rfl (lv_room (Nat.le_of_ble_eq_true rfl)) dX4_set_115 ⟨Nat.le_of_ble_eq_true rfl, Nat.le_of_ble_eq_true rfl⟩) hS (fun q _ h => hFc q h) hFc (fun rr u t H_24 locs ht hvm hw hB hz1 hk1 hS2 => ?_)
    rw [hw]
    clear hw
    obtain ⟨hP1, -, hD1⟩ := hB
    rw [ht] at hP1
    replace hD := hD1.weaken (fun _ _ _ h => hFc _ h)
    replace hP := hP1
    replace hS := hS2
    clear hP1 hD1 hS2 hFc hfc hz1 hk1 hvm ht
    obtain ⟨g_26, hf⟩ := grd_some hf
    obtain ⟨kg_26, sg_26⟩ := okO_at g_26
    obtain ⟨z_25, _u, hfc, hf⟩ := cal_some hf
    have hFc := de_free hD hS hA
    refine va_callv (va_runV (As := [.int 4, .long r_19, .long r_23]) (rest := []) ⟨hx, hb, hml, hown, hts⟩ (de_X4_pushNumber l dC dI cy a sh n H_24.size F z_22 h0 4 r_19 r_23 hfc) (cwV 3 hts gX4_set_X4_pushNumber rfl rfl rfl (by decide +kernel) ⟨Nat.le_of_ble_eq_true rfl, Nat.le_of_ble_eq_true rfl⟩) ⟨fun a U g mk q => by obtain ⟨q0, q1, qP, qK, qD, qN⟩ := q; exact ⟨q0, q1, qP, va_K.moved (u := U) (U := U.calling g mk a) (Vm.Alike.refl U.vm) qK, qD, qN.same rfl⟩, va_recv hK hP (ci := 4) (q0 := h0) rfl (Wd_ob kg_26 sg_26 (by decide)), fun U hU hW => ⟨rfl, by rw [hU], by rw [hU]; exact hP, va_K.moved hW.alike hK, hD.weaken (fun _ _ _ _ => trivial), hN.warm hW⟩⟩ rfl rfl hl.1 rfl (lv_room (Nat.le_of_ble_eq_true rfl)) dX4_set_118 ⟨Nat.le_of_ble_eq_true rfl, Nat.le_of_ble_eq_true rfl⟩) hS (fun q _ h => hFc q h) hFc (fun u t H_27 locs ht hvm hw hB hz1 hk1 hS2 => ?_)
    obtain ⟨hP1, -, hD1⟩ := hB
    rw [ht] at hP1
    replace hD := hD1.weaken (fun _ _ _ h => hFc _ h)
    replace hP := hP1
    replace hS := hS2
    clear hP1 hD1 hS2 hFc hfc hz1 hk1 hvm ht
    refine lv_goto (tgt := 170) hx hb dX4_set_121 (by decide) ?_
    obtain ⟨h8, h9⟩ := ret_some hf
    rw [h8]
    exact W.vret hx hb hr (fun t ht hW => ⟨⟨(), rfl, trivial, by rw [ht]; exact hP, va_K.moved hW.alike hK, hD⟩, hS.F ht⟩) hS.2.2 dX4_set_170
  rw [if_neg c_17] at hf
  by_cases c_28 : x0 = 8
  · skip
    rw [if_pos c_28] at hf
    refine lv_lookup (tgt := 124) hx hb dX4_set_1 (by decide) (by rw [c_28]) (by decide) ?_
    refine lv_aload_n hx hb dX4_set_124 rfl (lv_at hl 0 rfl) ?_
    refine lv_iconst (v := 1) hx hb dX4_set_125 (by decide) ?_
    refine lv_lconst (v := 0) hx hb dX4_set_126 (by decide) ?_
    refine lv_bipush (v := 9) hx hb dX4_set_127 (by decide) ?_
    refine lv_iload_n hx hb dX4_set_129 rfl (lv_at hl 1 rfl) ?_
    refine lv_isub hx hb dX4_set_130 ?_
    refine lv_i2l (v := ((9 - x0) : Int32).toInt64) hx hb dX4_set_131 rfl ?_
    obtain ⟨g_30, hf⟩ := grd_some hf
    obtain ⟨kg_30, sg_30⟩ := okO_at g_30
    obtain ⟨z_29, _u, hfc, hf⟩ := cal_some hf
    have hFc := de_free hD hS hA
    refine va_callv (va_runV (As := [.int 1, .long 0, .long (((9 - x0) : Int32).toInt64)]) (rest := []) ⟨hx, hb, hml, hown, hts⟩ (de_X4_pushNumber l dC dI cy a sh n H.size F z h0 1 0 (((9 - x0) : Int32).toInt64) hfc) (cwV 3 hts gX4_set_X4_pushNumber rfl rfl rfl (by decide +kernel) ⟨Nat.le_of_ble_eq_true rfl, Nat.le_of_ble_eq_true rfl⟩) ⟨fun a U g mk q => by obtain ⟨q0, q1, qP, qK, qD, qN⟩ := q; exact ⟨q0, q1, qP, va_K.moved (u := U) (U := U.calling g mk a) (Vm.Alike.refl U.vm) qK, qD, qN.same rfl⟩, va_recv hK hP (ci := 4) (q0 := h0) rfl (Wd_ob kg_30 sg_30 (by decide)), fun U hU hW => ⟨rfl, by rw [hU], by rw [hU]; exact hP, va_K.moved hW.alike hK, hD.weaken (fun _ _ _ _ => trivial), hN.warm hW⟩⟩ rfl rfl hl.1 rfl (lv_room (Nat.le_of_ble_eq_true rfl)) dX4_set_132 ⟨Nat.le_of_ble_eq_true rfl, Nat.le_of_ble_eq_true rfl⟩) hS (fun q _ h => hFc q h) hFc (fun u t H_31 locs ht hvm hw hB hz1 hk1 hS2 => ?_)
    obtain ⟨hP1, -, hD1⟩ := hB
    rw [ht] at hP1
    replace hD := hD1.weaken (fun _ _ _ h => hFc _ h)
    replace hP := hP1
    replace hS := hS2
    clear hP1 hD1 hS2 hFc hfc hz1 hk1 hvm ht
    refine lv_goto (tgt := 170) hx hb dX4_set_135 (by decide) ?_
    obtain ⟨h8, h9⟩ := ret_some hf
    rw [h8]
    exact W.vret hx hb hr (fun t ht hW => ⟨⟨(), rfl, trivial, by rw [ht]; exact hP, va_K.moved hW.alike hK, hD⟩, hS.F ht⟩) hS.2.2 dX4_set_170
  rw [if_neg c_28] at hf
  by_cases c_32 : x0 = 9
  · skip
    rw [if_pos c_32] at hf
    refine lv_lookup (tgt := 124) hx hb dX4_set_1 (by decide) (by rw [c_32]) (by decide) ?_
    refine lv_aload_n hx hb dX4_set_124 rfl (lv_at hl 0 rfl) ?_
    refine lv_iconst (v := 1) hx hb dX4_set_125 (by decide) ?_
    refine lv_lconst (v := 0) hx hb dX4_set_126 (by decide) ?_
    refine lv_bipush (v := 9) hx hb dX4_set_127 (by decide) ?_
    refine lv_iload_n hx hb dX4_set_129 rfl (lv_at hl 1 rfl) ?_
    refine lv_isub hx hb dX4_set_130 ?_
    refine lv_i2l (v := ((9 - x0) : Int32).toInt64) hx hb dX4_set_131 rfl ?_
    obtain ⟨g_34, hf⟩ := grd_some hf
    obtain ⟨kg_34, sg_34⟩ := okO_at g_34
    obtain ⟨z_33, _u, hfc, hf⟩ := cal_some hf
    have hFc := de_free hD hS hA
    refine va_callv (va_runV (As := [.int 1, .long 0, .long (((9 - x0) : Int32).toInt64)]) (rest := []) ⟨hx, hb, hml, hown, hts⟩ (de_X4_pushNumber l dC dI cy a sh n H.size F z h0 1 0 (((9 - x0) : Int32).toInt64) hfc) (cwV 3 hts gX4_set_X4_pushNumber rfl rfl rfl (by decide +kernel) ⟨Nat.le_of_ble_eq_true rfl, Nat.le_of_ble_eq_true rfl⟩) ⟨fun a U g mk q => by obtain ⟨q0, q1, qP, qK, qD, qN⟩ := q; exact ⟨q0, q1, qP, va_K.moved (u := U) (U := U.calling g mk a) (Vm.Alike.refl U.vm) qK, qD, qN.same rfl⟩, va_recv hK hP (ci := 4) (q0 := h0) rfl (Wd_ob kg_34 sg_34 (by decide)), fun U hU hW => ⟨rfl, by rw [hU], by rw [hU]; exact hP, va_K.moved hW.alike hK, hD.weaken (fun _ _ _ _ => trivial), hN.warm hW⟩⟩ rfl rfl hl.1 rfl (lv_room (Nat.le_of_ble_eq_true rfl)) dX4_set_132 ⟨Nat.le_of_ble_eq_true rfl, Nat.le_of_ble_eq_true rfl⟩) hS (fun q _ h => hFc q h) hFc (fun u t H_35 locs ht hvm hw hB hz1 hk1 hS2 => ?_)
    obtain ⟨hP1, -, hD1⟩ := hB
    rw [ht] at hP1
    replace hD := hD1.weaken (fun _ _ _ h => hFc _ h)
    replace hP := hP1
    replace hS := hS2
    clear hP1 hD1 hS2 hFc hfc hz1 hk1 hvm ht
    refine lv_goto (tgt := 170) hx hb dX4_set_135 (by decide) ?_
    obtain ⟨h8, h9⟩ := ret_some hf
    rw [h8]
    exact W.vret hx hb hr (fun t ht hW => ⟨⟨(), rfl, trivial, by rw [ht]; exact hP, va_K.moved hW.alike hK, hD⟩, hS.F ht⟩) hS.2.2 dX4_set_170
  rw [if_neg c_32] at hf
  by_cases c_36 : x0 = 10
  · skip
    rw [if_pos c_36] at hf
    refine lv_lookup (tgt := 138) hx hb dX4_set_1 (by decide) (by rw [c_36]) (by decide) ?_
    refine lv_aload_n hx hb dX4_set_138 rfl (lv_at hl 0 rfl) ?_
    refine lv_iconst (v := 5) hx hb dX4_set_139 (by decide) ?_
    refine lv_lconst (v := 0) hx hb dX4_set_140 (by decide) ?_
    refine lv_aload_n hx hb dX4_set_141 rfl (lv_at hl 2 rfl) ?_
    refine lv_iload_n hx hb dX4_set_142 rfl (lv_at hl 3 rfl) ?_
    refine lv_bipush (v := 8) hx hb dX4_set_143 (by decide) ?_
    obtain ⟨g_39, hf⟩ := grd_some hf
    obtain ⟨kg_39, sg_39⟩ := okO_at g_39
    obtain ⟨z_37, r_38, hfc, hf⟩ := cal_some hf
    have hFc := de_free hD hS hA
    refine va_calll (va_runV (As := [.int x2, .int 8]) (rest := [.long 0, .int 5, .ref (a h0)]) ⟨hx, hb, hml, hown, hts⟩ (de_X5_numberAt l dC dI cy a sh n H.size F sk z x1 x2 8 hfc) (cwV 2 hts gX4_set_X5_numberAt rfl rfl rfl (by decide +kernel) ⟨Nat.le_of_ble_eq_true rfl, Nat.le_of_ble_eq_true rfl⟩) ⟨fun a U g mk q => by obtain ⟨q0, q1, qP, qK, qD, qN, qS⟩ := q; exact ⟨q0, q1, qP, va_K.moved (u := U) (U := U.calling g mk a) (Vm.Alike.refl U.vm) qK, qD, qN.same rfl, SKs.moved (u := U) (U := U.calling g mk a) (Vm.Alike.refl U.vm) qS⟩, va_recv hK hP (ci := 5) (q0 := x1) rfl (Wd_ob kg_39 sg_39 (by decide)), fun U hU hW => ⟨rfl, by rw [hU], by rw [hU]; exact hP, va_K.moved hW.alike hK, hD.weaken (fun _ _ _ _ => trivial), hN.warm hW, by rw [hU]; exact ((hSK.kept hS.2.1).narrow hFc).moved hW.alike⟩⟩ rfl rfl hl.1 rfl (lv_room (Nat.le_of_ble_eq_true rfl)) dX4_set_145 ⟨Nat.le_of_ble_eq_true rfl, Nat.le_of_ble_eq_true rfl⟩) hS (fun q _ h => hFc q h) hFc (fun rr u t H_40 locs ht hvm hw hB hz1 hk1 hS2 => ?_)
    rw [hw]
    clear hw
    obtain ⟨hP1, -, hD1⟩ := hB
    rw [ht] at hP1
    replace hD := hD1.weaken (fun _ _ _ h => hFc _ h)
    replace hP := hP1
    replace hS := hS2
    clear hP1 hD1 hS2 hFc hfc hz1 hk1 hvm ht
    obtain ⟨g_42, hf⟩ := grd_some hf
    obtain ⟨kg_42, sg_42⟩ := okO_at g_42
    obtain ⟨z_41, _u, hfc, hf⟩ := cal_some hf
    have hFc := de_free hD hS hA
    refine va_callv (va_runV (As := [.int 5, .long 0, .long r_38]) (rest := []) ⟨hx, hb, hml, hown, hts⟩ (de_X4_pushNumber l dC dI cy a sh n H_40.size F z_37 h0 5 0 r_38 hfc) (cwV 3 hts gX4_set_X4_pushNumber rfl rfl rfl (by decide +kernel) ⟨Nat.le_of_ble_eq_true rfl, Nat.le_of_ble_eq_true rfl⟩) ⟨fun a U g mk q => by obtain ⟨q0, q1, qP, qK, qD, qN⟩ := q; exact ⟨q0, q1, qP, va_K.moved (u := U) (U := U.calling g mk a) (Vm.Alike.refl U.vm) qK, qD, qN.same rfl⟩, va_recv hK hP (ci := 4) (q0 := h0) rfl (Wd_ob kg_42 sg_42 (by decide)), fun U hU hW => ⟨rfl, by rw [hU], by rw [hU]; exact hP, va_K.moved hW.alike hK, hD.weaken (fun _ _ _ _ => trivial), hN.warm hW⟩⟩ rfl rfl hl.1 rfl (lv_room (Nat.le_of_ble_eq_true rfl)) dX4_set_148 ⟨Nat.le_of_ble_eq_true rfl, Nat.le_of_ble_eq_true rfl⟩) hS (fun q _ h => hFc q h) hFc (fun u t H_43 locs ht hvm hw hB hz1 hk1 hS2 => ?_)
    obtain ⟨hP1, -, hD1⟩ := hB
    rw [ht] at hP1
    replace hD := hD1.weaken (fun _ _ _ h => hFc _ h)
    replace hP := hP1
    replace hS := hS2
    clear hP1 hD1 hS2 hFc hfc hz1 hk1 hvm ht
    refine lv_goto (tgt := 170) hx hb dX4_set_151 (by decide) ?_
    obtain ⟨h8, h9⟩ := ret_some hf
    rw [h8]
    exact W.vret hx hb hr (fun t ht hW => ⟨⟨(), rfl, trivial, by rw [ht]; exact hP, va_K.moved hW.alike hK, hD⟩, hS.F ht⟩) hS.2.2 dX4_set_170
  rw [if_neg c_36] at hf
  by_cases c_44 : x0 = 46
  · skip
    rw [if_pos c_44] at hf
    refine lv_lookup (tgt := 154) hx hb dX4_set_1 (by decide) (by rw [c_44]) (by decide) ?_
    refine lv_aload_n hx hb dX4_set_154 rfl (lv_at hl 0 rfl) ?_
    refine lv_iconst (v := 5) hx hb dX4_set_155 (by decide) ?_
    refine lv_lconst (v := 0) hx hb dX4_set_156 (by decide) ?_
    refine lv_aload_n hx hb dX4_set_157 rfl (lv_at hl 0 rfl) ?_
    obtain ⟨g_45, hf⟩ := grd_some hf
    obtain ⟨kg_45, sg_45⟩ := okO_at g_45
    obtain ⟨k_46, ek_46, hf⟩ := lnk_some hf
    refine va_get (D := (dC, dI)) (ci := 4) (v := .ref (a k_46)) (C := RX4) (T := TX4) (N := 18) hx hb hts iwd_X4_set_X4 hown hK hP h0 (Wd_ob kg_45 sg_45 (by decide)) rfl 13 (by decide) (hts _ md_X4_set_1) (fun _ h9 => h9) (fl_q rfl ek_46) dX4_set_158 ?_
    obtain ⟨g_47, hf⟩ := grd_some hf
    obtain ⟨kg_47, sg_47⟩ := okO_at g_47
    refine va_get (D := (dC, dI)) (ci := 8) (v := .long (z.2.1 k_46 1)) (C := RX8) (T := TX8) (N := 19) hx hb hts iwd_X4_set_X8 hown hK hP k_46 (Wd_ob kg_47 sg_47 (by decide)) rfl 1 (by decide) (hts _ md_X4_set_2) (fun _ h9 => h9) (fl_at (t := 1) rfl) dX4_set_161 ?_
    obtain ⟨z_48, _u, hfc, hf⟩ := cal_some hf
    have hFc := de_free hD hS hA
    refine va_callv (va_runV (As := [.int 5, .long 0, .long (z.2.1 k_46 1)]) (rest := []) ⟨hx, hb, hml, hown, hts⟩ (de_X4_pushNumber l dC dI cy a sh n H.size F z h0 5 0 (z.2.1 k_46 1) hfc) (cwV 3 hts gX4_set_X4_pushNumber rfl rfl rfl (by decide +kernel) ⟨Nat.le_of_ble_eq_true rfl, Nat.le_of_ble_eq_true rfl⟩) ⟨fun a U g mk q => by obtain ⟨q0, q1, qP, qK, qD, qN⟩ := q; exact ⟨q0, q1, qP, va_K.moved (u := U) (U := U.calling g mk a) (Vm.Alike.refl U.vm) qK, qD, qN.same rfl⟩, va_recv hK hP (ci := 4) (q0 := h0) rfl (Wd_ob kg_45 sg_45 (by decide)), fun U hU hW => ⟨rfl, by rw [hU], by rw [hU]; exact hP, va_K.moved hW.alike hK, hD.weaken (fun _ _ _ _ => trivial), hN.warm hW⟩⟩ rfl rfl hl.1 rfl (lv_room (Nat.le_of_ble_eq_true rfl)) dX4_set_164 ⟨Nat.le_of_ble_eq_true rfl, Nat.le_of_ble_eq_true rfl⟩) hS (fun q _ h => hFc q h) hFc (fun u t H_49 locs ht hvm hw hB hz1 hk1 hS2 => ?_)
    obtain ⟨hP1, -, hD1⟩ := hB
    rw [ht] at hP1
    replace hD := hD1.weaken (fun _ _ _ h => hFc _ h)
    replace hP := hP1
    replace hS := hS2
    clear hP1 hD1 hS2 hFc hfc hz1 hk1 hvm ht
    refine lv_goto (tgt := 170) hx hb dX4_set_167 (by decide) ?_
    obtain ⟨h8, h9⟩ := ret_some hf
    rw [h8]
    exact W.vret hx hb hr (fun t ht hW => ⟨⟨(), rfl, trivial, by rw [ht]; exact hP, va_K.moved hW.alike hK, hD⟩, hS.F ht⟩) hS.2.2 dX4_set_170
  rw [if_neg c_44] at hf
  refine lv_lookup (tgt := 170) (off := 169) hx hb dX4_set_1 (by decide) ((lv_osw c_1 rfl).trans ((lv_osw c_9 rfl).trans ((lv_osw c_17 rfl).trans ((lv_osw c_28 rfl).trans ((lv_osw c_32 rfl).trans ((lv_osw c_36 rfl).trans ((lv_osw c_44 rfl).trans (rfl)))))))) (by decide) ?_
  obtain ⟨h8, h9⟩ := ret_some hf
  rw [h8]
  exact W.vret hx hb hr (fun t ht hW => ⟨⟨(), rfl, trivial, by rw [ht]; exact hP, va_K.moved hW.alike hK, hD⟩, hS.F ht⟩) hS.2.2 dX4_set_170

theorem md_X4_scatter_1 : (.fieldLink RX4 49 "ResourceLedger$Machine" "depths" "[I" : Cond) ∈ wsX4_scatter := List.mem_of_getElem? (i := 1) rfl
theorem iwd_X4_scatter_X4 : ∀ w ∈ wsX40, w ∈ wsX4_scatter := fun _ h => List.mem_cons_of_mem _ (List.mem_append_left _ (List.mem_append_right _ h))
theorem md_X4_scatter_2 : (.fieldLink RX4 100 "ResourceLedger$Machine" "top" "I" : Cond) ∈ wsX4_scatter := List.mem_of_getElem? (i := 2) rfl
theorem md_X4_scatter_3 : (.fieldLink RX4 12 "ResourceLedger$Machine" "heap" "LResourceLedger$Heap;" : Cond) ∈ wsX4_scatter := List.mem_of_getElem? (i := 3) rfl
theorem md_X4_scatter_5 : (.fieldLink RX4 71 "ResourceLedger$Heap" "slips" "I" : Cond) ∈ wsX4_scatter := List.mem_of_getElem? (i := 5) rfl
theorem iwd_X4_scatter_X1 : ∀ w ∈ wsX10, w ∈ wsX4_scatter := fun _ h => List.mem_cons_of_mem _ (List.mem_append_right _ h)
theorem md_X4_scatter_4 : (.fieldLink RX4 160 "ResourceLedger$Heap" "high" "[J" : Cond) ∈ wsX4_scatter := List.mem_of_getElem? (i := 4) rfl
theorem md_X4_scatter_6 : (.fieldLink RX4 55 "ResourceLedger$Machine" "stack" "[I" : Cond) ∈ wsX4_scatter := List.mem_of_getElem? (i := 6) rfl
set_option maxHeartbeats 4000000 in
set_option maxRecDepth 100000 in
theorem de_X4_scatter (l : Launch) (dC : Nat → ClassId) (dI : Nat → Nat → Nat) (cy : Nat → ClassId) (a : Nat → Nat) (sh : Nat → Nat × Nat) (n sz : Nat) (F : Nat) (z : St) (h0 : Nat) (x0 : Int32) {z8 : St} {r8 : Unit} (hf : fn_X4_scatter F sh n z h0 x0 = some (z8, r8)) : Met l yX4_scatter wsX4_scatter ({ frames := 2, cells := 0, slots := 0, locals := 42 }) (va_Pc [.ref (a h0), .int x0] (fun U => U.heap.size = sz ∧ va_P (dC, dI) vwCl (Wd cy a sh n z) U.heap ∧ va_K (dC, dI) vwCl (TYS cy) U ∧ va_D (fun _ => True) (Wd cy a sh n z) ∧ NK U)) (va_Qv (fun u : Unit => True) (fun u t => va_P (dC, dI) vwCl (Wd cy a sh n z8) t.heap ∧ va_K (dC, dI) vwCl (TYS cy) t ∧ va_D (va_A (Wd cy a sh n z) sz) (Wd cy a sh n z8)) (va_A (Wd cy a sh n z) sz)) 0 0 (va_A (Wd cy a sh n z) sz) := by
  refine Met.ofW (cc := cX4_scatter) (maxL := 5) (ret := none) (by decide) rfl ?_
  intro p e s m args below meth c s₁ B hml hv
  obtain ⟨rfl, hsz, hP, hK, hD0, hN⟩ := hv
  have hx := B.exec
  have hb := B.bytes
  have hr := B.returns
  have hts := atoms_spec (ws := wsX4_scatter) B.pre
  have hown : s.vm.findClass RX4 = some m.cls := findClass_of_methodNamed B.named
  have hlocks := B.notSynchronized
  subst hsz
  have hD := hD0.self (sz := s.heap.size)
  clear hD0
  generalize hAe : va_A (Wd cy a sh n z) s.heap.size = A at hD ⊢
  have hA : ∀ q : Nat, s.heap.size ≤ q → A q := fun q h => by rw [← hAe]; exact Or.inr h
  clear hAe
  have hS : va_S A s.heap s.heap [] := va_S.rf
  have hl := lv_entry ([.ref (a h0), .int x0]) (n := 5) (Nat.le_of_ble_eq_true rfl)
  rw [lg_entry_eq]
  generalize (lg_sl ([.ref (a h0), .int x0]) ++ List.replicate (5 - (lg_sl ([.ref (a h0), .int x0])).length) Slot.unset).toArray = ls at hl ⊢
  replace hl : lv_has ls 5 [(0, .ref (a h0)), (1, .int x0)] := hl
  unfold fn_X4_scatter at hf
  refine de_start hS hP (fun H locs hS hP => ?_)
  refine lv_aload_n hx hb dX4_scatter_0 rfl (lv_at hl 0 rfl) ?_
  refine lv_bipush (v := 6) hx hb dX4_scatter_1 (by decide) ?_
  obtain ⟨g_3, hf⟩ := grd_some hf
  obtain ⟨kg_3, sg_3⟩ := okO_at g_3
  obtain ⟨z_1, r_2, hfc, hf⟩ := cal_some hf
  have hFc := de_free hD hS hA
  refine va_calli (va_runV (As := [.int 6]) (rest := []) ⟨hx, hb, hml, hown, hts⟩ (de_X4_popOf l dC dI cy a sh n H.size F z h0 6 hfc) (cwV 1 hts gX4_scatter_X4_popOf rfl rfl rfl (by decide +kernel) ⟨Nat.le_of_ble_eq_true rfl, Nat.le_of_ble_eq_true rfl⟩) ⟨fun a U g mk q => by obtain ⟨q0, q1, qP, qK, qD, qN⟩ := q; exact ⟨q0, q1, qP, va_K.moved (u := U) (U := U.calling g mk a) (Vm.Alike.refl U.vm) qK, qD, qN.same rfl⟩, va_recv hK hP (ci := 4) (q0 := h0) rfl (Wd_ob kg_3 sg_3 (by decide)), fun U hU hW => ⟨rfl, by rw [hU], by rw [hU]; exact hP, va_K.moved hW.alike hK, hD.weaken (fun _ _ _ _ => trivial), hN.warm hW⟩⟩ rfl rfl hl.1 rfl (lv_room (Nat.le_of_ble_eq_true rfl)) dX4_scatter_3 ⟨Nat.le_of_ble_eq_true rfl, Nat.le_of_ble_eq_true rfl⟩) hS (fun q _ h => hFc q h) hFc (fun rr u t H_4 locs ht hvm hw hB hz1 hk1 hS2 => ?_)
  rw [hw]
  clear hw
  obtain ⟨hP1, -, hD1⟩ := hB
  rw [ht] at hP1
  replace hD := hD1.weaken (fun _ _ _ h => hFc _ h)
  replace hP := hP1
  replace hS := hS2
  clear hP1 hD1 hS2 hFc hfc hz1 hk1 hvm ht
  refine lv_istore_n (lv' := [(2, .int r_2), (0, .ref (a h0)), (1, .int x0)]) hx hb dX4_scatter_6 rfl hl (by decide) rfl (fun ls hl2 => ?_)
  replace hl := hl2
  clear hl2
  refine lv_aload_n hx hb dX4_scatter_7 rfl (lv_at hl 1 rfl) ?_
  obtain ⟨k_5, ek_5, hf⟩ := lnk_some hf
  refine va_get (D := (dC, dI)) (ci := 4) (v := .ref (a k_5)) (C := RX4) (T := TX4) (N := 18) hx hb hts iwd_X4_scatter_X4 hown hK hP h0 (Wd_ob kg_3 sg_3 (by decide)) rfl 9 (by decide) (hts _ md_X4_scatter_1) (fun _ h9 => h9) (fl_q rfl ek_5) dX4_scatter_8 ?_
  refine lv_aload_n hx hb dX4_scatter_11 rfl (lv_at hl 1 rfl) ?_
  refine va_get (D := (dC, dI)) (ci := 4) (v := .int (z_1.1 h0 12)) (C := RX4) (T := TX4) (N := 18) hx hb hts iwd_X4_scatter_X4 hown hK hP h0 (Wd_ob kg_3 sg_3 (by decide)) rfl 12 (by decide) (hts _ md_X4_scatter_2) (fun _ h9 => h9) (fl_at (t := 0) rfl) dX4_scatter_12 ?_
  obtain ⟨g_6, hf⟩ := grd_some hf
  obtain ⟨kg_6, sg_6, ig_6⟩ := okA_at g_6
  refine va_iald hx hb hK hP k_5 1 (Wd_ai kg_6 sg_6) rfl ig_6 dX4_scatter_15 ?_
  refine lv_topi (fun v_7 ev_7 => ?_)
  replace hf := lt_at ev_7 hf
  clear ev_7
  refine lv_istore_n (lv' := [(3, .int v_7), (2, .int r_2), (0, .ref (a h0)), (1, .int x0)]) hx hb dX4_scatter_16 rfl hl (by decide) rfl (fun ls hl2 => ?_)
  replace hl := hl2
  clear hl2
  refine lv_iload_n hx hb dX4_scatter_17 rfl (lv_at hl 0 rfl) ?_
  refine lv_iload_n hx hb dX4_scatter_18 rfl (lv_at hl 3 rfl) ?_
  refine lv_iadd hx hb dX4_scatter_19 ?_
  refine lv_bipush (v := 64) hx hb dX4_scatter_20 (by decide) ?_
  refine de_cut (h := 40) (fun (x : St) => []) (fun x ls H locs => lv_has ls 5 [(0, .ref (a h0))] ∧ va_P (dC, dI) vwCl (Wd cy a sh n x) H ∧ va_D A (Wd cy a sh n x) ∧ va_S A s.heap H locs) (fun x => fn_X4_scatter_B40 F sh n h0 x) (z8, r8) ?_ (fun B40 => ?_)
  · intro x ls H locs hI hf
    obtain ⟨z_8, ez⟩ : ∃ w, w = x := ⟨_, rfl⟩
    subst ez
    obtain ⟨hl2, hP2, hD2, hS2⟩ := hI
    replace hl : lv_has ls 5 [(0, .ref (a h0))] := hl2
    replace hP := hP2
    replace hD := hD2
    replace hS := hS2
    clear hl2 hP2 hD2 hS2
    replace hf := fn_X4_scatter_B40_s hf
    refine W.eq (g2 := F0 m 40 ls []) rfl ?_
    refine lv_aload_n hx hb dX4_scatter_40 rfl (lv_at hl 0 rfl) ?_
    obtain ⟨k_9, ek_9, hf⟩ := lnk_some hf
    refine va_get (D := (dC, dI)) (ci := 4) (v := .ref (a k_9)) (C := RX4) (T := TX4) (N := 18) hx hb hts iwd_X4_scatter_X4 hown hK hP h0 (Wd_ob kg_3 sg_3 (by decide)) rfl 1 (by decide) (hts _ md_X4_scatter_3) (fun _ h9 => h9) (fl_q rfl ek_9) dX4_scatter_41 ?_
    refine lv_dup hx hb dX4_scatter_44 rfl ?_
    obtain ⟨g_10, hf⟩ := grd_some hf
    obtain ⟨kg_10, sg_10⟩ := okO_at g_10
    refine va_get (D := (dC, dI)) (ci := 1) (v := .int (z_8.1 k_9 6)) (C := RX1) (T := TX1) (N := 7) hx hb hts iwd_X4_scatter_X1 hown hK hP k_9 (Wd_ob kg_10 sg_10 (by decide)) rfl 6 (by decide) (hts _ md_X4_scatter_5) (fun _ h9 => h9) (fl_at (t := 0) rfl) dX4_scatter_45 ?_
    refine lv_iconst (v := 1) hx hb dX4_scatter_48 (by decide) ?_
    refine lv_iadd hx hb dX4_scatter_49 ?_
    refine va_put (D := (dC, dI)) (ci := 1) (v := .int ((z_8.1 k_9 6) + 1)) (ty := .int) (C := RX1) (T := TX1) (N := 7) hx hb hts iwd_X4_scatter_X1 tyX1 tyX1_ok nmX1 hown hK hP hD hS k_9 (Wd_ob kg_10 sg_10 (by decide)) rfl 6 (by decide) (hts _ md_X4_scatter_5) (fun _ h9 => h9) rfl (by decide +kernel) rfl rfl (by rw [fl_len]; decide) dX4_scatter_50 (fun H_11 locs hP2 hD2 hS2 => ?_)
    rw [Wd_si sg_10 (by decide) rfl] at hP2 hD2
    obtain ⟨z_12, ez_12⟩ : ∃ w, w = si z_8 k_9 6 ((z_8.1 k_9 6) + 1) := ⟨_, rfl⟩
    rw [← ez_12] at hP2 hD2
    replace hf := lt_at ez_12 hf
    clear ez_12
    replace hP := hP2
    replace hD := hD2
    replace hS := hS2
    clear hP2 hD2 hS2
    obtain ⟨h8, h9⟩ := ret_some hf
    rw [h8]
    exact W.vret hx hb hr (fun t ht hW => ⟨⟨(), rfl, trivial, by rw [ht]; exact hP, va_K.moved hW.alike hK, hD⟩, hS.F ht⟩) hS.2.2 dX4_scatter_53
  refine lv_icmp_gt (tgt := 40) hx hb dX4_scatter_22 (by decide) (fun c_13 => ?_) (fun c_13 => ?_)
  · skip
    rw [if_pos c_13] at hf
    exact B40 (z_1) ls H_4 locs ⟨lv_sub hl [2] rfl, hP, hD, hS⟩ hf
  · skip
    rw [if_neg c_13] at hf
    refine lv_aload_n hx hb dX4_scatter_25 rfl (lv_at hl 2 rfl) ?_
    obtain ⟨k_14, ek_14, hf⟩ := lnk_some hf
    refine va_get (D := (dC, dI)) (ci := 4) (v := .ref (a k_14)) (C := RX4) (T := TX4) (N := 18) hx hb hts iwd_X4_scatter_X4 hown hK hP h0 (Wd_ob kg_3 sg_3 (by decide)) rfl 1 (by decide) (hts _ md_X4_scatter_3) (fun _ h9 => h9) (fl_q rfl ek_14) dX4_scatter_26 ?_
    obtain ⟨g_15, hf⟩ := grd_some hf
    obtain ⟨kg_15, sg_15⟩ := okO_at g_15
    obtain ⟨k_16, ek_16, hf⟩ := lnk_some hf
    refine va_get (D := (dC, dI)) (ci := 1) (v := .ref (a k_16)) (C := RX1) (T := TX1) (N := 7) hx hb hts iwd_X4_scatter_X1 hown hK hP k_14 (Wd_ob kg_15 sg_15 (by decide)) rfl 2 (by decide) (hts _ md_X4_scatter_4) (fun _ h9 => h9) (fl_q rfl ek_16) dX4_scatter_29 ?_
    refine lv_iload_n hx hb dX4_scatter_32 rfl (lv_at hl 1 rfl) ?_
    obtain ⟨g_17, hf⟩ := grd_some hf
    obtain ⟨kg_17, sg_17, ig_17⟩ := okA_at g_17
    refine va_lald hx hb hK hP k_16 2 (Wd_al kg_17 sg_17) rfl ig_17 dX4_scatter_33 ?_
    refine lv_iload_n hx hb dX4_scatter_34 rfl (lv_at hl 3 rfl) ?_
    refine lv_i2l (v := (x0 : Int32).toInt64) hx hb dX4_scatter_35 rfl ?_
    refine W.lcmp hx hb dX4_scatter_36 ?_
    refine lv_if_eq (tgt := 54) hx hb dX4_scatter_37 (by decide) (fun c_18 => ?_) (fun c_18 => ?_)
    · skip
      rw [lg_cmp_eq] at c_18
      rw [if_pos c_18] at hf
      refine lv_iload_n hx hb dX4_scatter_54 rfl (lv_at hl 3 rfl) ?_
      refine lv_iconst (v := 1) hx hb dX4_scatter_55 (by decide) ?_
      refine lv_isub hx hb dX4_scatter_56 ?_
      refine lv_topi (fun v_19 ev_19 => ?_)
      replace hf := lt_at ev_19 hf
      clear ev_19
      refine lv_istore (lv' := [(4, .int v_19), (3, .int v_7), (2, .int r_2), (0, .ref (a h0)), (1, .int x0)]) hx hb dX4_scatter_57 hl (by decide) rfl (fun ls hl2 => ?_)
      replace hl := hl2
      clear hl2
      have hl0 : lv_has ls 5 [(4, .int v_19), (3, .int v_7), (2, .int r_2), (0, .ref (a h0)), (1, .int x0)] := lv_sub hl [0, 1, 2, 3, 4] rfl
      refine de_loop (h := 59) (fun (x : St × Int32) ls H locs => lv_has ls 5 [(4, .int x.2), (3, .int v_7), (2, .int r_2), (0, .ref (a h0)), (1, .int x0)] ∧ va_P (dC, dI) vwCl (Wd cy a sh n x.1) H ∧ va_D A (Wd cy a sh n x.1) ∧ va_S A s.heap H locs) (fun f x => fn_X4_scatter_L59 F sh n h0 v_7 x0 r_2 f x.1 x.2) (z8, r8) ?_ (fun _ => rfl) F (z_1, v_19) ls H_4 locs ⟨hl0, hP, hD, hS⟩ hf
      intro f_22 x ls H locs ih59 hI hf
      obtain ⟨z_21, p_20⟩ := x
      obtain ⟨hl2, hP2, hD2, hS2⟩ := hI
      replace hl : lv_has ls 5 [(4, .int p_20), (3, .int v_7), (2, .int r_2), (0, .ref (a h0)), (1, .int x0)] := hl2
      replace hP := hP2
      replace hD := hD2
      replace hS := hS2
      clear hl2 hP2 hD2 hS2 hl0
      replace hf := fn_X4_scatter_L59_s hf
      refine lv_iload hx hb dX4_scatter_59 (lv_at hl 0 rfl) ?_
      refine lv_if_lt (tgt := 95) hx hb dX4_scatter_61 (by decide) (fun c_23 => ?_) (fun c_23 => ?_)
      · skip
        rw [if_pos c_23] at hf
        refine lv_aload_n hx hb dX4_scatter_95 rfl (lv_at hl 3 rfl) ?_
        obtain ⟨k_24, ek_24, hf⟩ := lnk_some hf
        refine va_get (D := (dC, dI)) (ci := 4) (v := .ref (a k_24)) (C := RX4) (T := TX4) (N := 18) hx hb hts iwd_X4_scatter_X4 hown hK hP h0 (Wd_ob kg_3 sg_3 (by decide)) rfl 9 (by decide) (hts _ md_X4_scatter_1) (fun _ h9 => h9) (fl_q rfl ek_24) dX4_scatter_96 ?_
        refine lv_aload_n hx hb dX4_scatter_99 rfl (lv_at hl 3 rfl) ?_
        refine va_get (D := (dC, dI)) (ci := 4) (v := .int (z_21.1 h0 12)) (C := RX4) (T := TX4) (N := 18) hx hb hts iwd_X4_scatter_X4 hown hK hP h0 (Wd_ob kg_3 sg_3 (by decide)) rfl 12 (by decide) (hts _ md_X4_scatter_2) (fun _ h9 => h9) (fl_at (t := 0) rfl) dX4_scatter_100 ?_
        refine lv_iload_n hx hb dX4_scatter_103 rfl (lv_at hl 1 rfl) ?_
        refine lv_iload_n hx hb dX4_scatter_104 rfl (lv_at hl 4 rfl) ?_
        refine lv_iadd hx hb dX4_scatter_105 ?_
        obtain ⟨g_25, hf⟩ := grd_some hf
        obtain ⟨kg_25, sg_25, ig_25⟩ := okA_at g_25
        refine va_iast hx hb hK hP hD hS k_24 1 (Wd_ai kg_25 sg_25) rfl ig_25 dX4_scatter_106 (fun H_26 locs hP2 hD2 hS2 => ?_)
        rw [Wd_ti sg_25] at hP2 hD2
        obtain ⟨z_27, ez_27⟩ : ∃ w, w = si z_21 k_24 (z_21.1 h0 12).toNatClampNeg (v_7 + x0) := ⟨_, rfl⟩
        rw [← ez_27] at hP2 hD2
        replace hf := lt_at ez_27 hf
        clear ez_27
        replace hP := hP2
        replace hD := hD2
        replace hS := hS2
        clear hP2 hD2 hS2
        obtain ⟨h8, h9⟩ := ret_some hf
        rw [h8]
        exact W.vret hx hb hr (fun t ht hW => ⟨⟨(), rfl, trivial, by rw [ht]; exact hP, va_K.moved hW.alike hK, hD⟩, hS.F ht⟩) hS.2.2 dX4_scatter_107
      · skip
        rw [if_neg c_23] at hf
        refine lv_aload_n hx hb dX4_scatter_64 rfl (lv_at hl 3 rfl) ?_
        obtain ⟨k_28, ek_28, hf⟩ := lnk_some hf
        refine va_get (D := (dC, dI)) (ci := 4) (v := .ref (a k_28)) (C := RX4) (T := TX4) (N := 18) hx hb hts iwd_X4_scatter_X4 hown hK hP h0 (Wd_ob kg_3 sg_3 (by decide)) rfl 11 (by decide) (hts _ md_X4_scatter_6) (fun _ h9 => h9) (fl_q rfl ek_28) dX4_scatter_65 ?_
        refine lv_aload_n hx hb dX4_scatter_68 rfl (lv_at hl 3 rfl) ?_
        refine va_get (D := (dC, dI)) (ci := 4) (v := .int (z_21.1 h0 12)) (C := RX4) (T := TX4) (N := 18) hx hb hts iwd_X4_scatter_X4 hown hK hP h0 (Wd_ob kg_3 sg_3 (by decide)) rfl 12 (by decide) (hts _ md_X4_scatter_2) (fun _ h9 => h9) (fl_at (t := 0) rfl) dX4_scatter_69 ?_
        refine lv_bipush (v := 64) hx hb dX4_scatter_72 (by decide) ?_
        refine lv_imul hx hb dX4_scatter_74 ?_
        refine lv_iload_n hx hb dX4_scatter_75 rfl (lv_at hl 1 rfl) ?_
        refine lv_iadd hx hb dX4_scatter_76 ?_
        refine lv_iload hx hb dX4_scatter_77 (lv_at hl 0 rfl) ?_
        refine lv_iadd hx hb dX4_scatter_79 ?_
        refine lv_aload_n hx hb dX4_scatter_80 rfl (lv_at hl 3 rfl) ?_
        obtain ⟨k_29, ek_29, hf⟩ := lnk_some hf
        refine va_get (D := (dC, dI)) (ci := 4) (v := .ref (a k_29)) (C := RX4) (T := TX4) (N := 18) hx hb hts iwd_X4_scatter_X4 hown hK hP h0 (Wd_ob kg_3 sg_3 (by decide)) rfl 1 (by decide) (hts _ md_X4_scatter_3) (fun _ h9 => h9) (fl_q rfl ek_29) dX4_scatter_81 ?_
        refine lv_iload_n hx hb dX4_scatter_84 rfl (lv_at hl 2 rfl) ?_
        obtain ⟨g_32, hf⟩ := grd_some hf
        obtain ⟨kg_32, sg_32⟩ := okO_at g_32
        obtain ⟨z_30, r_31, hfc, hf⟩ := cal_some hf
        have hFc := de_free hD hS hA
        refine va_calli (va_runV (As := [.int r_2]) (rest := [.int ((((z_21.1 h0 12) * 64) + v_7) + p_20), .ref (a k_28)]) ⟨hx, hb, hml, hown, hts⟩ (de_X1_detach l dC dI cy a sh n H.size F z_21 k_29 r_2 hfc) (cwV 1 hts gX4_scatter_X1_detach rfl rfl rfl (by decide +kernel) ⟨Nat.le_of_ble_eq_true rfl, Nat.le_of_ble_eq_true rfl⟩) ⟨fun a U g mk q => by obtain ⟨q0, q1, qP, qK, qD, qN⟩ := q; exact ⟨q0, q1, qP, va_K.moved (u := U) (U := U.calling g mk a) (Vm.Alike.refl U.vm) qK, qD, qN.same rfl⟩, va_recv hK hP (ci := 1) (q0 := k_29) rfl (Wd_ob kg_32 sg_32 (by decide)), fun U hU hW => ⟨rfl, by rw [hU], by rw [hU]; exact hP, va_K.moved hW.alike hK, hD.weaken (fun _ _ _ _ => trivial), hN.warm hW⟩⟩ rfl rfl hl.1 rfl (lv_room (Nat.le_of_ble_eq_true rfl)) dX4_scatter_85 ⟨Nat.le_of_ble_eq_true rfl, Nat.le_of_ble_eq_true rfl⟩) hS (fun q _ h => hFc q h) hFc (fun rr u t H_33 locs ht hvm hw hB hz1 hk1 hS2 => ?_)
        rw [hw]
        clear hw
        obtain ⟨hP1, -, hD1⟩ := hB
        rw [ht] at hP1
        replace hD := hD1.weaken (fun _ _ _ h => hFc _ h)
        replace hP := hP1
        replace hS := hS2
        clear hP1 hD1 hS2 hFc hfc hz1 hk1 hvm ht
        obtain ⟨g_34, hf⟩ := grd_some hf
        obtain ⟨kg_34, sg_34, ig_34⟩ := okA_at g_34
        refine va_iast hx hb hK hP hD hS k_28 1 (Wd_ai kg_34 sg_34) rfl ig_34 dX4_scatter_88 (fun H_35 locs hP2 hD2 hS2 => ?_)
        rw [Wd_ti sg_34] at hP2 hD2
        obtain ⟨z_36, ez_36⟩ : ∃ w, w = si z_30 k_28 ((((z_21.1 h0 12) * 64) + v_7) + p_20).toNatClampNeg r_31 := ⟨_, rfl⟩
        rw [← ez_36] at hP2 hD2
        replace hf := lt_at ez_36 hf
        clear ez_36
        replace hP := hP2
        replace hD := hD2
        replace hS := hS2
        clear hP2 hD2 hS2
        refine lv_iinc (v := (p_20 + (-1))) (lv' := [(4, .int (p_20 + (-1))), (3, .int v_7), (2, .int r_2), (0, .ref (a h0)), (1, .int x0)]) hx hb dX4_scatter_89 hl (k := 0) rfl rfl (by decide) rfl (fun ls hl2 => ?_)
        replace hl := hl2
        clear hl2
        refine lv_goto (tgt := 59) hx hb dX4_scatter_92 (by decide) ?_
        exact ih59 (z_36, (p_20 + (-1))) ls H_35 locs ⟨lv_sub hl [0, 1, 2, 3, 4] rfl, hP, hD, hS⟩ hf
    · skip
      rw [lg_cmp_eq] at c_18
      rw [if_neg c_18] at hf
      exact B40 (z_1) ls H_4 locs ⟨lv_sub hl [2] rfl, hP, hD, hS⟩ hf

theorem md_X3_isSole_1 : (.fieldLink RX3 95 "ResourceLedger$Looker" "depth" "I" : Cond) ∈ wsX3_isSole := List.mem_of_getElem? (i := 1) rfl
theorem iwd_X3_isSole_X3 : ∀ w ∈ wsX30, w ∈ wsX3_isSole := fun _ h => List.mem_cons_of_mem _ (List.mem_append_right _ h)
theorem md_X3_isSole_5 : (.fieldLink RX3 25 "ResourceLedger$Looker" "localOrigins" "[J" : Cond) ∈ wsX3_isSole := List.mem_of_getElem? (i := 5) rfl
theorem md_X3_isSole_6 : (.fieldLink RX3 98 "ResourceLedger$Looker" "inside" "J" : Cond) ∈ wsX3_isSole := List.mem_of_getElem? (i := 6) rfl
theorem md_X3_isSole_7 : (.fieldLink RX3 22 "ResourceLedger$Looker" "localType" "[J" : Cond) ∈ wsX3_isSole := List.mem_of_getElem? (i := 7) rfl
theorem md_X3_isSole_2 : (.fieldLink RX3 15 "ResourceLedger$Looker" "stackOrigins" "[J" : Cond) ∈ wsX3_isSole := List.mem_of_getElem? (i := 2) rfl
theorem md_X3_isSole_3 : (.fieldLink RX3 18 "ResourceLedger$Looker" "stackInside" "[Z" : Cond) ∈ wsX3_isSole := List.mem_of_getElem? (i := 3) rfl
theorem md_X3_isSole_4 : (.fieldLink RX3 11 "ResourceLedger$Looker" "stackType" "[J" : Cond) ∈ wsX3_isSole := List.mem_of_getElem? (i := 4) rfl
set_option maxHeartbeats 4000000 in
set_option maxRecDepth 100000 in
theorem de_X3_isSole (l : Launch) (dC : Nat → ClassId) (dI : Nat → Nat → Nat) (cy : Nat → ClassId) (a : Nat → Nat) (sh : Nat → Nat × Nat) (n sz : Nat) (F : Nat) (z : St) (h0 : Nat) (x0 : Int64) {z8 : St} {r8 : Int32} (hf : fn_X3_isSole F sh n z h0 x0 = some (z8, r8)) : Met l yX3_isSole wsX3_isSole ({ frames := 2, cells := 0, slots := 0, locals := 43 }) (va_Pc [.ref (a h0), .long x0] (fun U => U.heap.size = sz ∧ va_P (dC, dI) vwCl (Wd cy a sh n z) U.heap ∧ va_K (dC, dI) vwCl (TYS cy) U ∧ va_D (fun _ => True) (Wd cy a sh n z) ∧ NK U)) (va_Qi (fun (r9 : Int32) (u : Unit) => r9 = r8) (fun u t => va_P (dC, dI) vwCl (Wd cy a sh n z8) t.heap ∧ va_K (dC, dI) vwCl (TYS cy) t ∧ va_D (va_A (Wd cy a sh n z) sz) (Wd cy a sh n z8)) (va_A (Wd cy a sh n z) sz)) 0 0 (va_A (Wd cy a sh n z) sz) := by
  refine Met.ofW (cc := cX3_isSole) (maxL := 4) (ret := (some .boolean)) (by decide) rfl ?_
  intro p e s m args below meth c s₁ B hml hv
  obtain ⟨rfl, hsz, hP, hK, hD0, hN⟩ := hv
  have hx := B.exec
  have hb := B.bytes
  have hr := B.returns
  have hts := atoms_spec (ws := wsX3_isSole) B.pre
  have hown : s.vm.findClass RX3 = some m.cls := findClass_of_methodNamed B.named
  have hlocks := B.notSynchronized
  subst hsz
  have hD := hD0.self (sz := s.heap.size)
  clear hD0
  generalize hAe : va_A (Wd cy a sh n z) s.heap.size = A at hD ⊢
  have hA : ∀ q : Nat, s.heap.size ≤ q → A q := fun q h => by rw [← hAe]; exact Or.inr h
  clear hAe
  have hS : va_S A s.heap s.heap [] := va_S.rf
  have hl := lv_entry ([.ref (a h0), .long x0]) (n := 4) (Nat.le_of_ble_eq_true rfl)
  rw [lg_entry_eq]
  generalize (lg_sl ([.ref (a h0), .long x0]) ++ List.replicate (4 - (lg_sl ([.ref (a h0), .long x0])).length) Slot.unset).toArray = ls at hl ⊢
  replace hl : lv_has ls 4 [(0, .ref (a h0)), (1, .long x0)] := hl
  unfold fn_X3_isSole at hf
  refine de_start hS hP (fun H locs hS hP => ?_)
  refine lv_iconst (v := 0) hx hb dX3_isSole_0 (by decide) ?_
  refine lv_istore_n (lv' := [(3, .int 0), (0, .ref (a h0)), (1, .long x0)]) hx hb dX3_isSole_1 rfl hl (by decide) rfl (fun ls hl2 => ?_)
  replace hl := hl2
  clear hl2
  have hl0 : lv_has ls 4 [(3, .int 0), (0, .ref (a h0)), (1, .long x0)] := lv_sub hl [0, 1, 2] rfl
  refine de_loop (h := 2) (fun (x : St × Int32) ls H locs => lv_has ls 4 [(3, .int x.2), (0, .ref (a h0)), (1, .long x0)] ∧ va_P (dC, dI) vwCl (Wd cy a sh n x.1) H ∧ va_D A (Wd cy a sh n x.1) ∧ va_S A s.heap H locs) (fun f x => fn_X3_isSole_L2 F sh n h0 x0 f x.1 x.2) (z8, r8) ?_ (fun _ => rfl) F (z, 0) ls H locs ⟨hl0, hP, hD, hS⟩ hf
  intro f_3 x ls H locs ih2 hI hf
  obtain ⟨z_2, p_1⟩ := x
  obtain ⟨hl2, hP2, hD2, hS2⟩ := hI
  replace hl : lv_has ls 4 [(3, .int p_1), (0, .ref (a h0)), (1, .long x0)] := hl2
  replace hP := hP2
  replace hD := hD2
  replace hS := hS2
  clear hl2 hP2 hD2 hS2 hl0
  replace hf := fn_X3_isSole_L2_s hf
  refine lv_iload_n hx hb dX3_isSole_2 rfl (lv_at hl 0 rfl) ?_
  refine lv_aload_n hx hb dX3_isSole_3 rfl (lv_at hl 1 rfl) ?_
  obtain ⟨g_4, hf⟩ := grd_some hf
  obtain ⟨kg_4, sg_4⟩ := okO_at g_4
  refine va_get (D := (dC, dI)) (ci := 3) (v := .int (z_2.1 h0 8)) (C := RX3) (T := TX3) (N := 22) hx hb hts iwd_X3_isSole_X3 hown hK hP h0 (Wd_ob kg_4 sg_4 (by decide)) rfl 8 (by decide) (hts _ md_X3_isSole_1) (fun _ h9 => h9) (fl_at (t := 0) rfl) dX3_isSole_4 ?_
  refine lv_icmp_ge (tgt := 52) hx hb dX3_isSole_7 (by decide) (fun c_5 => ?_) (fun c_5 => ?_)
  · skip
    rw [if_pos c_5] at hf
    refine lv_iconst (v := 0) hx hb dX3_isSole_52 (by decide) ?_
    refine lv_istore_n (lv' := [(3, .int 0), (0, .ref (a h0)), (1, .long x0)]) hx hb dX3_isSole_53 rfl hl (by decide) rfl (fun ls hl2 => ?_)
    replace hl := hl2
    clear hl2
    have hl0 : lv_has ls 4 [(3, .int 0), (0, .ref (a h0)), (1, .long x0)] := lv_sub hl [0, 1, 2] rfl
    refine de_loop (h := 54) (fun (x : St × Int32) ls H locs => lv_has ls 4 [(3, .int x.2), (0, .ref (a h0)), (1, .long x0)] ∧ va_P (dC, dI) vwCl (Wd cy a sh n x.1) H ∧ va_D A (Wd cy a sh n x.1) ∧ va_S A s.heap H locs) (fun f x => fn_X3_isSole_L54 F sh n h0 x0 f x.1 x.2) (z8, r8) ?_ (fun _ => rfl) F (z_2, 0) ls H locs ⟨hl0, hP, hD, hS⟩ hf
    intro f_8 x ls H locs ih54 hI hf
    obtain ⟨z_7, p_6⟩ := x
    obtain ⟨hl2, hP2, hD2, hS2⟩ := hI
    replace hl : lv_has ls 4 [(3, .int p_6), (0, .ref (a h0)), (1, .long x0)] := hl2
    replace hP := hP2
    replace hD := hD2
    replace hS := hS2
    clear hl2 hP2 hD2 hS2 hl0
    replace hf := fn_X3_isSole_L54_s hf
    refine lv_iload_n hx hb dX3_isSole_54 rfl (lv_at hl 0 rfl) ?_
    refine lv_bipush (v := 40) hx hb dX3_isSole_55 (by decide) ?_
    refine lv_icmp_ge (tgt := 106) hx hb dX3_isSole_57 (by decide) (fun c_9 => ?_) (fun c_9 => ?_)
    · skip
      rw [if_pos c_9] at hf
      refine lv_iconst (v := 1) hx hb dX3_isSole_106 (by decide) ?_
      obtain ⟨h8, h9⟩ := ret_some hf
      rw [h8, h9]
      exact W.zret (v := 1) hx hb hr rfl (fun t ht hW => ⟨⟨1, (), rfl, rfl, by rw [ht]; exact hP, va_K.moved hW.alike hK, hD⟩, hS.F ht⟩) hS.2.2 dX3_isSole_107
    · skip
      rw [if_neg c_9] at hf
      refine lv_aload_n hx hb dX3_isSole_60 rfl (lv_at hl 1 rfl) ?_
      obtain ⟨k_10, ek_10, hf⟩ := lnk_some hf
      refine va_get (D := (dC, dI)) (ci := 3) (v := .ref (a k_10)) (C := RX3) (T := TX3) (N := 22) hx hb hts iwd_X3_isSole_X3 hown hK hP h0 (Wd_ob kg_4 sg_4 (by decide)) rfl 10 (by decide) (hts _ md_X3_isSole_5) (fun _ h9 => h9) (fl_q rfl ek_10) dX3_isSole_61 ?_
      refine lv_iload_n hx hb dX3_isSole_64 rfl (lv_at hl 0 rfl) ?_
      obtain ⟨g_11, hf⟩ := grd_some hf
      obtain ⟨kg_11, sg_11, ig_11⟩ := okA_at g_11
      refine va_lald hx hb hK hP k_10 2 (Wd_al kg_11 sg_11) rfl ig_11 dX3_isSole_65 ?_
      refine lv_lload_n hx hb dX3_isSole_66 rfl (lv_at hl 2 rfl) ?_
      refine lv_land hx hb dX3_isSole_67 ?_
      refine lv_lconst (v := 0) hx hb dX3_isSole_68 (by decide) ?_
      refine W.lcmp hx hb dX3_isSole_69 ?_
      refine de_cut (h := 100) (fun (x : St) => []) (fun x ls H locs => lv_has ls 4 [(3, .int p_6), (0, .ref (a h0)), (1, .long x0)] ∧ va_P (dC, dI) vwCl (Wd cy a sh n x) H ∧ va_D A (Wd cy a sh n x) ∧ va_S A s.heap H locs) (fun x => fn_X3_isSole_B100 F sh n p_6 (fun z9 q3 => fn_X3_isSole_L54 F sh n h0 x0 f_8 z9 q3) x) (z8, r8) ?_ (fun B100 => ?_)
      · intro x ls H locs hI hf
        obtain ⟨z_12, ez⟩ : ∃ w, w = x := ⟨_, rfl⟩
        subst ez
        obtain ⟨hl2, hP2, hD2, hS2⟩ := hI
        replace hl : lv_has ls 4 [(3, .int p_6), (0, .ref (a h0)), (1, .long x0)] := hl2
        replace hP := hP2
        replace hD := hD2
        replace hS := hS2
        clear hl2 hP2 hD2 hS2
        replace hf := fn_X3_isSole_B100_s hf
        refine W.eq (g2 := F0 m 100 ls []) rfl ?_
        refine lv_iinc (v := (p_6 + 1)) (lv' := [(3, .int (p_6 + 1)), (0, .ref (a h0)), (1, .long x0)]) hx hb dX3_isSole_100 hl (k := 0) rfl rfl (by decide) rfl (fun ls hl2 => ?_)
        replace hl := hl2
        clear hl2
        refine lv_goto (tgt := 54) hx hb dX3_isSole_103 (by decide) ?_
        exact ih54 (z_12, (p_6 + 1)) ls H locs ⟨lv_sub hl [0, 1, 2] rfl, hP, hD, hS⟩ hf
      refine lv_if_eq (tgt := 100) hx hb dX3_isSole_70 (by decide) (fun c_13 => ?_) (fun c_13 => ?_)
      · skip
        rw [lg_cmp_eq] at c_13
        rw [if_pos c_13] at hf
        exact B100 (z_7) ls H locs ⟨lv_sub hl [0, 1, 2] rfl, hP, hD, hS⟩ hf
      · skip
        rw [lg_cmp_eq] at c_13
        rw [if_neg c_13] at hf
        refine lv_aload_n hx hb dX3_isSole_73 rfl (lv_at hl 1 rfl) ?_
        refine va_get (D := (dC, dI)) (ci := 3) (v := .long (z_7.2.1 h0 13)) (C := RX3) (T := TX3) (N := 22) hx hb hts iwd_X3_isSole_X3 hown hK hP h0 (Wd_ob kg_4 sg_4 (by decide)) rfl 13 (by decide) (hts _ md_X3_isSole_6) (fun _ h9 => h9) (fl_at (t := 1) rfl) dX3_isSole_74 ?_
        refine lv_iload_n hx hb dX3_isSole_77 rfl (lv_at hl 0 rfl) ?_
        refine lv_lushr (v := (((z_7.2.1 h0 13) : Int64).toUInt64 >>> ((p_6 : Int32).toInt64.toUInt64 &&& Int64.toUInt64 63)).toInt64) hx hb dX3_isSole_78 rfl ?_
        refine lv_lconst (v := 1) hx hb dX3_isSole_79 (by decide) ?_
        refine lv_land hx hb dX3_isSole_80 ?_
        refine lv_lconst (v := 0) hx hb dX3_isSole_81 (by decide) ?_
        refine W.lcmp hx hb dX3_isSole_82 ?_
        refine lv_if_ne (tgt := 98) hx hb dX3_isSole_83 (by decide) (fun c_14 => ?_) (fun c_14 => ?_)
        · skip
          rw [lg_cmp_eq] at c_14
          rw [if_neg c_14] at hf
          refine lv_iconst (v := 0) hx hb dX3_isSole_98 (by decide) ?_
          obtain ⟨h8, h9⟩ := ret_some hf
          rw [h8, h9]
          exact W.zret (v := 0) hx hb hr rfl (fun t ht hW => ⟨⟨0, (), rfl, rfl, by rw [ht]; exact hP, va_K.moved hW.alike hK, hD⟩, hS.F ht⟩) hS.2.2 dX3_isSole_99
        · skip
          rw [lg_cmp_eq] at c_14
          rw [if_pos c_14] at hf
          refine lv_aload_n hx hb dX3_isSole_86 rfl (lv_at hl 1 rfl) ?_
          obtain ⟨k_15, ek_15, hf⟩ := lnk_some hf
          refine va_get (D := (dC, dI)) (ci := 3) (v := .ref (a k_15)) (C := RX3) (T := TX3) (N := 22) hx hb hts iwd_X3_isSole_X3 hown hK hP h0 (Wd_ob kg_4 sg_4 (by decide)) rfl 9 (by decide) (hts _ md_X3_isSole_7) (fun _ h9 => h9) (fl_q rfl ek_15) dX3_isSole_87 ?_
          refine lv_iload_n hx hb dX3_isSole_90 rfl (lv_at hl 0 rfl) ?_
          obtain ⟨g_16, hf⟩ := grd_some hf
          obtain ⟨kg_16, sg_16, ig_16⟩ := okA_at g_16
          refine va_lald hx hb hK hP k_15 2 (Wd_al kg_16 sg_16) rfl ig_16 dX3_isSole_91 ?_
          obtain ⟨z_17, r_18, hfc, hf⟩ := cal_some hf
          have hFc := de_free hD hS hA
          refine va_calli (va_runS (As := [.long (z_7.2.1 k_15 p_6.toNatClampNeg)]) (rest := []) ⟨hx, hb, hml, hown, hts⟩ (de_X3_writes l dC dI cy a sh n H.size F z_7 (z_7.2.1 k_15 p_6.toNatClampNeg) hfc) (va_cwS 1 hts gX3_isSole_X3_writes rfl rfl rfl (by decide +kernel) ⟨Nat.le_of_ble_eq_true rfl, Nat.le_of_ble_eq_true rfl⟩) ⟨fun a U g mk q => by obtain ⟨q0, q1, qP, qK, qD, qN⟩ := q; exact ⟨q0, q1, qP, va_K.moved (u := U) (U := U.calling g mk a) (Vm.Alike.refl U.vm) qK, qD, qN.same rfl⟩, fun U hU hW => ⟨rfl, by rw [hU], by rw [hU]; exact hP, va_K.moved hW.alike hK, hD.weaken (fun _ _ _ _ => trivial), hN.warm hW⟩⟩ rfl rfl hl.1 rfl (lv_room (Nat.le_of_ble_eq_true rfl)) dX3_isSole_92 ⟨Nat.le_of_ble_eq_true rfl, Nat.le_of_ble_eq_true rfl⟩) hS (fun q _ h => hFc q h) hFc (fun rr u t H_19 locs ht hvm hw hB hz1 hk1 hS2 => ?_)
          rw [hw]
          clear hw
          obtain ⟨hP1, -, hD1⟩ := hB
          rw [ht] at hP1
          replace hD := hD1.weaken (fun _ _ _ h => hFc _ h)
          replace hP := hP1
          replace hS := hS2
          clear hP1 hD1 hS2 hFc hfc hz1 hk1 hvm ht
          refine lv_if_ne (tgt := 100) hx hb dX3_isSole_95 (by decide) (fun c_20 => ?_) (fun c_20 => ?_)
          · skip
            rw [if_neg c_20] at hf
            exact B100 (z_17) ls H_19 locs ⟨lv_sub hl [0, 1, 2] rfl, hP, hD, hS⟩ hf
          · skip
            rw [if_pos c_20] at hf
            refine lv_iconst (v := 0) hx hb dX3_isSole_98 (by decide) ?_
            obtain ⟨h8, h9⟩ := ret_some hf
            rw [h8, h9]
            exact W.zret (v := 0) hx hb hr rfl (fun t ht hW => ⟨⟨0, (), rfl, rfl, by rw [ht]; exact hP, va_K.moved hW.alike hK, hD⟩, hS.F ht⟩) hS.2.2 dX3_isSole_99
  · skip
    rw [if_neg c_5] at hf
    refine lv_aload_n hx hb dX3_isSole_10 rfl (lv_at hl 1 rfl) ?_
    obtain ⟨k_21, ek_21, hf⟩ := lnk_some hf
    refine va_get (D := (dC, dI)) (ci := 3) (v := .ref (a k_21)) (C := RX3) (T := TX3) (N := 22) hx hb hts iwd_X3_isSole_X3 hown hK hP h0 (Wd_ob kg_4 sg_4 (by decide)) rfl 6 (by decide) (hts _ md_X3_isSole_2) (fun _ h9 => h9) (fl_q rfl ek_21) dX3_isSole_11 ?_
    refine lv_iload_n hx hb dX3_isSole_14 rfl (lv_at hl 0 rfl) ?_
    obtain ⟨g_22, hf⟩ := grd_some hf
    obtain ⟨kg_22, sg_22, ig_22⟩ := okA_at g_22
    refine va_lald hx hb hK hP k_21 2 (Wd_al kg_22 sg_22) rfl ig_22 dX3_isSole_15 ?_
    refine lv_lload_n hx hb dX3_isSole_16 rfl (lv_at hl 2 rfl) ?_
    refine lv_land hx hb dX3_isSole_17 ?_
    refine lv_lconst (v := 0) hx hb dX3_isSole_18 (by decide) ?_
    refine W.lcmp hx hb dX3_isSole_19 ?_
    refine de_cut (h := 46) (fun (x : St) => []) (fun x ls H locs => lv_has ls 4 [(3, .int p_1), (0, .ref (a h0)), (1, .long x0)] ∧ va_P (dC, dI) vwCl (Wd cy a sh n x) H ∧ va_D A (Wd cy a sh n x) ∧ va_S A s.heap H locs) (fun x => fn_X3_isSole_B46 F sh n p_1 (fun z9 q3 => fn_X3_isSole_L2 F sh n h0 x0 f_3 z9 q3) x) (z8, r8) ?_ (fun B46 => ?_)
    · intro x ls H locs hI hf
      obtain ⟨z_23, ez⟩ : ∃ w, w = x := ⟨_, rfl⟩
      subst ez
      obtain ⟨hl2, hP2, hD2, hS2⟩ := hI
      replace hl : lv_has ls 4 [(3, .int p_1), (0, .ref (a h0)), (1, .long x0)] := hl2
      replace hP := hP2
      replace hD := hD2
      replace hS := hS2
      clear hl2 hP2 hD2 hS2
      replace hf := fn_X3_isSole_B46_s hf
      refine W.eq (g2 := F0 m 46 ls []) rfl ?_
      refine lv_iinc (v := (p_1 + 1)) (lv' := [(3, .int (p_1 + 1)), (0, .ref (a h0)), (1, .long x0)]) hx hb dX3_isSole_46 hl (k := 0) rfl rfl (by decide) rfl (fun ls hl2 => ?_)
      replace hl := hl2
      clear hl2
      refine lv_goto (tgt := 2) hx hb dX3_isSole_49 (by decide) ?_
      exact ih2 (z_23, (p_1 + 1)) ls H locs ⟨lv_sub hl [0, 1, 2] rfl, hP, hD, hS⟩ hf
    refine lv_if_eq (tgt := 46) hx hb dX3_isSole_20 (by decide) (fun c_24 => ?_) (fun c_24 => ?_)
    · skip
      rw [lg_cmp_eq] at c_24
      rw [if_pos c_24] at hf
      exact B46 (z_2) ls H locs ⟨lv_sub hl [0, 1, 2] rfl, hP, hD, hS⟩ hf
    · skip
      rw [lg_cmp_eq] at c_24
      rw [if_neg c_24] at hf
      refine lv_aload_n hx hb dX3_isSole_23 rfl (lv_at hl 1 rfl) ?_
      obtain ⟨k_25, ek_25, hf⟩ := lnk_some hf
      refine va_get (D := (dC, dI)) (ci := 3) (v := .ref (a k_25)) (C := RX3) (T := TX3) (N := 22) hx hb hts iwd_X3_isSole_X3 hown hK hP h0 (Wd_ob kg_4 sg_4 (by decide)) rfl 7 (by decide) (hts _ md_X3_isSole_3) (fun _ h9 => h9) (fl_q rfl ek_25) dX3_isSole_24 ?_
      refine lv_iload_n hx hb dX3_isSole_27 rfl (lv_at hl 0 rfl) ?_
      obtain ⟨g_26, hf⟩ := grd_some hf
      obtain ⟨kg_26, sg_26, ig_26⟩ := okA_at g_26
      refine va_zald hx hb hK hP k_25 3 (Wd_az kg_26 sg_26) rfl ig_26 dX3_isSole_28 ?_
      refine lv_if_ne (tgt := 44) hx hb dX3_isSole_29 (by decide) (fun c_27 => ?_) (fun c_27 => ?_)
      · skip
        rw [if_neg c_27] at hf
        refine lv_iconst (v := 0) hx hb dX3_isSole_44 (by decide) ?_
        obtain ⟨h8, h9⟩ := ret_some hf
        rw [h8, h9]
        exact W.zret (v := 0) hx hb hr rfl (fun t ht hW => ⟨⟨0, (), rfl, rfl, by rw [ht]; exact hP, va_K.moved hW.alike hK, hD⟩, hS.F ht⟩) hS.2.2 dX3_isSole_45
      · skip
        rw [if_pos c_27] at hf
        refine lv_aload_n hx hb dX3_isSole_32 rfl (lv_at hl 1 rfl) ?_
        obtain ⟨k_28, ek_28, hf⟩ := lnk_some hf
        refine va_get (D := (dC, dI)) (ci := 3) (v := .ref (a k_28)) (C := RX3) (T := TX3) (N := 22) hx hb hts iwd_X3_isSole_X3 hown hK hP h0 (Wd_ob kg_4 sg_4 (by decide)) rfl 5 (by decide) (hts _ md_X3_isSole_4) (fun _ h9 => h9) (fl_q rfl ek_28) dX3_isSole_33 ?_
        refine lv_iload_n hx hb dX3_isSole_36 rfl (lv_at hl 0 rfl) ?_
        obtain ⟨g_29, hf⟩ := grd_some hf
        obtain ⟨kg_29, sg_29, ig_29⟩ := okA_at g_29
        refine va_lald hx hb hK hP k_28 2 (Wd_al kg_29 sg_29) rfl ig_29 dX3_isSole_37 ?_
        obtain ⟨z_30, r_31, hfc, hf⟩ := cal_some hf
        have hFc := de_free hD hS hA
        refine va_calli (va_runS (As := [.long (z_2.2.1 k_28 p_1.toNatClampNeg)]) (rest := []) ⟨hx, hb, hml, hown, hts⟩ (de_X3_writes l dC dI cy a sh n H.size F z_2 (z_2.2.1 k_28 p_1.toNatClampNeg) hfc) (va_cwS 1 hts gX3_isSole_X3_writes rfl rfl rfl (by decide +kernel) ⟨Nat.le_of_ble_eq_true rfl, Nat.le_of_ble_eq_true rfl⟩) ⟨fun a U g mk q => by obtain ⟨q0, q1, qP, qK, qD, qN⟩ := q; exact ⟨q0, q1, qP, va_K.moved (u := U) (U := U.calling g mk a) (Vm.Alike.refl U.vm) qK, qD, qN.same rfl⟩, fun U hU hW => ⟨rfl, by rw [hU], by rw [hU]; exact hP, va_K.moved hW.alike hK, hD.weaken (fun _ _ _ _ => trivial), hN.warm hW⟩⟩ rfl rfl hl.1 rfl (lv_room (Nat.le_of_ble_eq_true rfl)) dX3_isSole_38 ⟨Nat.le_of_ble_eq_true rfl, Nat.le_of_ble_eq_true rfl⟩) hS (fun q _ h => hFc q h) hFc (fun rr u t H_32 locs ht hvm hw hB hz1 hk1 hS2 => ?_)
        rw [hw]
        clear hw
        obtain ⟨hP1, -, hD1⟩ := hB
        rw [ht] at hP1
        replace hD := hD1.weaken (fun _ _ _ h => hFc _ h)
        replace hP := hP1
        replace hS := hS2
        clear hP1 hD1 hS2 hFc hfc hz1 hk1 hvm ht
        refine lv_if_ne (tgt := 46) hx hb dX3_isSole_41 (by decide) (fun c_33 => ?_) (fun c_33 => ?_)
        · skip
          rw [if_neg c_33] at hf
          exact B46 (z_30) ls H_32 locs ⟨lv_sub hl [0, 1, 2] rfl, hP, hD, hS⟩ hf
        · skip
          rw [if_pos c_33] at hf
          refine lv_iconst (v := 0) hx hb dX3_isSole_44 (by decide) ?_
          obtain ⟨h8, h9⟩ := ret_some hf
          rw [h8, h9]
          exact W.zret (v := 0) hx hb hr rfl (fun t ht hW => ⟨⟨0, (), rfl, rfl, by rw [ht]; exact hP, va_K.moved hW.alike hK, hD⟩, hS.F ht⟩) hS.2.2 dX3_isSole_45

theorem md_X17_multiply_3 : (.fieldLink RX17 16 "ResourceLedgerModel$Wide" "\x72" "[I" : Cond) ∈ wsX17_multiply := List.mem_of_getElem? (i := 3) rfl
theorem iwd_X17_multiply_X17 : ∀ w ∈ wsX170, w ∈ wsX17_multiply := fun _ h => List.mem_cons_of_mem _ (List.mem_append_right _ h)
theorem md_X17_multiply_1 : (.fieldLink RX17 7 "ResourceLedgerModel$Wide" "a" "[I" : Cond) ∈ wsX17_multiply := List.mem_of_getElem? (i := 1) rfl
theorem md_X17_multiply_2 : (.fieldLink RX17 13 "ResourceLedgerModel$Wide" "b" "[I" : Cond) ∈ wsX17_multiply := List.mem_of_getElem? (i := 2) rfl
theorem md_X17_multiply_4 : (.constantLong RX17 19 (65535) : Cond) ∈ wsX17_multiply := List.mem_of_getElem? (i := 4) rfl
set_option maxHeartbeats 4000000 in
set_option maxRecDepth 100000 in
theorem de_X17_multiply (l : Launch) (dC : Nat → ClassId) (dI : Nat → Nat → Nat) (cy : Nat → ClassId) (a : Nat → Nat) (sh : Nat → Nat × Nat) (n sz : Nat) (F : Nat) (z : St) (h0 : Nat) (x0 : Int32) {z8 : St} {r8 : Int32} (hf : fn_X17_multiply F sh n z h0 x0 = some (z8, r8)) : Met l yX17_multiply wsX17_multiply ({ frames := 2, cells := 0, slots := 0, locals := 46 }) (va_Pc [.ref (a h0), .int x0] (fun U => U.heap.size = sz ∧ va_P (dC, dI) vwCl (Wd cy a sh n z) U.heap ∧ va_K (dC, dI) vwCl (TYS cy) U ∧ va_D (fun _ => True) (Wd cy a sh n z) ∧ NK U)) (va_Qi (fun (r9 : Int32) (u : Unit) => r9 = r8) (fun u t => va_P (dC, dI) vwCl (Wd cy a sh n z8) t.heap ∧ va_K (dC, dI) vwCl (TYS cy) t ∧ va_D (va_A (Wd cy a sh n z) sz) (Wd cy a sh n z8)) (va_A (Wd cy a sh n z) sz)) 0 0 (va_A (Wd cy a sh n z) sz) := by
  refine Met.ofW (cc := cX17_multiply) (maxL := 8) (ret := (some .boolean)) (by decide) rfl ?_
  intro p e s m args below meth c s₁ B hml hv
  obtain ⟨rfl, hsz, hP, hK, hD0, hN⟩ := hv
  have hx := B.exec
  have hb := B.bytes
  have hr := B.returns
  have hts := atoms_spec (ws := wsX17_multiply) B.pre
  have hown : s.vm.findClass RX17 = some m.cls := findClass_of_methodNamed B.named
  have hlocks := B.notSynchronized
  subst hsz
  have hD := hD0.self (sz := s.heap.size)
  clear hD0
  generalize hAe : va_A (Wd cy a sh n z) s.heap.size = A at hD ⊢
  have hA : ∀ q : Nat, s.heap.size ≤ q → A q := fun q h => by rw [← hAe]; exact Or.inr h
  clear hAe
  have hS : va_S A s.heap s.heap [] := va_S.rf
  have hl := lv_entry ([.ref (a h0), .int x0]) (n := 8) (Nat.le_of_ble_eq_true rfl)
  rw [lg_entry_eq]
  generalize (lg_sl ([.ref (a h0), .int x0]) ++ List.replicate (8 - (lg_sl ([.ref (a h0), .int x0])).length) Slot.unset).toArray = ls at hl ⊢
  replace hl : lv_has ls 8 [(0, .ref (a h0)), (1, .int x0)] := hl
  unfold fn_X17_multiply at hf
  refine de_start hS hP (fun H locs hS hP => ?_)
  refine lv_iconst (v := 0) hx hb dX17_multiply_0 (by decide) ?_
  refine lv_istore_n (lv' := [(2, .int 0), (0, .ref (a h0)), (1, .int x0)]) hx hb dX17_multiply_1 rfl hl (by decide) rfl (fun ls hl2 => ?_)
  replace hl := hl2
  clear hl2
  have hl0 : lv_has ls 8 [(2, .int 0), (0, .ref (a h0)), (1, .int x0)] := lv_sub hl [0, 1, 2] rfl
  refine de_loop (h := 2) (fun (x : St × Int32) ls H locs => lv_has ls 8 [(2, .int x.2), (0, .ref (a h0)), (1, .int x0)] ∧ va_P (dC, dI) vwCl (Wd cy a sh n x.1) H ∧ va_D A (Wd cy a sh n x.1) ∧ va_S A s.heap H locs) (fun f x => fn_X17_multiply_L2 F sh n h0 x0 f x.1 x.2) (z8, r8) ?_ (fun _ => rfl) F (z, 0) ls H locs ⟨hl0, hP, hD, hS⟩ hf
  intro f_3 x ls H locs ih2 hI hf
  obtain ⟨z_2, p_1⟩ := x
  obtain ⟨hl2, hP2, hD2, hS2⟩ := hI
  replace hl : lv_has ls 8 [(2, .int p_1), (0, .ref (a h0)), (1, .int x0)] := hl2
  replace hP := hP2
  replace hD := hD2
  replace hS := hS2
  clear hl2 hP2 hD2 hS2 hl0
  replace hf := fn_X17_multiply_L2_s hf
  refine lv_iload_n hx hb dX17_multiply_2 rfl (lv_at hl 0 rfl) ?_
  refine lv_bipush (v := 16) hx hb dX17_multiply_3 (by decide) ?_
  refine lv_icmp_ge (tgt := 99) hx hb dX17_multiply_5 (by decide) (fun c_4 => ?_) (fun c_4 => ?_)
  · skip
    rw [if_pos c_4] at hf
    refine lv_aload_n hx hb dX17_multiply_99 rfl (lv_at hl 1 rfl) ?_
    refine lv_iload_n hx hb dX17_multiply_100 rfl (lv_at hl 2 rfl) ?_
    obtain ⟨g_7, hf⟩ := grd_some hf
    obtain ⟨kg_7, sg_7⟩ := okO_at g_7
    obtain ⟨z_5, r_6, hfc, hf⟩ := cal_some hf
    have hFc := de_free hD hS hA
    refine va_calli (va_runV (As := [.int x0]) (rest := []) ⟨hx, hb, hml, hown, hts⟩ (de_X17_result l dC dI cy a sh n H.size F z_2 h0 x0 hfc) (cwV 1 hts gX17_multiply_X17_result rfl rfl rfl (by decide +kernel) ⟨Nat.le_of_ble_eq_true rfl, Nat.le_of_ble_eq_true rfl⟩) ⟨fun a U g mk q => by obtain ⟨q0, q1, qP, qK, qD, qN⟩ := q; exact ⟨q0, q1, qP, va_K.moved (u := U) (U := U.calling g mk a) (Vm.Alike.refl U.vm) qK, qD, qN.same rfl⟩, va_recv hK hP (ci := 17) (q0 := h0) rfl (Wd_ob kg_7 sg_7 (by decide)), fun U hU hW => ⟨rfl, by rw [hU], by rw [hU]; exact hP, va_K.moved hW.alike hK, hD.weaken (fun _ _ _ _ => trivial), hN.warm hW⟩⟩ rfl rfl hl.1 rfl (lv_room (Nat.le_of_ble_eq_true rfl)) dX17_multiply_101 ⟨Nat.le_of_ble_eq_true rfl, Nat.le_of_ble_eq_true rfl⟩) hS (fun q _ h => hFc q h) hFc (fun rr u t H_8 locs ht hvm hw hB hz1 hk1 hS2 => ?_)
    rw [hw]
    clear hw
    obtain ⟨hP1, -, hD1⟩ := hB
    rw [ht] at hP1
    replace hD := hD1.weaken (fun _ _ _ h => hFc _ h)
    replace hP := hP1
    replace hS := hS2
    clear hP1 hD1 hS2 hFc hfc hz1 hk1 hvm ht
    obtain ⟨g_9, hf⟩ := grd_some hf
    obtain ⟨h8, h9⟩ := ret_some hf
    rw [h8, h9]
    exact W.zret (v := r_6) hx hb hr (nar_z g_9) (fun t ht hW => ⟨⟨r_6, (), rfl, rfl, by rw [ht]; exact hP, va_K.moved hW.alike hK, hD⟩, hS.F ht⟩) hS.2.2 dX17_multiply_104
  · skip
    rw [if_neg c_4] at hf
    refine lv_lconst (v := 0) hx hb dX17_multiply_8 (by decide) ?_
    refine lv_lstore_n (lv' := [(3, .long 0), (2, .int p_1), (0, .ref (a h0)), (1, .int x0)]) hx hb dX17_multiply_9 rfl hl (by decide) rfl (fun ls hl2 => ?_)
    replace hl := hl2
    clear hl2
    refine lv_iconst (v := 0) hx hb dX17_multiply_10 (by decide) ?_
    refine lv_istore (lv' := [(5, .int 0), (3, .long 0), (2, .int p_1), (0, .ref (a h0)), (1, .int x0)]) hx hb dX17_multiply_11 hl (by decide) rfl (fun ls hl2 => ?_)
    replace hl := hl2
    clear hl2
    have hl0 : lv_has ls 8 [(5, .int 0), (3, .long 0), (2, .int p_1), (0, .ref (a h0)), (1, .int x0)] := lv_sub hl [0, 1, 2, 3, 4] rfl
    refine de_loop (h := 13) (fun (x : St × Int64 × Int32) ls H locs => lv_has ls 8 [(5, .int x.2.2), (3, .long x.2.1), (2, .int p_1), (0, .ref (a h0)), (1, .int x0)] ∧ va_P (dC, dI) vwCl (Wd cy a sh n x.1) H ∧ va_D A (Wd cy a sh n x.1) ∧ va_S A s.heap H locs) (fun f x => fn_X17_multiply_L13 F sh n h0 p_1 (fun z9 q2 => fn_X17_multiply_L2 F sh n h0 x0 f_3 z9 q2) f x.1 x.2.1 x.2.2) (z8, r8) ?_ (fun _ => rfl) F (z_2, 0, 0) ls H locs ⟨hl0, hP, hD, hS⟩ hf
    intro f_13 x ls H locs ih13 hI hf
    obtain ⟨z_12, p_10, p_11⟩ := x
    obtain ⟨hl2, hP2, hD2, hS2⟩ := hI
    replace hl : lv_has ls 8 [(5, .int p_11), (3, .long p_10), (2, .int p_1), (0, .ref (a h0)), (1, .int x0)] := hl2
    replace hP := hP2
    replace hD := hD2
    replace hS := hS2
    clear hl2 hP2 hD2 hS2 hl0
    replace hf := fn_X17_multiply_L13_s hf
    refine lv_iload hx hb dX17_multiply_13 (lv_at hl 0 rfl) ?_
    refine lv_bipush (v := 16) hx hb dX17_multiply_15 (by decide) ?_
    refine lv_icmp_ge (tgt := 79) hx hb dX17_multiply_17 (by decide) (fun c_14 => ?_) (fun c_14 => ?_)
    · skip
      rw [if_pos c_14] at hf
      refine lv_aload_n hx hb dX17_multiply_79 rfl (lv_at hl 3 rfl) ?_
      obtain ⟨g_15, hf⟩ := grd_some hf
      obtain ⟨kg_15, sg_15⟩ := okO_at g_15
      obtain ⟨k_16, ek_16, hf⟩ := lnk_some hf
      refine va_get (D := (dC, dI)) (ci := 17) (v := .ref (a k_16)) (C := RX17) (T := TX17) (N := 5) hx hb hts iwd_X17_multiply_X17 hown hK hP h0 (Wd_ob kg_15 sg_15 (by decide)) rfl 2 (by decide) (hts _ md_X17_multiply_3) (fun _ h9 => h9) (fl_q rfl ek_16) dX17_multiply_80 ?_
      refine lv_iload_n hx hb dX17_multiply_83 rfl (lv_at hl 2 rfl) ?_
      refine lv_bipush (v := 16) hx hb dX17_multiply_84 (by decide) ?_
      refine lv_iadd hx hb dX17_multiply_86 ?_
      refine lv_dup2_11 hx hb dX17_multiply_87 rfl rfl ?_
      obtain ⟨g_17, hf⟩ := grd_some hf
      obtain ⟨kg_17, sg_17, ig_17⟩ := okA_at g_17
      refine va_iald hx hb hK hP k_16 1 (Wd_ai kg_17 sg_17) rfl ig_17 dX17_multiply_88 ?_
      refine lv_lload_n hx hb dX17_multiply_89 rfl (lv_at hl 1 rfl) ?_
      refine lv_l2i (v := (p_10 : Int64).toInt32) hx hb dX17_multiply_90 rfl ?_
      refine lv_iadd hx hb dX17_multiply_91 ?_
      obtain ⟨g_18, hf⟩ := grd_some hf
      obtain ⟨kg_18, sg_18, ig_18⟩ := okA_at g_18
      refine va_iast hx hb hK hP hD hS k_16 1 (Wd_ai kg_18 sg_18) rfl ig_18 dX17_multiply_92 (fun H_19 locs hP2 hD2 hS2 => ?_)
      rw [Wd_ti sg_18] at hP2 hD2
      obtain ⟨z_20, ez_20⟩ : ∃ w, w = si z_12 k_16 (p_1 + 16).toNatClampNeg ((z_12.1 k_16 (p_1 + 16).toNatClampNeg) + ((p_10 : Int64).toInt32)) := ⟨_, rfl⟩
      rw [← ez_20] at hP2 hD2
      replace hf := lt_at ez_20 hf
      clear ez_20
      replace hP := hP2
      replace hD := hD2
      replace hS := hS2
      clear hP2 hD2 hS2
      refine lv_iinc (v := (p_1 + 1)) (lv' := [(2, .int (p_1 + 1)), (5, .int p_11), (3, .long p_10), (0, .ref (a h0)), (1, .int x0)]) hx hb dX17_multiply_93 hl (k := 2) rfl rfl (by decide) rfl (fun ls hl2 => ?_)
      replace hl := hl2
      clear hl2
      refine lv_goto (tgt := 2) hx hb dX17_multiply_96 (by decide) ?_
      exact ih2 (z_20, (p_1 + 1)) ls H_19 locs ⟨lv_sub hl [0, 3, 4] rfl, hP, hD, hS⟩ hf
    · skip
      rw [if_neg c_14] at hf
      refine lv_aload_n hx hb dX17_multiply_20 rfl (lv_at hl 3 rfl) ?_
      obtain ⟨g_21, hf⟩ := grd_some hf
      obtain ⟨kg_21, sg_21⟩ := okO_at g_21
      obtain ⟨k_22, ek_22, hf⟩ := lnk_some hf
      refine va_get (D := (dC, dI)) (ci := 17) (v := .ref (a k_22)) (C := RX17) (T := TX17) (N := 5) hx hb hts iwd_X17_multiply_X17 hown hK hP h0 (Wd_ob kg_21 sg_21 (by decide)) rfl 0 (by decide) (hts _ md_X17_multiply_1) (fun _ h9 => h9) (fl_q rfl ek_22) dX17_multiply_21 ?_
      refine lv_iload_n hx hb dX17_multiply_24 rfl (lv_at hl 2 rfl) ?_
      obtain ⟨g_23, hf⟩ := grd_some hf
      obtain ⟨kg_23, sg_23, ig_23⟩ := okA_at g_23
      refine va_iald hx hb hK hP k_22 1 (Wd_ai kg_23 sg_23) rfl ig_23 dX17_multiply_25 ?_
      refine lv_i2l (v := ((z_12.1 k_22 p_1.toNatClampNeg) : Int32).toInt64) hx hb dX17_multiply_26 rfl ?_
      refine lv_aload_n hx hb dX17_multiply_27 rfl (lv_at hl 3 rfl) ?_
      obtain ⟨k_24, ek_24, hf⟩ := lnk_some hf
      refine va_get (D := (dC, dI)) (ci := 17) (v := .ref (a k_24)) (C := RX17) (T := TX17) (N := 5) hx hb hts iwd_X17_multiply_X17 hown hK hP h0 (Wd_ob kg_21 sg_21 (by decide)) rfl 1 (by decide) (hts _ md_X17_multiply_2) (fun _ h9 => h9) (fl_q rfl ek_24) dX17_multiply_28 ?_
      refine lv_iload hx hb dX17_multiply_31 (lv_at hl 0 rfl) ?_
      obtain ⟨g_25, hf⟩ := grd_some hf
      obtain ⟨kg_25, sg_25, ig_25⟩ := okA_at g_25
      refine va_iald hx hb hK hP k_24 1 (Wd_ai kg_25 sg_25) rfl ig_25 dX17_multiply_33 ?_
      refine lv_i2l (v := ((z_12.1 k_24 p_11.toNatClampNeg) : Int32).toInt64) hx hb dX17_multiply_34 rfl ?_
      refine lv_lmul hx hb dX17_multiply_35 ?_
      refine lv_aload_n hx hb dX17_multiply_36 rfl (lv_at hl 3 rfl) ?_
      obtain ⟨k_26, ek_26, hf⟩ := lnk_some hf
      refine va_get (D := (dC, dI)) (ci := 17) (v := .ref (a k_26)) (C := RX17) (T := TX17) (N := 5) hx hb hts iwd_X17_multiply_X17 hown hK hP h0 (Wd_ob kg_21 sg_21 (by decide)) rfl 2 (by decide) (hts _ md_X17_multiply_3) (fun _ h9 => h9) (fl_q rfl ek_26) dX17_multiply_37 ?_
      refine lv_iload_n hx hb dX17_multiply_40 rfl (lv_at hl 2 rfl) ?_
      refine lv_iload hx hb dX17_multiply_41 (lv_at hl 0 rfl) ?_
      refine lv_iadd hx hb dX17_multiply_43 ?_
      obtain ⟨g_27, hf⟩ := grd_some hf
      obtain ⟨kg_27, sg_27, ig_27⟩ := okA_at g_27
      refine va_iald hx hb hK hP k_26 1 (Wd_ai kg_27 sg_27) rfl ig_27 dX17_multiply_44 ?_
      refine lv_i2l (v := ((z_12.1 k_26 (p_1 + p_11).toNatClampNeg) : Int32).toInt64) hx hb dX17_multiply_45 rfl ?_
      refine lv_ladd hx hb dX17_multiply_46 ?_
      refine lv_lload_n hx hb dX17_multiply_47 rfl (lv_at hl 1 rfl) ?_
      refine lv_ladd hx hb dX17_multiply_48 ?_
      refine lv_topl (fun v_28 ev_28 => ?_)
      replace hf := lt_at ev_28 hf
      clear ev_28
      refine lv_lstore (lv' := [(6, .long v_28), (5, .int p_11), (3, .long p_10), (2, .int p_1), (0, .ref (a h0)), (1, .int x0)]) hx hb dX17_multiply_49 hl (by decide) rfl (fun ls hl2 => ?_)
      replace hl := hl2
      clear hl2
      refine lv_aload_n hx hb dX17_multiply_51 rfl (lv_at hl 4 rfl) ?_
      obtain ⟨k_29, ek_29, hf⟩ := lnk_some hf
      refine va_get (D := (dC, dI)) (ci := 17) (v := .ref (a k_29)) (C := RX17) (T := TX17) (N := 5) hx hb hts iwd_X17_multiply_X17 hown hK hP h0 (Wd_ob kg_21 sg_21 (by decide)) rfl 2 (by decide) (hts _ md_X17_multiply_3) (fun _ h9 => h9) (fl_q rfl ek_29) dX17_multiply_52 ?_
      refine lv_iload_n hx hb dX17_multiply_55 rfl (lv_at hl 3 rfl) ?_
      refine lv_iload hx hb dX17_multiply_56 (lv_at hl 1 rfl) ?_
      refine lv_iadd hx hb dX17_multiply_58 ?_
      refine lv_lload hx hb dX17_multiply_59 (lv_at hl 0 rfl) ?_
      refine lv_ldc2 hx hb hown (hts _ md_X17_multiply_4) dX17_multiply_61 ?_
      refine lv_land hx hb dX17_multiply_64 ?_
      refine lv_l2i (v := ((v_28 &&& 65535) : Int64).toInt32) hx hb dX17_multiply_65 rfl ?_
      obtain ⟨g_30, hf⟩ := grd_some hf
      obtain ⟨kg_30, sg_30, ig_30⟩ := okA_at g_30
      refine va_iast hx hb hK hP hD hS k_29 1 (Wd_ai kg_30 sg_30) rfl ig_30 dX17_multiply_66 (fun H_31 locs hP2 hD2 hS2 => ?_)
      rw [Wd_ti sg_30] at hP2 hD2
      obtain ⟨z_32, ez_32⟩ : ∃ w, w = si z_12 k_29 (p_1 + p_11).toNatClampNeg (((v_28 &&& 65535) : Int64).toInt32) := ⟨_, rfl⟩
      rw [← ez_32] at hP2 hD2
      replace hf := lt_at ez_32 hf
      clear ez_32
      replace hP := hP2
      replace hD := hD2
      replace hS := hS2
      clear hP2 hD2 hS2
      refine lv_lload hx hb dX17_multiply_67 (lv_at hl 0 rfl) ?_
      refine lv_bipush (v := 16) hx hb dX17_multiply_69 (by decide) ?_
      refine lv_lshr (v := (v_28 >>> ((16 : Int32).toInt64 &&& 63))) hx hb dX17_multiply_71 rfl ?_
      refine lv_topl (fun v_33 ev_33 => ?_)
      replace hf := lt_at ev_33 hf
      clear ev_33
      refine lv_lstore_n (lv' := [(3, .long v_33), (6, .long v_28), (5, .int p_11), (2, .int p_1), (0, .ref (a h0)), (1, .int x0)]) hx hb dX17_multiply_72 rfl hl (by decide) rfl (fun ls hl2 => ?_)
      replace hl := hl2
      clear hl2
      refine lv_iinc (v := (p_11 + 1)) (lv' := [(5, .int (p_11 + 1)), (3, .long v_33), (6, .long v_28), (2, .int p_1), (0, .ref (a h0)), (1, .int x0)]) hx hb dX17_multiply_73 hl (k := 2) rfl rfl (by decide) rfl (fun ls hl2 => ?_)
      replace hl := hl2
      clear hl2
      refine lv_goto (tgt := 13) hx hb dX17_multiply_76 (by decide) ?_
      exact ih13 (z_32, v_33, (p_11 + 1)) ls H_31 locs ⟨lv_sub hl [0, 1, 3, 4, 5] rfl, hP, hD, hS⟩ hf

set_option maxHeartbeats 4000000 in
set_option maxRecDepth 100000 in
theorem de_X16_overType (l : Launch) (dC : Nat → ClassId) (dI : Nat → Nat → Nat) (cy : Nat → ClassId) (a : Nat → Nat) (sh : Nat → Nat × Nat) (n sz : Nat) (F : Nat) (z : St) (h0 : Nat) (x0 : Int32) {z8 : St} {r8 : Unit} (hf : fn_X16_overType F sh n z h0 x0 = some (z8, r8)) : Met l yX16_overType wsX16_overType ({ frames := 2, cells := 0, slots := 0, locals := 44 }) (va_Pc [.ref (a h0), .int x0] (fun U => U.heap.size = sz ∧ va_P (dC, dI) vwCl (Wd cy a sh n z) U.heap ∧ va_K (dC, dI) vwCl (TYS cy) U ∧ va_D (fun _ => True) (Wd cy a sh n z) ∧ NK U)) (va_Qv (fun u : Unit => True) (fun u t => va_P (dC, dI) vwCl (Wd cy a sh n z8) t.heap ∧ va_K (dC, dI) vwCl (TYS cy) t ∧ va_D (va_A (Wd cy a sh n z) sz) (Wd cy a sh n z8)) (va_A (Wd cy a sh n z) sz)) 0 0 (va_A (Wd cy a sh n z) sz) := by
  refine Met.ofW (cc := cX16_overType) (maxL := 5) (ret := none) (by decide) rfl ?_
  intro p e s m args below meth c s₁ B hml hv
  obtain ⟨rfl, hsz, hP, hK, hD0, hN⟩ := hv
  have hx := B.exec
  have hb := B.bytes
  have hr := B.returns
  have hts := atoms_spec (ws := wsX16_overType) B.pre
  have hown : s.vm.findClass RX16 = some m.cls := findClass_of_methodNamed B.named
  have hlocks := B.notSynchronized
  subst hsz
  have hD := hD0.self (sz := s.heap.size)
  clear hD0
  generalize hAe : va_A (Wd cy a sh n z) s.heap.size = A at hD ⊢
  have hA : ∀ q : Nat, s.heap.size ≤ q → A q := fun q h => by rw [← hAe]; exact Or.inr h
  clear hAe
  have hS : va_S A s.heap s.heap [] := va_S.rf
  have hl := lv_entry ([.ref (a h0), .int x0]) (n := 5) (Nat.le_of_ble_eq_true rfl)
  rw [lg_entry_eq]
  generalize (lg_sl ([.ref (a h0), .int x0]) ++ List.replicate (5 - (lg_sl ([.ref (a h0), .int x0])).length) Slot.unset).toArray = ls at hl ⊢
  replace hl : lv_has ls 5 [(0, .ref (a h0)), (1, .int x0)] := hl
  unfold fn_X16_overType at hf
  refine de_start hS hP (fun H locs hS hP => ?_)
  refine lv_aload_n hx hb dX16_overType_0 rfl (lv_at hl 0 rfl) ?_
  refine lv_iconst (v := 1) hx hb dX16_overType_1 (by decide) ?_
  obtain ⟨g_3, hf⟩ := grd_some hf
  obtain ⟨kg_3, sg_3⟩ := okO_at g_3
  obtain ⟨z_1, r_2, hfc, hf⟩ := cal_some hf
  have hFc := de_free hD hS hA
  refine va_calli (va_runV (As := [.int 1]) (rest := []) ⟨hx, hb, hml, hown, hts⟩ (de_X16_over l dC dI cy a sh n H.size F z h0 1 hfc) (cwV 1 hts gX16_overType_X16_over rfl rfl rfl (by decide +kernel) ⟨Nat.le_of_ble_eq_true rfl, Nat.le_of_ble_eq_true rfl⟩) ⟨fun a U g mk q => by obtain ⟨q0, q1, qP, qK, qD, qN⟩ := q; exact ⟨q0, q1, qP, va_K.moved (u := U) (U := U.calling g mk a) (Vm.Alike.refl U.vm) qK, qD, qN.same rfl⟩, va_recv hK hP (ci := 16) (q0 := h0) rfl (Wd_ob kg_3 sg_3 (by decide)), fun U hU hW => ⟨rfl, by rw [hU], by rw [hU]; exact hP, va_K.moved hW.alike hK, hD.weaken (fun _ _ _ _ => trivial), hN.warm hW⟩⟩ rfl rfl hl.1 rfl (lv_room (Nat.le_of_ble_eq_true rfl)) dX16_overType_2 ⟨Nat.le_of_ble_eq_true rfl, Nat.le_of_ble_eq_true rfl⟩) hS (fun q _ h => hFc q h) hFc (fun rr u t H_4 locs ht hvm hw hB hz1 hk1 hS2 => ?_)
  rw [hw]
  clear hw
  obtain ⟨hP1, -, hD1⟩ := hB
  rw [ht] at hP1
  replace hD := hD1.weaken (fun _ _ _ h => hFc _ h)
  replace hP := hP1
  replace hS := hS2
  clear hP1 hD1 hS2 hFc hfc hz1 hk1 hvm ht
  refine lv_istore_n (lv' := [(2, .int r_2), (0, .ref (a h0)), (1, .int x0)]) hx hb dX16_overType_5 rfl hl (by decide) rfl (fun ls hl2 => ?_)
  replace hl := hl2
  clear hl2
  refine lv_aload_n hx hb dX16_overType_6 rfl (lv_at hl 1 rfl) ?_
  obtain ⟨z_5, r_6, hfc, hf⟩ := cal_some hf
  have hFc := de_free hD hS hA
  refine va_calli (va_runV (As := []) (rest := []) ⟨hx, hb, hml, hown, hts⟩ (de_X16_isGood l dC dI cy a sh n H_4.size F z_1 h0 hfc) (cwV 0 hts gX16_overType_X16_isGood rfl rfl rfl (by decide +kernel) ⟨Nat.le_of_ble_eq_true rfl, Nat.le_of_ble_eq_true rfl⟩) ⟨fun a U g mk q => by obtain ⟨q0, q1, qP, qK, qD, qN⟩ := q; exact ⟨q0, q1, qP, va_K.moved (u := U) (U := U.calling g mk a) (Vm.Alike.refl U.vm) qK, qD, qN.same rfl⟩, va_recv hK hP (ci := 16) (q0 := h0) rfl (Wd_ob kg_3 sg_3 (by decide)), fun U hU hW => ⟨rfl, by rw [hU], by rw [hU]; exact hP, va_K.moved hW.alike hK, hD.weaken (fun _ _ _ _ => trivial), hN.warm hW⟩⟩ rfl rfl hl.1 rfl (lv_room (Nat.le_of_ble_eq_true rfl)) dX16_overType_7 ⟨Nat.le_of_ble_eq_true rfl, Nat.le_of_ble_eq_true rfl⟩) hS (fun q _ h => hFc q h) hFc (fun rr u t H_7 locs ht hvm hw hB hz1 hk1 hS2 => ?_)
  rw [hw]
  clear hw
  obtain ⟨hP1, -, hD1⟩ := hB
  rw [ht] at hP1
  replace hD := hD1.weaken (fun _ _ _ h => hFc _ h)
  replace hP := hP1
  replace hS := hS2
  clear hP1 hD1 hS2 hFc hfc hz1 hk1 hvm ht
  refine lv_if_ne (tgt := 14) hx hb dX16_overType_10 (by decide) (fun c_8 => ?_) (fun c_8 => ?_)
  · skip
    rw [if_neg c_8] at hf
    refine lv_iload_n hx hb dX16_overType_14 rfl (lv_at hl 2 rfl) ?_
    refine de_cut (h := 44) (fun (x : St × Int32) => []) (fun x ls H locs => lv_has ls 5 [(2, .int x.2), (0, .ref (a h0))] ∧ va_P (dC, dI) vwCl (Wd cy a sh n x.1) H ∧ va_D A (Wd cy a sh n x.1) ∧ va_S A s.heap H locs) (fun x => fn_X16_overType_B44 F sh n h0 x.1 x.2) (z8, r8) ?_ (fun B44 => ?_)
    · intro x ls H locs hI hf
      obtain ⟨z_10, p_9⟩ := x
      obtain ⟨hl2, hP2, hD2, hS2⟩ := hI
      replace hl : lv_has ls 5 [(2, .int p_9), (0, .ref (a h0))] := hl2
      replace hP := hP2
      replace hD := hD2
      replace hS := hS2
      clear hl2 hP2 hD2 hS2
      replace hf := fn_X16_overType_B44_s hf
      refine W.eq (g2 := F0 m 44 ls []) rfl ?_
      refine lv_iconst (v := 0) hx hb dX16_overType_44 (by decide) ?_
      refine lv_istore_n (lv' := [(3, .int 0), (2, .int p_9), (0, .ref (a h0))]) hx hb dX16_overType_45 rfl hl (by decide) rfl (fun ls hl2 => ?_)
      replace hl := hl2
      clear hl2
      have hl0 : lv_has ls 5 [(3, .int 0), (2, .int p_9), (0, .ref (a h0))] := lv_sub hl [0, 1, 2] rfl
      refine de_loop (h := 46) (fun (x : St × Int32 × Int32) ls H locs => lv_has ls 5 [(3, .int x.2.2), (2, .int x.2.1), (0, .ref (a h0))] ∧ va_P (dC, dI) vwCl (Wd cy a sh n x.1) H ∧ va_D A (Wd cy a sh n x.1) ∧ va_S A s.heap H locs) (fun f x => fn_X16_overType_L46 F sh n h0 f x.1 x.2.1 x.2.2) (z8, r8) ?_ (fun _ => rfl) F (z_10, p_9, 0) ls H locs ⟨hl0, hP, hD, hS⟩ hf
      intro f_14 x ls H locs ih46 hI hf
      obtain ⟨z_13, p_11, p_12⟩ := x
      obtain ⟨hl2, hP2, hD2, hS2⟩ := hI
      replace hl : lv_has ls 5 [(3, .int p_12), (2, .int p_11), (0, .ref (a h0))] := hl2
      replace hP := hP2
      replace hD := hD2
      replace hS := hS2
      clear hl2 hP2 hD2 hS2 hl0
      replace hf := fn_X16_overType_L46_s hf
      refine lv_aload_n hx hb dX16_overType_46 rfl (lv_at hl 2 rfl) ?_
      obtain ⟨z_15, r_16, hfc, hf⟩ := cal_some hf
      have hFc := de_free hD hS hA
      refine va_calli (va_runV (As := []) (rest := []) ⟨hx, hb, hml, hown, hts⟩ (de_X16_isGood l dC dI cy a sh n H.size F z_13 h0 hfc) (cwV 0 hts gX16_overType_X16_isGood rfl rfl rfl (by decide +kernel) ⟨Nat.le_of_ble_eq_true rfl, Nat.le_of_ble_eq_true rfl⟩) ⟨fun a U g mk q => by obtain ⟨q0, q1, qP, qK, qD, qN⟩ := q; exact ⟨q0, q1, qP, va_K.moved (u := U) (U := U.calling g mk a) (Vm.Alike.refl U.vm) qK, qD, qN.same rfl⟩, va_recv hK hP (ci := 16) (q0 := h0) rfl (Wd_ob kg_3 sg_3 (by decide)), fun U hU hW => ⟨rfl, by rw [hU], by rw [hU]; exact hP, va_K.moved hW.alike hK, hD.weaken (fun _ _ _ _ => trivial), hN.warm hW⟩⟩ rfl rfl hl.1 rfl (lv_room (Nat.le_of_ble_eq_true rfl)) dX16_overType_47 ⟨Nat.le_of_ble_eq_true rfl, Nat.le_of_ble_eq_true rfl⟩) hS (fun q _ h => hFc q h) hFc (fun rr u t H_17 locs ht hvm hw hB hz1 hk1 hS2 => ?_)
      rw [hw]
      clear hw
      obtain ⟨hP1, -, hD1⟩ := hB
      rw [ht] at hP1
      replace hD := hD1.weaken (fun _ _ _ h => hFc _ h)
      replace hP := hP1
      replace hS := hS2
      clear hP1 hD1 hS2 hFc hfc hz1 hk1 hvm ht
      refine de_cut (h := 80) (fun (x : St × Int32) => []) (fun x ls H locs => lv_has ls 5 [(2, .int x.2), (0, .ref (a h0))] ∧ va_P (dC, dI) vwCl (Wd cy a sh n x.1) H ∧ va_D A (Wd cy a sh n x.1) ∧ va_S A s.heap H locs) (fun x => fn_X16_overType_B80 F sh n h0 x.1 x.2) (z8, r8) ?_ (fun B80 => ?_)
      · intro x ls H locs hI hf
        obtain ⟨z_19, p_18⟩ := x
        obtain ⟨hl2, hP2, hD2, hS2⟩ := hI
        replace hl : lv_has ls 5 [(2, .int p_18), (0, .ref (a h0))] := hl2
        replace hP := hP2
        replace hD := hD2
        replace hS := hS2
        clear hl2 hP2 hD2 hS2
        replace hf := fn_X16_overType_B80_s hf
        refine W.eq (g2 := F0 m 80 ls []) rfl ?_
        refine lv_aload_n hx hb dX16_overType_80 rfl (lv_at hl 1 rfl) ?_
        obtain ⟨z_20, r_21, hfc, hf⟩ := cal_some hf
        have hFc := de_free hD hS hA
        refine va_calli (va_runV (As := []) (rest := []) ⟨hx, hb, hml, hown, hts⟩ (de_X16_isGood l dC dI cy a sh n H.size F z_19 h0 hfc) (cwV 0 hts gX16_overType_X16_isGood rfl rfl rfl (by decide +kernel) ⟨Nat.le_of_ble_eq_true rfl, Nat.le_of_ble_eq_true rfl⟩) ⟨fun a U g mk q => by obtain ⟨q0, q1, qP, qK, qD, qN⟩ := q; exact ⟨q0, q1, qP, va_K.moved (u := U) (U := U.calling g mk a) (Vm.Alike.refl U.vm) qK, qD, qN.same rfl⟩, va_recv hK hP (ci := 16) (q0 := h0) rfl (Wd_ob kg_3 sg_3 (by decide)), fun U hU hW => ⟨rfl, by rw [hU], by rw [hU]; exact hP, va_K.moved hW.alike hK, hD.weaken (fun _ _ _ _ => trivial), hN.warm hW⟩⟩ rfl rfl hl.1 rfl (lv_room (Nat.le_of_ble_eq_true rfl)) dX16_overType_81 ⟨Nat.le_of_ble_eq_true rfl, Nat.le_of_ble_eq_true rfl⟩) hS (fun q _ h => hFc q h) hFc (fun rr u t H_22 locs ht hvm hw hB hz1 hk1 hS2 => ?_)
        rw [hw]
        clear hw
        obtain ⟨hP1, -, hD1⟩ := hB
        rw [ht] at hP1
        replace hD := hD1.weaken (fun _ _ _ h => hFc _ h)
        replace hP := hP1
        replace hS := hS2
        clear hP1 hD1 hS2 hFc hfc hz1 hk1 hvm ht
        refine lv_if_ne (tgt := 88) hx hb dX16_overType_84 (by decide) (fun c_23 => ?_) (fun c_23 => ?_)
        · skip
          rw [if_neg c_23] at hf
          refine lv_aload_n hx hb dX16_overType_88 rfl (lv_at hl 1 rfl) ?_
          refine lv_iload_n hx hb dX16_overType_89 rfl (lv_at hl 0 rfl) ?_
          obtain ⟨z_24, r_25, hfc, hf⟩ := cal_some hf
          have hFc := de_free hD hS hA
          refine va_calli (va_runV (As := [.int p_18]) (rest := []) ⟨hx, hb, hml, hown, hts⟩ (de_X16_byteAt l dC dI cy a sh n H_22.size F z_20 h0 p_18 hfc) (cwV 1 hts gX16_overType_X16_byteAt rfl rfl rfl (by decide +kernel) ⟨Nat.le_of_ble_eq_true rfl, Nat.le_of_ble_eq_true rfl⟩) ⟨fun a U g mk q => by obtain ⟨q0, q1, qP, qK, qD, qN⟩ := q; exact ⟨q0, q1, qP, va_K.moved (u := U) (U := U.calling g mk a) (Vm.Alike.refl U.vm) qK, qD, qN.same rfl⟩, va_recv hK hP (ci := 16) (q0 := h0) rfl (Wd_ob kg_3 sg_3 (by decide)), fun U hU hW => ⟨rfl, by rw [hU], by rw [hU]; exact hP, va_K.moved hW.alike hK, hD.weaken (fun _ _ _ _ => trivial), hN.warm hW⟩⟩ rfl rfl hl.1 rfl (lv_room (Nat.le_of_ble_eq_true rfl)) dX16_overType_90 ⟨Nat.le_of_ble_eq_true rfl, Nat.le_of_ble_eq_true rfl⟩) hS (fun q _ h => hFc q h) hFc (fun rr u t H_26 locs ht hvm hw hB hz1 hk1 hS2 => ?_)
          rw [hw]
          clear hw
          obtain ⟨hP1, -, hD1⟩ := hB
          rw [ht] at hP1
          replace hD := hD1.weaken (fun _ _ _ h => hFc _ h)
          replace hP := hP1
          replace hS := hS2
          clear hP1 hD1 hS2 hFc hfc hz1 hk1 hvm ht
          refine lv_istore (lv' := [(4, .int r_25), (2, .int p_18), (0, .ref (a h0))]) hx hb dX16_overType_93 hl (by decide) rfl (fun ls hl2 => ?_)
          replace hl := hl2
          clear hl2
          refine lv_iload hx hb dX16_overType_95 (lv_at hl 0 rfl) ?_
          refine lv_iconst (v := 1) hx hb dX16_overType_97 (by decide) ?_
          refine lv_icmp_lt (tgt := 108) hx hb dX16_overType_98 (by decide) (fun c_27 => ?_) (fun c_27 => ?_)
          · skip
            rw [if_pos c_27] at hf
            refine lv_aload_n hx hb dX16_overType_108 rfl (lv_at hl 2 rfl) ?_
            refine lv_iconst (v := 4) hx hb dX16_overType_109 (by decide) ?_
            refine lv_iload_n hx hb dX16_overType_110 rfl (lv_at hl 1 rfl) ?_
            obtain ⟨z_28, _u, hfc, hf⟩ := cal_some hf
            have hFc := de_free hD hS hA
            refine va_callv (va_runV (As := [.int 4, .int p_18]) (rest := []) ⟨hx, hb, hml, hown, hts⟩ (de_X16_fail l dC dI cy a sh n H_26.size F z_24 h0 4 p_18 hfc) (cwV 2 hts gX16_overType_X16_fail rfl rfl rfl (by decide +kernel) ⟨Nat.le_of_ble_eq_true rfl, Nat.le_of_ble_eq_true rfl⟩) ⟨fun a U g mk q => by obtain ⟨q0, q1, qP, qK, qD, qN⟩ := q; exact ⟨q0, q1, qP, va_K.moved (u := U) (U := U.calling g mk a) (Vm.Alike.refl U.vm) qK, qD, qN.same rfl⟩, va_recv hK hP (ci := 16) (q0 := h0) rfl (Wd_ob kg_3 sg_3 (by decide)), fun U hU hW => ⟨rfl, by rw [hU], by rw [hU]; exact hP, va_K.moved hW.alike hK, hD.weaken (fun _ _ _ _ => trivial), hN.warm hW⟩⟩ rfl rfl hl.1 rfl (lv_room (Nat.le_of_ble_eq_true rfl)) dX16_overType_111 ⟨Nat.le_of_ble_eq_true rfl, Nat.le_of_ble_eq_true rfl⟩) hS (fun q _ h => hFc q h) hFc (fun u t H_29 locs ht hvm hw hB hz1 hk1 hS2 => ?_)
            obtain ⟨hP1, -, hD1⟩ := hB
            rw [ht] at hP1
            replace hD := hD1.weaken (fun _ _ _ h => hFc _ h)
            replace hP := hP1
            replace hS := hS2
            clear hP1 hD1 hS2 hFc hfc hz1 hk1 hvm ht
            refine lv_goto (tgt := 130) hx hb dX16_overType_114 (by decide) ?_
            obtain ⟨h8, h9⟩ := ret_some hf
            rw [h8]
            exact W.vret hx hb hr (fun t ht hW => ⟨⟨(), rfl, trivial, by rw [ht]; exact hP, va_K.moved hW.alike hK, hD⟩, hS.F ht⟩) hS.2.2 dX16_overType_130
          · skip
            rw [if_neg c_27] at hf
            refine lv_iload hx hb dX16_overType_101 (lv_at hl 0 rfl) ?_
            refine lv_bipush (v := 6) hx hb dX16_overType_103 (by decide) ?_
            refine lv_icmp_le (tgt := 117) hx hb dX16_overType_105 (by decide) (fun c_30 => ?_) (fun c_30 => ?_)
            · skip
              rw [if_pos c_30] at hf
              refine lv_iload hx hb dX16_overType_117 (lv_at hl 0 rfl) ?_
              refine lv_bipush (v := 6) hx hb dX16_overType_119 (by decide) ?_
              refine lv_icmp_ne (tgt := 130) hx hb dX16_overType_121 (by decide) (fun c_31 => ?_) (fun c_31 => ?_)
              · skip
                rw [if_neg c_31] at hf
                obtain ⟨h8, h9⟩ := ret_some hf
                rw [h8]
                exact W.vret hx hb hr (fun t ht hW => ⟨⟨(), rfl, trivial, by rw [ht]; exact hP, va_K.moved hW.alike hK, hD⟩, hS.F ht⟩) hS.2.2 dX16_overType_130
              · skip
                rw [if_pos c_31] at hf
                refine lv_aload_n hx hb dX16_overType_124 rfl (lv_at hl 2 rfl) ?_
                refine lv_iconst (v := 1) hx hb dX16_overType_125 (by decide) ?_
                obtain ⟨z_32, r_33, hfc, hf⟩ := cal_some hf
                have hFc := de_free hD hS hA
                refine va_calli (va_runV (As := [.int 1]) (rest := []) ⟨hx, hb, hml, hown, hts⟩ (de_X16_over l dC dI cy a sh n H_26.size F z_24 h0 1 hfc) (cwV 1 hts gX16_overType_X16_over rfl rfl rfl (by decide +kernel) ⟨Nat.le_of_ble_eq_true rfl, Nat.le_of_ble_eq_true rfl⟩) ⟨fun a U g mk q => by obtain ⟨q0, q1, qP, qK, qD, qN⟩ := q; exact ⟨q0, q1, qP, va_K.moved (u := U) (U := U.calling g mk a) (Vm.Alike.refl U.vm) qK, qD, qN.same rfl⟩, va_recv hK hP (ci := 16) (q0 := h0) rfl (Wd_ob kg_3 sg_3 (by decide)), fun U hU hW => ⟨rfl, by rw [hU], by rw [hU]; exact hP, va_K.moved hW.alike hK, hD.weaken (fun _ _ _ _ => trivial), hN.warm hW⟩⟩ rfl rfl hl.1 rfl (lv_room (Nat.le_of_ble_eq_true rfl)) dX16_overType_126 ⟨Nat.le_of_ble_eq_true rfl, Nat.le_of_ble_eq_true rfl⟩) hS (fun q _ h => hFc q h) hFc (fun rr u t H_34 locs ht hvm hw hB hz1 hk1 hS2 => ?_)
                rw [hw]
                clear hw
                obtain ⟨hP1, -, hD1⟩ := hB
                rw [ht] at hP1
                replace hD := hD1.weaken (fun _ _ _ h => hFc _ h)
                replace hP := hP1
                replace hS := hS2
                clear hP1 hD1 hS2 hFc hfc hz1 hk1 hvm ht
                refine lv_pop hx hb dX16_overType_129 rfl ?_
                obtain ⟨h8, h9⟩ := ret_some hf
                rw [h8]
                exact W.vret hx hb hr (fun t ht hW => ⟨⟨(), rfl, trivial, by rw [ht]; exact hP, va_K.moved hW.alike hK, hD⟩, hS.F ht⟩) hS.2.2 dX16_overType_130
            · skip
              rw [if_neg c_30] at hf
              refine lv_aload_n hx hb dX16_overType_108 rfl (lv_at hl 2 rfl) ?_
              refine lv_iconst (v := 4) hx hb dX16_overType_109 (by decide) ?_
              refine lv_iload_n hx hb dX16_overType_110 rfl (lv_at hl 1 rfl) ?_
              obtain ⟨z_35, _u, hfc, hf⟩ := cal_some hf
              have hFc := de_free hD hS hA
              refine va_callv (va_runV (As := [.int 4, .int p_18]) (rest := []) ⟨hx, hb, hml, hown, hts⟩ (de_X16_fail l dC dI cy a sh n H_26.size F z_24 h0 4 p_18 hfc) (cwV 2 hts gX16_overType_X16_fail rfl rfl rfl (by decide +kernel) ⟨Nat.le_of_ble_eq_true rfl, Nat.le_of_ble_eq_true rfl⟩) ⟨fun a U g mk q => by obtain ⟨q0, q1, qP, qK, qD, qN⟩ := q; exact ⟨q0, q1, qP, va_K.moved (u := U) (U := U.calling g mk a) (Vm.Alike.refl U.vm) qK, qD, qN.same rfl⟩, va_recv hK hP (ci := 16) (q0 := h0) rfl (Wd_ob kg_3 sg_3 (by decide)), fun U hU hW => ⟨rfl, by rw [hU], by rw [hU]; exact hP, va_K.moved hW.alike hK, hD.weaken (fun _ _ _ _ => trivial), hN.warm hW⟩⟩ rfl rfl hl.1 rfl (lv_room (Nat.le_of_ble_eq_true rfl)) dX16_overType_111 ⟨Nat.le_of_ble_eq_true rfl, Nat.le_of_ble_eq_true rfl⟩) hS (fun q _ h => hFc q h) hFc (fun u t H_36 locs ht hvm hw hB hz1 hk1 hS2 => ?_)
              obtain ⟨hP1, -, hD1⟩ := hB
              rw [ht] at hP1
              replace hD := hD1.weaken (fun _ _ _ h => hFc _ h)
              replace hP := hP1
              replace hS := hS2
              clear hP1 hD1 hS2 hFc hfc hz1 hk1 hvm ht
              refine lv_goto (tgt := 130) hx hb dX16_overType_114 (by decide) ?_
              obtain ⟨h8, h9⟩ := ret_some hf
              rw [h8]
              exact W.vret hx hb hr (fun t ht hW => ⟨⟨(), rfl, trivial, by rw [ht]; exact hP, va_K.moved hW.alike hK, hD⟩, hS.F ht⟩) hS.2.2 dX16_overType_130
        · skip
          rw [if_pos c_23] at hf
          obtain ⟨h8, h9⟩ := ret_some hf
          rw [h8]
          exact W.vret hx hb hr (fun t ht hW => ⟨⟨(), rfl, trivial, by rw [ht]; exact hP, va_K.moved hW.alike hK, hD⟩, hS.F ht⟩) hS.2.2 dX16_overType_87
      refine lv_if_eq (tgt := 80) hx hb dX16_overType_50 (by decide) (fun c_37 => ?_) (fun c_37 => ?_)
      · skip
        rw [if_pos c_37] at hf
        exact B80 (z_15, p_11) ls H_17 locs ⟨lv_sub hl [1, 2] rfl, hP, hD, hS⟩ hf
      · skip
        rw [if_neg c_37] at hf
        refine lv_aload_n hx hb dX16_overType_53 rfl (lv_at hl 2 rfl) ?_
        refine lv_iload_n hx hb dX16_overType_54 rfl (lv_at hl 1 rfl) ?_
        obtain ⟨z_38, r_39, hfc, hf⟩ := cal_some hf
        have hFc := de_free hD hS hA
        refine va_calli (va_runV (As := [.int p_11]) (rest := []) ⟨hx, hb, hml, hown, hts⟩ (de_X16_byteAt l dC dI cy a sh n H_17.size F z_15 h0 p_11 hfc) (cwV 1 hts gX16_overType_X16_byteAt rfl rfl rfl (by decide +kernel) ⟨Nat.le_of_ble_eq_true rfl, Nat.le_of_ble_eq_true rfl⟩) ⟨fun a U g mk q => by obtain ⟨q0, q1, qP, qK, qD, qN⟩ := q; exact ⟨q0, q1, qP, va_K.moved (u := U) (U := U.calling g mk a) (Vm.Alike.refl U.vm) qK, qD, qN.same rfl⟩, va_recv hK hP (ci := 16) (q0 := h0) rfl (Wd_ob kg_3 sg_3 (by decide)), fun U hU hW => ⟨rfl, by rw [hU], by rw [hU]; exact hP, va_K.moved hW.alike hK, hD.weaken (fun _ _ _ _ => trivial), hN.warm hW⟩⟩ rfl rfl hl.1 rfl (lv_room (Nat.le_of_ble_eq_true rfl)) dX16_overType_55 ⟨Nat.le_of_ble_eq_true rfl, Nat.le_of_ble_eq_true rfl⟩) hS (fun q _ h => hFc q h) hFc (fun rr u t H_40 locs ht hvm hw hB hz1 hk1 hS2 => ?_)
        rw [hw]
        clear hw
        obtain ⟨hP1, -, hD1⟩ := hB
        rw [ht] at hP1
        replace hD := hD1.weaken (fun _ _ _ h => hFc _ h)
        replace hP := hP1
        replace hS := hS2
        clear hP1 hD1 hS2 hFc hfc hz1 hk1 hvm ht
        refine lv_bipush (v := 7) hx hb dX16_overType_58 (by decide) ?_
        refine lv_icmp_ne (tgt := 80) hx hb dX16_overType_60 (by decide) (fun c_41 => ?_) (fun c_41 => ?_)
        · skip
          rw [if_neg c_41] at hf
          exact B80 (z_38, p_11) ls H_40 locs ⟨lv_sub hl [1, 2] rfl, hP, hD, hS⟩ hf
        · skip
          rw [if_pos c_41] at hf
          refine lv_iload_n hx hb dX16_overType_63 rfl (lv_at hl 0 rfl) ?_
          refine lv_iconst (v := 4) hx hb dX16_overType_64 (by decide) ?_
          refine lv_icmp_ge (tgt := 80) hx hb dX16_overType_65 (by decide) (fun c_42 => ?_) (fun c_42 => ?_)
          · skip
            rw [if_pos c_42] at hf
            exact B80 (z_38, p_11) ls H_40 locs ⟨lv_sub hl [1, 2] rfl, hP, hD, hS⟩ hf
          · skip
            rw [if_neg c_42] at hf
            refine lv_iinc (v := (p_12 + 1)) (lv' := [(3, .int (p_12 + 1)), (2, .int p_11), (0, .ref (a h0))]) hx hb dX16_overType_68 hl (k := 0) rfl rfl (by decide) rfl (fun ls hl2 => ?_)
            replace hl := hl2
            clear hl2
            refine lv_aload_n hx hb dX16_overType_71 rfl (lv_at hl 2 rfl) ?_
            refine lv_iconst (v := 1) hx hb dX16_overType_72 (by decide) ?_
            obtain ⟨z_43, r_44, hfc, hf⟩ := cal_some hf
            have hFc := de_free hD hS hA
            refine va_calli (va_runV (As := [.int 1]) (rest := []) ⟨hx, hb, hml, hown, hts⟩ (de_X16_over l dC dI cy a sh n H_40.size F z_38 h0 1 hfc) (cwV 1 hts gX16_overType_X16_over rfl rfl rfl (by decide +kernel) ⟨Nat.le_of_ble_eq_true rfl, Nat.le_of_ble_eq_true rfl⟩) ⟨fun a U g mk q => by obtain ⟨q0, q1, qP, qK, qD, qN⟩ := q; exact ⟨q0, q1, qP, va_K.moved (u := U) (U := U.calling g mk a) (Vm.Alike.refl U.vm) qK, qD, qN.same rfl⟩, va_recv hK hP (ci := 16) (q0 := h0) rfl (Wd_ob kg_3 sg_3 (by decide)), fun U hU hW => ⟨rfl, by rw [hU], by rw [hU]; exact hP, va_K.moved hW.alike hK, hD.weaken (fun _ _ _ _ => trivial), hN.warm hW⟩⟩ rfl rfl hl.1 rfl (lv_room (Nat.le_of_ble_eq_true rfl)) dX16_overType_73 ⟨Nat.le_of_ble_eq_true rfl, Nat.le_of_ble_eq_true rfl⟩) hS (fun q _ h => hFc q h) hFc (fun rr u t H_45 locs ht hvm hw hB hz1 hk1 hS2 => ?_)
            rw [hw]
            clear hw
            obtain ⟨hP1, -, hD1⟩ := hB
            rw [ht] at hP1
            replace hD := hD1.weaken (fun _ _ _ h => hFc _ h)
            replace hP := hP1
            replace hS := hS2
            clear hP1 hD1 hS2 hFc hfc hz1 hk1 hvm ht
            refine lv_istore_n (lv' := [(2, .int r_44), (3, .int (p_12 + 1)), (0, .ref (a h0))]) hx hb dX16_overType_76 rfl hl (by decide) rfl (fun ls hl2 => ?_)
            replace hl := hl2
            clear hl2
            refine lv_goto (tgt := 46) hx hb dX16_overType_77 (by decide) ?_
            exact ih46 (z_43, r_44, (p_12 + 1)) ls H_45 locs ⟨lv_sub hl [1, 0, 2] rfl, hP, hD, hS⟩ hf
    refine lv_if_eq (tgt := 44) hx hb dX16_overType_15 (by decide) (fun c_46 => ?_) (fun c_46 => ?_)
    · skip
      rw [if_pos c_46] at hf
      exact B44 (z_5, r_2) ls H_7 locs ⟨lv_sub hl [0, 1] rfl, hP, hD, hS⟩ hf
    · skip
      rw [if_neg c_46] at hf
      refine lv_aload_n hx hb dX16_overType_18 rfl (lv_at hl 1 rfl) ?_
      refine lv_iload_n hx hb dX16_overType_19 rfl (lv_at hl 0 rfl) ?_
      obtain ⟨z_47, r_48, hfc, hf⟩ := cal_some hf
      have hFc := de_free hD hS hA
      refine va_calli (va_runV (As := [.int r_2]) (rest := []) ⟨hx, hb, hml, hown, hts⟩ (de_X16_byteAt l dC dI cy a sh n H_7.size F z_5 h0 r_2 hfc) (cwV 1 hts gX16_overType_X16_byteAt rfl rfl rfl (by decide +kernel) ⟨Nat.le_of_ble_eq_true rfl, Nat.le_of_ble_eq_true rfl⟩) ⟨fun a U g mk q => by obtain ⟨q0, q1, qP, qK, qD, qN⟩ := q; exact ⟨q0, q1, qP, va_K.moved (u := U) (U := U.calling g mk a) (Vm.Alike.refl U.vm) qK, qD, qN.same rfl⟩, va_recv hK hP (ci := 16) (q0 := h0) rfl (Wd_ob kg_3 sg_3 (by decide)), fun U hU hW => ⟨rfl, by rw [hU], by rw [hU]; exact hP, va_K.moved hW.alike hK, hD.weaken (fun _ _ _ _ => trivial), hN.warm hW⟩⟩ rfl rfl hl.1 rfl (lv_room (Nat.le_of_ble_eq_true rfl)) dX16_overType_20 ⟨Nat.le_of_ble_eq_true rfl, Nat.le_of_ble_eq_true rfl⟩) hS (fun q _ h => hFc q h) hFc (fun rr u t H_49 locs ht hvm hw hB hz1 hk1 hS2 => ?_)
      rw [hw]
      clear hw
      obtain ⟨hP1, -, hD1⟩ := hB
      rw [ht] at hP1
      replace hD := hD1.weaken (fun _ _ _ h => hFc _ h)
      replace hP := hP1
      replace hS := hS2
      clear hP1 hD1 hS2 hFc hfc hz1 hk1 hvm ht
      refine lv_bipush (v := 8) hx hb dX16_overType_23 (by decide) ?_
      refine de_cut (h := 38) (fun (x : St) => []) (fun x ls H locs => lv_has ls 5 [(0, .ref (a h0))] ∧ va_P (dC, dI) vwCl (Wd cy a sh n x) H ∧ va_D A (Wd cy a sh n x) ∧ va_S A s.heap H locs) (fun x => fn_X16_overType_B38 F sh n h0 x) (z8, r8) ?_ (fun B38 => ?_)
      · intro x ls H locs hI hf
        obtain ⟨z_50, ez⟩ : ∃ w, w = x := ⟨_, rfl⟩
        subst ez
        obtain ⟨hl2, hP2, hD2, hS2⟩ := hI
        replace hl : lv_has ls 5 [(0, .ref (a h0))] := hl2
        replace hP := hP2
        replace hD := hD2
        replace hS := hS2
        clear hl2 hP2 hD2 hS2
        replace hf := fn_X16_overType_B38_s hf
        refine W.eq (g2 := F0 m 38 ls []) rfl ?_
        refine lv_aload_n hx hb dX16_overType_38 rfl (lv_at hl 0 rfl) ?_
        refine lv_iconst (v := 1) hx hb dX16_overType_39 (by decide) ?_
        obtain ⟨z_51, r_52, hfc, hf⟩ := cal_some hf
        have hFc := de_free hD hS hA
        refine va_calli (va_runV (As := [.int 1]) (rest := []) ⟨hx, hb, hml, hown, hts⟩ (de_X16_over l dC dI cy a sh n H.size F z_50 h0 1 hfc) (cwV 1 hts gX16_overType_X16_over rfl rfl rfl (by decide +kernel) ⟨Nat.le_of_ble_eq_true rfl, Nat.le_of_ble_eq_true rfl⟩) ⟨fun a U g mk q => by obtain ⟨q0, q1, qP, qK, qD, qN⟩ := q; exact ⟨q0, q1, qP, va_K.moved (u := U) (U := U.calling g mk a) (Vm.Alike.refl U.vm) qK, qD, qN.same rfl⟩, va_recv hK hP (ci := 16) (q0 := h0) rfl (Wd_ob kg_3 sg_3 (by decide)), fun U hU hW => ⟨rfl, by rw [hU], by rw [hU]; exact hP, va_K.moved hW.alike hK, hD.weaken (fun _ _ _ _ => trivial), hN.warm hW⟩⟩ rfl rfl hl.1 rfl (lv_room (Nat.le_of_ble_eq_true rfl)) dX16_overType_40 ⟨Nat.le_of_ble_eq_true rfl, Nat.le_of_ble_eq_true rfl⟩) hS (fun q _ h => hFc q h) hFc (fun rr u t H_53 locs ht hvm hw hB hz1 hk1 hS2 => ?_)
        rw [hw]
        clear hw
        obtain ⟨hP1, -, hD1⟩ := hB
        rw [ht] at hP1
        replace hD := hD1.weaken (fun _ _ _ h => hFc _ h)
        replace hP := hP1
        replace hS := hS2
        clear hP1 hD1 hS2 hFc hfc hz1 hk1 hvm ht
        refine lv_istore_n (lv' := [(2, .int r_52), (0, .ref (a h0))]) hx hb dX16_overType_43 rfl hl (by decide) rfl (fun ls hl2 => ?_)
        replace hl := hl2
        clear hl2
        exact B44 (z_51, r_52) ls H_53 locs ⟨lv_sub hl [0, 1] rfl, hP, hD, hS⟩ hf
      refine lv_icmp_eq (tgt := 38) hx hb dX16_overType_25 (by decide) (fun c_54 => ?_) (fun c_54 => ?_)
      · skip
        rw [if_pos c_54] at hf
        exact B38 (z_47) ls H_49 locs ⟨lv_sub hl [1] rfl, hP, hD, hS⟩ hf
      · skip
        rw [if_neg c_54] at hf
        refine lv_aload_n hx hb dX16_overType_28 rfl (lv_at hl 1 rfl) ?_
        refine lv_iload_n hx hb dX16_overType_29 rfl (lv_at hl 0 rfl) ?_
        obtain ⟨z_55, r_56, hfc, hf⟩ := cal_some hf
        have hFc := de_free hD hS hA
        refine va_calli (va_runV (As := [.int r_2]) (rest := []) ⟨hx, hb, hml, hown, hts⟩ (de_X16_byteAt l dC dI cy a sh n H_49.size F z_47 h0 r_2 hfc) (cwV 1 hts gX16_overType_X16_byteAt rfl rfl rfl (by decide +kernel) ⟨Nat.le_of_ble_eq_true rfl, Nat.le_of_ble_eq_true rfl⟩) ⟨fun a U g mk q => by obtain ⟨q0, q1, qP, qK, qD, qN⟩ := q; exact ⟨q0, q1, qP, va_K.moved (u := U) (U := U.calling g mk a) (Vm.Alike.refl U.vm) qK, qD, qN.same rfl⟩, va_recv hK hP (ci := 16) (q0 := h0) rfl (Wd_ob kg_3 sg_3 (by decide)), fun U hU hW => ⟨rfl, by rw [hU], by rw [hU]; exact hP, va_K.moved hW.alike hK, hD.weaken (fun _ _ _ _ => trivial), hN.warm hW⟩⟩ rfl rfl hl.1 rfl (lv_room (Nat.le_of_ble_eq_true rfl)) dX16_overType_30 ⟨Nat.le_of_ble_eq_true rfl, Nat.le_of_ble_eq_true rfl⟩) hS (fun q _ h => hFc q h) hFc (fun rr u t H_57 locs ht hvm hw hB hz1 hk1 hS2 => ?_)
        rw [hw]
        clear hw
        obtain ⟨hP1, -, hD1⟩ := hB
        rw [ht] at hP1
        replace hD := hD1.weaken (fun _ _ _ h => hFc _ h)
        replace hP := hP1
        replace hS := hS2
        clear hP1 hD1 hS2 hFc hfc hz1 hk1 hvm ht
        refine lv_bipush (v := 9) hx hb dX16_overType_33 (by decide) ?_
        refine lv_icmp_ne (tgt := 44) hx hb dX16_overType_35 (by decide) (fun c_58 => ?_) (fun c_58 => ?_)
        · skip
          rw [if_neg c_58] at hf
          exact B44 (z_55, r_2) ls H_57 locs ⟨lv_sub hl [0, 1] rfl, hP, hD, hS⟩ hf
        · skip
          rw [if_pos c_58] at hf
          exact B38 (z_55) ls H_57 locs ⟨lv_sub hl [1] rfl, hP, hD, hS⟩ hf
  · skip
    rw [if_pos c_8] at hf
    obtain ⟨h8, h9⟩ := ret_some hf
    rw [h8]
    exact W.vret hx hb hr (fun t ht hW => ⟨⟨(), rfl, trivial, by rw [ht]; exact hP, va_K.moved hW.alike hK, hD⟩, hS.F ht⟩) hS.2.2 dX16_overType_13

theorem md_X13_isPointed_1 : (.fieldLink RX13 92 "ResourceLedgerModel$Looker" "height" "I" : Cond) ∈ wsX13_isPointed := List.mem_of_getElem? (i := 1) rfl
theorem iwd_X13_isPointed_X13 : ∀ w ∈ wsX130, w ∈ wsX13_isPointed := fun _ h => List.mem_cons_of_mem _ (List.mem_append_right _ h)
theorem md_X13_isPointed_4 : (.fieldLink RX13 136 "ResourceLedgerModel$Looker" "locals" "I" : Cond) ∈ wsX13_isPointed := List.mem_of_getElem? (i := 4) rfl
theorem md_X13_isPointed_5 : (.fieldLink RX13 39 "ResourceLedgerModel$Looker" "there" "[Z" : Cond) ∈ wsX13_isPointed := List.mem_of_getElem? (i := 5) rfl
theorem md_X13_isPointed_6 : (.fieldLink RX13 42 "ResourceLedgerModel$Looker" "points" "[J" : Cond) ∈ wsX13_isPointed := List.mem_of_getElem? (i := 6) rfl
theorem md_X13_isPointed_7 : (.fieldLink RX13 7 "ResourceLedgerModel$Looker" "localTypes" "[J" : Cond) ∈ wsX13_isPointed := List.mem_of_getElem? (i := 7) rfl
theorem md_X13_isPointed_2 : (.fieldLink RX13 33 "ResourceLedgerModel$Looker" "origins" "[J" : Cond) ∈ wsX13_isPointed := List.mem_of_getElem? (i := 2) rfl
theorem md_X13_isPointed_3 : (.fieldLink RX13 30 "ResourceLedgerModel$Looker" "types" "[J" : Cond) ∈ wsX13_isPointed := List.mem_of_getElem? (i := 3) rfl
set_option maxHeartbeats 4000000 in
set_option maxRecDepth 100000 in
theorem de_X13_isPointed (l : Launch) (dC : Nat → ClassId) (dI : Nat → Nat → Nat) (cy : Nat → ClassId) (a : Nat → Nat) (sh : Nat → Nat × Nat) (n sz : Nat) (F : Nat) (z : St) (h0 : Nat) (x0 : Int32) (x1 : Int32) {z8 : St} {r8 : Int32} (hf : fn_X13_isPointed F sh n z h0 x0 x1 = some (z8, r8)) : Met l yX13_isPointed wsX13_isPointed ({ frames := 2, cells := 0, slots := 0, locals := 43 }) (va_Pc [.ref (a h0), .int x0, .int x1] (fun U => U.heap.size = sz ∧ va_P (dC, dI) vwCl (Wd cy a sh n z) U.heap ∧ va_K (dC, dI) vwCl (TYS cy) U ∧ va_D (fun _ => True) (Wd cy a sh n z) ∧ NK U)) (va_Qi (fun (r9 : Int32) (u : Unit) => r9 = r8) (fun u t => va_P (dC, dI) vwCl (Wd cy a sh n z8) t.heap ∧ va_K (dC, dI) vwCl (TYS cy) t ∧ va_D (va_A (Wd cy a sh n z) sz) (Wd cy a sh n z8)) (va_A (Wd cy a sh n z) sz)) 0 0 (va_A (Wd cy a sh n z) sz) := by
  refine Met.ofW (cc := cX13_isPointed) (maxL := 5) (ret := (some .boolean)) (by decide) rfl ?_
  intro p e s m args below meth c s₁ B hml hv
  obtain ⟨rfl, hsz, hP, hK, hD0, hN⟩ := hv
  have hx := B.exec
  have hb := B.bytes
  have hr := B.returns
  have hts := atoms_spec (ws := wsX13_isPointed) B.pre
  have hown : s.vm.findClass RX13 = some m.cls := findClass_of_methodNamed B.named
  have hlocks := B.notSynchronized
  subst hsz
  have hD := hD0.self (sz := s.heap.size)
  clear hD0
  generalize hAe : va_A (Wd cy a sh n z) s.heap.size = A at hD ⊢
  have hA : ∀ q : Nat, s.heap.size ≤ q → A q := fun q h => by rw [← hAe]; exact Or.inr h
  clear hAe
  have hS : va_S A s.heap s.heap [] := va_S.rf
  have hl := lv_entry ([.ref (a h0), .int x0, .int x1]) (n := 5) (Nat.le_of_ble_eq_true rfl)
  rw [lg_entry_eq]
  generalize (lg_sl ([.ref (a h0), .int x0, .int x1]) ++ List.replicate (5 - (lg_sl ([.ref (a h0), .int x0, .int x1])).length) Slot.unset).toArray = ls at hl ⊢
  replace hl : lv_has ls 5 [(0, .ref (a h0)), (1, .int x0), (2, .int x1)] := hl
  unfold fn_X13_isPointed at hf
  refine de_start hS hP (fun H locs hS hP => ?_)
  refine lv_iconst (v := 0) hx hb dX13_isPointed_0 (by decide) ?_
  refine lv_istore_n (lv' := [(3, .int 0), (0, .ref (a h0)), (1, .int x0), (2, .int x1)]) hx hb dX13_isPointed_1 rfl hl (by decide) rfl (fun ls hl2 => ?_)
  replace hl := hl2
  clear hl2
  refine lv_iconst (v := 0) hx hb dX13_isPointed_2 (by decide) ?_
  refine lv_istore (lv' := [(4, .int 0), (3, .int 0), (0, .ref (a h0)), (1, .int x0), (2, .int x1)]) hx hb dX13_isPointed_3 hl (by decide) rfl (fun ls hl2 => ?_)
  replace hl := hl2
  clear hl2
  have hl0 : lv_has ls 5 [(4, .int 0), (3, .int 0), (0, .ref (a h0)), (1, .int x0), (2, .int x1)] := lv_sub hl [0, 1, 2, 3, 4] rfl
  refine de_loop (h := 5) (fun (x : St × Int32 × Int32) ls H locs => lv_has ls 5 [(4, .int x.2.2), (3, .int x.2.1), (0, .ref (a h0)), (1, .int x0), (2, .int x1)] ∧ va_P (dC, dI) vwCl (Wd cy a sh n x.1) H ∧ va_D A (Wd cy a sh n x.1) ∧ va_S A s.heap H locs) (fun f x => fn_X13_isPointed_L5 F sh n h0 x0 x1 f x.1 x.2.1 x.2.2) (z8, r8) ?_ (fun _ => rfl) F (z, 0, 0) ls H locs ⟨hl0, hP, hD, hS⟩ hf
  intro f_4 x ls H locs ih5 hI hf
  obtain ⟨z_3, p_1, p_2⟩ := x
  obtain ⟨hl2, hP2, hD2, hS2⟩ := hI
  replace hl : lv_has ls 5 [(4, .int p_2), (3, .int p_1), (0, .ref (a h0)), (1, .int x0), (2, .int x1)] := hl2
  replace hP := hP2
  replace hD := hD2
  replace hS := hS2
  clear hl2 hP2 hD2 hS2 hl0
  replace hf := fn_X13_isPointed_L5_s hf
  refine lv_iload hx hb dX13_isPointed_5 (lv_at hl 0 rfl) ?_
  refine lv_aload_n hx hb dX13_isPointed_7 rfl (lv_at hl 2 rfl) ?_
  obtain ⟨g_5, hf⟩ := grd_some hf
  obtain ⟨kg_5, sg_5⟩ := okO_at g_5
  refine va_get (D := (dC, dI)) (ci := 13) (v := .int (z_3.1 h0 14)) (C := RX13) (T := TX13) (N := 22) hx hb hts iwd_X13_isPointed_X13 hown hK hP h0 (Wd_ob kg_5 sg_5 (by decide)) rfl 14 (by decide) (hts _ md_X13_isPointed_1) (fun _ h9 => h9) (fl_at (t := 0) rfl) dX13_isPointed_8 ?_
  refine lv_icmp_ge (tgt := 63) hx hb dX13_isPointed_11 (by decide) (fun c_6 => ?_) (fun c_6 => ?_)
  · skip
    rw [if_pos c_6] at hf
    refine lv_iconst (v := 0) hx hb dX13_isPointed_63 (by decide) ?_
    refine lv_istore (lv' := [(4, .int 0), (3, .int p_1), (0, .ref (a h0)), (1, .int x0), (2, .int x1)]) hx hb dX13_isPointed_64 hl (by decide) rfl (fun ls hl2 => ?_)
    replace hl := hl2
    clear hl2
    have hl0 : lv_has ls 5 [(4, .int 0), (3, .int p_1), (0, .ref (a h0)), (1, .int x0), (2, .int x1)] := lv_sub hl [0, 1, 2, 3, 4] rfl
    refine de_loop (h := 66) (fun (x : St × Int32 × Int32) ls H locs => lv_has ls 5 [(4, .int x.2.2), (3, .int x.2.1), (0, .ref (a h0)), (1, .int x0), (2, .int x1)] ∧ va_P (dC, dI) vwCl (Wd cy a sh n x.1) H ∧ va_D A (Wd cy a sh n x.1) ∧ va_S A s.heap H locs) (fun f x => fn_X13_isPointed_L66 F sh n h0 x0 x1 f x.1 x.2.1 x.2.2) (z8, r8) ?_ (fun _ => rfl) F (z_3, p_1, 0) ls H locs ⟨hl0, hP, hD, hS⟩ hf
    intro f_10 x ls H locs ih66 hI hf
    obtain ⟨z_9, p_7, p_8⟩ := x
    obtain ⟨hl2, hP2, hD2, hS2⟩ := hI
    replace hl : lv_has ls 5 [(4, .int p_8), (3, .int p_7), (0, .ref (a h0)), (1, .int x0), (2, .int x1)] := hl2
    replace hP := hP2
    replace hD := hD2
    replace hS := hS2
    clear hl2 hP2 hD2 hS2 hl0
    replace hf := fn_X13_isPointed_L66_s hf
    refine lv_iload hx hb dX13_isPointed_66 (lv_at hl 0 rfl) ?_
    refine lv_aload_n hx hb dX13_isPointed_68 rfl (lv_at hl 2 rfl) ?_
    refine va_get (D := (dC, dI)) (ci := 13) (v := .int (z_9.1 h0 2)) (C := RX13) (T := TX13) (N := 22) hx hb hts iwd_X13_isPointed_X13 hown hK hP h0 (Wd_ob kg_5 sg_5 (by decide)) rfl 2 (by decide) (hts _ md_X13_isPointed_4) (fun _ h9 => h9) (fl_at (t := 0) rfl) dX13_isPointed_69 ?_
    refine lv_icmp_ge (tgt := 134) hx hb dX13_isPointed_72 (by decide) (fun c_11 => ?_) (fun c_11 => ?_)
    · skip
      rw [if_pos c_11] at hf
      refine lv_iload_n hx hb dX13_isPointed_134 rfl (lv_at hl 1 rfl) ?_
      obtain ⟨g_12, hf⟩ := grd_some hf
      obtain ⟨h8, h9⟩ := ret_some hf
      rw [h8, h9]
      exact W.zret (v := p_7) hx hb hr (nar_z g_12) (fun t ht hW => ⟨⟨p_7, (), rfl, rfl, by rw [ht]; exact hP, va_K.moved hW.alike hK, hD⟩, hS.F ht⟩) hS.2.2 dX13_isPointed_135
    · skip
      rw [if_neg c_11] at hf
      refine lv_iload_n hx hb dX13_isPointed_75 rfl (lv_at hl 1 rfl) ?_
      refine de_cut (h := 127) (fun (x : St × Int32) => [.int x.2]) (fun x ls H locs => lv_has ls 5 [(4, .int p_8), (0, .ref (a h0)), (1, .int x0), (2, .int x1)] ∧ va_P (dC, dI) vwCl (Wd cy a sh n x.1) H ∧ va_D A (Wd cy a sh n x.1) ∧ va_S A s.heap H locs) (fun x => fn_X13_isPointed_B127 F sh n p_8 (fun z9 q3 q4 => fn_X13_isPointed_L66 F sh n h0 x0 x1 f_10 z9 q3 q4) x.1 x.2) (z8, r8) ?_ (fun B127 => ?_)
      · intro x ls H locs hI hf
        obtain ⟨z_14, p_13⟩ := x
        obtain ⟨hl2, hP2, hD2, hS2⟩ := hI
        replace hl : lv_has ls 5 [(4, .int p_8), (0, .ref (a h0)), (1, .int x0), (2, .int x1)] := hl2
        replace hP := hP2
        replace hD := hD2
        replace hS := hS2
        clear hl2 hP2 hD2 hS2
        replace hf := fn_X13_isPointed_B127_s hf
        refine W.eq (g2 := F0 m 127 ls [.int p_13]) rfl ?_
        refine lv_istore_n (lv' := [(3, .int p_13), (4, .int p_8), (0, .ref (a h0)), (1, .int x0), (2, .int x1)]) hx hb dX13_isPointed_127 rfl hl (by decide) rfl (fun ls hl2 => ?_)
        replace hl := hl2
        clear hl2
        refine lv_iinc (v := (p_8 + 1)) (lv' := [(4, .int (p_8 + 1)), (3, .int p_13), (0, .ref (a h0)), (1, .int x0), (2, .int x1)]) hx hb dX13_isPointed_128 hl (k := 1) rfl rfl (by decide) rfl (fun ls hl2 => ?_)
        replace hl := hl2
        clear hl2
        refine lv_goto (tgt := 66) hx hb dX13_isPointed_131 (by decide) ?_
        exact ih66 (z_14, p_13, (p_8 + 1)) ls H locs ⟨lv_sub hl [0, 1, 2, 3, 4] rfl, hP, hD, hS⟩ hf
      refine de_cut (h := 122) (fun (x : St) => []) (fun x ls H locs => lv_has ls 5 [(4, .int p_8), (0, .ref (a h0)), (1, .int x0), (2, .int x1)] ∧ va_P (dC, dI) vwCl (Wd cy a sh n x) H ∧ va_D A (Wd cy a sh n x) ∧ va_S A s.heap H locs) (fun x => fn_X13_isPointed_B122 F sh n p_8 (fun z9 q3 q4 => fn_X13_isPointed_L66 F sh n h0 x0 x1 f_10 z9 q3 q4) x) (z8, r8) ?_ (fun B122 => ?_)
      · intro x ls H locs hI hf
        obtain ⟨z_15, ez⟩ : ∃ w, w = x := ⟨_, rfl⟩
        subst ez
        obtain ⟨hl2, hP2, hD2, hS2⟩ := hI
        replace hl : lv_has ls 5 [(4, .int p_8), (0, .ref (a h0)), (1, .int x0), (2, .int x1)] := hl2
        replace hP := hP2
        replace hD := hD2
        replace hS := hS2
        clear hl2 hP2 hD2 hS2
        replace hf := fn_X13_isPointed_B122_s hf
        refine W.eq (g2 := F0 m 122 ls []) rfl ?_
        refine lv_iconst (v := 1) hx hb dX13_isPointed_122 (by decide) ?_
        refine lv_goto (tgt := 127) hx hb dX13_isPointed_123 (by decide) ?_
        exact B127 (z_15, 1) ls H locs ⟨lv_sub hl [0, 1, 2, 3] rfl, hP, hD, hS⟩ hf
      refine lv_if_ne (tgt := 122) hx hb dX13_isPointed_76 (by decide) (fun c_16 => ?_) (fun c_16 => ?_)
      · skip
        rw [if_neg c_16] at hf
        exact B122 (z_9) ls H locs ⟨lv_sub hl [0, 2, 3, 4] rfl, hP, hD, hS⟩ hf
      · skip
        rw [if_pos c_16] at hf
        refine lv_aload_n hx hb dX13_isPointed_79 rfl (lv_at hl 2 rfl) ?_
        obtain ⟨k_17, ek_17, hf⟩ := lnk_some hf
        refine va_get (D := (dC, dI)) (ci := 13) (v := .ref (a k_17)) (C := RX13) (T := TX13) (N := 22) hx hb hts iwd_X13_isPointed_X13 hown hK hP h0 (Wd_ob kg_5 sg_5 (by decide)) rfl 15 (by decide) (hts _ md_X13_isPointed_5) (fun _ h9 => h9) (fl_q rfl ek_17) dX13_isPointed_80 ?_
        refine lv_iload hx hb dX13_isPointed_83 (lv_at hl 0 rfl) ?_
        obtain ⟨g_18, hf⟩ := grd_some hf
        obtain ⟨kg_18, sg_18, ig_18⟩ := okA_at g_18
        refine va_zald hx hb hK hP k_17 3 (Wd_az kg_18 sg_18) rfl ig_18 dX13_isPointed_85 ?_
        refine de_cut (h := 126) (fun (x : St) => []) (fun x ls H locs => lv_has ls 5 [(4, .int p_8), (0, .ref (a h0)), (1, .int x0), (2, .int x1)] ∧ va_P (dC, dI) vwCl (Wd cy a sh n x) H ∧ va_D A (Wd cy a sh n x) ∧ va_S A s.heap H locs) (fun x => fn_X13_isPointed_B126 F sh n p_8 (fun z9 q3 q4 => fn_X13_isPointed_L66 F sh n h0 x0 x1 f_10 z9 q3 q4) x) (z8, r8) ?_ (fun B126 => ?_)
        · intro x ls H locs hI hf
          obtain ⟨z_19, ez⟩ : ∃ w, w = x := ⟨_, rfl⟩
          subst ez
          obtain ⟨hl2, hP2, hD2, hS2⟩ := hI
          replace hl : lv_has ls 5 [(4, .int p_8), (0, .ref (a h0)), (1, .int x0), (2, .int x1)] := hl2
          replace hP := hP2
          replace hD := hD2
          replace hS := hS2
          clear hl2 hP2 hD2 hS2
          replace hf := fn_X13_isPointed_B126_s hf
          refine W.eq (g2 := F0 m 126 ls []) rfl ?_
          refine lv_iconst (v := 0) hx hb dX13_isPointed_126 (by decide) ?_
          exact B127 (z_19, 0) ls H locs ⟨lv_sub hl [0, 1, 2, 3] rfl, hP, hD, hS⟩ hf
        refine lv_if_eq (tgt := 126) hx hb dX13_isPointed_86 (by decide) (fun c_20 => ?_) (fun c_20 => ?_)
        · skip
          rw [if_pos c_20] at hf
          exact B126 (z_9) ls H locs ⟨lv_sub hl [0, 2, 3, 4] rfl, hP, hD, hS⟩ hf
        · skip
          rw [if_neg c_20] at hf
          refine lv_aload_n hx hb dX13_isPointed_89 rfl (lv_at hl 2 rfl) ?_
          obtain ⟨k_21, ek_21, hf⟩ := lnk_some hf
          refine va_get (D := (dC, dI)) (ci := 13) (v := .ref (a k_21)) (C := RX13) (T := TX13) (N := 22) hx hb hts iwd_X13_isPointed_X13 hown hK hP h0 (Wd_ob kg_5 sg_5 (by decide)) rfl 16 (by decide) (hts _ md_X13_isPointed_6) (fun _ h9 => h9) (fl_q rfl ek_21) dX13_isPointed_90 ?_
          refine lv_iload hx hb dX13_isPointed_93 (lv_at hl 0 rfl) ?_
          obtain ⟨g_22, hf⟩ := grd_some hf
          obtain ⟨kg_22, sg_22, ig_22⟩ := okA_at g_22
          refine va_lald hx hb hK hP k_21 2 (Wd_al kg_22 sg_22) rfl ig_22 dX13_isPointed_95 ?_
          refine lv_iload_n hx hb dX13_isPointed_96 rfl (lv_at hl 3 rfl) ?_
          refine lv_lshr (v := ((z_9.2.1 k_21 p_8.toNatClampNeg) >>> ((x0 : Int32).toInt64 &&& 63))) hx hb dX13_isPointed_97 rfl ?_
          refine lv_lconst (v := 1) hx hb dX13_isPointed_98 (by decide) ?_
          refine lv_land hx hb dX13_isPointed_99 ?_
          refine lv_lconst (v := 1) hx hb dX13_isPointed_100 (by decide) ?_
          refine W.lcmp hx hb dX13_isPointed_101 ?_
          refine lv_if_ne (tgt := 126) hx hb dX13_isPointed_102 (by decide) (fun c_23 => ?_) (fun c_23 => ?_)
          · skip
            rw [lg_cmp_eq] at c_23
            rw [if_neg c_23] at hf
            exact B126 (z_9) ls H locs ⟨lv_sub hl [0, 2, 3, 4] rfl, hP, hD, hS⟩ hf
          · skip
            rw [lg_cmp_eq] at c_23
            rw [if_pos c_23] at hf
            refine lv_iload_n hx hb dX13_isPointed_105 rfl (lv_at hl 4 rfl) ?_
            refine lv_if_eq (tgt := 122) hx hb dX13_isPointed_106 (by decide) (fun c_24 => ?_) (fun c_24 => ?_)
            · skip
              rw [if_pos c_24] at hf
              exact B122 (z_9) ls H locs ⟨lv_sub hl [0, 2, 3, 4] rfl, hP, hD, hS⟩ hf
            · skip
              rw [if_neg c_24] at hf
              refine lv_aload_n hx hb dX13_isPointed_109 rfl (lv_at hl 2 rfl) ?_
              obtain ⟨k_25, ek_25, hf⟩ := lnk_some hf
              refine va_get (D := (dC, dI)) (ci := 13) (v := .ref (a k_25)) (C := RX13) (T := TX13) (N := 22) hx hb hts iwd_X13_isPointed_X13 hown hK hP h0 (Wd_ob kg_5 sg_5 (by decide)) rfl 3 (by decide) (hts _ md_X13_isPointed_7) (fun _ h9 => h9) (fl_q rfl ek_25) dX13_isPointed_110 ?_
              refine lv_iload hx hb dX13_isPointed_113 (lv_at hl 0 rfl) ?_
              obtain ⟨g_26, hf⟩ := grd_some hf
              obtain ⟨kg_26, sg_26, ig_26⟩ := okA_at g_26
              refine va_lald hx hb hK hP k_25 2 (Wd_al kg_26 sg_26) rfl ig_26 dX13_isPointed_115 ?_
              obtain ⟨z_27, r_28, hfc, hf⟩ := cal_some hf
              have hFc := de_free hD hS hA
              refine va_calli (va_runS (As := [.long (z_9.2.1 k_25 p_8.toNatClampNeg)]) (rest := []) ⟨hx, hb, hml, hown, hts⟩ (de_X13_writes l dC dI cy a sh n H.size F z_9 (z_9.2.1 k_25 p_8.toNatClampNeg) hfc) (va_cwS 1 hts gX13_isPointed_X13_writes rfl rfl rfl (by decide +kernel) ⟨Nat.le_of_ble_eq_true rfl, Nat.le_of_ble_eq_true rfl⟩) ⟨fun a U g mk q => by obtain ⟨q0, q1, qP, qK, qD, qN⟩ := q; exact ⟨q0, q1, qP, va_K.moved (u := U) (U := U.calling g mk a) (Vm.Alike.refl U.vm) qK, qD, qN.same rfl⟩, fun U hU hW => ⟨rfl, by rw [hU], by rw [hU]; exact hP, va_K.moved hW.alike hK, hD.weaken (fun _ _ _ _ => trivial), hN.warm hW⟩⟩ rfl rfl hl.1 rfl (lv_room (Nat.le_of_ble_eq_true rfl)) dX13_isPointed_116 ⟨Nat.le_of_ble_eq_true rfl, Nat.le_of_ble_eq_true rfl⟩) hS (fun q _ h => hFc q h) hFc (fun rr u t H_29 locs ht hvm hw hB hz1 hk1 hS2 => ?_)
              rw [hw]
              clear hw
              obtain ⟨hP1, -, hD1⟩ := hB
              rw [ht] at hP1
              replace hD := hD1.weaken (fun _ _ _ h => hFc _ h)
              replace hP := hP1
              replace hS := hS2
              clear hP1 hD1 hS2 hFc hfc hz1 hk1 hvm ht
              refine lv_if_eq (tgt := 126) hx hb dX13_isPointed_119 (by decide) (fun c_30 => ?_) (fun c_30 => ?_)
              · skip
                rw [if_pos c_30] at hf
                exact B126 (z_27) ls H_29 locs ⟨lv_sub hl [0, 2, 3, 4] rfl, hP, hD, hS⟩ hf
              · skip
                rw [if_neg c_30] at hf
                exact B122 (z_27) ls H_29 locs ⟨lv_sub hl [0, 2, 3, 4] rfl, hP, hD, hS⟩ hf
  · skip
    rw [if_neg c_6] at hf
    refine lv_iload_n hx hb dX13_isPointed_14 rfl (lv_at hl 1 rfl) ?_
    refine de_cut (h := 56) (fun (x : St × Int32) => [.int x.2]) (fun x ls H locs => lv_has ls 5 [(4, .int p_2), (0, .ref (a h0)), (1, .int x0), (2, .int x1)] ∧ va_P (dC, dI) vwCl (Wd cy a sh n x.1) H ∧ va_D A (Wd cy a sh n x.1) ∧ va_S A s.heap H locs) (fun x => fn_X13_isPointed_B56 F sh n p_2 (fun z9 q3 q4 => fn_X13_isPointed_L5 F sh n h0 x0 x1 f_4 z9 q3 q4) x.1 x.2) (z8, r8) ?_ (fun B56 => ?_)
    · intro x ls H locs hI hf
      obtain ⟨z_32, p_31⟩ := x
      obtain ⟨hl2, hP2, hD2, hS2⟩ := hI
      replace hl : lv_has ls 5 [(4, .int p_2), (0, .ref (a h0)), (1, .int x0), (2, .int x1)] := hl2
      replace hP := hP2
      replace hD := hD2
      replace hS := hS2
      clear hl2 hP2 hD2 hS2
      replace hf := fn_X13_isPointed_B56_s hf
      refine W.eq (g2 := F0 m 56 ls [.int p_31]) rfl ?_
      refine lv_istore_n (lv' := [(3, .int p_31), (4, .int p_2), (0, .ref (a h0)), (1, .int x0), (2, .int x1)]) hx hb dX13_isPointed_56 rfl hl (by decide) rfl (fun ls hl2 => ?_)
      replace hl := hl2
      clear hl2
      refine lv_iinc (v := (p_2 + 1)) (lv' := [(4, .int (p_2 + 1)), (3, .int p_31), (0, .ref (a h0)), (1, .int x0), (2, .int x1)]) hx hb dX13_isPointed_57 hl (k := 1) rfl rfl (by decide) rfl (fun ls hl2 => ?_)
      replace hl := hl2
      clear hl2
      refine lv_goto (tgt := 5) hx hb dX13_isPointed_60 (by decide) ?_
      exact ih5 (z_32, p_31, (p_2 + 1)) ls H locs ⟨lv_sub hl [0, 1, 2, 3, 4] rfl, hP, hD, hS⟩ hf
    refine de_cut (h := 51) (fun (x : St) => []) (fun x ls H locs => lv_has ls 5 [(4, .int p_2), (0, .ref (a h0)), (1, .int x0), (2, .int x1)] ∧ va_P (dC, dI) vwCl (Wd cy a sh n x) H ∧ va_D A (Wd cy a sh n x) ∧ va_S A s.heap H locs) (fun x => fn_X13_isPointed_B51 F sh n p_2 (fun z9 q3 q4 => fn_X13_isPointed_L5 F sh n h0 x0 x1 f_4 z9 q3 q4) x) (z8, r8) ?_ (fun B51 => ?_)
    · intro x ls H locs hI hf
      obtain ⟨z_33, ez⟩ : ∃ w, w = x := ⟨_, rfl⟩
      subst ez
      obtain ⟨hl2, hP2, hD2, hS2⟩ := hI
      replace hl : lv_has ls 5 [(4, .int p_2), (0, .ref (a h0)), (1, .int x0), (2, .int x1)] := hl2
      replace hP := hP2
      replace hD := hD2
      replace hS := hS2
      clear hl2 hP2 hD2 hS2
      replace hf := fn_X13_isPointed_B51_s hf
      refine W.eq (g2 := F0 m 51 ls []) rfl ?_
      refine lv_iconst (v := 1) hx hb dX13_isPointed_51 (by decide) ?_
      refine lv_goto (tgt := 56) hx hb dX13_isPointed_52 (by decide) ?_
      exact B56 (z_33, 1) ls H locs ⟨lv_sub hl [0, 1, 2, 3] rfl, hP, hD, hS⟩ hf
    refine lv_if_ne (tgt := 51) hx hb dX13_isPointed_15 (by decide) (fun c_34 => ?_) (fun c_34 => ?_)
    · skip
      rw [if_neg c_34] at hf
      exact B51 (z_3) ls H locs ⟨lv_sub hl [0, 2, 3, 4] rfl, hP, hD, hS⟩ hf
    · skip
      rw [if_pos c_34] at hf
      refine lv_aload_n hx hb dX13_isPointed_18 rfl (lv_at hl 2 rfl) ?_
      obtain ⟨k_35, ek_35, hf⟩ := lnk_some hf
      refine va_get (D := (dC, dI)) (ci := 13) (v := .ref (a k_35)) (C := RX13) (T := TX13) (N := 22) hx hb hts iwd_X13_isPointed_X13 hown hK hP h0 (Wd_ob kg_5 sg_5 (by decide)) rfl 12 (by decide) (hts _ md_X13_isPointed_2) (fun _ h9 => h9) (fl_q rfl ek_35) dX13_isPointed_19 ?_
      refine lv_iload hx hb dX13_isPointed_22 (lv_at hl 0 rfl) ?_
      obtain ⟨g_36, hf⟩ := grd_some hf
      obtain ⟨kg_36, sg_36, ig_36⟩ := okA_at g_36
      refine va_lald hx hb hK hP k_35 2 (Wd_al kg_36 sg_36) rfl ig_36 dX13_isPointed_24 ?_
      refine lv_iload_n hx hb dX13_isPointed_25 rfl (lv_at hl 3 rfl) ?_
      refine lv_lshr (v := ((z_3.2.1 k_35 p_2.toNatClampNeg) >>> ((x0 : Int32).toInt64 &&& 63))) hx hb dX13_isPointed_26 rfl ?_
      refine lv_lconst (v := 1) hx hb dX13_isPointed_27 (by decide) ?_
      refine lv_land hx hb dX13_isPointed_28 ?_
      refine lv_lconst (v := 1) hx hb dX13_isPointed_29 (by decide) ?_
      refine W.lcmp hx hb dX13_isPointed_30 ?_
      refine de_cut (h := 55) (fun (x : St) => []) (fun x ls H locs => lv_has ls 5 [(4, .int p_2), (0, .ref (a h0)), (1, .int x0), (2, .int x1)] ∧ va_P (dC, dI) vwCl (Wd cy a sh n x) H ∧ va_D A (Wd cy a sh n x) ∧ va_S A s.heap H locs) (fun x => fn_X13_isPointed_B55 F sh n p_2 (fun z9 q3 q4 => fn_X13_isPointed_L5 F sh n h0 x0 x1 f_4 z9 q3 q4) x) (z8, r8) ?_ (fun B55 => ?_)
      · intro x ls H locs hI hf
        obtain ⟨z_37, ez⟩ : ∃ w, w = x := ⟨_, rfl⟩
        subst ez
        obtain ⟨hl2, hP2, hD2, hS2⟩ := hI
        replace hl : lv_has ls 5 [(4, .int p_2), (0, .ref (a h0)), (1, .int x0), (2, .int x1)] := hl2
        replace hP := hP2
        replace hD := hD2
        replace hS := hS2
        clear hl2 hP2 hD2 hS2
        replace hf := fn_X13_isPointed_B55_s hf
        refine W.eq (g2 := F0 m 55 ls []) rfl ?_
        refine lv_iconst (v := 0) hx hb dX13_isPointed_55 (by decide) ?_
        exact B56 (z_37, 0) ls H locs ⟨lv_sub hl [0, 1, 2, 3] rfl, hP, hD, hS⟩ hf
      refine lv_if_ne (tgt := 55) hx hb dX13_isPointed_31 (by decide) (fun c_38 => ?_) (fun c_38 => ?_)
      · skip
        rw [lg_cmp_eq] at c_38
        rw [if_neg c_38] at hf
        exact B55 (z_3) ls H locs ⟨lv_sub hl [0, 2, 3, 4] rfl, hP, hD, hS⟩ hf
      · skip
        rw [lg_cmp_eq] at c_38
        rw [if_pos c_38] at hf
        refine lv_iload_n hx hb dX13_isPointed_34 rfl (lv_at hl 4 rfl) ?_
        refine lv_if_eq (tgt := 51) hx hb dX13_isPointed_35 (by decide) (fun c_39 => ?_) (fun c_39 => ?_)
        · skip
          rw [if_pos c_39] at hf
          exact B51 (z_3) ls H locs ⟨lv_sub hl [0, 2, 3, 4] rfl, hP, hD, hS⟩ hf
        · skip
          rw [if_neg c_39] at hf
          refine lv_aload_n hx hb dX13_isPointed_38 rfl (lv_at hl 2 rfl) ?_
          obtain ⟨k_40, ek_40, hf⟩ := lnk_some hf
          refine va_get (D := (dC, dI)) (ci := 13) (v := .ref (a k_40)) (C := RX13) (T := TX13) (N := 22) hx hb hts iwd_X13_isPointed_X13 hown hK hP h0 (Wd_ob kg_5 sg_5 (by decide)) rfl 11 (by decide) (hts _ md_X13_isPointed_3) (fun _ h9 => h9) (fl_q rfl ek_40) dX13_isPointed_39 ?_
          refine lv_iload hx hb dX13_isPointed_42 (lv_at hl 0 rfl) ?_
          obtain ⟨g_41, hf⟩ := grd_some hf
          obtain ⟨kg_41, sg_41, ig_41⟩ := okA_at g_41
          refine va_lald hx hb hK hP k_40 2 (Wd_al kg_41 sg_41) rfl ig_41 dX13_isPointed_44 ?_
          obtain ⟨z_42, r_43, hfc, hf⟩ := cal_some hf
          have hFc := de_free hD hS hA
          refine va_calli (va_runS (As := [.long (z_3.2.1 k_40 p_2.toNatClampNeg)]) (rest := []) ⟨hx, hb, hml, hown, hts⟩ (de_X13_writes l dC dI cy a sh n H.size F z_3 (z_3.2.1 k_40 p_2.toNatClampNeg) hfc) (va_cwS 1 hts gX13_isPointed_X13_writes rfl rfl rfl (by decide +kernel) ⟨Nat.le_of_ble_eq_true rfl, Nat.le_of_ble_eq_true rfl⟩) ⟨fun a U g mk q => by obtain ⟨q0, q1, qP, qK, qD, qN⟩ := q; exact ⟨q0, q1, qP, va_K.moved (u := U) (U := U.calling g mk a) (Vm.Alike.refl U.vm) qK, qD, qN.same rfl⟩, fun U hU hW => ⟨rfl, by rw [hU], by rw [hU]; exact hP, va_K.moved hW.alike hK, hD.weaken (fun _ _ _ _ => trivial), hN.warm hW⟩⟩ rfl rfl hl.1 rfl (lv_room (Nat.le_of_ble_eq_true rfl)) dX13_isPointed_45 ⟨Nat.le_of_ble_eq_true rfl, Nat.le_of_ble_eq_true rfl⟩) hS (fun q _ h => hFc q h) hFc (fun rr u t H_44 locs ht hvm hw hB hz1 hk1 hS2 => ?_)
          rw [hw]
          clear hw
          obtain ⟨hP1, -, hD1⟩ := hB
          rw [ht] at hP1
          replace hD := hD1.weaken (fun _ _ _ h => hFc _ h)
          replace hP := hP1
          replace hS := hS2
          clear hP1 hD1 hS2 hFc hfc hz1 hk1 hvm ht
          refine lv_if_eq (tgt := 55) hx hb dX13_isPointed_48 (by decide) (fun c_45 => ?_) (fun c_45 => ?_)
          · skip
            rw [if_pos c_45] at hf
            exact B55 (z_42) ls H_44 locs ⟨lv_sub hl [0, 2, 3, 4] rfl, hP, hD, hS⟩ hf
          · skip
            rw [if_neg c_45] at hf
            exact B51 (z_42) ls H_44 locs ⟨lv_sub hl [0, 2, 3, 4] rfl, hP, hD, hS⟩ hf

theorem md_X13_isSole_1 : (.fieldLink RX13 92 "ResourceLedgerModel$Looker" "height" "I" : Cond) ∈ wsX13_isSole := List.mem_of_getElem? (i := 1) rfl
theorem iwd_X13_isSole_X13 : ∀ w ∈ wsX130, w ∈ wsX13_isSole := fun _ h => List.mem_cons_of_mem _ (List.mem_append_right _ h)
theorem md_X13_isSole_5 : (.fieldLink RX13 136 "ResourceLedgerModel$Looker" "locals" "I" : Cond) ∈ wsX13_isSole := List.mem_of_getElem? (i := 5) rfl
theorem md_X13_isSole_6 : (.fieldLink RX13 39 "ResourceLedgerModel$Looker" "there" "[Z" : Cond) ∈ wsX13_isSole := List.mem_of_getElem? (i := 6) rfl
theorem md_X13_isSole_7 : (.fieldLink RX13 42 "ResourceLedgerModel$Looker" "points" "[J" : Cond) ∈ wsX13_isSole := List.mem_of_getElem? (i := 7) rfl
theorem md_X13_isSole_8 : (.fieldLink RX13 7 "ResourceLedgerModel$Looker" "localTypes" "[J" : Cond) ∈ wsX13_isSole := List.mem_of_getElem? (i := 8) rfl
theorem md_X13_isSole_9 : (.fieldLink RX13 45 "ResourceLedgerModel$Looker" "within" "[Z" : Cond) ∈ wsX13_isSole := List.mem_of_getElem? (i := 9) rfl
theorem md_X13_isSole_2 : (.fieldLink RX13 33 "ResourceLedgerModel$Looker" "origins" "[J" : Cond) ∈ wsX13_isSole := List.mem_of_getElem? (i := 2) rfl
theorem md_X13_isSole_3 : (.fieldLink RX13 30 "ResourceLedgerModel$Looker" "types" "[J" : Cond) ∈ wsX13_isSole := List.mem_of_getElem? (i := 3) rfl
theorem md_X13_isSole_4 : (.fieldLink RX13 36 "ResourceLedgerModel$Looker" "insides" "[Z" : Cond) ∈ wsX13_isSole := List.mem_of_getElem? (i := 4) rfl
set_option maxHeartbeats 4000000 in
set_option maxRecDepth 100000 in
theorem de_X13_isSole (l : Launch) (dC : Nat → ClassId) (dI : Nat → Nat → Nat) (cy : Nat → ClassId) (a : Nat → Nat) (sh : Nat → Nat × Nat) (n sz : Nat) (F : Nat) (z : St) (h0 : Nat) (x0 : Int64) {z8 : St} {r8 : Int32} (hf : fn_X13_isSole F sh n z h0 x0 = some (z8, r8)) : Met l yX13_isSole wsX13_isSole ({ frames := 2, cells := 0, slots := 0, locals := 43 }) (va_Pc [.ref (a h0), .long x0] (fun U => U.heap.size = sz ∧ va_P (dC, dI) vwCl (Wd cy a sh n z) U.heap ∧ va_K (dC, dI) vwCl (TYS cy) U ∧ va_D (fun _ => True) (Wd cy a sh n z) ∧ NK U)) (va_Qi (fun (r9 : Int32) (u : Unit) => r9 = r8) (fun u t => va_P (dC, dI) vwCl (Wd cy a sh n z8) t.heap ∧ va_K (dC, dI) vwCl (TYS cy) t ∧ va_D (va_A (Wd cy a sh n z) sz) (Wd cy a sh n z8)) (va_A (Wd cy a sh n z) sz)) 0 0 (va_A (Wd cy a sh n z) sz) := by
  refine Met.ofW (cc := cX13_isSole) (maxL := 5) (ret := (some .boolean)) (by decide) rfl ?_
  intro p e s m args below meth c s₁ B hml hv
  obtain ⟨rfl, hsz, hP, hK, hD0, hN⟩ := hv
  have hx := B.exec
  have hb := B.bytes
  have hr := B.returns
  have hts := atoms_spec (ws := wsX13_isSole) B.pre
  have hown : s.vm.findClass RX13 = some m.cls := findClass_of_methodNamed B.named
  have hlocks := B.notSynchronized
  subst hsz
  have hD := hD0.self (sz := s.heap.size)
  clear hD0
  generalize hAe : va_A (Wd cy a sh n z) s.heap.size = A at hD ⊢
  have hA : ∀ q : Nat, s.heap.size ≤ q → A q := fun q h => by rw [← hAe]; exact Or.inr h
  clear hAe
  have hS : va_S A s.heap s.heap [] := va_S.rf
  have hl := lv_entry ([.ref (a h0), .long x0]) (n := 5) (Nat.le_of_ble_eq_true rfl)
  rw [lg_entry_eq]
  generalize (lg_sl ([.ref (a h0), .long x0]) ++ List.replicate (5 - (lg_sl ([.ref (a h0), .long x0])).length) Slot.unset).toArray = ls at hl ⊢
  replace hl : lv_has ls 5 [(0, .ref (a h0)), (1, .long x0)] := hl
  unfold fn_X13_isSole at hf
  refine de_start hS hP (fun H locs hS hP => ?_)
  refine lv_iconst (v := 1) hx hb dX13_isSole_0 (by decide) ?_
  refine lv_istore_n (lv' := [(3, .int 1), (0, .ref (a h0)), (1, .long x0)]) hx hb dX13_isSole_1 rfl hl (by decide) rfl (fun ls hl2 => ?_)
  replace hl := hl2
  clear hl2
  refine lv_iconst (v := 0) hx hb dX13_isSole_2 (by decide) ?_
  refine lv_istore (lv' := [(4, .int 0), (3, .int 1), (0, .ref (a h0)), (1, .long x0)]) hx hb dX13_isSole_3 hl (by decide) rfl (fun ls hl2 => ?_)
  replace hl := hl2
  clear hl2
  have hl0 : lv_has ls 5 [(4, .int 0), (3, .int 1), (0, .ref (a h0)), (1, .long x0)] := lv_sub hl [0, 1, 2, 3] rfl
  refine de_loop (h := 5) (fun (x : St × Int32 × Int32) ls H locs => lv_has ls 5 [(4, .int x.2.2), (3, .int x.2.1), (0, .ref (a h0)), (1, .long x0)] ∧ va_P (dC, dI) vwCl (Wd cy a sh n x.1) H ∧ va_D A (Wd cy a sh n x.1) ∧ va_S A s.heap H locs) (fun f x => fn_X13_isSole_L5 F sh n h0 x0 f x.1 x.2.1 x.2.2) (z8, r8) ?_ (fun _ => rfl) F (z, 1, 0) ls H locs ⟨hl0, hP, hD, hS⟩ hf
  intro f_4 x ls H locs ih5 hI hf
  obtain ⟨z_3, p_1, p_2⟩ := x
  obtain ⟨hl2, hP2, hD2, hS2⟩ := hI
  replace hl : lv_has ls 5 [(4, .int p_2), (3, .int p_1), (0, .ref (a h0)), (1, .long x0)] := hl2
  replace hP := hP2
  replace hD := hD2
  replace hS := hS2
  clear hl2 hP2 hD2 hS2 hl0
  replace hf := fn_X13_isSole_L5_s hf
  refine lv_iload hx hb dX13_isSole_5 (lv_at hl 0 rfl) ?_
  refine lv_aload_n hx hb dX13_isSole_7 rfl (lv_at hl 2 rfl) ?_
  obtain ⟨g_5, hf⟩ := grd_some hf
  obtain ⟨kg_5, sg_5⟩ := okO_at g_5
  refine va_get (D := (dC, dI)) (ci := 13) (v := .int (z_3.1 h0 14)) (C := RX13) (T := TX13) (N := 22) hx hb hts iwd_X13_isSole_X13 hown hK hP h0 (Wd_ob kg_5 sg_5 (by decide)) rfl 14 (by decide) (hts _ md_X13_isSole_1) (fun _ h9 => h9) (fl_at (t := 0) rfl) dX13_isSole_8 ?_
  refine lv_icmp_ge (tgt := 67) hx hb dX13_isSole_11 (by decide) (fun c_6 => ?_) (fun c_6 => ?_)
  · skip
    rw [if_pos c_6] at hf
    refine lv_iconst (v := 0) hx hb dX13_isSole_67 (by decide) ?_
    refine lv_istore (lv' := [(4, .int 0), (3, .int p_1), (0, .ref (a h0)), (1, .long x0)]) hx hb dX13_isSole_68 hl (by decide) rfl (fun ls hl2 => ?_)
    replace hl := hl2
    clear hl2
    have hl0 : lv_has ls 5 [(4, .int 0), (3, .int p_1), (0, .ref (a h0)), (1, .long x0)] := lv_sub hl [0, 1, 2, 3] rfl
    refine de_loop (h := 70) (fun (x : St × Int32 × Int32) ls H locs => lv_has ls 5 [(4, .int x.2.2), (3, .int x.2.1), (0, .ref (a h0)), (1, .long x0)] ∧ va_P (dC, dI) vwCl (Wd cy a sh n x.1) H ∧ va_D A (Wd cy a sh n x.1) ∧ va_S A s.heap H locs) (fun f x => fn_X13_isSole_L70 F sh n h0 x0 f x.1 x.2.1 x.2.2) (z8, r8) ?_ (fun _ => rfl) F (z_3, p_1, 0) ls H locs ⟨hl0, hP, hD, hS⟩ hf
    intro f_10 x ls H locs ih70 hI hf
    obtain ⟨z_9, p_7, p_8⟩ := x
    obtain ⟨hl2, hP2, hD2, hS2⟩ := hI
    replace hl : lv_has ls 5 [(4, .int p_8), (3, .int p_7), (0, .ref (a h0)), (1, .long x0)] := hl2
    replace hP := hP2
    replace hD := hD2
    replace hS := hS2
    clear hl2 hP2 hD2 hS2 hl0
    replace hf := fn_X13_isSole_L70_s hf
    refine lv_iload hx hb dX13_isSole_70 (lv_at hl 0 rfl) ?_
    refine lv_aload_n hx hb dX13_isSole_72 rfl (lv_at hl 2 rfl) ?_
    refine va_get (D := (dC, dI)) (ci := 13) (v := .int (z_9.1 h0 2)) (C := RX13) (T := TX13) (N := 22) hx hb hts iwd_X13_isSole_X13 hown hK hP h0 (Wd_ob kg_5 sg_5 (by decide)) rfl 2 (by decide) (hts _ md_X13_isSole_5) (fun _ h9 => h9) (fl_at (t := 0) rfl) dX13_isSole_73 ?_
    refine lv_icmp_ge (tgt := 142) hx hb dX13_isSole_76 (by decide) (fun c_11 => ?_) (fun c_11 => ?_)
    · skip
      rw [if_pos c_11] at hf
      refine lv_iload_n hx hb dX13_isSole_142 rfl (lv_at hl 1 rfl) ?_
      obtain ⟨g_12, hf⟩ := grd_some hf
      obtain ⟨h8, h9⟩ := ret_some hf
      rw [h8, h9]
      exact W.zret (v := p_7) hx hb hr (nar_z g_12) (fun t ht hW => ⟨⟨p_7, (), rfl, rfl, by rw [ht]; exact hP, va_K.moved hW.alike hK, hD⟩, hS.F ht⟩) hS.2.2 dX13_isSole_143
    · skip
      rw [if_neg c_11] at hf
      refine lv_aload_n hx hb dX13_isSole_79 rfl (lv_at hl 2 rfl) ?_
      obtain ⟨k_13, ek_13, hf⟩ := lnk_some hf
      refine va_get (D := (dC, dI)) (ci := 13) (v := .ref (a k_13)) (C := RX13) (T := TX13) (N := 22) hx hb hts iwd_X13_isSole_X13 hown hK hP h0 (Wd_ob kg_5 sg_5 (by decide)) rfl 15 (by decide) (hts _ md_X13_isSole_6) (fun _ h9 => h9) (fl_q rfl ek_13) dX13_isSole_80 ?_
      refine lv_iload hx hb dX13_isSole_83 (lv_at hl 0 rfl) ?_
      obtain ⟨g_14, hf⟩ := grd_some hf
      obtain ⟨kg_14, sg_14, ig_14⟩ := okA_at g_14
      refine va_zald hx hb hK hP k_13 3 (Wd_az kg_14 sg_14) rfl ig_14 dX13_isSole_85 ?_
      refine de_cut (h := 136) (fun (x : St × Int32) => []) (fun x ls H locs => lv_has ls 5 [(3, .int x.2), (4, .int p_8), (0, .ref (a h0)), (1, .long x0)] ∧ va_P (dC, dI) vwCl (Wd cy a sh n x.1) H ∧ va_D A (Wd cy a sh n x.1) ∧ va_S A s.heap H locs) (fun x => fn_X13_isSole_B136 F sh n p_8 (fun z9 q3 q4 => fn_X13_isSole_L70 F sh n h0 x0 f_10 z9 q3 q4) x.1 x.2) (z8, r8) ?_ (fun B136 => ?_)
      · intro x ls H locs hI hf
        obtain ⟨z_16, p_15⟩ := x
        obtain ⟨hl2, hP2, hD2, hS2⟩ := hI
        replace hl : lv_has ls 5 [(3, .int p_15), (4, .int p_8), (0, .ref (a h0)), (1, .long x0)] := hl2
        replace hP := hP2
        replace hD := hD2
        replace hS := hS2
        clear hl2 hP2 hD2 hS2
        replace hf := fn_X13_isSole_B136_s hf
        refine W.eq (g2 := F0 m 136 ls []) rfl ?_
        refine lv_iinc (v := (p_8 + 1)) (lv' := [(4, .int (p_8 + 1)), (3, .int p_15), (0, .ref (a h0)), (1, .long x0)]) hx hb dX13_isSole_136 hl (k := 1) rfl rfl (by decide) rfl (fun ls hl2 => ?_)
        replace hl := hl2
        clear hl2
        refine lv_goto (tgt := 70) hx hb dX13_isSole_139 (by decide) ?_
        exact ih70 (z_16, p_15, (p_8 + 1)) ls H locs ⟨lv_sub hl [0, 1, 2, 3] rfl, hP, hD, hS⟩ hf
      refine lv_if_eq (tgt := 136) hx hb dX13_isSole_86 (by decide) (fun c_17 => ?_) (fun c_17 => ?_)
      · skip
        rw [if_pos c_17] at hf
        exact B136 (z_9, p_7) ls H locs ⟨lv_sub hl [1, 0, 2, 3] rfl, hP, hD, hS⟩ hf
      · skip
        rw [if_neg c_17] at hf
        refine lv_aload_n hx hb dX13_isSole_89 rfl (lv_at hl 2 rfl) ?_
        obtain ⟨k_18, ek_18, hf⟩ := lnk_some hf
        refine va_get (D := (dC, dI)) (ci := 13) (v := .ref (a k_18)) (C := RX13) (T := TX13) (N := 22) hx hb hts iwd_X13_isSole_X13 hown hK hP h0 (Wd_ob kg_5 sg_5 (by decide)) rfl 16 (by decide) (hts _ md_X13_isSole_7) (fun _ h9 => h9) (fl_q rfl ek_18) dX13_isSole_90 ?_
        refine lv_iload hx hb dX13_isSole_93 (lv_at hl 0 rfl) ?_
        obtain ⟨g_19, hf⟩ := grd_some hf
        obtain ⟨kg_19, sg_19, ig_19⟩ := okA_at g_19
        refine va_lald hx hb hK hP k_18 2 (Wd_al kg_19 sg_19) rfl ig_19 dX13_isSole_95 ?_
        refine lv_lload_n hx hb dX13_isSole_96 rfl (lv_at hl 3 rfl) ?_
        refine lv_land hx hb dX13_isSole_97 ?_
        refine lv_lconst (v := 0) hx hb dX13_isSole_98 (by decide) ?_
        refine W.lcmp hx hb dX13_isSole_99 ?_
        refine lv_if_eq (tgt := 136) hx hb dX13_isSole_100 (by decide) (fun c_20 => ?_) (fun c_20 => ?_)
        · skip
          rw [lg_cmp_eq] at c_20
          rw [if_pos c_20] at hf
          exact B136 (z_9, p_7) ls H locs ⟨lv_sub hl [1, 0, 2, 3] rfl, hP, hD, hS⟩ hf
        · skip
          rw [lg_cmp_eq] at c_20
          rw [if_neg c_20] at hf
          refine lv_iload_n hx hb dX13_isSole_103 rfl (lv_at hl 1 rfl) ?_
          refine de_cut (h := 135) (fun (x : St × Int32) => [.int x.2]) (fun x ls H locs => lv_has ls 5 [(4, .int p_8), (0, .ref (a h0)), (1, .long x0)] ∧ va_P (dC, dI) vwCl (Wd cy a sh n x.1) H ∧ va_D A (Wd cy a sh n x.1) ∧ va_S A s.heap H locs) (fun x => fn_X13_isSole_B135 F sh n p_8 (fun z9 q3 q4 => fn_X13_isSole_L70 F sh n h0 x0 f_10 z9 q3 q4) x.1 x.2) (z8, r8) ?_ (fun B135 => ?_)
          · intro x ls H locs hI hf
            obtain ⟨z_22, p_21⟩ := x
            obtain ⟨hl2, hP2, hD2, hS2⟩ := hI
            replace hl : lv_has ls 5 [(4, .int p_8), (0, .ref (a h0)), (1, .long x0)] := hl2
            replace hP := hP2
            replace hD := hD2
            replace hS := hS2
            clear hl2 hP2 hD2 hS2
            replace hf := fn_X13_isSole_B135_s hf
            refine W.eq (g2 := F0 m 135 ls [.int p_21]) rfl ?_
            refine lv_istore_n (lv' := [(3, .int p_21), (4, .int p_8), (0, .ref (a h0)), (1, .long x0)]) hx hb dX13_isSole_135 rfl hl (by decide) rfl (fun ls hl2 => ?_)
            replace hl := hl2
            clear hl2
            exact B136 (z_22, p_21) ls H locs ⟨lv_sub hl [0, 1, 2, 3] rfl, hP, hD, hS⟩ hf
          refine de_cut (h := 134) (fun (x : St) => []) (fun x ls H locs => lv_has ls 5 [(4, .int p_8), (0, .ref (a h0)), (1, .long x0)] ∧ va_P (dC, dI) vwCl (Wd cy a sh n x) H ∧ va_D A (Wd cy a sh n x) ∧ va_S A s.heap H locs) (fun x => fn_X13_isSole_B134 F sh n p_8 (fun z9 q3 q4 => fn_X13_isSole_L70 F sh n h0 x0 f_10 z9 q3 q4) x) (z8, r8) ?_ (fun B134 => ?_)
          · intro x ls H locs hI hf
            obtain ⟨z_23, ez⟩ : ∃ w, w = x := ⟨_, rfl⟩
            subst ez
            obtain ⟨hl2, hP2, hD2, hS2⟩ := hI
            replace hl : lv_has ls 5 [(4, .int p_8), (0, .ref (a h0)), (1, .long x0)] := hl2
            replace hP := hP2
            replace hD := hD2
            replace hS := hS2
            clear hl2 hP2 hD2 hS2
            replace hf := fn_X13_isSole_B134_s hf
            refine W.eq (g2 := F0 m 134 ls []) rfl ?_
            refine lv_iconst (v := 0) hx hb dX13_isSole_134 (by decide) ?_
            exact B135 (z_23, 0) ls H locs ⟨lv_sub hl [0, 1, 2] rfl, hP, hD, hS⟩ hf
          refine lv_if_eq (tgt := 134) hx hb dX13_isSole_104 (by decide) (fun c_24 => ?_) (fun c_24 => ?_)
          · skip
            rw [if_pos c_24] at hf
            exact B134 (z_9) ls H locs ⟨lv_sub hl [0, 2, 3] rfl, hP, hD, hS⟩ hf
          · skip
            rw [if_neg c_24] at hf
            refine lv_aload_n hx hb dX13_isSole_107 rfl (lv_at hl 2 rfl) ?_
            obtain ⟨k_25, ek_25, hf⟩ := lnk_some hf
            refine va_get (D := (dC, dI)) (ci := 13) (v := .ref (a k_25)) (C := RX13) (T := TX13) (N := 22) hx hb hts iwd_X13_isSole_X13 hown hK hP h0 (Wd_ob kg_5 sg_5 (by decide)) rfl 3 (by decide) (hts _ md_X13_isSole_8) (fun _ h9 => h9) (fl_q rfl ek_25) dX13_isSole_108 ?_
            refine lv_iload hx hb dX13_isSole_111 (lv_at hl 0 rfl) ?_
            obtain ⟨g_26, hf⟩ := grd_some hf
            obtain ⟨kg_26, sg_26, ig_26⟩ := okA_at g_26
            refine va_lald hx hb hK hP k_25 2 (Wd_al kg_26 sg_26) rfl ig_26 dX13_isSole_113 ?_
            obtain ⟨z_27, r_28, hfc, hf⟩ := cal_some hf
            have hFc := de_free hD hS hA
            refine va_calli (va_runS (As := [.long (z_9.2.1 k_25 p_8.toNatClampNeg)]) (rest := []) ⟨hx, hb, hml, hown, hts⟩ (de_X13_writes l dC dI cy a sh n H.size F z_9 (z_9.2.1 k_25 p_8.toNatClampNeg) hfc) (va_cwS 1 hts gX13_isSole_X13_writes rfl rfl rfl (by decide +kernel) ⟨Nat.le_of_ble_eq_true rfl, Nat.le_of_ble_eq_true rfl⟩) ⟨fun a U g mk q => by obtain ⟨q0, q1, qP, qK, qD, qN⟩ := q; exact ⟨q0, q1, qP, va_K.moved (u := U) (U := U.calling g mk a) (Vm.Alike.refl U.vm) qK, qD, qN.same rfl⟩, fun U hU hW => ⟨rfl, by rw [hU], by rw [hU]; exact hP, va_K.moved hW.alike hK, hD.weaken (fun _ _ _ _ => trivial), hN.warm hW⟩⟩ rfl rfl hl.1 rfl (lv_room (Nat.le_of_ble_eq_true rfl)) dX13_isSole_114 ⟨Nat.le_of_ble_eq_true rfl, Nat.le_of_ble_eq_true rfl⟩) hS (fun q _ h => hFc q h) hFc (fun rr u t H_29 locs ht hvm hw hB hz1 hk1 hS2 => ?_)
            rw [hw]
            clear hw
            obtain ⟨hP1, -, hD1⟩ := hB
            rw [ht] at hP1
            replace hD := hD1.weaken (fun _ _ _ h => hFc _ h)
            replace hP := hP1
            replace hS := hS2
            clear hP1 hD1 hS2 hFc hfc hz1 hk1 hvm ht
            refine lv_if_eq (tgt := 134) hx hb dX13_isSole_117 (by decide) (fun c_30 => ?_) (fun c_30 => ?_)
            · skip
              rw [if_pos c_30] at hf
              exact B134 (z_27) ls H_29 locs ⟨lv_sub hl [0, 2, 3] rfl, hP, hD, hS⟩ hf
            · skip
              rw [if_neg c_30] at hf
              refine lv_aload_n hx hb dX13_isSole_120 rfl (lv_at hl 2 rfl) ?_
              obtain ⟨k_31, ek_31, hf⟩ := lnk_some hf
              refine va_get (D := (dC, dI)) (ci := 13) (v := .ref (a k_31)) (C := RX13) (T := TX13) (N := 22) hx hb hts iwd_X13_isSole_X13 hown hK hP h0 (Wd_ob kg_5 sg_5 (by decide)) rfl 17 (by decide) (hts _ md_X13_isSole_9) (fun _ h9 => h9) (fl_q rfl ek_31) dX13_isSole_121 ?_
              refine lv_iload hx hb dX13_isSole_124 (lv_at hl 0 rfl) ?_
              obtain ⟨g_32, hf⟩ := grd_some hf
              obtain ⟨kg_32, sg_32, ig_32⟩ := okA_at g_32
              refine va_zald hx hb hK hP k_31 3 (Wd_az kg_32 sg_32) rfl ig_32 dX13_isSole_126 ?_
              refine lv_if_ne (tgt := 134) hx hb dX13_isSole_127 (by decide) (fun c_33 => ?_) (fun c_33 => ?_)
              · skip
                rw [if_neg c_33] at hf
                exact B134 (z_27) ls H_29 locs ⟨lv_sub hl [0, 2, 3] rfl, hP, hD, hS⟩ hf
              · skip
                rw [if_pos c_33] at hf
                refine lv_iconst (v := 1) hx hb dX13_isSole_130 (by decide) ?_
                refine lv_goto (tgt := 135) hx hb dX13_isSole_131 (by decide) ?_
                exact B135 (z_27, 1) ls H_29 locs ⟨lv_sub hl [0, 2, 3] rfl, hP, hD, hS⟩ hf
  · skip
    rw [if_neg c_6] at hf
    refine lv_iload_n hx hb dX13_isSole_14 rfl (lv_at hl 1 rfl) ?_
    refine de_cut (h := 60) (fun (x : St × Int32) => [.int x.2]) (fun x ls H locs => lv_has ls 5 [(4, .int p_2), (0, .ref (a h0)), (1, .long x0)] ∧ va_P (dC, dI) vwCl (Wd cy a sh n x.1) H ∧ va_D A (Wd cy a sh n x.1) ∧ va_S A s.heap H locs) (fun x => fn_X13_isSole_B60 F sh n p_2 (fun z9 q3 q4 => fn_X13_isSole_L5 F sh n h0 x0 f_4 z9 q3 q4) x.1 x.2) (z8, r8) ?_ (fun B60 => ?_)
    · intro x ls H locs hI hf
      obtain ⟨z_35, p_34⟩ := x
      obtain ⟨hl2, hP2, hD2, hS2⟩ := hI
      replace hl : lv_has ls 5 [(4, .int p_2), (0, .ref (a h0)), (1, .long x0)] := hl2
      replace hP := hP2
      replace hD := hD2
      replace hS := hS2
      clear hl2 hP2 hD2 hS2
      replace hf := fn_X13_isSole_B60_s hf
      refine W.eq (g2 := F0 m 60 ls [.int p_34]) rfl ?_
      refine lv_istore_n (lv' := [(3, .int p_34), (4, .int p_2), (0, .ref (a h0)), (1, .long x0)]) hx hb dX13_isSole_60 rfl hl (by decide) rfl (fun ls hl2 => ?_)
      replace hl := hl2
      clear hl2
      refine lv_iinc (v := (p_2 + 1)) (lv' := [(4, .int (p_2 + 1)), (3, .int p_34), (0, .ref (a h0)), (1, .long x0)]) hx hb dX13_isSole_61 hl (k := 1) rfl rfl (by decide) rfl (fun ls hl2 => ?_)
      replace hl := hl2
      clear hl2
      refine lv_goto (tgt := 5) hx hb dX13_isSole_64 (by decide) ?_
      exact ih5 (z_35, p_34, (p_2 + 1)) ls H locs ⟨lv_sub hl [0, 1, 2, 3] rfl, hP, hD, hS⟩ hf
    refine de_cut (h := 59) (fun (x : St) => []) (fun x ls H locs => lv_has ls 5 [(4, .int p_2), (0, .ref (a h0)), (1, .long x0)] ∧ va_P (dC, dI) vwCl (Wd cy a sh n x) H ∧ va_D A (Wd cy a sh n x) ∧ va_S A s.heap H locs) (fun x => fn_X13_isSole_B59 F sh n p_2 (fun z9 q3 q4 => fn_X13_isSole_L5 F sh n h0 x0 f_4 z9 q3 q4) x) (z8, r8) ?_ (fun B59 => ?_)
    · intro x ls H locs hI hf
      obtain ⟨z_36, ez⟩ : ∃ w, w = x := ⟨_, rfl⟩
      subst ez
      obtain ⟨hl2, hP2, hD2, hS2⟩ := hI
      replace hl : lv_has ls 5 [(4, .int p_2), (0, .ref (a h0)), (1, .long x0)] := hl2
      replace hP := hP2
      replace hD := hD2
      replace hS := hS2
      clear hl2 hP2 hD2 hS2
      replace hf := fn_X13_isSole_B59_s hf
      refine W.eq (g2 := F0 m 59 ls []) rfl ?_
      refine lv_iconst (v := 0) hx hb dX13_isSole_59 (by decide) ?_
      exact B60 (z_36, 0) ls H locs ⟨lv_sub hl [0, 1, 2] rfl, hP, hD, hS⟩ hf
    refine lv_if_eq (tgt := 59) hx hb dX13_isSole_15 (by decide) (fun c_37 => ?_) (fun c_37 => ?_)
    · skip
      rw [if_pos c_37] at hf
      exact B59 (z_3) ls H locs ⟨lv_sub hl [0, 2, 3] rfl, hP, hD, hS⟩ hf
    · skip
      rw [if_neg c_37] at hf
      refine lv_aload_n hx hb dX13_isSole_18 rfl (lv_at hl 2 rfl) ?_
      obtain ⟨k_38, ek_38, hf⟩ := lnk_some hf
      refine va_get (D := (dC, dI)) (ci := 13) (v := .ref (a k_38)) (C := RX13) (T := TX13) (N := 22) hx hb hts iwd_X13_isSole_X13 hown hK hP h0 (Wd_ob kg_5 sg_5 (by decide)) rfl 12 (by decide) (hts _ md_X13_isSole_2) (fun _ h9 => h9) (fl_q rfl ek_38) dX13_isSole_19 ?_
      refine lv_iload hx hb dX13_isSole_22 (lv_at hl 0 rfl) ?_
      obtain ⟨g_39, hf⟩ := grd_some hf
      obtain ⟨kg_39, sg_39, ig_39⟩ := okA_at g_39
      refine va_lald hx hb hK hP k_38 2 (Wd_al kg_39 sg_39) rfl ig_39 dX13_isSole_24 ?_
      refine lv_lload_n hx hb dX13_isSole_25 rfl (lv_at hl 3 rfl) ?_
      refine lv_land hx hb dX13_isSole_26 ?_
      refine lv_lconst (v := 0) hx hb dX13_isSole_27 (by decide) ?_
      refine W.lcmp hx hb dX13_isSole_28 ?_
      refine de_cut (h := 55) (fun (x : St) => []) (fun x ls H locs => lv_has ls 5 [(4, .int p_2), (0, .ref (a h0)), (1, .long x0)] ∧ va_P (dC, dI) vwCl (Wd cy a sh n x) H ∧ va_D A (Wd cy a sh n x) ∧ va_S A s.heap H locs) (fun x => fn_X13_isSole_B55 F sh n p_2 (fun z9 q3 q4 => fn_X13_isSole_L5 F sh n h0 x0 f_4 z9 q3 q4) x) (z8, r8) ?_ (fun B55 => ?_)
      · intro x ls H locs hI hf
        obtain ⟨z_40, ez⟩ : ∃ w, w = x := ⟨_, rfl⟩
        subst ez
        obtain ⟨hl2, hP2, hD2, hS2⟩ := hI
        replace hl : lv_has ls 5 [(4, .int p_2), (0, .ref (a h0)), (1, .long x0)] := hl2
        replace hP := hP2
        replace hD := hD2
        replace hS := hS2
        clear hl2 hP2 hD2 hS2
        replace hf := fn_X13_isSole_B55_s hf
        refine W.eq (g2 := F0 m 55 ls []) rfl ?_
        refine lv_iconst (v := 1) hx hb dX13_isSole_55 (by decide) ?_
        refine lv_goto (tgt := 60) hx hb dX13_isSole_56 (by decide) ?_
        exact B60 (z_40, 1) ls H locs ⟨lv_sub hl [0, 1, 2] rfl, hP, hD, hS⟩ hf
      refine lv_if_eq (tgt := 55) hx hb dX13_isSole_29 (by decide) (fun c_41 => ?_) (fun c_41 => ?_)
      · skip
        rw [lg_cmp_eq] at c_41
        rw [if_pos c_41] at hf
        exact B55 (z_3) ls H locs ⟨lv_sub hl [0, 2, 3] rfl, hP, hD, hS⟩ hf
      · skip
        rw [lg_cmp_eq] at c_41
        rw [if_neg c_41] at hf
        refine lv_aload_n hx hb dX13_isSole_32 rfl (lv_at hl 2 rfl) ?_
        obtain ⟨k_42, ek_42, hf⟩ := lnk_some hf
        refine va_get (D := (dC, dI)) (ci := 13) (v := .ref (a k_42)) (C := RX13) (T := TX13) (N := 22) hx hb hts iwd_X13_isSole_X13 hown hK hP h0 (Wd_ob kg_5 sg_5 (by decide)) rfl 11 (by decide) (hts _ md_X13_isSole_3) (fun _ h9 => h9) (fl_q rfl ek_42) dX13_isSole_33 ?_
        refine lv_iload hx hb dX13_isSole_36 (lv_at hl 0 rfl) ?_
        obtain ⟨g_43, hf⟩ := grd_some hf
        obtain ⟨kg_43, sg_43, ig_43⟩ := okA_at g_43
        refine va_lald hx hb hK hP k_42 2 (Wd_al kg_43 sg_43) rfl ig_43 dX13_isSole_38 ?_
        obtain ⟨z_44, r_45, hfc, hf⟩ := cal_some hf
        have hFc := de_free hD hS hA
        refine va_calli (va_runS (As := [.long (z_3.2.1 k_42 p_2.toNatClampNeg)]) (rest := []) ⟨hx, hb, hml, hown, hts⟩ (de_X13_writes l dC dI cy a sh n H.size F z_3 (z_3.2.1 k_42 p_2.toNatClampNeg) hfc) (va_cwS 1 hts gX13_isSole_X13_writes rfl rfl rfl (by decide +kernel) ⟨Nat.le_of_ble_eq_true rfl, Nat.le_of_ble_eq_true rfl⟩) ⟨fun a U g mk q => by obtain ⟨q0, q1, qP, qK, qD, qN⟩ := q; exact ⟨q0, q1, qP, va_K.moved (u := U) (U := U.calling g mk a) (Vm.Alike.refl U.vm) qK, qD, qN.same rfl⟩, fun U hU hW => ⟨rfl, by rw [hU], by rw [hU]; exact hP, va_K.moved hW.alike hK, hD.weaken (fun _ _ _ _ => trivial), hN.warm hW⟩⟩ rfl rfl hl.1 rfl (lv_room (Nat.le_of_ble_eq_true rfl)) dX13_isSole_39 ⟨Nat.le_of_ble_eq_true rfl, Nat.le_of_ble_eq_true rfl⟩) hS (fun q _ h => hFc q h) hFc (fun rr u t H_46 locs ht hvm hw hB hz1 hk1 hS2 => ?_)
        rw [hw]
        clear hw
        obtain ⟨hP1, -, hD1⟩ := hB
        rw [ht] at hP1
        replace hD := hD1.weaken (fun _ _ _ h => hFc _ h)
        replace hP := hP1
        replace hS := hS2
        clear hP1 hD1 hS2 hFc hfc hz1 hk1 hvm ht
        refine lv_if_eq (tgt := 59) hx hb dX13_isSole_42 (by decide) (fun c_47 => ?_) (fun c_47 => ?_)
        · skip
          rw [if_pos c_47] at hf
          exact B59 (z_44) ls H_46 locs ⟨lv_sub hl [0, 2, 3] rfl, hP, hD, hS⟩ hf
        · skip
          rw [if_neg c_47] at hf
          refine lv_aload_n hx hb dX13_isSole_45 rfl (lv_at hl 2 rfl) ?_
          obtain ⟨k_48, ek_48, hf⟩ := lnk_some hf
          refine va_get (D := (dC, dI)) (ci := 13) (v := .ref (a k_48)) (C := RX13) (T := TX13) (N := 22) hx hb hts iwd_X13_isSole_X13 hown hK hP h0 (Wd_ob kg_5 sg_5 (by decide)) rfl 13 (by decide) (hts _ md_X13_isSole_4) (fun _ h9 => h9) (fl_q rfl ek_48) dX13_isSole_46 ?_
          refine lv_iload hx hb dX13_isSole_49 (lv_at hl 0 rfl) ?_
          obtain ⟨g_49, hf⟩ := grd_some hf
          obtain ⟨kg_49, sg_49, ig_49⟩ := okA_at g_49
          refine va_zald hx hb hK hP k_48 3 (Wd_az kg_49 sg_49) rfl ig_49 dX13_isSole_51 ?_
          refine lv_if_ne (tgt := 59) hx hb dX13_isSole_52 (by decide) (fun c_50 => ?_) (fun c_50 => ?_)
          · skip
            rw [if_neg c_50] at hf
            exact B59 (z_44) ls H_46 locs ⟨lv_sub hl [0, 2, 3] rfl, hP, hD, hS⟩ hf
          · skip
            rw [if_pos c_50] at hf
            exact B55 (z_44) ls H_46 locs ⟨lv_sub hl [0, 2, 3] rfl, hP, hD, hS⟩ hf

