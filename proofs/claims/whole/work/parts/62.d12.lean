set_option maxHeartbeats 4000000 in
set_option maxRecDepth 100000 in
theorem de_X18_isFunctionAs (l : Launch) (dC : Nat → ClassId) (dI : Nat → Nat → Nat) (cy : Nat → ClassId) (a : Nat → Nat) (sh : Nat → Nat × Nat) (n sz : Nat) (F : Nat) (z : St) (h0 : Nat) (x0 : Nat) (x1 : Int32) {z8 : St} {r8 : Int32} (hf : fn_X18_isFunctionAs F sh n z h0 x0 x1 = some (z8, r8)) : Met l yX18_isFunctionAs wsX18_isFunctionAs ({ frames := 8, cells := 0, slots := 0, locals := 191 }) (va_Pc [.ref (a h0), .ref (a x0), .int x1] (fun U => U.heap.size = sz ∧ va_P (dC, dI) vwCl (Wd cy a sh n z) U.heap ∧ va_K (dC, dI) vwCl (TYS cy) U ∧ va_D (fun _ => True) (Wd cy a sh n z) ∧ NK U)) (va_Qi (fun (r9 : Int32) (u : Unit) => r9 = r8) (fun u t => va_P (dC, dI) vwCl (Wd cy a sh n z8) t.heap ∧ va_K (dC, dI) vwCl (TYS cy) t ∧ va_D (va_A (Wd cy a sh n z) sz) (Wd cy a sh n z8)) (va_A (Wd cy a sh n z) sz)) 0 0 (va_A (Wd cy a sh n z) sz) := by
  refine Met.ofW (cc := cX18_isFunctionAs) (maxL := 6) (ret := (some .boolean)) (by decide) rfl ?_
  intro p e s m args below meth c s₁ B hml hv
  obtain ⟨rfl, hsz, hP, hK, hD0, hN⟩ := hv
  have hx := B.exec
  have hb := B.bytes
  have hr := B.returns
  have hts := atoms_spec (ws := wsX18_isFunctionAs) B.pre
  have hown : s.vm.findClass RX18 = some m.cls := findClass_of_methodNamed B.named
  have hlocks := B.notSynchronized
  subst hsz
  have hD := hD0.self (sz := s.heap.size)
  clear hD0
  generalize hAe : va_A (Wd cy a sh n z) s.heap.size = A at hD ⊢
  have hA : ∀ q : Nat, s.heap.size ≤ q → A q := fun q h => by rw [← hAe]; exact Or.inr h
  clear hAe
  have hS : va_S A s.heap s.heap [] := va_S.rf
  have hl := lv_entry ([.ref (a h0), .ref (a x0), .int x1]) (n := 6) (Nat.le_of_ble_eq_true rfl)
  rw [lg_entry_eq]
  generalize (lg_sl ([.ref (a h0), .ref (a x0), .int x1]) ++ List.replicate (6 - (lg_sl ([.ref (a h0), .ref (a x0), .int x1])).length) Slot.unset).toArray = ls at hl ⊢
  replace hl : lv_has ls 6 [(0, .ref (a h0)), (1, .ref (a x0)), (2, .int x1)] := hl
  unfold fn_X18_isFunctionAs at hf
  refine de_start hS hP (fun H locs hS hP => ?_)
  refine lv_aload_n hx hb dX18_isFunctionAs_0 rfl (lv_at hl 1 rfl) ?_
  refine lv_iload_n hx hb dX18_isFunctionAs_1 rfl (lv_at hl 2 rfl) ?_
  obtain ⟨g_3, hf⟩ := grd_some hf
  obtain ⟨kg_3, sg_3⟩ := okO_at g_3
  obtain ⟨z_1, r_2, hfc, hf⟩ := cal_some hf
  have hFc := de_free hD hS hA
  refine va_calli (va_runV (As := [.int x1]) (rest := []) ⟨hx, hb, hml, hown, hts⟩ (de_X16_foreignModule l dC dI cy a sh n H.size F z x0 x1 hfc) (cwV 1 hts gX18_isFunctionAs_X16_foreignModule rfl rfl rfl (by decide +kernel) ⟨Nat.le_of_ble_eq_true rfl, Nat.le_of_ble_eq_true rfl⟩) ⟨fun a U g mk q => by obtain ⟨q0, q1, qP, qK, qD, qN⟩ := q; exact ⟨q0, q1, qP, va_K.moved (u := U) (U := U.calling g mk a) (Vm.Alike.refl U.vm) qK, qD, qN.same rfl⟩, va_recv hK hP (ci := 16) (q0 := x0) rfl (Wd_ob kg_3 sg_3 (by decide)), fun U hU hW => ⟨rfl, by rw [hU], by rw [hU]; exact hP, va_K.moved hW.alike hK, hD.weaken (fun _ _ _ _ => trivial), hN.warm hW⟩⟩ rfl rfl hl.1 rfl (lv_room (Nat.le_of_ble_eq_true rfl)) dX18_isFunctionAs_2 ⟨Nat.le_of_ble_eq_true rfl, Nat.le_of_ble_eq_true rfl⟩) hS (fun q _ h => hFc q h) hFc (fun rr u t H_4 locs ht hvm hw hB hz1 hk1 hS2 => ?_)
  rw [hw]
  clear hw
  obtain ⟨hP1, -, hD1⟩ := hB
  rw [ht] at hP1
  replace hD := hD1.weaken (fun _ _ _ h => hFc _ h)
  replace hP := hP1
  replace hS := hS2
  clear hP1 hD1 hS2 hFc hfc hz1 hk1 hvm ht
  refine lv_istore_n (lv' := [(3, .int r_2), (0, .ref (a h0)), (1, .ref (a x0)), (2, .int x1)]) hx hb dX18_isFunctionAs_5 rfl hl (by decide) rfl (fun ls hl2 => ?_)
  replace hl := hl2
  clear hl2
  refine lv_aload_n hx hb dX18_isFunctionAs_6 rfl (lv_at hl 2 rfl) ?_
  refine lv_iload_n hx hb dX18_isFunctionAs_7 rfl (lv_at hl 3 rfl) ?_
  obtain ⟨z_5, r_6, hfc, hf⟩ := cal_some hf
  have hFc := de_free hD hS hA
  refine va_calli (va_runV (As := [.int x1]) (rest := []) ⟨hx, hb, hml, hown, hts⟩ (de_X16_foreignNumber l dC dI cy a sh n H_4.size F z_1 x0 x1 hfc) (cwV 1 hts gX18_isFunctionAs_X16_foreignNumber rfl rfl rfl (by decide +kernel) ⟨Nat.le_of_ble_eq_true rfl, Nat.le_of_ble_eq_true rfl⟩) ⟨fun a U g mk q => by obtain ⟨q0, q1, qP, qK, qD, qN⟩ := q; exact ⟨q0, q1, qP, va_K.moved (u := U) (U := U.calling g mk a) (Vm.Alike.refl U.vm) qK, qD, qN.same rfl⟩, va_recv hK hP (ci := 16) (q0 := x0) rfl (Wd_ob kg_3 sg_3 (by decide)), fun U hU hW => ⟨rfl, by rw [hU], by rw [hU]; exact hP, va_K.moved hW.alike hK, hD.weaken (fun _ _ _ _ => trivial), hN.warm hW⟩⟩ rfl rfl hl.1 rfl (lv_room (Nat.le_of_ble_eq_true rfl)) dX18_isFunctionAs_8 ⟨Nat.le_of_ble_eq_true rfl, Nat.le_of_ble_eq_true rfl⟩) hS (fun q _ h => hFc q h) hFc (fun rr u t H_7 locs ht hvm hw hB hz1 hk1 hS2 => ?_)
  rw [hw]
  clear hw
  obtain ⟨hP1, -, hD1⟩ := hB
  rw [ht] at hP1
  replace hD := hD1.weaken (fun _ _ _ h => hFc _ h)
  replace hP := hP1
  replace hS := hS2
  clear hP1 hD1 hS2 hFc hfc hz1 hk1 hvm ht
  refine lv_istore (lv' := [(4, .int r_6), (3, .int r_2), (0, .ref (a h0)), (1, .ref (a x0)), (2, .int x1)]) hx hb dX18_isFunctionAs_11 hl (by decide) rfl (fun ls hl2 => ?_)
  replace hl := hl2
  clear hl2
  refine lv_aload_n hx hb dX18_isFunctionAs_13 rfl (lv_at hl 2 rfl) ?_
  refine lv_iload_n hx hb dX18_isFunctionAs_14 rfl (lv_at hl 1 rfl) ?_
  refine lv_iload hx hb dX18_isFunctionAs_15 (lv_at hl 0 rfl) ?_
  refine lv_iconst (v := 0) hx hb dX18_isFunctionAs_17 (by decide) ?_
  obtain ⟨g_10, hf⟩ := grd_some hf
  obtain ⟨kg_10, sg_10⟩ := okO_at g_10
  obtain ⟨z_8, r_9, hfc, hf⟩ := cal_some hf
  have hFc := de_free hD hS hA
  refine va_calli (va_runV (As := [.int r_2, .int r_6, .int 0]) (rest := []) ⟨hx, hb, hml, hown, hts⟩ (de_X18_isThere l dC dI cy a sh n H_7.size F z_5 h0 r_2 r_6 0 hfc) (cwV 3 hts gX18_isFunctionAs_X18_isThere rfl rfl rfl (by decide +kernel) ⟨Nat.le_of_ble_eq_true rfl, Nat.le_of_ble_eq_true rfl⟩) ⟨fun a U g mk q => by obtain ⟨q0, q1, qP, qK, qD, qN⟩ := q; exact ⟨q0, q1, qP, va_K.moved (u := U) (U := U.calling g mk a) (Vm.Alike.refl U.vm) qK, qD, qN.same rfl⟩, va_recv hK hP (ci := 18) (q0 := h0) rfl (Wd_ob kg_10 sg_10 (by decide)), fun U hU hW => ⟨rfl, by rw [hU], by rw [hU]; exact hP, va_K.moved hW.alike hK, hD.weaken (fun _ _ _ _ => trivial), hN.warm hW⟩⟩ rfl rfl hl.1 rfl (lv_room (Nat.le_of_ble_eq_true rfl)) dX18_isFunctionAs_18 ⟨Nat.le_of_ble_eq_true rfl, Nat.le_of_ble_eq_true rfl⟩) hS (fun q _ h => hFc q h) hFc (fun rr u t H_11 locs ht hvm hw hB hz1 hk1 hS2 => ?_)
  rw [hw]
  clear hw
  obtain ⟨hP1, -, hD1⟩ := hB
  rw [ht] at hP1
  replace hD := hD1.weaken (fun _ _ _ h => hFc _ h)
  replace hP := hP1
  replace hS := hS2
  clear hP1 hD1 hS2 hFc hfc hz1 hk1 hvm ht
  refine lv_if_ne (tgt := 26) hx hb dX18_isFunctionAs_21 (by decide) (fun c_12 => ?_) (fun c_12 => ?_)
  · skip
    rw [if_neg c_12] at hf
    refine lv_aload_n hx hb dX18_isFunctionAs_26 rfl (lv_at hl 2 rfl) ?_
    refine lv_iload_n hx hb dX18_isFunctionAs_27 rfl (lv_at hl 1 rfl) ?_
    refine lv_iload hx hb dX18_isFunctionAs_28 (lv_at hl 0 rfl) ?_
    obtain ⟨z_13, r_14, hfc, hf⟩ := cal_some hf
    have hFc := de_free hD hS hA
    refine va_calli (va_runV (As := [.int r_2, .int r_6]) (rest := []) ⟨hx, hb, hml, hown, hts⟩ (de_X18_flagsThere l dC dI cy a sh n H_11.size F z_8 h0 r_2 r_6 hfc) (cwV 2 hts gX18_isFunctionAs_X18_flagsThere rfl rfl rfl (by decide +kernel) ⟨Nat.le_of_ble_eq_true rfl, Nat.le_of_ble_eq_true rfl⟩) ⟨fun a U g mk q => by obtain ⟨q0, q1, qP, qK, qD, qN⟩ := q; exact ⟨q0, q1, qP, va_K.moved (u := U) (U := U.calling g mk a) (Vm.Alike.refl U.vm) qK, qD, qN.same rfl⟩, va_recv hK hP (ci := 18) (q0 := h0) rfl (Wd_ob kg_10 sg_10 (by decide)), fun U hU hW => ⟨rfl, by rw [hU], by rw [hU]; exact hP, va_K.moved hW.alike hK, hD.weaken (fun _ _ _ _ => trivial), hN.warm hW⟩⟩ rfl rfl hl.1 rfl (lv_room (Nat.le_of_ble_eq_true rfl)) dX18_isFunctionAs_30 ⟨Nat.le_of_ble_eq_true rfl, Nat.le_of_ble_eq_true rfl⟩) hS (fun q _ h => hFc q h) hFc (fun rr u t H_15 locs ht hvm hw hB hz1 hk1 hS2 => ?_)
    rw [hw]
    clear hw
    obtain ⟨hP1, -, hD1⟩ := hB
    rw [ht] at hP1
    replace hD := hD1.weaken (fun _ _ _ h => hFc _ h)
    replace hP := hP1
    replace hS := hS2
    clear hP1 hD1 hS2 hFc hfc hz1 hk1 hvm ht
    refine lv_istore (lv' := [(5, .int r_14), (4, .int r_6), (3, .int r_2), (0, .ref (a h0)), (1, .ref (a x0)), (2, .int x1)]) hx hb dX18_isFunctionAs_33 hl (by decide) rfl (fun ls hl2 => ?_)
    replace hl := hl2
    clear hl2
    refine lv_iload hx hb dX18_isFunctionAs_35 (lv_at hl 0 rfl) ?_
    refine lv_iconst (v := 1) hx hb dX18_isFunctionAs_37 (by decide) ?_
    refine lv_iand hx hb dX18_isFunctionAs_38 ?_
    refine lv_iconst (v := 1) hx hb dX18_isFunctionAs_39 (by decide) ?_
    refine lv_icmp_ne (tgt := 87) hx hb dX18_isFunctionAs_40 (by decide) (fun c_16 => ?_) (fun c_16 => ?_)
    · skip
      rw [if_neg c_16] at hf
      refine lv_iconst (v := 0) hx hb dX18_isFunctionAs_87 (by decide) ?_
      obtain ⟨h8, h9⟩ := ret_some hf
      rw [h8, h9]
      exact W.zret (v := 0) hx hb hr rfl (fun t ht hW => ⟨⟨0, (), rfl, rfl, by rw [ht]; exact hP, va_K.moved hW.alike hK, hD⟩, hS.F ht⟩) hS.2.2 dX18_isFunctionAs_88
    · skip
      rw [if_pos c_16] at hf
      refine lv_iload hx hb dX18_isFunctionAs_43 (lv_at hl 0 rfl) ?_
      refine lv_iconst (v := 4) hx hb dX18_isFunctionAs_45 (by decide) ?_
      refine lv_iand hx hb dX18_isFunctionAs_46 ?_
      refine lv_aload_n hx hb dX18_isFunctionAs_47 rfl (lv_at hl 4 rfl) ?_
      refine lv_iload_n hx hb dX18_isFunctionAs_48 rfl (lv_at hl 5 rfl) ?_
      obtain ⟨z_17, r_18, hfc, hf⟩ := cal_some hf
      have hFc := de_free hD hS hA
      refine va_calli (va_runV (As := [.int x1]) (rest := [.int (r_14 &&& 4)]) ⟨hx, hb, hml, hown, hts⟩ (de_X16_flags l dC dI cy a sh n H_15.size F z_13 x0 x1 hfc) (cwV 1 hts gX18_isFunctionAs_X16_flags rfl rfl rfl (by decide +kernel) ⟨Nat.le_of_ble_eq_true rfl, Nat.le_of_ble_eq_true rfl⟩) ⟨fun a U g mk q => by obtain ⟨q0, q1, qP, qK, qD, qN⟩ := q; exact ⟨q0, q1, qP, va_K.moved (u := U) (U := U.calling g mk a) (Vm.Alike.refl U.vm) qK, qD, qN.same rfl⟩, va_recv hK hP (ci := 16) (q0 := x0) rfl (Wd_ob kg_3 sg_3 (by decide)), fun U hU hW => ⟨rfl, by rw [hU], by rw [hU]; exact hP, va_K.moved hW.alike hK, hD.weaken (fun _ _ _ _ => trivial), hN.warm hW⟩⟩ rfl rfl hl.1 rfl (lv_room (Nat.le_of_ble_eq_true rfl)) dX18_isFunctionAs_49 ⟨Nat.le_of_ble_eq_true rfl, Nat.le_of_ble_eq_true rfl⟩) hS (fun q _ h => hFc q h) hFc (fun rr u t H_19 locs ht hvm hw hB hz1 hk1 hS2 => ?_)
      rw [hw]
      clear hw
      obtain ⟨hP1, -, hD1⟩ := hB
      rw [ht] at hP1
      replace hD := hD1.weaken (fun _ _ _ h => hFc _ h)
      replace hP := hP1
      replace hS := hS2
      clear hP1 hD1 hS2 hFc hfc hz1 hk1 hvm ht
      refine lv_iconst (v := 4) hx hb dX18_isFunctionAs_52 (by decide) ?_
      refine lv_iand hx hb dX18_isFunctionAs_53 ?_
      refine lv_icmp_ne (tgt := 87) hx hb dX18_isFunctionAs_54 (by decide) (fun c_20 => ?_) (fun c_20 => ?_)
      · skip
        rw [if_neg c_20] at hf
        refine lv_iconst (v := 0) hx hb dX18_isFunctionAs_87 (by decide) ?_
        obtain ⟨h8, h9⟩ := ret_some hf
        rw [h8, h9]
        exact W.zret (v := 0) hx hb hr rfl (fun t ht hW => ⟨⟨0, (), rfl, rfl, by rw [ht]; exact hP, va_K.moved hW.alike hK, hD⟩, hS.F ht⟩) hS.2.2 dX18_isFunctionAs_88
      · skip
        rw [if_pos c_20] at hf
        refine lv_aload_n hx hb dX18_isFunctionAs_57 rfl (lv_at hl 3 rfl) ?_
        refine lv_aload_n hx hb dX18_isFunctionAs_58 rfl (lv_at hl 4 rfl) ?_
        refine lv_iload_n hx hb dX18_isFunctionAs_59 rfl (lv_at hl 5 rfl) ?_
        refine lv_iload_n hx hb dX18_isFunctionAs_60 rfl (lv_at hl 2 rfl) ?_
        refine lv_iload hx hb dX18_isFunctionAs_61 (lv_at hl 1 rfl) ?_
        refine lv_iconst (v := 0) hx hb dX18_isFunctionAs_63 (by decide) ?_
        obtain ⟨z_21, r_22, hfc, hf⟩ := cal_some hf
        have hFc := de_free hD hS hA
        refine va_calli (va_runV (As := [.ref (a x0), .int x1, .int r_2, .int r_6, .int 0]) (rest := []) ⟨hx, hb, hml, hown, hts⟩ (de_X18_isSameList l dC dI cy a sh n H_19.size F z_17 h0 x0 x1 r_2 r_6 0 hfc) (cwV 5 hts gX18_isFunctionAs_X18_isSameList rfl rfl rfl (by decide +kernel) ⟨Nat.le_of_ble_eq_true rfl, Nat.le_of_ble_eq_true rfl⟩) ⟨fun a U g mk q => by obtain ⟨q0, q1, qP, qK, qD, qN⟩ := q; exact ⟨q0, q1, qP, va_K.moved (u := U) (U := U.calling g mk a) (Vm.Alike.refl U.vm) qK, qD, qN.same rfl⟩, va_recv hK hP (ci := 18) (q0 := h0) rfl (Wd_ob kg_10 sg_10 (by decide)), fun U hU hW => ⟨rfl, by rw [hU], by rw [hU]; exact hP, va_K.moved hW.alike hK, hD.weaken (fun _ _ _ _ => trivial), hN.warm hW⟩⟩ rfl rfl hl.1 rfl (lv_room (Nat.le_of_ble_eq_true rfl)) dX18_isFunctionAs_64 ⟨Nat.le_of_ble_eq_true rfl, Nat.le_of_ble_eq_true rfl⟩) hS (fun q _ h => hFc q h) hFc (fun rr u t H_23 locs ht hvm hw hB hz1 hk1 hS2 => ?_)
        rw [hw]
        clear hw
        obtain ⟨hP1, -, hD1⟩ := hB
        rw [ht] at hP1
        replace hD := hD1.weaken (fun _ _ _ h => hFc _ h)
        replace hP := hP1
        replace hS := hS2
        clear hP1 hD1 hS2 hFc hfc hz1 hk1 hvm ht
        refine lv_if_eq (tgt := 87) hx hb dX18_isFunctionAs_67 (by decide) (fun c_24 => ?_) (fun c_24 => ?_)
        · skip
          rw [if_pos c_24] at hf
          refine lv_iconst (v := 0) hx hb dX18_isFunctionAs_87 (by decide) ?_
          obtain ⟨h8, h9⟩ := ret_some hf
          rw [h8, h9]
          exact W.zret (v := 0) hx hb hr rfl (fun t ht hW => ⟨⟨0, (), rfl, rfl, by rw [ht]; exact hP, va_K.moved hW.alike hK, hD⟩, hS.F ht⟩) hS.2.2 dX18_isFunctionAs_88
        · skip
          rw [if_neg c_24] at hf
          refine lv_aload_n hx hb dX18_isFunctionAs_70 rfl (lv_at hl 3 rfl) ?_
          refine lv_aload_n hx hb dX18_isFunctionAs_71 rfl (lv_at hl 4 rfl) ?_
          refine lv_iload_n hx hb dX18_isFunctionAs_72 rfl (lv_at hl 5 rfl) ?_
          refine lv_iload_n hx hb dX18_isFunctionAs_73 rfl (lv_at hl 2 rfl) ?_
          refine lv_iload hx hb dX18_isFunctionAs_74 (lv_at hl 1 rfl) ?_
          refine lv_iconst (v := 1) hx hb dX18_isFunctionAs_76 (by decide) ?_
          obtain ⟨z_25, r_26, hfc, hf⟩ := cal_some hf
          have hFc := de_free hD hS hA
          refine va_calli (va_runV (As := [.ref (a x0), .int x1, .int r_2, .int r_6, .int 1]) (rest := []) ⟨hx, hb, hml, hown, hts⟩ (de_X18_isSameList l dC dI cy a sh n H_23.size F z_21 h0 x0 x1 r_2 r_6 1 hfc) (cwV 5 hts gX18_isFunctionAs_X18_isSameList rfl rfl rfl (by decide +kernel) ⟨Nat.le_of_ble_eq_true rfl, Nat.le_of_ble_eq_true rfl⟩) ⟨fun a U g mk q => by obtain ⟨q0, q1, qP, qK, qD, qN⟩ := q; exact ⟨q0, q1, qP, va_K.moved (u := U) (U := U.calling g mk a) (Vm.Alike.refl U.vm) qK, qD, qN.same rfl⟩, va_recv hK hP (ci := 18) (q0 := h0) rfl (Wd_ob kg_10 sg_10 (by decide)), fun U hU hW => ⟨rfl, by rw [hU], by rw [hU]; exact hP, va_K.moved hW.alike hK, hD.weaken (fun _ _ _ _ => trivial), hN.warm hW⟩⟩ rfl rfl hl.1 rfl (lv_room (Nat.le_of_ble_eq_true rfl)) dX18_isFunctionAs_77 ⟨Nat.le_of_ble_eq_true rfl, Nat.le_of_ble_eq_true rfl⟩) hS (fun q _ h => hFc q h) hFc (fun rr u t H_27 locs ht hvm hw hB hz1 hk1 hS2 => ?_)
          rw [hw]
          clear hw
          obtain ⟨hP1, -, hD1⟩ := hB
          rw [ht] at hP1
          replace hD := hD1.weaken (fun _ _ _ h => hFc _ h)
          replace hP := hP1
          replace hS := hS2
          clear hP1 hD1 hS2 hFc hfc hz1 hk1 hvm ht
          refine lv_if_eq (tgt := 87) hx hb dX18_isFunctionAs_80 (by decide) (fun c_28 => ?_) (fun c_28 => ?_)
          · skip
            rw [if_pos c_28] at hf
            refine lv_iconst (v := 0) hx hb dX18_isFunctionAs_87 (by decide) ?_
            obtain ⟨h8, h9⟩ := ret_some hf
            rw [h8, h9]
            exact W.zret (v := 0) hx hb hr rfl (fun t ht hW => ⟨⟨0, (), rfl, rfl, by rw [ht]; exact hP, va_K.moved hW.alike hK, hD⟩, hS.F ht⟩) hS.2.2 dX18_isFunctionAs_88
          · skip
            rw [if_neg c_28] at hf
            refine lv_iconst (v := 1) hx hb dX18_isFunctionAs_83 (by decide) ?_
            refine lv_goto (tgt := 88) hx hb dX18_isFunctionAs_84 (by decide) ?_
            obtain ⟨h8, h9⟩ := ret_some hf
            rw [h8, h9]
            exact W.zret (v := 1) hx hb hr rfl (fun t ht hW => ⟨⟨1, (), rfl, rfl, by rw [ht]; exact hP, va_K.moved hW.alike hK, hD⟩, hS.F ht⟩) hS.2.2 dX18_isFunctionAs_88
  · skip
    rw [if_pos c_12] at hf
    refine lv_iconst (v := 0) hx hb dX18_isFunctionAs_24 (by decide) ?_
    obtain ⟨h8, h9⟩ := ret_some hf
    rw [h8, h9]
    exact W.zret (v := 0) hx hb hr rfl (fun t ht hW => ⟨⟨0, (), rfl, rfl, by rw [ht]; exact hP, va_K.moved hW.alike hK, hD⟩, hS.F ht⟩) hS.2.2 dX18_isFunctionAs_25

theorem md_X13_look_1 : (.fieldLink RX13 13 "ResourceLedgerModel$Looker" "came" "[Z" : Cond) ∈ wsX13_look := List.mem_of_getElem? (i := 1) rfl
theorem iwd_X13_look_X13 : ∀ w ∈ wsX130, w ∈ wsX13_look := fun _ h => List.mem_cons_of_mem _ (List.mem_append_left _ (List.mem_append_right _ h))
theorem md_X13_look_2 : (.fieldLink RX13 17 "ResourceLedgerModel$Looker" "led" "[Z" : Cond) ∈ wsX13_look := List.mem_of_getElem? (i := 2) rfl
theorem md_X13_look_4 : (.fieldLink RX13 48 "ResourceLedgerModel$Looker" "fault" "I" : Cond) ∈ wsX13_look := List.mem_of_getElem? (i := 4) rfl
theorem md_X13_look_5 : (.fieldLink RX13 136 "ResourceLedgerModel$Looker" "locals" "I" : Cond) ∈ wsX13_look := List.mem_of_getElem? (i := 5) rfl
theorem md_X13_look_12 : (.fieldLink RX13 72 "ResourceLedgerModel$Looker" "unit" "LResourceLedgerModel$Unit;" : Cond) ∈ wsX13_look := List.mem_of_getElem? (i := 12) rfl
theorem md_X13_look_13 : (.fieldLink RX13 176 "ResourceLedgerModel$Looker" "now" "I" : Cond) ∈ wsX13_look := List.mem_of_getElem? (i := 13) rfl
theorem md_X13_look_3 : (.fieldLink RX13 92 "ResourceLedgerModel$Looker" "height" "I" : Cond) ∈ wsX13_look := List.mem_of_getElem? (i := 3) rfl
theorem md_X13_look_14 : (.fieldLink RX13 231 "ResourceLedgerModel$Looker" "many" "I" : Cond) ∈ wsX13_look := List.mem_of_getElem? (i := 14) rfl
theorem md_X13_look_6 : (.fieldLink RX13 39 "ResourceLedgerModel$Looker" "there" "[Z" : Cond) ∈ wsX13_look := List.mem_of_getElem? (i := 6) rfl
theorem md_X13_look_7 : (.fieldLink RX13 21 "ResourceLedgerModel$Looker" "thereAt" "[Z" : Cond) ∈ wsX13_look := List.mem_of_getElem? (i := 7) rfl
theorem md_X13_look_8 : (.fieldLink RX13 42 "ResourceLedgerModel$Looker" "points" "[J" : Cond) ∈ wsX13_look := List.mem_of_getElem? (i := 8) rfl
theorem md_X13_look_9 : (.fieldLink RX13 24 "ResourceLedgerModel$Looker" "originsAt" "[J" : Cond) ∈ wsX13_look := List.mem_of_getElem? (i := 9) rfl
theorem md_X13_look_10 : (.fieldLink RX13 45 "ResourceLedgerModel$Looker" "within" "[Z" : Cond) ∈ wsX13_look := List.mem_of_getElem? (i := 10) rfl
theorem md_X13_look_11 : (.fieldLink RX13 27 "ResourceLedgerModel$Looker" "insideAt" "[Z" : Cond) ∈ wsX13_look := List.mem_of_getElem? (i := 11) rfl
set_option maxHeartbeats 4000000 in
set_option maxRecDepth 100000 in
theorem de_X13_look (l : Launch) (dC : Nat → ClassId) (dI : Nat → Nat → Nat) (cy : Nat → ClassId) (a : Nat → Nat) (sh : Nat → Nat × Nat) (n sz : Nat) (F : Nat) (z : St) (h0 : Nat) (x0 : Int32) {z8 : St} {r8 : Unit} (hf : fn_X13_look F sh n z h0 x0 = some (z8, r8)) : Met l yX13_look wsX13_look ({ frames := 8, cells := 0, slots := 0, locals := 194 }) (va_Pc [.ref (a h0), .int x0] (fun U => U.heap.size = sz ∧ va_P (dC, dI) vwCl (Wd cy a sh n z) U.heap ∧ va_K (dC, dI) vwCl (TYS cy) U ∧ va_D (fun _ => True) (Wd cy a sh n z) ∧ NK U)) (va_Qv (fun u : Unit => True) (fun u t => va_P (dC, dI) vwCl (Wd cy a sh n z8) t.heap ∧ va_K (dC, dI) vwCl (TYS cy) t ∧ va_D (va_A (Wd cy a sh n z) sz) (Wd cy a sh n z8)) (va_A (Wd cy a sh n z) sz)) 0 0 (va_A (Wd cy a sh n z) sz) := by
  refine Met.ofW (cc := cX13_look) (maxL := 4) (ret := none) (by decide) rfl ?_
  intro p e s m args below meth c s₁ B hml hv
  obtain ⟨rfl, hsz, hP, hK, hD0, hN⟩ := hv
  have hx := B.exec
  have hb := B.bytes
  have hr := B.returns
  have hts := atoms_spec (ws := wsX13_look) B.pre
  have hown : s.vm.findClass RX13 = some m.cls := findClass_of_methodNamed B.named
  have hlocks := B.notSynchronized
  subst hsz
  have hD := hD0.self (sz := s.heap.size)
  clear hD0
  generalize hAe : va_A (Wd cy a sh n z) s.heap.size = A at hD ⊢
  have hA : ∀ q : Nat, s.heap.size ≤ q → A q := fun q h => by rw [← hAe]; exact Or.inr h
  clear hAe
  have hS : va_S A s.heap s.heap [] := va_S.rf
  have hl := lv_entry ([.ref (a h0), .int x0]) (n := 4) (Nat.le_of_ble_eq_true rfl)
  rw [lg_entry_eq]
  generalize (lg_sl ([.ref (a h0), .int x0]) ++ List.replicate (4 - (lg_sl ([.ref (a h0), .int x0])).length) Slot.unset).toArray = ls at hl ⊢
  replace hl : lv_has ls 4 [(0, .ref (a h0)), (1, .int x0)] := hl
  unfold fn_X13_look at hf
  refine de_start hS hP (fun H locs hS hP => ?_)
  refine lv_aload_n hx hb dX13_look_0 rfl (lv_at hl 0 rfl) ?_
  refine lv_aload_n hx hb dX13_look_1 rfl (lv_at hl 0 rfl) ?_
  obtain ⟨g_1, hf⟩ := grd_some hf
  obtain ⟨kg_1, sg_1⟩ := okO_at g_1
  obtain ⟨k_2, ek_2, hf⟩ := lnk_some hf
  refine va_get (D := (dC, dI)) (ci := 13) (v := .ref (a k_2)) (C := RX13) (T := TX13) (N := 22) hx hb hts iwd_X13_look_X13 hown hK hP h0 (Wd_ob kg_1 sg_1 (by decide)) rfl 6 (by decide) (hts _ md_X13_look_1) (fun _ h9 => h9) (fl_q rfl ek_2) dX13_look_2 ?_
  refine lv_iload_n hx hb dX13_look_5 rfl (lv_at hl 1 rfl) ?_
  obtain ⟨g_3, hf⟩ := grd_some hf
  obtain ⟨kg_3, sg_3, ig_3⟩ := okA_at g_3
  refine va_zald hx hb hK hP k_2 3 (Wd_az kg_3 sg_3) rfl ig_3 dX13_look_6 ?_
  refine lv_bipush (v := 10) hx hb dX13_look_7 (by decide) ?_
  obtain ⟨z_4, _u, hfc, hf⟩ := cal_some hf
  have hFc := de_free hD hS hA
  refine va_callv (va_runV (As := [.int (z.1 k_2 x0.toNatClampNeg), .int 10]) (rest := []) ⟨hx, hb, hml, hown, hts⟩ (de_X13_need l dC dI cy a sh n H.size F z h0 (z.1 k_2 x0.toNatClampNeg) 10 hfc) (cwV 2 hts gX13_look_X13_need rfl rfl rfl (by decide +kernel) ⟨Nat.le_of_ble_eq_true rfl, Nat.le_of_ble_eq_true rfl⟩) ⟨fun a U g mk q => by obtain ⟨q0, q1, qP, qK, qD, qN⟩ := q; exact ⟨q0, q1, qP, va_K.moved (u := U) (U := U.calling g mk a) (Vm.Alike.refl U.vm) qK, qD, qN.same rfl⟩, va_recv hK hP (ci := 13) (q0 := h0) rfl (Wd_ob kg_1 sg_1 (by decide)), fun U hU hW => ⟨rfl, by rw [hU], by rw [hU]; exact hP, va_K.moved hW.alike hK, hD.weaken (fun _ _ _ _ => trivial), hN.warm hW⟩⟩ rfl rfl hl.1 rfl (lv_room (Nat.le_of_ble_eq_true rfl)) dX13_look_9 ⟨Nat.le_of_ble_eq_true rfl, Nat.le_of_ble_eq_true rfl⟩) hS (fun q _ h => hFc q h) hFc (fun u t H_5 locs ht hvm hw hB hz1 hk1 hS2 => ?_)
  obtain ⟨hP1, -, hD1⟩ := hB
  rw [ht] at hP1
  replace hD := hD1.weaken (fun _ _ _ h => hFc _ h)
  replace hP := hP1
  replace hS := hS2
  clear hP1 hD1 hS2 hFc hfc hz1 hk1 hvm ht
  refine lv_aload_n hx hb dX13_look_12 rfl (lv_at hl 0 rfl) ?_
  refine lv_aload_n hx hb dX13_look_13 rfl (lv_at hl 0 rfl) ?_
  obtain ⟨k_6, ek_6, hf⟩ := lnk_some hf
  refine va_get (D := (dC, dI)) (ci := 13) (v := .ref (a k_6)) (C := RX13) (T := TX13) (N := 22) hx hb hts iwd_X13_look_X13 hown hK hP h0 (Wd_ob kg_1 sg_1 (by decide)) rfl 7 (by decide) (hts _ md_X13_look_2) (fun _ h9 => h9) (fl_q rfl ek_6) dX13_look_14 ?_
  refine lv_iload_n hx hb dX13_look_17 rfl (lv_at hl 1 rfl) ?_
  obtain ⟨g_7, hf⟩ := grd_some hf
  obtain ⟨kg_7, sg_7, ig_7⟩ := okA_at g_7
  refine va_zald hx hb hK hP k_6 3 (Wd_az kg_7 sg_7) rfl ig_7 dX13_look_18 ?_
  refine de_cut (h := 34) (fun (x : St × Int32) => [.int x.2, .ref (a h0)]) (fun x ls H locs => lv_has ls 4 [(0, .ref (a h0)), (1, .int x0)] ∧ va_P (dC, dI) vwCl (Wd cy a sh n x.1) H ∧ va_D A (Wd cy a sh n x.1) ∧ va_S A s.heap H locs) (fun x => fn_X13_look_B34 F sh n h0 x0 x.1 x.2) (z8, r8) ?_ (fun B34 => ?_)
  · intro x ls H locs hI hf
    obtain ⟨z_9, p_8⟩ := x
    obtain ⟨hl2, hP2, hD2, hS2⟩ := hI
    replace hl : lv_has ls 4 [(0, .ref (a h0)), (1, .int x0)] := hl2
    replace hP := hP2
    replace hD := hD2
    replace hS := hS2
    clear hl2 hP2 hD2 hS2
    replace hf := fn_X13_look_B34_s hf
    refine W.eq (g2 := F0 m 34 ls [.int p_8, .ref (a h0)]) rfl ?_
    refine lv_bipush (v := 8) hx hb dX13_look_34 (by decide) ?_
    obtain ⟨z_10, _u, hfc, hf⟩ := cal_some hf
    have hFc := de_free hD hS hA
    refine va_callv (va_runV (As := [.int p_8, .int 8]) (rest := []) ⟨hx, hb, hml, hown, hts⟩ (de_X13_need l dC dI cy a sh n H.size F z_9 h0 p_8 8 hfc) (cwV 2 hts gX13_look_X13_need rfl rfl rfl (by decide +kernel) ⟨Nat.le_of_ble_eq_true rfl, Nat.le_of_ble_eq_true rfl⟩) ⟨fun a U g mk q => by obtain ⟨q0, q1, qP, qK, qD, qN⟩ := q; exact ⟨q0, q1, qP, va_K.moved (u := U) (U := U.calling g mk a) (Vm.Alike.refl U.vm) qK, qD, qN.same rfl⟩, va_recv hK hP (ci := 13) (q0 := h0) rfl (Wd_ob kg_1 sg_1 (by decide)), fun U hU hW => ⟨rfl, by rw [hU], by rw [hU]; exact hP, va_K.moved hW.alike hK, hD.weaken (fun _ _ _ _ => trivial), hN.warm hW⟩⟩ rfl rfl hl.1 rfl (lv_room (Nat.le_of_ble_eq_true rfl)) dX13_look_36 ⟨Nat.le_of_ble_eq_true rfl, Nat.le_of_ble_eq_true rfl⟩) hS (fun q _ h => hFc q h) hFc (fun u t H_11 locs ht hvm hw hB hz1 hk1 hS2 => ?_)
    obtain ⟨hP1, -, hD1⟩ := hB
    rw [ht] at hP1
    replace hD := hD1.weaken (fun _ _ _ h => hFc _ h)
    replace hP := hP1
    replace hS := hS2
    clear hP1 hD1 hS2 hFc hfc hz1 hk1 hvm ht
    refine lv_aload_n hx hb dX13_look_39 rfl (lv_at hl 0 rfl) ?_
    refine va_get (D := (dC, dI)) (ci := 13) (v := .int (z_10.1 h0 18)) (C := RX13) (T := TX13) (N := 22) hx hb hts iwd_X13_look_X13 hown hK hP h0 (Wd_ob kg_1 sg_1 (by decide)) rfl 18 (by decide) (hts _ md_X13_look_4) (fun _ h9 => h9) (fl_at (t := 0) rfl) dX13_look_40 ?_
    refine lv_if_eq (tgt := 47) hx hb dX13_look_43 (by decide) (fun c_12 => ?_) (fun c_12 => ?_)
    · skip
      rw [if_pos c_12] at hf
      refine lv_iconst (v := 0) hx hb dX13_look_47 (by decide) ?_
      refine lv_istore_n (lv' := [(2, .int 0), (0, .ref (a h0)), (1, .int x0)]) hx hb dX13_look_48 rfl hl (by decide) rfl (fun ls hl2 => ?_)
      replace hl := hl2
      clear hl2
      have hl0 : lv_has ls 4 [(2, .int 0), (0, .ref (a h0)), (1, .int x0)] := lv_sub hl [0, 1, 2] rfl
      refine de_loop (h := 49) (fun (x : St × Int32) ls H locs => lv_has ls 4 [(2, .int x.2), (0, .ref (a h0)), (1, .int x0)] ∧ va_P (dC, dI) vwCl (Wd cy a sh n x.1) H ∧ va_D A (Wd cy a sh n x.1) ∧ va_S A s.heap H locs) (fun f x => fn_X13_look_L49 F sh n h0 x0 f x.1 x.2) (z8, r8) ?_ (fun _ => rfl) F (z_10, 0) ls H_11 locs ⟨hl0, hP, hD, hS⟩ hf
      intro f_15 x ls H locs ih49 hI hf
      obtain ⟨z_14, p_13⟩ := x
      obtain ⟨hl2, hP2, hD2, hS2⟩ := hI
      replace hl : lv_has ls 4 [(2, .int p_13), (0, .ref (a h0)), (1, .int x0)] := hl2
      replace hP := hP2
      replace hD := hD2
      replace hS := hS2
      clear hl2 hP2 hD2 hS2 hl0
      replace hf := fn_X13_look_L49_s hf
      refine lv_iload_n hx hb dX13_look_49 rfl (lv_at hl 0 rfl) ?_
      refine lv_aload_n hx hb dX13_look_50 rfl (lv_at hl 1 rfl) ?_
      refine va_get (D := (dC, dI)) (ci := 13) (v := .int (z_14.1 h0 2)) (C := RX13) (T := TX13) (N := 22) hx hb hts iwd_X13_look_X13 hown hK hP h0 (Wd_ob kg_1 sg_1 (by decide)) rfl 2 (by decide) (hts _ md_X13_look_5) (fun _ h9 => h9) (fl_at (t := 0) rfl) dX13_look_51 ?_
      refine lv_icmp_ge (tgt := 114) hx hb dX13_look_54 (by decide) (fun c_16 => ?_) (fun c_16 => ?_)
      · skip
        rw [if_pos c_16] at hf
        refine lv_aload_n hx hb dX13_look_114 rfl (lv_at hl 1 rfl) ?_
        obtain ⟨k_17, ek_17, hf⟩ := lnk_some hf
        refine va_get (D := (dC, dI)) (ci := 13) (v := .ref (a k_17)) (C := RX13) (T := TX13) (N := 22) hx hb hts iwd_X13_look_X13 hown hK hP h0 (Wd_ob kg_1 sg_1 (by decide)) rfl 0 (by decide) (hts _ md_X13_look_12) (fun _ h9 => h9) (fl_q rfl ek_17) dX13_look_115 ?_
        refine lv_aload_n hx hb dX13_look_118 rfl (lv_at hl 1 rfl) ?_
        refine va_get (D := (dC, dI)) (ci := 13) (v := .int (z_14.1 h0 1)) (C := RX13) (T := TX13) (N := 22) hx hb hts iwd_X13_look_X13 hown hK hP h0 (Wd_ob kg_1 sg_1 (by decide)) rfl 1 (by decide) (hts _ md_X13_look_13) (fun _ h9 => h9) (fl_at (t := 0) rfl) dX13_look_119 ?_
        refine lv_iload_n hx hb dX13_look_122 rfl (lv_at hl 2 rfl) ?_
        obtain ⟨g_20, hf⟩ := grd_some hf
        obtain ⟨kg_20, sg_20⟩ := okO_at g_20
        obtain ⟨z_18, r_19, hfc, hf⟩ := cal_some hf
        have hFc := de_free hD hS hA
        refine va_calli (va_runV (As := [.int (z_14.1 h0 1), .int x0]) (rest := []) ⟨hx, hb, hml, hown, hts⟩ (de_X16_operation l dC dI cy a sh n H.size F z_14 k_17 (z_14.1 h0 1) x0 hfc) (cwV 2 hts gX13_look_X16_operation rfl rfl rfl (by decide +kernel) ⟨Nat.le_of_ble_eq_true rfl, Nat.le_of_ble_eq_true rfl⟩) ⟨fun a U g mk q => by obtain ⟨q0, q1, qP, qK, qD, qN⟩ := q; exact ⟨q0, q1, qP, va_K.moved (u := U) (U := U.calling g mk a) (Vm.Alike.refl U.vm) qK, qD, qN.same rfl⟩, va_recv hK hP (ci := 16) (q0 := k_17) rfl (Wd_ob kg_20 sg_20 (by decide)), fun U hU hW => ⟨rfl, by rw [hU], by rw [hU]; exact hP, va_K.moved hW.alike hK, hD.weaken (fun _ _ _ _ => trivial), hN.warm hW⟩⟩ rfl rfl hl.1 rfl (lv_room (Nat.le_of_ble_eq_true rfl)) dX13_look_123 ⟨Nat.le_of_ble_eq_true rfl, Nat.le_of_ble_eq_true rfl⟩) hS (fun q _ h => hFc q h) hFc (fun rr u t H_21 locs ht hvm hw hB hz1 hk1 hS2 => ?_)
        rw [hw]
        clear hw
        obtain ⟨hP1, -, hD1⟩ := hB
        rw [ht] at hP1
        replace hD := hD1.weaken (fun _ _ _ h => hFc _ h)
        replace hP := hP1
        replace hS := hS2
        clear hP1 hD1 hS2 hFc hfc hz1 hk1 hvm ht
        refine lv_istore_n (lv' := [(2, .int r_19), (0, .ref (a h0)), (1, .int x0)]) hx hb dX13_look_126 rfl hl (by decide) rfl (fun ls hl2 => ?_)
        replace hl := hl2
        clear hl2
        refine lv_aload_n hx hb dX13_look_127 rfl (lv_at hl 1 rfl) ?_
        obtain ⟨k_22, ek_22, hf⟩ := lnk_some hf
        refine va_get (D := (dC, dI)) (ci := 13) (v := .ref (a k_22)) (C := RX13) (T := TX13) (N := 22) hx hb hts iwd_X13_look_X13 hown hK hP h0 (Wd_ob kg_1 sg_1 (by decide)) rfl 0 (by decide) (hts _ md_X13_look_12) (fun _ h9 => h9) (fl_q rfl ek_22) dX13_look_128 ?_
        refine lv_aload_n hx hb dX13_look_131 rfl (lv_at hl 1 rfl) ?_
        refine va_get (D := (dC, dI)) (ci := 13) (v := .int (z_18.1 h0 1)) (C := RX13) (T := TX13) (N := 22) hx hb hts iwd_X13_look_X13 hown hK hP h0 (Wd_ob kg_1 sg_1 (by decide)) rfl 1 (by decide) (hts _ md_X13_look_13) (fun _ h9 => h9) (fl_at (t := 0) rfl) dX13_look_132 ?_
        refine lv_iload_n hx hb dX13_look_135 rfl (lv_at hl 2 rfl) ?_
        refine lv_iconst (v := 0) hx hb dX13_look_136 (by decide) ?_
        obtain ⟨g_25, hf⟩ := grd_some hf
        obtain ⟨kg_25, sg_25⟩ := okO_at g_25
        obtain ⟨z_23, r_24, hfc, hf⟩ := cal_some hf
        have hFc := de_free hD hS hA
        refine va_calll (va_runV (As := [.int (z_18.1 h0 1), .int x0, .int 0]) (rest := []) ⟨hx, hb, hml, hown, hts⟩ (de_X16_operand l dC dI cy a sh n H_21.size F z_18 k_22 (z_18.1 h0 1) x0 0 hfc) (cwV 3 hts gX13_look_X16_operand rfl rfl rfl (by decide +kernel) ⟨Nat.le_of_ble_eq_true rfl, Nat.le_of_ble_eq_true rfl⟩) ⟨fun a U g mk q => by obtain ⟨q0, q1, qP, qK, qD, qN⟩ := q; exact ⟨q0, q1, qP, va_K.moved (u := U) (U := U.calling g mk a) (Vm.Alike.refl U.vm) qK, qD, qN.same rfl⟩, va_recv hK hP (ci := 16) (q0 := k_22) rfl (Wd_ob kg_25 sg_25 (by decide)), fun U hU hW => ⟨rfl, by rw [hU], by rw [hU]; exact hP, va_K.moved hW.alike hK, hD.weaken (fun _ _ _ _ => trivial), hN.warm hW⟩⟩ rfl rfl hl.1 rfl (lv_room (Nat.le_of_ble_eq_true rfl)) dX13_look_137 ⟨Nat.le_of_ble_eq_true rfl, Nat.le_of_ble_eq_true rfl⟩) hS (fun q _ h => hFc q h) hFc (fun rr u t H_26 locs ht hvm hw hB hz1 hk1 hS2 => ?_)
        rw [hw]
        clear hw
        obtain ⟨hP1, -, hD1⟩ := hB
        rw [ht] at hP1
        replace hD := hD1.weaken (fun _ _ _ h => hFc _ h)
        replace hP := hP1
        replace hS := hS2
        clear hP1 hD1 hS2 hFc hfc hz1 hk1 hvm ht
        refine lv_l2i (v := (r_24 : Int64).toInt32) hx hb dX13_look_140 rfl ?_
        refine lv_topi (fun v_27 ev_27 => ?_)
        replace hf := lt_at ev_27 hf
        clear ev_27
        refine lv_istore_n (lv' := [(3, .int v_27), (2, .int r_19), (0, .ref (a h0)), (1, .int x0)]) hx hb dX13_look_141 rfl hl (by decide) rfl (fun ls hl2 => ?_)
        replace hl := hl2
        clear hl2
        refine lv_aload_n hx hb dX13_look_142 rfl (lv_at hl 2 rfl) ?_
        refine lv_iload_n hx hb dX13_look_143 rfl (lv_at hl 1 rfl) ?_
        refine lv_iload_n hx hb dX13_look_144 rfl (lv_at hl 0 rfl) ?_
        refine lv_aload_n hx hb dX13_look_145 rfl (lv_at hl 2 rfl) ?_
        obtain ⟨k_28, ek_28, hf⟩ := lnk_some hf
        refine va_get (D := (dC, dI)) (ci := 13) (v := .ref (a k_28)) (C := RX13) (T := TX13) (N := 22) hx hb hts iwd_X13_look_X13 hown hK hP h0 (Wd_ob kg_1 sg_1 (by decide)) rfl 0 (by decide) (hts _ md_X13_look_12) (fun _ h9 => h9) (fl_q rfl ek_28) dX13_look_146 ?_
        refine lv_aload_n hx hb dX13_look_149 rfl (lv_at hl 2 rfl) ?_
        refine va_get (D := (dC, dI)) (ci := 13) (v := .int (z_23.1 h0 1)) (C := RX13) (T := TX13) (N := 22) hx hb hts iwd_X13_look_X13 hown hK hP h0 (Wd_ob kg_1 sg_1 (by decide)) rfl 1 (by decide) (hts _ md_X13_look_13) (fun _ h9 => h9) (fl_at (t := 0) rfl) dX13_look_150 ?_
        refine lv_iload_n hx hb dX13_look_153 rfl (lv_at hl 3 rfl) ?_
        refine lv_iconst (v := 1) hx hb dX13_look_154 (by decide) ?_
        obtain ⟨g_31, hf⟩ := grd_some hf
        obtain ⟨kg_31, sg_31⟩ := okO_at g_31
        obtain ⟨z_29, r_30, hfc, hf⟩ := cal_some hf
        have hFc := de_free hD hS hA
        refine va_calll (va_runV (As := [.int (z_23.1 h0 1), .int x0, .int 1]) (rest := [.int v_27, .int r_19, .ref (a h0)]) ⟨hx, hb, hml, hown, hts⟩ (de_X16_operand l dC dI cy a sh n H_26.size F z_23 k_28 (z_23.1 h0 1) x0 1 hfc) (cwV 3 hts gX13_look_X16_operand rfl rfl rfl (by decide +kernel) ⟨Nat.le_of_ble_eq_true rfl, Nat.le_of_ble_eq_true rfl⟩) ⟨fun a U g mk q => by obtain ⟨q0, q1, qP, qK, qD, qN⟩ := q; exact ⟨q0, q1, qP, va_K.moved (u := U) (U := U.calling g mk a) (Vm.Alike.refl U.vm) qK, qD, qN.same rfl⟩, va_recv hK hP (ci := 16) (q0 := k_28) rfl (Wd_ob kg_31 sg_31 (by decide)), fun U hU hW => ⟨rfl, by rw [hU], by rw [hU]; exact hP, va_K.moved hW.alike hK, hD.weaken (fun _ _ _ _ => trivial), hN.warm hW⟩⟩ rfl rfl hl.1 rfl (lv_room (Nat.le_of_ble_eq_true rfl)) dX13_look_155 ⟨Nat.le_of_ble_eq_true rfl, Nat.le_of_ble_eq_true rfl⟩) hS (fun q _ h => hFc q h) hFc (fun rr u t H_32 locs ht hvm hw hB hz1 hk1 hS2 => ?_)
        rw [hw]
        clear hw
        obtain ⟨hP1, -, hD1⟩ := hB
        rw [ht] at hP1
        replace hD := hD1.weaken (fun _ _ _ h => hFc _ h)
        replace hP := hP1
        replace hS := hS2
        clear hP1 hD1 hS2 hFc hfc hz1 hk1 hvm ht
        refine lv_l2i (v := (r_30 : Int64).toInt32) hx hb dX13_look_158 rfl ?_
        obtain ⟨z_33, _u, hfc, hf⟩ := cal_some hf
        have hFc := de_free hD hS hA
        refine va_callv (va_runV (As := [.int r_19, .int v_27, .int ((r_30 : Int64).toInt32)]) (rest := []) ⟨hx, hb, hml, hown, hts⟩ (de_X13_operate l dC dI cy a sh n H_32.size F z_29 h0 r_19 v_27 ((r_30 : Int64).toInt32) hfc) (cwV 3 hts gX13_look_X13_operate rfl rfl rfl (by decide +kernel) ⟨Nat.le_of_ble_eq_true rfl, Nat.le_of_ble_eq_true rfl⟩) ⟨fun a U g mk q => by obtain ⟨q0, q1, qP, qK, qD, qN⟩ := q; exact ⟨q0, q1, qP, va_K.moved (u := U) (U := U.calling g mk a) (Vm.Alike.refl U.vm) qK, qD, qN.same rfl⟩, va_recv hK hP (ci := 13) (q0 := h0) rfl (Wd_ob kg_1 sg_1 (by decide)), fun U hU hW => ⟨rfl, by rw [hU], by rw [hU]; exact hP, va_K.moved hW.alike hK, hD.weaken (fun _ _ _ _ => trivial), hN.warm hW⟩⟩ rfl rfl hl.1 rfl (lv_room (Nat.le_of_ble_eq_true rfl)) dX13_look_159 ⟨Nat.le_of_ble_eq_true rfl, Nat.le_of_ble_eq_true rfl⟩) hS (fun q _ h => hFc q h) hFc (fun u t H_34 locs ht hvm hw hB hz1 hk1 hS2 => ?_)
        obtain ⟨hP1, -, hD1⟩ := hB
        rw [ht] at hP1
        replace hD := hD1.weaken (fun _ _ _ h => hFc _ h)
        replace hP := hP1
        replace hS := hS2
        clear hP1 hD1 hS2 hFc hfc hz1 hk1 hvm ht
        refine lv_iload_n hx hb dX13_look_162 rfl (lv_at hl 1 rfl) ?_
        refine lv_iconst (v := 1) hx hb dX13_look_163 (by decide) ?_
        refine de_cut (h := 178) (fun (x : St) => []) (fun x ls H locs => lv_has ls 4 [(2, .int r_19), (0, .ref (a h0)), (1, .int x0)] ∧ va_P (dC, dI) vwCl (Wd cy a sh n x) H ∧ va_D A (Wd cy a sh n x) ∧ va_S A s.heap H locs) (fun x => fn_X13_look_B178 F sh n r_19 h0 x0 x) (z8, r8) ?_ (fun B178 => ?_)
        · intro x ls H locs hI hf
          obtain ⟨z_35, ez⟩ : ∃ w, w = x := ⟨_, rfl⟩
          subst ez
          obtain ⟨hl2, hP2, hD2, hS2⟩ := hI
          replace hl : lv_has ls 4 [(2, .int r_19), (0, .ref (a h0)), (1, .int x0)] := hl2
          replace hP := hP2
          replace hD := hD2
          replace hS := hS2
          clear hl2 hP2 hD2 hS2
          replace hf := fn_X13_look_B178_s hf
          refine W.eq (g2 := F0 m 178 ls []) rfl ?_
          refine lv_iload_n hx hb dX13_look_178 rfl (lv_at hl 0 rfl) ?_
          refine lv_iconst (v := 1) hx hb dX13_look_179 (by decide) ?_
          refine lv_icmp_eq (tgt := 194) hx hb dX13_look_180 (by decide) (fun c_36 => ?_) (fun c_36 => ?_)
          · skip
            rw [if_pos c_36] at hf
            refine lv_aload_n hx hb dX13_look_194 rfl (lv_at hl 1 rfl) ?_
            refine lv_iconst (v := 0) hx hb dX13_look_195 (by decide) ?_
            refine va_put (D := (dC, dI)) (ci := 13) (v := .int 0) (ty := .int) (C := RX13) (T := TX13) (N := 22) hx hb hts iwd_X13_look_X13 tyX13 tyX13_ok nmX13 hown hK hP hD hS h0 (Wd_ob kg_1 sg_1 (by decide)) rfl 14 (by decide) (hts _ md_X13_look_3) (fun _ h9 => h9) rfl (by decide +kernel) rfl rfl (by rw [fl_len]; decide) dX13_look_196 (fun H_37 locs hP2 hD2 hS2 => ?_)
            rw [Wd_si sg_1 (by decide) rfl] at hP2 hD2
            obtain ⟨z_38, ez_38⟩ : ∃ w, w = si z_35 h0 14 0 := ⟨_, rfl⟩
            rw [← ez_38] at hP2 hD2
            replace hf := lt_at ez_38 hf
            clear ez_38
            replace hP := hP2
            replace hD := hD2
            replace hS := hS2
            clear hP2 hD2 hS2
            obtain ⟨h8, h9⟩ := ret_some hf
            rw [h8]
            exact W.vret hx hb hr (fun t ht hW => ⟨⟨(), rfl, trivial, by rw [ht]; exact hP, va_K.moved hW.alike hK, hD⟩, hS.F ht⟩) hS.2.2 dX13_look_199
          · skip
            rw [if_neg c_36] at hf
            refine lv_iload_n hx hb dX13_look_183 rfl (lv_at hl 0 rfl) ?_
            refine lv_iconst (v := 2) hx hb dX13_look_184 (by decide) ?_
            refine lv_icmp_eq (tgt := 194) hx hb dX13_look_185 (by decide) (fun c_39 => ?_) (fun c_39 => ?_)
            · skip
              rw [if_pos c_39] at hf
              refine lv_aload_n hx hb dX13_look_194 rfl (lv_at hl 1 rfl) ?_
              refine lv_iconst (v := 0) hx hb dX13_look_195 (by decide) ?_
              refine va_put (D := (dC, dI)) (ci := 13) (v := .int 0) (ty := .int) (C := RX13) (T := TX13) (N := 22) hx hb hts iwd_X13_look_X13 tyX13 tyX13_ok nmX13 hown hK hP hD hS h0 (Wd_ob kg_1 sg_1 (by decide)) rfl 14 (by decide) (hts _ md_X13_look_3) (fun _ h9 => h9) rfl (by decide +kernel) rfl rfl (by rw [fl_len]; decide) dX13_look_196 (fun H_40 locs hP2 hD2 hS2 => ?_)
              rw [Wd_si sg_1 (by decide) rfl] at hP2 hD2
              obtain ⟨z_41, ez_41⟩ : ∃ w, w = si z_35 h0 14 0 := ⟨_, rfl⟩
              rw [← ez_41] at hP2 hD2
              replace hf := lt_at ez_41 hf
              clear ez_41
              replace hP := hP2
              replace hD := hD2
              replace hS := hS2
              clear hP2 hD2 hS2
              obtain ⟨h8, h9⟩ := ret_some hf
              rw [h8]
              exact W.vret hx hb hr (fun t ht hW => ⟨⟨(), rfl, trivial, by rw [ht]; exact hP, va_K.moved hW.alike hK, hD⟩, hS.F ht⟩) hS.2.2 dX13_look_199
            · skip
              rw [if_neg c_39] at hf
              refine lv_iload_n hx hb dX13_look_188 rfl (lv_at hl 0 rfl) ?_
              refine lv_bipush (v := 45) hx hb dX13_look_189 (by decide) ?_
              refine lv_icmp_ne (tgt := 200) hx hb dX13_look_191 (by decide) (fun c_42 => ?_) (fun c_42 => ?_)
              · skip
                rw [if_neg c_42] at hf
                refine lv_aload_n hx hb dX13_look_200 rfl (lv_at hl 1 rfl) ?_
                refine lv_iload_n hx hb dX13_look_201 rfl (lv_at hl 2 rfl) ?_
                refine lv_iconst (v := 1) hx hb dX13_look_202 (by decide) ?_
                refine lv_iadd hx hb dX13_look_203 ?_
                refine lv_aload_n hx hb dX13_look_204 rfl (lv_at hl 1 rfl) ?_
                refine va_get (D := (dC, dI)) (ci := 13) (v := .int (z_35.1 h0 4)) (C := RX13) (T := TX13) (N := 22) hx hb hts iwd_X13_look_X13 hown hK hP h0 (Wd_ob kg_1 sg_1 (by decide)) rfl 4 (by decide) (hts _ md_X13_look_14) (fun _ h9 => h9) (fl_at (t := 0) rfl) dX13_look_205 ?_
                refine de_cut (h := 216) (fun (x : St × Int32) => [.int x.2, .ref (a h0)]) (fun x ls H locs => lv_has ls 4 [(0, .ref (a h0)), (1, .int x0)] ∧ va_P (dC, dI) vwCl (Wd cy a sh n x.1) H ∧ va_D A (Wd cy a sh n x.1) ∧ va_S A s.heap H locs) (fun x => fn_X13_look_B216 F sh n h0 x0 x.1 x.2) (z8, r8) ?_ (fun B216 => ?_)
                · intro x ls H locs hI hf
                  obtain ⟨z_44, p_43⟩ := x
                  obtain ⟨hl2, hP2, hD2, hS2⟩ := hI
                  replace hl : lv_has ls 4 [(0, .ref (a h0)), (1, .int x0)] := hl2
                  replace hP := hP2
                  replace hD := hD2
                  replace hS := hS2
                  clear hl2 hP2 hD2 hS2
                  replace hf := fn_X13_look_B216_s hf
                  refine W.eq (g2 := F0 m 216 ls [.int p_43, .ref (a h0)]) rfl ?_
                  refine lv_bipush (v := 11) hx hb dX13_look_216 (by decide) ?_
                  obtain ⟨z_45, _u, hfc, hf⟩ := cal_some hf
                  have hFc := de_free hD hS hA
                  refine va_callv (va_runV (As := [.int p_43, .int 11]) (rest := []) ⟨hx, hb, hml, hown, hts⟩ (de_X13_need l dC dI cy a sh n H.size F z_44 h0 p_43 11 hfc) (cwV 2 hts gX13_look_X13_need rfl rfl rfl (by decide +kernel) ⟨Nat.le_of_ble_eq_true rfl, Nat.le_of_ble_eq_true rfl⟩) ⟨fun a U g mk q => by obtain ⟨q0, q1, qP, qK, qD, qN⟩ := q; exact ⟨q0, q1, qP, va_K.moved (u := U) (U := U.calling g mk a) (Vm.Alike.refl U.vm) qK, qD, qN.same rfl⟩, va_recv hK hP (ci := 13) (q0 := h0) rfl (Wd_ob kg_1 sg_1 (by decide)), fun U hU hW => ⟨rfl, by rw [hU], by rw [hU]; exact hP, va_K.moved hW.alike hK, hD.weaken (fun _ _ _ _ => trivial), hN.warm hW⟩⟩ rfl rfl hl.1 rfl (lv_room (Nat.le_of_ble_eq_true rfl)) dX13_look_218 ⟨Nat.le_of_ble_eq_true rfl, Nat.le_of_ble_eq_true rfl⟩) hS (fun q _ h => hFc q h) hFc (fun u t H_46 locs ht hvm hw hB hz1 hk1 hS2 => ?_)
                  obtain ⟨hP1, -, hD1⟩ := hB
                  rw [ht] at hP1
                  replace hD := hD1.weaken (fun _ _ _ h => hFc _ h)
                  replace hP := hP1
                  replace hS := hS2
                  clear hP1 hD1 hS2 hFc hfc hz1 hk1 hvm ht
                  refine lv_aload_n hx hb dX13_look_221 rfl (lv_at hl 0 rfl) ?_
                  refine lv_iload_n hx hb dX13_look_222 rfl (lv_at hl 1 rfl) ?_
                  refine lv_iload_n hx hb dX13_look_223 rfl (lv_at hl 1 rfl) ?_
                  refine lv_iconst (v := 1) hx hb dX13_look_224 (by decide) ?_
                  refine lv_iadd hx hb dX13_look_225 ?_
                  obtain ⟨z_47, _u, hfc, hf⟩ := cal_some hf
                  have hFc := de_free hD hS hA
                  refine va_callv (va_runV (As := [.int x0, .int (x0 + 1)]) (rest := []) ⟨hx, hb, hml, hown, hts⟩ (de_X13_come l dC dI cy a sh n H_46.size F z_45 h0 x0 (x0 + 1) hfc) (cwV 2 hts gX13_look_X13_come rfl rfl rfl (by decide +kernel) ⟨Nat.le_of_ble_eq_true rfl, Nat.le_of_ble_eq_true rfl⟩) ⟨fun a U g mk q => by obtain ⟨q0, q1, qP, qK, qD, qN⟩ := q; exact ⟨q0, q1, qP, va_K.moved (u := U) (U := U.calling g mk a) (Vm.Alike.refl U.vm) qK, qD, qN.same rfl⟩, va_recv hK hP (ci := 13) (q0 := h0) rfl (Wd_ob kg_1 sg_1 (by decide)), fun U hU hW => ⟨rfl, by rw [hU], by rw [hU]; exact hP, va_K.moved hW.alike hK, hD.weaken (fun _ _ _ _ => trivial), hN.warm hW⟩⟩ rfl rfl hl.1 rfl (lv_room (Nat.le_of_ble_eq_true rfl)) dX13_look_226 ⟨Nat.le_of_ble_eq_true rfl, Nat.le_of_ble_eq_true rfl⟩) hS (fun q _ h => hFc q h) hFc (fun u t H_48 locs ht hvm hw hB hz1 hk1 hS2 => ?_)
                  obtain ⟨hP1, -, hD1⟩ := hB
                  rw [ht] at hP1
                  replace hD := hD1.weaken (fun _ _ _ h => hFc _ h)
                  replace hP := hP1
                  replace hS := hS2
                  clear hP1 hD1 hS2 hFc hfc hz1 hk1 hvm ht
                  obtain ⟨h8, h9⟩ := ret_some hf
                  rw [h8]
                  exact W.vret hx hb hr (fun t ht hW => ⟨⟨(), rfl, trivial, by rw [ht]; exact hP, va_K.moved hW.alike hK, hD⟩, hS.F ht⟩) hS.2.2 dX13_look_229
                refine lv_icmp_ge (tgt := 215) hx hb dX13_look_208 (by decide) (fun c_49 => ?_) (fun c_49 => ?_)
                · skip
                  rw [if_pos c_49] at hf
                  refine lv_iconst (v := 0) hx hb dX13_look_215 (by decide) ?_
                  exact B216 (z_35, 0) ls H locs ⟨lv_sub hl [1, 2] rfl, hP, hD, hS⟩ hf
                · skip
                  rw [if_neg c_49] at hf
                  refine lv_iconst (v := 1) hx hb dX13_look_211 (by decide) ?_
                  refine lv_goto (tgt := 216) hx hb dX13_look_212 (by decide) ?_
                  exact B216 (z_35, 1) ls H locs ⟨lv_sub hl [1, 2] rfl, hP, hD, hS⟩ hf
              · skip
                rw [if_pos c_42] at hf
                refine lv_aload_n hx hb dX13_look_194 rfl (lv_at hl 1 rfl) ?_
                refine lv_iconst (v := 0) hx hb dX13_look_195 (by decide) ?_
                refine va_put (D := (dC, dI)) (ci := 13) (v := .int 0) (ty := .int) (C := RX13) (T := TX13) (N := 22) hx hb hts iwd_X13_look_X13 tyX13 tyX13_ok nmX13 hown hK hP hD hS h0 (Wd_ob kg_1 sg_1 (by decide)) rfl 14 (by decide) (hts _ md_X13_look_3) (fun _ h9 => h9) rfl (by decide +kernel) rfl rfl (by rw [fl_len]; decide) dX13_look_196 (fun H_50 locs hP2 hD2 hS2 => ?_)
                rw [Wd_si sg_1 (by decide) rfl] at hP2 hD2
                obtain ⟨z_51, ez_51⟩ : ∃ w, w = si z_35 h0 14 0 := ⟨_, rfl⟩
                rw [← ez_51] at hP2 hD2
                replace hf := lt_at ez_51 hf
                clear ez_51
                replace hP := hP2
                replace hD := hD2
                replace hS := hS2
                clear hP2 hD2 hS2
                obtain ⟨h8, h9⟩ := ret_some hf
                rw [h8]
                exact W.vret hx hb hr (fun t ht hW => ⟨⟨(), rfl, trivial, by rw [ht]; exact hP, va_K.moved hW.alike hK, hD⟩, hS.F ht⟩) hS.2.2 dX13_look_199
        refine lv_icmp_le (tgt := 178) hx hb dX13_look_164 (by decide) (fun c_52 => ?_) (fun c_52 => ?_)
        · skip
          rw [if_pos c_52] at hf
          exact B178 (z_33) ls H_34 locs ⟨lv_sub hl [1, 2, 3] rfl, hP, hD, hS⟩ hf
        · skip
          rw [if_neg c_52] at hf
          refine lv_iload_n hx hb dX13_look_167 rfl (lv_at hl 1 rfl) ?_
          refine lv_iconst (v := 5) hx hb dX13_look_168 (by decide) ?_
          refine lv_icmp_ge (tgt := 178) hx hb dX13_look_169 (by decide) (fun c_53 => ?_) (fun c_53 => ?_)
          · skip
            rw [if_pos c_53] at hf
            exact B178 (z_33) ls H_34 locs ⟨lv_sub hl [1, 2, 3] rfl, hP, hD, hS⟩ hf
          · skip
            rw [if_neg c_53] at hf
            refine lv_aload_n hx hb dX13_look_172 rfl (lv_at hl 2 rfl) ?_
            refine lv_iload_n hx hb dX13_look_173 rfl (lv_at hl 3 rfl) ?_
            refine lv_iload_n hx hb dX13_look_174 rfl (lv_at hl 0 rfl) ?_
            obtain ⟨z_54, _u, hfc, hf⟩ := cal_some hf
            have hFc := de_free hD hS hA
            refine va_callv (va_runV (As := [.int x0, .int v_27]) (rest := []) ⟨hx, hb, hml, hown, hts⟩ (de_X13_come l dC dI cy a sh n H_34.size F z_33 h0 x0 v_27 hfc) (cwV 2 hts gX13_look_X13_come rfl rfl rfl (by decide +kernel) ⟨Nat.le_of_ble_eq_true rfl, Nat.le_of_ble_eq_true rfl⟩) ⟨fun a U g mk q => by obtain ⟨q0, q1, qP, qK, qD, qN⟩ := q; exact ⟨q0, q1, qP, va_K.moved (u := U) (U := U.calling g mk a) (Vm.Alike.refl U.vm) qK, qD, qN.same rfl⟩, va_recv hK hP (ci := 13) (q0 := h0) rfl (Wd_ob kg_1 sg_1 (by decide)), fun U hU hW => ⟨rfl, by rw [hU], by rw [hU]; exact hP, va_K.moved hW.alike hK, hD.weaken (fun _ _ _ _ => trivial), hN.warm hW⟩⟩ rfl rfl hl.1 rfl (lv_room (Nat.le_of_ble_eq_true rfl)) dX13_look_175 ⟨Nat.le_of_ble_eq_true rfl, Nat.le_of_ble_eq_true rfl⟩) hS (fun q _ h => hFc q h) hFc (fun u t H_55 locs ht hvm hw hB hz1 hk1 hS2 => ?_)
            obtain ⟨hP1, -, hD1⟩ := hB
            rw [ht] at hP1
            replace hD := hD1.weaken (fun _ _ _ h => hFc _ h)
            replace hP := hP1
            replace hS := hS2
            clear hP1 hD1 hS2 hFc hfc hz1 hk1 hvm ht
            exact B178 (z_54) ls H_55 locs ⟨lv_sub hl [1, 2, 3] rfl, hP, hD, hS⟩ hf
      · skip
        rw [if_neg c_16] at hf
        refine lv_aload_n hx hb dX13_look_57 rfl (lv_at hl 1 rfl) ?_
        obtain ⟨k_56, ek_56, hf⟩ := lnk_some hf
        refine va_get (D := (dC, dI)) (ci := 13) (v := .ref (a k_56)) (C := RX13) (T := TX13) (N := 22) hx hb hts iwd_X13_look_X13 hown hK hP h0 (Wd_ob kg_1 sg_1 (by decide)) rfl 15 (by decide) (hts _ md_X13_look_6) (fun _ h9 => h9) (fl_q rfl ek_56) dX13_look_58 ?_
        refine lv_iload_n hx hb dX13_look_61 rfl (lv_at hl 0 rfl) ?_
        refine lv_aload_n hx hb dX13_look_62 rfl (lv_at hl 1 rfl) ?_
        obtain ⟨k_57, ek_57, hf⟩ := lnk_some hf
        refine va_get (D := (dC, dI)) (ci := 13) (v := .ref (a k_57)) (C := RX13) (T := TX13) (N := 22) hx hb hts iwd_X13_look_X13 hown hK hP h0 (Wd_ob kg_1 sg_1 (by decide)) rfl 8 (by decide) (hts _ md_X13_look_7) (fun _ h9 => h9) (fl_q rfl ek_57) dX13_look_63 ?_
        refine lv_bipush (v := 40) hx hb dX13_look_66 (by decide) ?_
        refine lv_iload_n hx hb dX13_look_68 rfl (lv_at hl 2 rfl) ?_
        refine lv_imul hx hb dX13_look_69 ?_
        refine lv_iload_n hx hb dX13_look_70 rfl (lv_at hl 0 rfl) ?_
        refine lv_iadd hx hb dX13_look_71 ?_
        obtain ⟨g_58, hf⟩ := grd_some hf
        obtain ⟨kg_58, sg_58, ig_58⟩ := okA_at g_58
        refine va_zald hx hb hK hP k_57 3 (Wd_az kg_58 sg_58) rfl ig_58 dX13_look_72 ?_
        obtain ⟨g_59, hf⟩ := grd_some hf
        obtain ⟨kg_59, sg_59, ig_59⟩ := okA_at g_59
        refine va_zast hx hb hK hP hD hS k_56 3 (Wd_az kg_59 sg_59) rfl ig_59 dX13_look_73 (fun H_60 locs hP2 hD2 hS2 => ?_)
        rw [Wd_tz sg_59] at hP2 hD2
        obtain ⟨z_61, ez_61⟩ : ∃ w, w = si z_14 k_56 p_13.toNatClampNeg (vp_nar .boolean (z_14.1 k_57 ((40 * x0) + p_13).toNatClampNeg)) := ⟨_, rfl⟩
        rw [← ez_61] at hP2 hD2
        replace hf := lt_at ez_61 hf
        clear ez_61
        replace hP := hP2
        replace hD := hD2
        replace hS := hS2
        clear hP2 hD2 hS2
        refine lv_aload_n hx hb dX13_look_74 rfl (lv_at hl 1 rfl) ?_
        obtain ⟨k_62, ek_62, hf⟩ := lnk_some hf
        refine va_get (D := (dC, dI)) (ci := 13) (v := .ref (a k_62)) (C := RX13) (T := TX13) (N := 22) hx hb hts iwd_X13_look_X13 hown hK hP h0 (Wd_ob kg_1 sg_1 (by decide)) rfl 16 (by decide) (hts _ md_X13_look_8) (fun _ h9 => h9) (fl_q rfl ek_62) dX13_look_75 ?_
        refine lv_iload_n hx hb dX13_look_78 rfl (lv_at hl 0 rfl) ?_
        refine lv_aload_n hx hb dX13_look_79 rfl (lv_at hl 1 rfl) ?_
        obtain ⟨k_63, ek_63, hf⟩ := lnk_some hf
        refine va_get (D := (dC, dI)) (ci := 13) (v := .ref (a k_63)) (C := RX13) (T := TX13) (N := 22) hx hb hts iwd_X13_look_X13 hown hK hP h0 (Wd_ob kg_1 sg_1 (by decide)) rfl 9 (by decide) (hts _ md_X13_look_9) (fun _ h9 => h9) (fl_q rfl ek_63) dX13_look_80 ?_
        refine lv_bipush (v := 40) hx hb dX13_look_83 (by decide) ?_
        refine lv_iload_n hx hb dX13_look_85 rfl (lv_at hl 2 rfl) ?_
        refine lv_imul hx hb dX13_look_86 ?_
        refine lv_iload_n hx hb dX13_look_87 rfl (lv_at hl 0 rfl) ?_
        refine lv_iadd hx hb dX13_look_88 ?_
        obtain ⟨g_64, hf⟩ := grd_some hf
        obtain ⟨kg_64, sg_64, ig_64⟩ := okA_at g_64
        refine va_lald hx hb hK hP k_63 2 (Wd_al kg_64 sg_64) rfl ig_64 dX13_look_89 ?_
        obtain ⟨g_65, hf⟩ := grd_some hf
        obtain ⟨kg_65, sg_65, ig_65⟩ := okA_at g_65
        refine va_last hx hb hK hP hD hS k_62 2 (Wd_al kg_65 sg_65) rfl ig_65 dX13_look_90 (fun H_66 locs hP2 hD2 hS2 => ?_)
        rw [Wd_tl sg_65] at hP2 hD2
        obtain ⟨z_67, ez_67⟩ : ∃ w, w = sl z_61 k_62 p_13.toNatClampNeg (z_61.2.1 k_63 ((40 * x0) + p_13).toNatClampNeg) := ⟨_, rfl⟩
        rw [← ez_67] at hP2 hD2
        replace hf := lt_at ez_67 hf
        clear ez_67
        replace hP := hP2
        replace hD := hD2
        replace hS := hS2
        clear hP2 hD2 hS2
        refine lv_aload_n hx hb dX13_look_91 rfl (lv_at hl 1 rfl) ?_
        obtain ⟨k_68, ek_68, hf⟩ := lnk_some hf
        refine va_get (D := (dC, dI)) (ci := 13) (v := .ref (a k_68)) (C := RX13) (T := TX13) (N := 22) hx hb hts iwd_X13_look_X13 hown hK hP h0 (Wd_ob kg_1 sg_1 (by decide)) rfl 17 (by decide) (hts _ md_X13_look_10) (fun _ h9 => h9) (fl_q rfl ek_68) dX13_look_92 ?_
        refine lv_iload_n hx hb dX13_look_95 rfl (lv_at hl 0 rfl) ?_
        refine lv_aload_n hx hb dX13_look_96 rfl (lv_at hl 1 rfl) ?_
        obtain ⟨k_69, ek_69, hf⟩ := lnk_some hf
        refine va_get (D := (dC, dI)) (ci := 13) (v := .ref (a k_69)) (C := RX13) (T := TX13) (N := 22) hx hb hts iwd_X13_look_X13 hown hK hP h0 (Wd_ob kg_1 sg_1 (by decide)) rfl 10 (by decide) (hts _ md_X13_look_11) (fun _ h9 => h9) (fl_q rfl ek_69) dX13_look_97 ?_
        refine lv_bipush (v := 40) hx hb dX13_look_100 (by decide) ?_
        refine lv_iload_n hx hb dX13_look_102 rfl (lv_at hl 2 rfl) ?_
        refine lv_imul hx hb dX13_look_103 ?_
        refine lv_iload_n hx hb dX13_look_104 rfl (lv_at hl 0 rfl) ?_
        refine lv_iadd hx hb dX13_look_105 ?_
        obtain ⟨g_70, hf⟩ := grd_some hf
        obtain ⟨kg_70, sg_70, ig_70⟩ := okA_at g_70
        refine va_zald hx hb hK hP k_69 3 (Wd_az kg_70 sg_70) rfl ig_70 dX13_look_106 ?_
        obtain ⟨g_71, hf⟩ := grd_some hf
        obtain ⟨kg_71, sg_71, ig_71⟩ := okA_at g_71
        refine va_zast hx hb hK hP hD hS k_68 3 (Wd_az kg_71 sg_71) rfl ig_71 dX13_look_107 (fun H_72 locs hP2 hD2 hS2 => ?_)
        rw [Wd_tz sg_71] at hP2 hD2
        obtain ⟨z_73, ez_73⟩ : ∃ w, w = si z_67 k_68 p_13.toNatClampNeg (vp_nar .boolean (z_67.1 k_69 ((40 * x0) + p_13).toNatClampNeg)) := ⟨_, rfl⟩
        rw [← ez_73] at hP2 hD2
        replace hf := lt_at ez_73 hf
        clear ez_73
        replace hP := hP2
        replace hD := hD2
        replace hS := hS2
        clear hP2 hD2 hS2
        refine lv_iinc (v := (p_13 + 1)) (lv' := [(2, .int (p_13 + 1)), (0, .ref (a h0)), (1, .int x0)]) hx hb dX13_look_108 hl (k := 0) rfl rfl (by decide) rfl (fun ls hl2 => ?_)
        replace hl := hl2
        clear hl2
        refine lv_goto (tgt := 49) hx hb dX13_look_111 (by decide) ?_
        exact ih49 (z_73, (p_13 + 1)) ls H_72 locs ⟨lv_sub hl [0, 1, 2] rfl, hP, hD, hS⟩ hf
    · skip
      rw [if_neg c_12] at hf
      obtain ⟨h8, h9⟩ := ret_some hf
      rw [h8]
      exact W.vret hx hb hr (fun t ht hW => ⟨⟨(), rfl, trivial, by rw [ht]; exact hP, va_K.moved hW.alike hK, hD⟩, hS.F ht⟩) hS.2.2 dX13_look_46
  refine de_cut (h := 29) (fun (x : St) => [.ref (a h0)]) (fun x ls H locs => lv_has ls 4 [(0, .ref (a h0)), (1, .int x0)] ∧ va_P (dC, dI) vwCl (Wd cy a sh n x) H ∧ va_D A (Wd cy a sh n x) ∧ va_S A s.heap H locs) (fun x => fn_X13_look_B29 F sh n h0 x0 x) (z8, r8) ?_ (fun B29 => ?_)
  · intro x ls H locs hI hf
    obtain ⟨z_74, ez⟩ : ∃ w, w = x := ⟨_, rfl⟩
    subst ez
    obtain ⟨hl2, hP2, hD2, hS2⟩ := hI
    replace hl : lv_has ls 4 [(0, .ref (a h0)), (1, .int x0)] := hl2
    replace hP := hP2
    replace hD := hD2
    replace hS := hS2
    clear hl2 hP2 hD2 hS2
    replace hf := fn_X13_look_B29_s hf
    refine W.eq (g2 := F0 m 29 ls [.ref (a h0)]) rfl ?_
    refine lv_iconst (v := 1) hx hb dX13_look_29 (by decide) ?_
    refine lv_goto (tgt := 34) hx hb dX13_look_30 (by decide) ?_
    exact B34 (z_74, 1) ls H locs ⟨lv_sub hl [0, 1] rfl, hP, hD, hS⟩ hf
  refine lv_if_eq (tgt := 29) hx hb dX13_look_19 (by decide) (fun c_75 => ?_) (fun c_75 => ?_)
  · skip
    rw [if_pos c_75] at hf
    exact B29 (z_4) ls H_5 locs ⟨lv_sub hl [0, 1] rfl, hP, hD, hS⟩ hf
  · skip
    rw [if_neg c_75] at hf
    refine lv_aload_n hx hb dX13_look_22 rfl (lv_at hl 0 rfl) ?_
    refine va_get (D := (dC, dI)) (ci := 13) (v := .int (z_4.1 h0 14)) (C := RX13) (T := TX13) (N := 22) hx hb hts iwd_X13_look_X13 hown hK hP h0 (Wd_ob kg_1 sg_1 (by decide)) rfl 14 (by decide) (hts _ md_X13_look_3) (fun _ h9 => h9) (fl_at (t := 0) rfl) dX13_look_23 ?_
    refine lv_if_ne (tgt := 33) hx hb dX13_look_26 (by decide) (fun c_76 => ?_) (fun c_76 => ?_)
    · skip
      rw [if_neg c_76] at hf
      refine lv_iconst (v := 0) hx hb dX13_look_33 (by decide) ?_
      exact B34 (z_4, 0) ls H_5 locs ⟨lv_sub hl [0, 1] rfl, hP, hD, hS⟩ hf
    · skip
      rw [if_pos c_76] at hf
      exact B29 (z_4) ls H_5 locs ⟨lv_sub hl [0, 1] rfl, hP, hD, hS⟩ hf

theorem md_X18_callOne_1 : (.fieldLink RX18 40 "ResourceLedgerModel" "trees" "LResourceLedgerModel$Trees;" : Cond) ∈ wsX18_callOne := List.mem_of_getElem? (i := 1) rfl
theorem iwd_X18_callOne_X18 : ∀ w ∈ wsX180, w ∈ wsX18_callOne := fun _ h => List.mem_cons_of_mem _ (List.mem_append_left _ (List.mem_append_left _ (List.mem_append_left _ (List.mem_append_left _ (List.mem_append_right _ h)))))
theorem iwd_X18_callOne_X15 : ∀ w ∈ wsX150, w ∈ wsX18_callOne := fun _ h => List.mem_cons_of_mem _ (List.mem_append_left _ (List.mem_append_left _ (List.mem_append_left _ (List.mem_append_right _ h))))
theorem md_X18_callOne_2 : (.fieldLink RX18 271 "ResourceLedgerModel" "asked" "I" : Cond) ∈ wsX18_callOne := List.mem_of_getElem? (i := 2) rfl
theorem md_X18_callOne_3 : (.fieldLink RX18 411 "ResourceLedgerModel" "sender" "J" : Cond) ∈ wsX18_callOne := List.mem_of_getElem? (i := 3) rfl
theorem md_X18_callOne_4 : (.fieldLink RX18 300 "ResourceLedgerModel" "askedBalances" "[J" : Cond) ∈ wsX18_callOne := List.mem_of_getElem? (i := 4) rfl
theorem md_X18_callOne_5 : (.fieldLink RX18 264 "ResourceLedgerModel" "limit" "I" : Cond) ∈ wsX18_callOne := List.mem_of_getElem? (i := 5) rfl
theorem md_X18_callOne_6 : (.fieldLink RX18 550 "ResourceLedgerModel" "modulesCalled" "[I" : Cond) ∈ wsX18_callOne := List.mem_of_getElem? (i := 6) rfl
theorem md_X18_callOne_7 : (.fieldLink RX18 328 "ResourceLedgerModel" "frames" "I" : Cond) ∈ wsX18_callOne := List.mem_of_getElem? (i := 7) rfl
theorem md_X18_callOne_8 : (.fieldLink RX18 312 "ResourceLedgerModel" "height" "I" : Cond) ∈ wsX18_callOne := List.mem_of_getElem? (i := 8) rfl
theorem md_X18_callOne_9 : (.fieldLink RX18 556 "ResourceLedgerModel" "argumentCounts" "[I" : Cond) ∈ wsX18_callOne := List.mem_of_getElem? (i := 9) rfl
theorem md_X18_callOne_13 : (.fieldLink RX18 553 "ResourceLedgerModel" "functionsCalled" "[I" : Cond) ∈ wsX18_callOne := List.mem_of_getElem? (i := 13) rfl
theorem md_X18_callOne_14 : (.fieldLink RX18 250 "ResourceLedgerModel" "outcome" "I" : Cond) ∈ wsX18_callOne := List.mem_of_getElem? (i := 14) rfl
theorem md_X18_callOne_21 : (.fieldLink RX18 587 "ResourceLedgerModel" "resultCounts" "[I" : Cond) ∈ wsX18_callOne := List.mem_of_getElem? (i := 21) rfl
theorem md_X18_callOne_17 : (.fieldLink RX18 590 "ResourceLedgerModel" "resultTypes" "[B" : Cond) ∈ wsX18_callOne := List.mem_of_getElem? (i := 17) rfl
theorem md_X18_callOne_18 : (.fieldLink RX18 309 "ResourceLedgerModel" "stack" "[I" : Cond) ∈ wsX18_callOne := List.mem_of_getElem? (i := 18) rfl
theorem md_X18_callOne_19 : (.fieldLink RX18 593 "ResourceLedgerModel" "resultHighs" "[J" : Cond) ∈ wsX18_callOne := List.mem_of_getElem? (i := 19) rfl
theorem md_X18_callOne_20 : (.fieldLink RX18 596 "ResourceLedgerModel" "resultLows" "[J" : Cond) ∈ wsX18_callOne := List.mem_of_getElem? (i := 20) rfl
theorem md_X18_callOne_15 : (.constantLong RX18 283 (4) : Cond) ∈ wsX18_callOne := List.mem_of_getElem? (i := 15) rfl
theorem md_X18_callOne_16 : (.fieldLink RX18 253 "ResourceLedgerModel" "code" "J" : Cond) ∈ wsX18_callOne := List.mem_of_getElem? (i := 16) rfl
theorem md_X18_callOne_10 : (.fieldLink RX18 559 "ResourceLedgerModel" "argumentTypes" "[B" : Cond) ∈ wsX18_callOne := List.mem_of_getElem? (i := 10) rfl
theorem md_X18_callOne_11 : (.fieldLink RX18 562 "ResourceLedgerModel" "argumentHighs" "[J" : Cond) ∈ wsX18_callOne := List.mem_of_getElem? (i := 11) rfl
theorem md_X18_callOne_12 : (.fieldLink RX18 565 "ResourceLedgerModel" "argumentLows" "[J" : Cond) ∈ wsX18_callOne := List.mem_of_getElem? (i := 12) rfl
set_option maxHeartbeats 4000000 in
set_option maxRecDepth 100000 in
theorem de_X18_callOne (l : Launch) (dC : Nat → ClassId) (dI : Nat → Nat → Nat) (cy : Nat → ClassId) (a : Nat → Nat) (sh : Nat → Nat × Nat) (n sz : Nat) (F : Nat) (sk : Nat → Nat) (z : St) (h0 : Nat) (x0 : Int32) (x1 : Int32) (x2 : Int32) {z8 : St} {r8 : Unit} (hf : fn_X18_callOne F sh n z h0 x0 x1 x2 = some (z8, r8)) : Met l yX18_callOne wsX18_callOne ({ frames := 55, cells := 0, slots := 0, locals := 1279 }) (va_Pc [.ref (a h0), .int x0, .int x1, .int x2] (fun U => U.heap.size = sz ∧ va_P (dC, dI) vwCl (Wd cy a sh n z) U.heap ∧ va_K (dC, dI) vwCl (TYS cy) U ∧ va_D (fun _ => True) (Wd cy a sh n z) ∧ NK U ∧ SKs sk (a CBK) (va_A (Wd cy a sh n z) sz) U U.heap)) (va_Qv (fun u : Unit => True) (fun u t => va_P (dC, dI) vwCl (Wd cy a sh n z8) t.heap ∧ va_K (dC, dI) vwCl (TYS cy) t ∧ va_D (va_A (Wd cy a sh n z) sz) (Wd cy a sh n z8)) (va_A (Wd cy a sh n z) sz)) 0 0 (va_A (Wd cy a sh n z) sz) := by
  refine Met.ofW (cc := cX18_callOne) (maxL := 6) (ret := none) (by decide) rfl ?_
  intro p e s m args below meth c s₁ B hml hv
  obtain ⟨rfl, hsz, hP, hK, hD0, hN, hSK⟩ := hv
  have hx := B.exec
  have hb := B.bytes
  have hr := B.returns
  have hts := atoms_spec (ws := wsX18_callOne) B.pre
  have hown : s.vm.findClass RX18 = some m.cls := findClass_of_methodNamed B.named
  have hlocks := B.notSynchronized
  subst hsz
  have hD := hD0.self (sz := s.heap.size)
  clear hD0
  generalize hAe : va_A (Wd cy a sh n z) s.heap.size = A at hD hSK ⊢
  have hA : ∀ q : Nat, s.heap.size ≤ q → A q := fun q h => by rw [← hAe]; exact Or.inr h
  clear hAe
  have hS : va_S A s.heap s.heap [] := va_S.rf
  have hl := lv_entry ([.ref (a h0), .int x0, .int x1, .int x2]) (n := 6) (Nat.le_of_ble_eq_true rfl)
  rw [lg_entry_eq]
  generalize (lg_sl ([.ref (a h0), .int x0, .int x1, .int x2]) ++ List.replicate (6 - (lg_sl ([.ref (a h0), .int x0, .int x1, .int x2])).length) Slot.unset).toArray = ls at hl ⊢
  replace hl : lv_has ls 6 [(0, .ref (a h0)), (1, .int x0), (2, .int x1), (3, .int x2)] := hl
  unfold fn_X18_callOne at hf
  refine de_start hS hP (fun H locs hS hP => ?_)
  refine lv_aload_n hx hb dX18_callOne_0 rfl (lv_at hl 0 rfl) ?_
  obtain ⟨g_1, hf⟩ := grd_some hf
  obtain ⟨kg_1, sg_1⟩ := okO_at g_1
  obtain ⟨k_2, ek_2, hf⟩ := lnk_some hf
  refine va_get (D := (dC, dI)) (ci := 18) (v := .ref (a k_2)) (C := RX18) (T := TX18) (N := 78) hx hb hts iwd_X18_callOne_X18 hown hK hP h0 (Wd_ob kg_1 sg_1 (by decide)) rfl 15 (by decide) (hts _ md_X18_callOne_1) (fun _ h9 => h9) (fl_q rfl ek_2) dX18_callOne_1 ?_
  refine lv_iconst (v := 0) hx hb dX18_callOne_4 (by decide) ?_
  obtain ⟨g_3, hf⟩ := grd_some hf
  obtain ⟨kg_3, sg_3⟩ := okO_at g_3
  refine va_putN (D := (dC, dI)) (ci := 15) (v := .int 0) (ty := .int) (C := RX15) (T := TX15) (N := 6) hx hb hts iwd_X18_callOne_X15 tyX15 tyX15_ok nmX15 hown hK hP hD hS k_2 (Wd_ob kg_3 sg_3 (by decide)) rfl 5 (by decide) (va_Nw.use rfl (NK_f_X18_659 hN)) (fun _ h9 => h9) rfl (by decide +kernel) rfl rfl (by rw [fl_len]; decide) dX18_callOne_5 (fun H_4 locs hP2 hD2 hS2 => ?_)
  rw [Wd_si sg_3 (by decide) rfl] at hP2 hD2
  obtain ⟨z_5, ez_5⟩ : ∃ w, w = si z k_2 5 0 := ⟨_, rfl⟩
  rw [← ez_5] at hP2 hD2
  replace hf := lt_at ez_5 hf
  clear ez_5
  replace hP := hP2
  replace hD := hD2
  replace hS := hS2
  clear hP2 hD2 hS2
  refine lv_aload_n hx hb dX18_callOne_8 rfl (lv_at hl 0 rfl) ?_
  refine lv_iconst (v := 0) hx hb dX18_callOne_9 (by decide) ?_
  refine va_put (D := (dC, dI)) (ci := 18) (v := .int 0) (ty := .int) (C := RX18) (T := TX18) (N := 78) hx hb hts iwd_X18_callOne_X18 tyX18 tyX18_ok nmX18 hown hK hP hD hS h0 (Wd_ob kg_1 sg_1 (by decide)) rfl 29 (by decide) (hts _ md_X18_callOne_2) (fun _ h9 => h9) rfl (by decide +kernel) rfl rfl (by rw [fl_len]; decide) dX18_callOne_10 (fun H_6 locs hP2 hD2 hS2 => ?_)
  rw [Wd_si sg_1 (by decide) rfl] at hP2 hD2
  obtain ⟨z_7, ez_7⟩ : ∃ w, w = si z_5 h0 29 0 := ⟨_, rfl⟩
  rw [← ez_7] at hP2 hD2
  replace hf := lt_at ez_7 hf
  clear ez_7
  replace hP := hP2
  replace hD := hD2
  replace hS := hS2
  clear hP2 hD2 hS2
  refine lv_aload_n hx hb dX18_callOne_13 rfl (lv_at hl 0 rfl) ?_
  refine lv_iconst (v := 1) hx hb dX18_callOne_14 (by decide) ?_
  refine lv_aload_n hx hb dX18_callOne_15 rfl (lv_at hl 0 rfl) ?_
  refine va_get (D := (dC, dI)) (ci := 18) (v := .long (z_7.2.1 h0 24)) (C := RX18) (T := TX18) (N := 78) hx hb hts iwd_X18_callOne_X18 hown hK hP h0 (Wd_ob kg_1 sg_1 (by decide)) rfl 24 (by decide) (hts _ md_X18_callOne_3) (fun _ h9 => h9) (fl_at (t := 1) rfl) dX18_callOne_16 ?_
  refine lv_iconst (v := 0) hx hb dX18_callOne_19 (by decide) ?_
  obtain ⟨z_8, r_9, hfc, hf⟩ := cal_some hf
  have hFc := de_free hD hS hA
  refine va_calli (va_runV (As := [.int 1, .long (z_7.2.1 h0 24), .int 0]) (rest := []) ⟨hx, hb, hml, hown, hts⟩ (de_X18_ask l dC dI cy a sh n H_6.size F z_7 h0 1 (z_7.2.1 h0 24) 0 hfc) (cwV 3 hts gX18_callOne_X18_ask rfl rfl rfl (by decide +kernel) ⟨Nat.le_of_ble_eq_true rfl, Nat.le_of_ble_eq_true rfl⟩) ⟨fun a U g mk q => by obtain ⟨q0, q1, qP, qK, qD, qN⟩ := q; exact ⟨q0, q1, qP, va_K.moved (u := U) (U := U.calling g mk a) (Vm.Alike.refl U.vm) qK, qD, qN.same rfl⟩, va_recv hK hP (ci := 18) (q0 := h0) rfl (Wd_ob kg_1 sg_1 (by decide)), fun U hU hW => ⟨rfl, by rw [hU], by rw [hU]; exact hP, va_K.moved hW.alike hK, hD.weaken (fun _ _ _ _ => trivial), hN.warm hW⟩⟩ rfl rfl hl.1 rfl (lv_room (Nat.le_of_ble_eq_true rfl)) dX18_callOne_20 ⟨Nat.le_of_ble_eq_true rfl, Nat.le_of_ble_eq_true rfl⟩) hS (fun q _ h => hFc q h) hFc (fun rr u t H_10 locs ht hvm hw hB hz1 hk1 hS2 => ?_)
  rw [hw]
  clear hw
  obtain ⟨hP1, -, hD1⟩ := hB
  rw [ht] at hP1
  replace hD := hD1.weaken (fun _ _ _ h => hFc _ h)
  replace hP := hP1
  replace hS := hS2
  clear hP1 hD1 hS2 hFc hfc hz1 hk1 hvm ht
  refine lv_pop hx hb dX18_callOne_23 rfl ?_
  refine lv_aload_n hx hb dX18_callOne_24 rfl (lv_at hl 0 rfl) ?_
  obtain ⟨k_11, ek_11, hf⟩ := lnk_some hf
  refine va_get (D := (dC, dI)) (ci := 18) (v := .ref (a k_11)) (C := RX18) (T := TX18) (N := 78) hx hb hts iwd_X18_callOne_X18 hown hK hP h0 (Wd_ob kg_1 sg_1 (by decide)) rfl 33 (by decide) (hts _ md_X18_callOne_4) (fun _ h9 => h9) (fl_q rfl ek_11) dX18_callOne_25 ?_
  refine lv_iconst (v := 0) hx hb dX18_callOne_28 (by decide) ?_
  refine lv_dup2_11 hx hb dX18_callOne_29 rfl rfl ?_
  obtain ⟨g_12, hf⟩ := grd_some hf
  obtain ⟨kg_12, sg_12, ig_12⟩ := okA_at g_12
  refine va_lald hx hb hK hP k_11 2 (Wd_al kg_12 sg_12) rfl ig_12 dX18_callOne_30 ?_
  refine lv_aload_n hx hb dX18_callOne_31 rfl (lv_at hl 0 rfl) ?_
  refine va_get (D := (dC, dI)) (ci := 18) (v := .int (z_8.1 h0 25)) (C := RX18) (T := TX18) (N := 78) hx hb hts iwd_X18_callOne_X18 hown hK hP h0 (Wd_ob kg_1 sg_1 (by decide)) rfl 25 (by decide) (hts _ md_X18_callOne_5) (fun _ h9 => h9) (fl_at (t := 0) rfl) dX18_callOne_32 ?_
  refine lv_i2l (v := ((z_8.1 h0 25) : Int32).toInt64) hx hb dX18_callOne_35 rfl ?_
  refine lv_lsub hx hb dX18_callOne_36 ?_
  obtain ⟨g_13, hf⟩ := grd_some hf
  obtain ⟨kg_13, sg_13, ig_13⟩ := okA_at g_13
  refine va_last hx hb hK hP hD hS k_11 2 (Wd_al kg_13 sg_13) rfl ig_13 dX18_callOne_37 (fun H_14 locs hP2 hD2 hS2 => ?_)
  rw [Wd_tl sg_13] at hP2 hD2
  obtain ⟨z_15, ez_15⟩ : ∃ w, w = sl z_8 k_11 (0 : Int32).toNatClampNeg ((z_8.2.1 k_11 (0 : Int32).toNatClampNeg) - (((z_8.1 h0 25) : Int32).toInt64)) := ⟨_, rfl⟩
  rw [← ez_15] at hP2 hD2
  replace hf := lt_at ez_15 hf
  clear ez_15
  replace hP := hP2
  replace hD := hD2
  replace hS := hS2
  clear hP2 hD2 hS2
  refine lv_aload_n hx hb dX18_callOne_38 rfl (lv_at hl 0 rfl) ?_
  refine lv_iconst (v := 2) hx hb dX18_callOne_39 (by decide) ?_
  refine lv_aload_n hx hb dX18_callOne_40 rfl (lv_at hl 0 rfl) ?_
  obtain ⟨k_16, ek_16, hf⟩ := lnk_some hf
  refine va_get (D := (dC, dI)) (ci := 18) (v := .ref (a k_16)) (C := RX18) (T := TX18) (N := 78) hx hb hts iwd_X18_callOne_X18 hown hK hP h0 (Wd_ob kg_1 sg_1 (by decide)) rfl 58 (by decide) (hts _ md_X18_callOne_6) (fun _ h9 => h9) (fl_q rfl ek_16) dX18_callOne_41 ?_
  refine lv_iload_n hx hb dX18_callOne_44 rfl (lv_at hl 1 rfl) ?_
  obtain ⟨g_17, hf⟩ := grd_some hf
  obtain ⟨kg_17, sg_17, ig_17⟩ := okA_at g_17
  refine va_iald hx hb hK hP k_16 1 (Wd_ai kg_17 sg_17) rfl ig_17 dX18_callOne_45 ?_
  refine lv_i2l (v := ((z_15.1 k_16 x0.toNatClampNeg) : Int32).toInt64) hx hb dX18_callOne_46 rfl ?_
  refine lv_iconst (v := 0) hx hb dX18_callOne_47 (by decide) ?_
  obtain ⟨z_18, r_19, hfc, hf⟩ := cal_some hf
  have hFc := de_free hD hS hA
  refine va_calli (va_runV (As := [.int 2, .long (((z_15.1 k_16 x0.toNatClampNeg) : Int32).toInt64), .int 0]) (rest := []) ⟨hx, hb, hml, hown, hts⟩ (de_X18_ask l dC dI cy a sh n H_14.size F z_15 h0 2 (((z_15.1 k_16 x0.toNatClampNeg) : Int32).toInt64) 0 hfc) (cwV 3 hts gX18_callOne_X18_ask rfl rfl rfl (by decide +kernel) ⟨Nat.le_of_ble_eq_true rfl, Nat.le_of_ble_eq_true rfl⟩) ⟨fun a U g mk q => by obtain ⟨q0, q1, qP, qK, qD, qN⟩ := q; exact ⟨q0, q1, qP, va_K.moved (u := U) (U := U.calling g mk a) (Vm.Alike.refl U.vm) qK, qD, qN.same rfl⟩, va_recv hK hP (ci := 18) (q0 := h0) rfl (Wd_ob kg_1 sg_1 (by decide)), fun U hU hW => ⟨rfl, by rw [hU], by rw [hU]; exact hP, va_K.moved hW.alike hK, hD.weaken (fun _ _ _ _ => trivial), hN.warm hW⟩⟩ rfl rfl hl.1 rfl (lv_room (Nat.le_of_ble_eq_true rfl)) dX18_callOne_48 ⟨Nat.le_of_ble_eq_true rfl, Nat.le_of_ble_eq_true rfl⟩) hS (fun q _ h => hFc q h) hFc (fun rr u t H_20 locs ht hvm hw hB hz1 hk1 hS2 => ?_)
  rw [hw]
  clear hw
  obtain ⟨hP1, -, hD1⟩ := hB
  rw [ht] at hP1
  replace hD := hD1.weaken (fun _ _ _ h => hFc _ h)
  replace hP := hP1
  replace hS := hS2
  clear hP1 hD1 hS2 hFc hfc hz1 hk1 hvm ht
  refine lv_pop hx hb dX18_callOne_51 rfl ?_
  refine lv_aload_n hx hb dX18_callOne_52 rfl (lv_at hl 0 rfl) ?_
  refine lv_iconst (v := 0) hx hb dX18_callOne_53 (by decide) ?_
  refine va_put (D := (dC, dI)) (ci := 18) (v := .int 0) (ty := .int) (C := RX18) (T := TX18) (N := 78) hx hb hts iwd_X18_callOne_X18 tyX18 tyX18_ok nmX18 hown hK hP hD hS h0 (Wd_ob kg_1 sg_1 (by decide)) rfl 36 (by decide) (hts _ md_X18_callOne_7) (fun _ h9 => h9) rfl (by decide +kernel) rfl rfl (by rw [fl_len]; decide) dX18_callOne_54 (fun H_21 locs hP2 hD2 hS2 => ?_)
  rw [Wd_si sg_1 (by decide) rfl] at hP2 hD2
  obtain ⟨z_22, ez_22⟩ : ∃ w, w = si z_18 h0 36 0 := ⟨_, rfl⟩
  rw [← ez_22] at hP2 hD2
  replace hf := lt_at ez_22 hf
  clear ez_22
  replace hP := hP2
  replace hD := hD2
  replace hS := hS2
  clear hP2 hD2 hS2
  refine lv_aload_n hx hb dX18_callOne_57 rfl (lv_at hl 0 rfl) ?_
  refine lv_iconst (v := 0) hx hb dX18_callOne_58 (by decide) ?_
  refine va_put (D := (dC, dI)) (ci := 18) (v := .int 0) (ty := .int) (C := RX18) (T := TX18) (N := 78) hx hb hts iwd_X18_callOne_X18 tyX18 tyX18_ok nmX18 hown hK hP hD hS h0 (Wd_ob kg_1 sg_1 (by decide)) rfl 45 (by decide) (hts _ md_X18_callOne_8) (fun _ h9 => h9) rfl (by decide +kernel) rfl rfl (by rw [fl_len]; decide) dX18_callOne_59 (fun H_23 locs hP2 hD2 hS2 => ?_)
  rw [Wd_si sg_1 (by decide) rfl] at hP2 hD2
  obtain ⟨z_24, ez_24⟩ : ∃ w, w = si z_22 h0 45 0 := ⟨_, rfl⟩
  rw [← ez_24] at hP2 hD2
  replace hf := lt_at ez_24 hf
  clear ez_24
  replace hP := hP2
  replace hD := hD2
  replace hS := hS2
  clear hP2 hD2 hS2
  refine lv_iconst (v := 0) hx hb dX18_callOne_62 (by decide) ?_
  refine lv_istore (lv' := [(4, .int 0), (0, .ref (a h0)), (1, .int x0), (2, .int x1), (3, .int x2)]) hx hb dX18_callOne_63 hl (by decide) rfl (fun ls hl2 => ?_)
  replace hl := hl2
  clear hl2
  have hl0 : lv_has ls 6 [(4, .int 0), (0, .ref (a h0)), (1, .int x0), (2, .int x1)] := lv_sub hl [0, 1, 2, 3] rfl
  refine de_loop (h := 65) (fun (x : St × Int32) ls H locs => lv_has ls 6 [(4, .int x.2), (0, .ref (a h0)), (1, .int x0), (2, .int x1)] ∧ va_P (dC, dI) vwCl (Wd cy a sh n x.1) H ∧ va_D A (Wd cy a sh n x.1) ∧ va_S A s.heap H locs) (fun f x => fn_X18_callOne_L65 F sh n h0 x0 x1 f x.1 x.2) (z8, r8) ?_ (fun _ => rfl) F (z_24, 0) ls H_23 locs ⟨hl0, hP, hD, hS⟩ hf
  intro f_27 x ls H locs ih65 hI hf
  obtain ⟨z_26, p_25⟩ := x
  obtain ⟨hl2, hP2, hD2, hS2⟩ := hI
  replace hl : lv_has ls 6 [(4, .int p_25), (0, .ref (a h0)), (1, .int x0), (2, .int x1)] := hl2
  replace hP := hP2
  replace hD := hD2
  replace hS := hS2
  clear hl2 hP2 hD2 hS2 hl0
  replace hf := fn_X18_callOne_L65_s hf
  refine lv_iload hx hb dX18_callOne_65 (lv_at hl 0 rfl) ?_
  refine lv_aload_n hx hb dX18_callOne_67 rfl (lv_at hl 1 rfl) ?_
  obtain ⟨k_28, ek_28, hf⟩ := lnk_some hf
  refine va_get (D := (dC, dI)) (ci := 18) (v := .ref (a k_28)) (C := RX18) (T := TX18) (N := 78) hx hb hts iwd_X18_callOne_X18 hown hK hP h0 (Wd_ob kg_1 sg_1 (by decide)) rfl 60 (by decide) (hts _ md_X18_callOne_9) (fun _ h9 => h9) (fl_q rfl ek_28) dX18_callOne_68 ?_
  refine lv_iload_n hx hb dX18_callOne_71 rfl (lv_at hl 2 rfl) ?_
  obtain ⟨g_29, hf⟩ := grd_some hf
  obtain ⟨kg_29, sg_29, ig_29⟩ := okA_at g_29
  refine va_iald hx hb hK hP k_28 1 (Wd_ai kg_29 sg_29) rfl ig_29 dX18_callOne_72 ?_
  refine lv_icmp_ge (tgt := 124) hx hb dX18_callOne_73 (by decide) (fun c_30 => ?_) (fun c_30 => ?_)
  · skip
    rw [if_pos c_30] at hf
    refine lv_aload_n hx hb dX18_callOne_124 rfl (lv_at hl 1 rfl) ?_
    refine lv_iload_n hx hb dX18_callOne_125 rfl (lv_at hl 3 rfl) ?_
    refine lv_aload_n hx hb dX18_callOne_126 rfl (lv_at hl 1 rfl) ?_
    obtain ⟨k_31, ek_31, hf⟩ := lnk_some hf
    refine va_get (D := (dC, dI)) (ci := 18) (v := .ref (a k_31)) (C := RX18) (T := TX18) (N := 78) hx hb hts iwd_X18_callOne_X18 hown hK hP h0 (Wd_ob kg_1 sg_1 (by decide)) rfl 59 (by decide) (hts _ md_X18_callOne_13) (fun _ h9 => h9) (fl_q rfl ek_31) dX18_callOne_127 ?_
    refine lv_iload_n hx hb dX18_callOne_130 rfl (lv_at hl 2 rfl) ?_
    obtain ⟨g_32, hf⟩ := grd_some hf
    obtain ⟨kg_32, sg_32, ig_32⟩ := okA_at g_32
    refine va_iald hx hb hK hP k_31 1 (Wd_ai kg_32 sg_32) rfl ig_32 dX18_callOne_131 ?_
    refine lv_aload_n hx hb dX18_callOne_132 rfl (lv_at hl 1 rfl) ?_
    obtain ⟨k_33, ek_33, hf⟩ := lnk_some hf
    refine va_get (D := (dC, dI)) (ci := 18) (v := .ref (a k_33)) (C := RX18) (T := TX18) (N := 78) hx hb hts iwd_X18_callOne_X18 hown hK hP h0 (Wd_ob kg_1 sg_1 (by decide)) rfl 60 (by decide) (hts _ md_X18_callOne_9) (fun _ h9 => h9) (fl_q rfl ek_33) dX18_callOne_133 ?_
    refine lv_iload_n hx hb dX18_callOne_136 rfl (lv_at hl 2 rfl) ?_
    obtain ⟨g_34, hf⟩ := grd_some hf
    obtain ⟨kg_34, sg_34, ig_34⟩ := okA_at g_34
    refine va_iald hx hb hK hP k_33 1 (Wd_ai kg_34 sg_34) rfl ig_34 dX18_callOne_137 ?_
    obtain ⟨z_35, _u, hfc, hf⟩ := cal_some hf
    have hFc := de_free hD hS hA
    refine va_callv (va_runV (As := [.int x1, .int (z_26.1 k_31 x0.toNatClampNeg), .int (z_26.1 k_33 x0.toNatClampNeg)]) (rest := []) ⟨hx, hb, hml, hown, hts⟩ (de_X18_enter l dC dI cy a sh n H.size F z_26 h0 x1 (z_26.1 k_31 x0.toNatClampNeg) (z_26.1 k_33 x0.toNatClampNeg) hfc) (cwV 3 hts gX18_callOne_X18_enter rfl rfl rfl (by decide +kernel) ⟨Nat.le_of_ble_eq_true rfl, Nat.le_of_ble_eq_true rfl⟩) ⟨fun a U g mk q => by obtain ⟨q0, q1, qP, qK, qD, qN⟩ := q; exact ⟨q0, q1, qP, va_K.moved (u := U) (U := U.calling g mk a) (Vm.Alike.refl U.vm) qK, qD, qN.same rfl⟩, va_recv hK hP (ci := 18) (q0 := h0) rfl (Wd_ob kg_1 sg_1 (by decide)), fun U hU hW => ⟨rfl, by rw [hU], by rw [hU]; exact hP, va_K.moved hW.alike hK, hD.weaken (fun _ _ _ _ => trivial), hN.warm hW⟩⟩ rfl rfl hl.1 rfl (lv_room (Nat.le_of_ble_eq_true rfl)) dX18_callOne_138 ⟨Nat.le_of_ble_eq_true rfl, Nat.le_of_ble_eq_true rfl⟩) hS (fun q _ h => hFc q h) hFc (fun u t H_36 locs ht hvm hw hB hz1 hk1 hS2 => ?_)
    obtain ⟨hP1, -, hD1⟩ := hB
    rw [ht] at hP1
    replace hD := hD1.weaken (fun _ _ _ h => hFc _ h)
    replace hP := hP1
    replace hS := hS2
    clear hP1 hD1 hS2 hFc hfc hz1 hk1 hvm ht
    have hl0 : lv_has ls 6 [(0, .ref (a h0)), (1, .int x0)] := lv_sub hl [1, 2] rfl
    refine de_loop (h := 141) (fun (x : St) ls H locs => lv_has ls 6 [(0, .ref (a h0)), (1, .int x0)] ∧ va_P (dC, dI) vwCl (Wd cy a sh n x) H ∧ va_D A (Wd cy a sh n x) ∧ va_S A s.heap H locs) (fun f x => fn_X18_callOne_L141 F sh n h0 x0 f x) (z8, r8) ?_ (fun _ => rfl) F (z_35) ls H_36 locs ⟨hl0, hP, hD, hS⟩ hf
    intro f_38 x ls H locs ih141 hI hf
    obtain ⟨z_37, ez⟩ : ∃ w, w = x := ⟨_, rfl⟩
    subst ez
    obtain ⟨hl2, hP2, hD2, hS2⟩ := hI
    replace hl : lv_has ls 6 [(0, .ref (a h0)), (1, .int x0)] := hl2
    replace hP := hP2
    replace hD := hD2
    replace hS := hS2
    clear hl2 hP2 hD2 hS2 hl0
    replace hf := fn_X18_callOne_L141_s hf
    refine lv_aload_n hx hb dX18_callOne_141 rfl (lv_at hl 0 rfl) ?_
    obtain ⟨z_39, r_40, hfc, hf⟩ := cal_some hf
    have hFc := de_free hD hS hA
    refine va_calli (va_runV (As := []) (rest := []) ⟨hx, hb, hml, hown, hts⟩ (de_X18_goesOn l dC dI cy a sh n H.size F z_37 h0 hfc) (cwV 0 hts gX18_callOne_X18_goesOn rfl rfl rfl (by decide +kernel) ⟨Nat.le_of_ble_eq_true rfl, Nat.le_of_ble_eq_true rfl⟩) ⟨fun a U g mk q => by obtain ⟨q0, q1, qP, qK, qD, qN⟩ := q; exact ⟨q0, q1, qP, va_K.moved (u := U) (U := U.calling g mk a) (Vm.Alike.refl U.vm) qK, qD, qN.same rfl⟩, va_recv hK hP (ci := 18) (q0 := h0) rfl (Wd_ob kg_1 sg_1 (by decide)), fun U hU hW => ⟨rfl, by rw [hU], by rw [hU]; exact hP, va_K.moved hW.alike hK, hD.weaken (fun _ _ _ _ => trivial), hN.warm hW⟩⟩ rfl rfl hl.1 rfl (lv_room (Nat.le_of_ble_eq_true rfl)) dX18_callOne_142 ⟨Nat.le_of_ble_eq_true rfl, Nat.le_of_ble_eq_true rfl⟩) hS (fun q _ h => hFc q h) hFc (fun rr u t H_41 locs ht hvm hw hB hz1 hk1 hS2 => ?_)
    rw [hw]
    clear hw
    obtain ⟨hP1, -, hD1⟩ := hB
    rw [ht] at hP1
    replace hD := hD1.weaken (fun _ _ _ h => hFc _ h)
    replace hP := hP1
    replace hS := hS2
    clear hP1 hD1 hS2 hFc hfc hz1 hk1 hvm ht
    refine lv_if_eq (tgt := 155) hx hb dX18_callOne_145 (by decide) (fun c_42 => ?_) (fun c_42 => ?_)
    · skip
      rw [if_pos c_42] at hf
      refine lv_aload_n hx hb dX18_callOne_155 rfl (lv_at hl 0 rfl) ?_
      refine va_get (D := (dC, dI)) (ci := 18) (v := .int (z_39.1 h0 27)) (C := RX18) (T := TX18) (N := 78) hx hb hts iwd_X18_callOne_X18 hown hK hP h0 (Wd_ob kg_1 sg_1 (by decide)) rfl 27 (by decide) (hts _ md_X18_callOne_14) (fun _ h9 => h9) (fl_at (t := 0) rfl) dX18_callOne_156 ?_
      refine de_cut (h := 181) (fun (x : St) => []) (fun x ls H locs => lv_has ls 6 [(0, .ref (a h0)), (1, .int x0)] ∧ va_P (dC, dI) vwCl (Wd cy a sh n x) H ∧ va_D A (Wd cy a sh n x) ∧ va_S A s.heap H locs) (fun x => fn_X18_callOne_B181 F sh n h0 x0 x) (z8, r8) ?_ (fun B181 => ?_)
      · intro x ls H locs hI hf
        obtain ⟨z_43, ez⟩ : ∃ w, w = x := ⟨_, rfl⟩
        subst ez
        obtain ⟨hl2, hP2, hD2, hS2⟩ := hI
        replace hl : lv_has ls 6 [(0, .ref (a h0)), (1, .int x0)] := hl2
        replace hP := hP2
        replace hD := hD2
        replace hS := hS2
        clear hl2 hP2 hD2 hS2
        replace hf := fn_X18_callOne_B181_s hf
        refine W.eq (g2 := F0 m 181 ls []) rfl ?_
        refine lv_aload_n hx hb dX18_callOne_181 rfl (lv_at hl 0 rfl) ?_
        refine va_get (D := (dC, dI)) (ci := 18) (v := .int (z_43.1 h0 27)) (C := RX18) (T := TX18) (N := 78) hx hb hts iwd_X18_callOne_X18 hown hK hP h0 (Wd_ob kg_1 sg_1 (by decide)) rfl 27 (by decide) (hts _ md_X18_callOne_14) (fun _ h9 => h9) (fl_at (t := 0) rfl) dX18_callOne_182 ?_
        refine lv_if_eq (tgt := 189) hx hb dX18_callOne_185 (by decide) (fun c_44 => ?_) (fun c_44 => ?_)
        · skip
          rw [if_pos c_44] at hf
          refine lv_iconst (v := 0) hx hb dX18_callOne_189 (by decide) ?_
          refine lv_istore (lv' := [(4, .int 0), (0, .ref (a h0)), (1, .int x0)]) hx hb dX18_callOne_190 hl (by decide) rfl (fun ls hl2 => ?_)
          replace hl := hl2
          clear hl2
          have hl0 : lv_has ls 6 [(4, .int 0), (0, .ref (a h0)), (1, .int x0)] := lv_sub hl [0, 1, 2] rfl
          refine de_loop (h := 192) (fun (x : St × Int32) ls H locs => lv_has ls 6 [(4, .int x.2), (0, .ref (a h0)), (1, .int x0)] ∧ va_P (dC, dI) vwCl (Wd cy a sh n x.1) H ∧ va_D A (Wd cy a sh n x.1) ∧ va_S A s.heap H locs) (fun f x => fn_X18_callOne_L192 F sh n h0 x0 f x.1 x.2) (z8, r8) ?_ (fun _ => rfl) F (z_43, 0) ls H locs ⟨hl0, hP, hD, hS⟩ hf
          intro f_47 x ls H locs ih192 hI hf
          obtain ⟨z_46, p_45⟩ := x
          obtain ⟨hl2, hP2, hD2, hS2⟩ := hI
          replace hl : lv_has ls 6 [(4, .int p_45), (0, .ref (a h0)), (1, .int x0)] := hl2
          replace hP := hP2
          replace hD := hD2
          replace hS := hS2
          clear hl2 hP2 hD2 hS2 hl0
          replace hf := fn_X18_callOne_L192_s hf
          refine lv_iload hx hb dX18_callOne_192 (lv_at hl 0 rfl) ?_
          refine lv_aload_n hx hb dX18_callOne_194 rfl (lv_at hl 1 rfl) ?_
          refine va_get (D := (dC, dI)) (ci := 18) (v := .int (z_46.1 h0 45)) (C := RX18) (T := TX18) (N := 78) hx hb hts iwd_X18_callOne_X18 hown hK hP h0 (Wd_ob kg_1 sg_1 (by decide)) rfl 45 (by decide) (hts _ md_X18_callOne_8) (fun _ h9 => h9) (fl_at (t := 0) rfl) dX18_callOne_195 ?_
          refine lv_icmp_ge (tgt := 282) hx hb dX18_callOne_198 (by decide) (fun c_48 => ?_) (fun c_48 => ?_)
          · skip
            rw [if_pos c_48] at hf
            refine lv_aload_n hx hb dX18_callOne_282 rfl (lv_at hl 1 rfl) ?_
            obtain ⟨k_49, ek_49, hf⟩ := lnk_some hf
            refine va_get (D := (dC, dI)) (ci := 18) (v := .ref (a k_49)) (C := RX18) (T := TX18) (N := 78) hx hb hts iwd_X18_callOne_X18 hown hK hP h0 (Wd_ob kg_1 sg_1 (by decide)) rfl 70 (by decide) (hts _ md_X18_callOne_21) (fun _ h9 => h9) (fl_q rfl ek_49) dX18_callOne_283 ?_
            refine lv_iload_n hx hb dX18_callOne_286 rfl (lv_at hl 2 rfl) ?_
            refine lv_aload_n hx hb dX18_callOne_287 rfl (lv_at hl 1 rfl) ?_
            refine va_get (D := (dC, dI)) (ci := 18) (v := .int (z_46.1 h0 45)) (C := RX18) (T := TX18) (N := 78) hx hb hts iwd_X18_callOne_X18 hown hK hP h0 (Wd_ob kg_1 sg_1 (by decide)) rfl 45 (by decide) (hts _ md_X18_callOne_8) (fun _ h9 => h9) (fl_at (t := 0) rfl) dX18_callOne_288 ?_
            obtain ⟨g_50, hf⟩ := grd_some hf
            obtain ⟨kg_50, sg_50, ig_50⟩ := okA_at g_50
            refine va_iast hx hb hK hP hD hS k_49 1 (Wd_ai kg_50 sg_50) rfl ig_50 dX18_callOne_291 (fun H_51 locs hP2 hD2 hS2 => ?_)
            rw [Wd_ti sg_50] at hP2 hD2
            obtain ⟨z_52, ez_52⟩ : ∃ w, w = si z_46 k_49 x0.toNatClampNeg (z_46.1 h0 45) := ⟨_, rfl⟩
            rw [← ez_52] at hP2 hD2
            replace hf := lt_at ez_52 hf
            clear ez_52
            replace hP := hP2
            replace hD := hD2
            replace hS := hS2
            clear hP2 hD2 hS2
            refine lv_aload_n hx hb dX18_callOne_292 rfl (lv_at hl 1 rfl) ?_
            obtain ⟨z_53, _u, hfc, hf⟩ := cal_some hf
            have hFc := de_free hD hS hA
            refine va_callv (va_runV (As := []) (rest := []) ⟨hx, hb, hml, hown, hts⟩ (de_X18_settle l dC dI cy a sh n H_51.size F z_52 h0 hfc) (cwV 0 hts gX18_callOne_X18_settle rfl rfl rfl (by decide +kernel) ⟨Nat.le_of_ble_eq_true rfl, Nat.le_of_ble_eq_true rfl⟩) ⟨fun a U g mk q => by obtain ⟨q0, q1, qP, qK, qD, qN⟩ := q; exact ⟨q0, q1, qP, va_K.moved (u := U) (U := U.calling g mk a) (Vm.Alike.refl U.vm) qK, qD, qN.same rfl⟩, va_recv hK hP (ci := 18) (q0 := h0) rfl (Wd_ob kg_1 sg_1 (by decide)), fun U hU hW => ⟨rfl, by rw [hU], by rw [hU]; exact hP, va_K.moved hW.alike hK, hD.weaken (fun _ _ _ _ => trivial), hN.warm hW⟩⟩ rfl rfl hl.1 rfl (lv_room (Nat.le_of_ble_eq_true rfl)) dX18_callOne_293 ⟨Nat.le_of_ble_eq_true rfl, Nat.le_of_ble_eq_true rfl⟩) hS (fun q _ h => hFc q h) hFc (fun u t H_54 locs ht hvm hw hB hz1 hk1 hS2 => ?_)
            obtain ⟨hP1, -, hD1⟩ := hB
            rw [ht] at hP1
            replace hD := hD1.weaken (fun _ _ _ h => hFc _ h)
            replace hP := hP1
            replace hS := hS2
            clear hP1 hD1 hS2 hFc hfc hz1 hk1 hvm ht
            obtain ⟨h8, h9⟩ := ret_some hf
            rw [h8]
            exact W.vret hx hb hr (fun t ht hW => ⟨⟨(), rfl, trivial, by rw [ht]; exact hP, va_K.moved hW.alike hK, hD⟩, hS.F ht⟩) hS.2.2 dX18_callOne_296
          · skip
            rw [if_neg c_48] at hf
            refine lv_bipush (v := 8) hx hb dX18_callOne_201 (by decide) ?_
            refine lv_iload_n hx hb dX18_callOne_203 rfl (lv_at hl 2 rfl) ?_
            refine lv_imul hx hb dX18_callOne_204 ?_
            refine lv_iload hx hb dX18_callOne_205 (lv_at hl 0 rfl) ?_
            refine lv_iadd hx hb dX18_callOne_207 ?_
            refine lv_topi (fun v_55 ev_55 => ?_)
            replace hf := lt_at ev_55 hf
            clear ev_55
            refine lv_istore (lv' := [(5, .int v_55), (4, .int p_45), (0, .ref (a h0)), (1, .int x0)]) hx hb dX18_callOne_208 hl (by decide) rfl (fun ls hl2 => ?_)
            replace hl := hl2
            clear hl2
            refine lv_aload_n hx hb dX18_callOne_210 rfl (lv_at hl 2 rfl) ?_
            obtain ⟨k_56, ek_56, hf⟩ := lnk_some hf
            refine va_get (D := (dC, dI)) (ci := 18) (v := .ref (a k_56)) (C := RX18) (T := TX18) (N := 78) hx hb hts iwd_X18_callOne_X18 hown hK hP h0 (Wd_ob kg_1 sg_1 (by decide)) rfl 71 (by decide) (hts _ md_X18_callOne_17) (fun _ h9 => h9) (fl_q rfl ek_56) dX18_callOne_211 ?_
            refine lv_iload hx hb dX18_callOne_214 (lv_at hl 0 rfl) ?_
            refine lv_aload_n hx hb dX18_callOne_216 rfl (lv_at hl 2 rfl) ?_
            obtain ⟨k_57, ek_57, hf⟩ := lnk_some hf
            refine va_get (D := (dC, dI)) (ci := 18) (v := .ref (a k_57)) (C := RX18) (T := TX18) (N := 78) hx hb hts iwd_X18_callOne_X18 hown hK hP h0 (Wd_ob kg_1 sg_1 (by decide)) rfl 15 (by decide) (hts _ md_X18_callOne_1) (fun _ h9 => h9) (fl_q rfl ek_57) dX18_callOne_217 ?_
            obtain ⟨g_58, hf⟩ := grd_some hf
            obtain ⟨kg_58, sg_58⟩ := okO_at g_58
            obtain ⟨k_59, ek_59, hf⟩ := lnk_some hf
            refine va_getN (D := (dC, dI)) (ci := 15) (v := .ref (a k_59)) (C := RX15) (T := TX15) (N := 6) hx hb hts iwd_X18_callOne_X15 hown hK hP k_57 (Wd_ob kg_58 sg_58 (by decide)) rfl 0 (by decide) (va_Nw.use rfl (NK_f_X18_71 hN)) (fun _ h9 => h9) (fl_q rfl ek_59) dX18_callOne_220 ?_
            refine lv_aload_n hx hb dX18_callOne_223 rfl (lv_at hl 2 rfl) ?_
            obtain ⟨k_60, ek_60, hf⟩ := lnk_some hf
            refine va_get (D := (dC, dI)) (ci := 18) (v := .ref (a k_60)) (C := RX18) (T := TX18) (N := 78) hx hb hts iwd_X18_callOne_X18 hown hK hP h0 (Wd_ob kg_1 sg_1 (by decide)) rfl 43 (by decide) (hts _ md_X18_callOne_18) (fun _ h9 => h9) (fl_q rfl ek_60) dX18_callOne_224 ?_
            refine lv_iload hx hb dX18_callOne_227 (lv_at hl 1 rfl) ?_
            obtain ⟨g_61, hf⟩ := grd_some hf
            obtain ⟨kg_61, sg_61, ig_61⟩ := okA_at g_61
            refine va_iald hx hb hK hP k_60 1 (Wd_ai kg_61 sg_61) rfl ig_61 dX18_callOne_229 ?_
            obtain ⟨g_62, hf⟩ := grd_some hf
            obtain ⟨kg_62, sg_62, ig_62⟩ := okA_at g_62
            refine va_bald hx hb hK hP k_59 0 (Wd_ab kg_62 sg_62) rfl ig_62 dX18_callOne_230 ?_
            obtain ⟨g_63, hf⟩ := grd_some hf
            obtain ⟨kg_63, sg_63, ig_63⟩ := okA_at g_63
            refine va_bast hx hb hK hP hD hS k_56 0 (Wd_ab kg_63 sg_63) rfl ig_63 dX18_callOne_231 (fun H_64 locs hP2 hD2 hS2 => ?_)
            rw [Wd_tb sg_63] at hP2 hD2
            obtain ⟨z_65, ez_65⟩ : ∃ w, w = si z_46 k_56 v_55.toNatClampNeg (vp_nar .byte (z_46.1 k_59 (z_46.1 k_60 p_45.toNatClampNeg).toNatClampNeg)) := ⟨_, rfl⟩
            rw [← ez_65] at hP2 hD2
            replace hf := lt_at ez_65 hf
            clear ez_65
            replace hP := hP2
            replace hD := hD2
            replace hS := hS2
            clear hP2 hD2 hS2
            refine lv_aload_n hx hb dX18_callOne_232 rfl (lv_at hl 2 rfl) ?_
            obtain ⟨k_66, ek_66, hf⟩ := lnk_some hf
            refine va_get (D := (dC, dI)) (ci := 18) (v := .ref (a k_66)) (C := RX18) (T := TX18) (N := 78) hx hb hts iwd_X18_callOne_X18 hown hK hP h0 (Wd_ob kg_1 sg_1 (by decide)) rfl 72 (by decide) (hts _ md_X18_callOne_19) (fun _ h9 => h9) (fl_q rfl ek_66) dX18_callOne_233 ?_
            refine lv_iload hx hb dX18_callOne_236 (lv_at hl 0 rfl) ?_
            refine lv_aload_n hx hb dX18_callOne_238 rfl (lv_at hl 2 rfl) ?_
            obtain ⟨k_67, ek_67, hf⟩ := lnk_some hf
            refine va_get (D := (dC, dI)) (ci := 18) (v := .ref (a k_67)) (C := RX18) (T := TX18) (N := 78) hx hb hts iwd_X18_callOne_X18 hown hK hP h0 (Wd_ob kg_1 sg_1 (by decide)) rfl 15 (by decide) (hts _ md_X18_callOne_1) (fun _ h9 => h9) (fl_q rfl ek_67) dX18_callOne_239 ?_
            obtain ⟨g_68, hf⟩ := grd_some hf
            obtain ⟨kg_68, sg_68⟩ := okO_at g_68
            obtain ⟨k_69, ek_69, hf⟩ := lnk_some hf
            refine va_getN (D := (dC, dI)) (ci := 15) (v := .ref (a k_69)) (C := RX15) (T := TX15) (N := 6) hx hb hts iwd_X18_callOne_X15 hown hK hP k_67 (Wd_ob kg_68 sg_68 (by decide)) rfl 1 (by decide) (va_Nw.use rfl (NK_f_X18_74 hN)) (fun _ h9 => h9) (fl_q rfl ek_69) dX18_callOne_242 ?_
            refine lv_aload_n hx hb dX18_callOne_245 rfl (lv_at hl 2 rfl) ?_
            obtain ⟨k_70, ek_70, hf⟩ := lnk_some hf
            refine va_get (D := (dC, dI)) (ci := 18) (v := .ref (a k_70)) (C := RX18) (T := TX18) (N := 78) hx hb hts iwd_X18_callOne_X18 hown hK hP h0 (Wd_ob kg_1 sg_1 (by decide)) rfl 43 (by decide) (hts _ md_X18_callOne_18) (fun _ h9 => h9) (fl_q rfl ek_70) dX18_callOne_246 ?_
            refine lv_iload hx hb dX18_callOne_249 (lv_at hl 1 rfl) ?_
            obtain ⟨g_71, hf⟩ := grd_some hf
            obtain ⟨kg_71, sg_71, ig_71⟩ := okA_at g_71
            refine va_iald hx hb hK hP k_70 1 (Wd_ai kg_71 sg_71) rfl ig_71 dX18_callOne_251 ?_
            obtain ⟨g_72, hf⟩ := grd_some hf
            obtain ⟨kg_72, sg_72, ig_72⟩ := okA_at g_72
            refine va_lald hx hb hK hP k_69 2 (Wd_al kg_72 sg_72) rfl ig_72 dX18_callOne_252 ?_
            obtain ⟨g_73, hf⟩ := grd_some hf
            obtain ⟨kg_73, sg_73, ig_73⟩ := okA_at g_73
            refine va_last hx hb hK hP hD hS k_66 2 (Wd_al kg_73 sg_73) rfl ig_73 dX18_callOne_253 (fun H_74 locs hP2 hD2 hS2 => ?_)
            rw [Wd_tl sg_73] at hP2 hD2
            obtain ⟨z_75, ez_75⟩ : ∃ w, w = sl z_65 k_66 v_55.toNatClampNeg (z_65.2.1 k_69 (z_65.1 k_70 p_45.toNatClampNeg).toNatClampNeg) := ⟨_, rfl⟩
            rw [← ez_75] at hP2 hD2
            replace hf := lt_at ez_75 hf
            clear ez_75
            replace hP := hP2
            replace hD := hD2
            replace hS := hS2
            clear hP2 hD2 hS2
            refine lv_aload_n hx hb dX18_callOne_254 rfl (lv_at hl 2 rfl) ?_
            obtain ⟨k_76, ek_76, hf⟩ := lnk_some hf
            refine va_get (D := (dC, dI)) (ci := 18) (v := .ref (a k_76)) (C := RX18) (T := TX18) (N := 78) hx hb hts iwd_X18_callOne_X18 hown hK hP h0 (Wd_ob kg_1 sg_1 (by decide)) rfl 73 (by decide) (hts _ md_X18_callOne_20) (fun _ h9 => h9) (fl_q rfl ek_76) dX18_callOne_255 ?_
            refine lv_iload hx hb dX18_callOne_258 (lv_at hl 0 rfl) ?_
            refine lv_aload_n hx hb dX18_callOne_260 rfl (lv_at hl 2 rfl) ?_
            obtain ⟨k_77, ek_77, hf⟩ := lnk_some hf
            refine va_get (D := (dC, dI)) (ci := 18) (v := .ref (a k_77)) (C := RX18) (T := TX18) (N := 78) hx hb hts iwd_X18_callOne_X18 hown hK hP h0 (Wd_ob kg_1 sg_1 (by decide)) rfl 15 (by decide) (hts _ md_X18_callOne_1) (fun _ h9 => h9) (fl_q rfl ek_77) dX18_callOne_261 ?_
            obtain ⟨g_78, hf⟩ := grd_some hf
            obtain ⟨kg_78, sg_78⟩ := okO_at g_78
            obtain ⟨k_79, ek_79, hf⟩ := lnk_some hf
            refine va_getN (D := (dC, dI)) (ci := 15) (v := .ref (a k_79)) (C := RX15) (T := TX15) (N := 6) hx hb hts iwd_X18_callOne_X15 hown hK hP k_77 (Wd_ob kg_78 sg_78 (by decide)) rfl 2 (by decide) (va_Nw.use rfl (NK_f_X18_77 hN)) (fun _ h9 => h9) (fl_q rfl ek_79) dX18_callOne_264 ?_
            refine lv_aload_n hx hb dX18_callOne_267 rfl (lv_at hl 2 rfl) ?_
            obtain ⟨k_80, ek_80, hf⟩ := lnk_some hf
            refine va_get (D := (dC, dI)) (ci := 18) (v := .ref (a k_80)) (C := RX18) (T := TX18) (N := 78) hx hb hts iwd_X18_callOne_X18 hown hK hP h0 (Wd_ob kg_1 sg_1 (by decide)) rfl 43 (by decide) (hts _ md_X18_callOne_18) (fun _ h9 => h9) (fl_q rfl ek_80) dX18_callOne_268 ?_
            refine lv_iload hx hb dX18_callOne_271 (lv_at hl 1 rfl) ?_
            obtain ⟨g_81, hf⟩ := grd_some hf
            obtain ⟨kg_81, sg_81, ig_81⟩ := okA_at g_81
            refine va_iald hx hb hK hP k_80 1 (Wd_ai kg_81 sg_81) rfl ig_81 dX18_callOne_273 ?_
            obtain ⟨g_82, hf⟩ := grd_some hf
            obtain ⟨kg_82, sg_82, ig_82⟩ := okA_at g_82
            refine va_lald hx hb hK hP k_79 2 (Wd_al kg_82 sg_82) rfl ig_82 dX18_callOne_274 ?_
            obtain ⟨g_83, hf⟩ := grd_some hf
            obtain ⟨kg_83, sg_83, ig_83⟩ := okA_at g_83
            refine va_last hx hb hK hP hD hS k_76 2 (Wd_al kg_83 sg_83) rfl ig_83 dX18_callOne_275 (fun H_84 locs hP2 hD2 hS2 => ?_)
            rw [Wd_tl sg_83] at hP2 hD2
            obtain ⟨z_85, ez_85⟩ : ∃ w, w = sl z_75 k_76 v_55.toNatClampNeg (z_75.2.1 k_79 (z_75.1 k_80 p_45.toNatClampNeg).toNatClampNeg) := ⟨_, rfl⟩
            rw [← ez_85] at hP2 hD2
            replace hf := lt_at ez_85 hf
            clear ez_85
            replace hP := hP2
            replace hD := hD2
            replace hS := hS2
            clear hP2 hD2 hS2
            refine lv_iinc (v := (p_45 + 1)) (lv' := [(4, .int (p_45 + 1)), (5, .int v_55), (0, .ref (a h0)), (1, .int x0)]) hx hb dX18_callOne_276 hl (k := 1) rfl rfl (by decide) rfl (fun ls hl2 => ?_)
            replace hl := hl2
            clear hl2
            refine lv_goto (tgt := 192) hx hb dX18_callOne_279 (by decide) ?_
            exact ih192 (z_85, (p_45 + 1)) ls H_84 locs ⟨lv_sub hl [0, 2, 3] rfl, hP, hD, hS⟩ hf
        · skip
          rw [if_neg c_44] at hf
          obtain ⟨h8, h9⟩ := ret_some hf
          rw [h8]
          exact W.vret hx hb hr (fun t ht hW => ⟨⟨(), rfl, trivial, by rw [ht]; exact hP, va_K.moved hW.alike hK, hD⟩, hS.F ht⟩) hS.2.2 dX18_callOne_188
      refine lv_if_ne (tgt := 181) hx hb dX18_callOne_159 (by decide) (fun c_86 => ?_) (fun c_86 => ?_)
      · skip
        rw [if_neg c_86] at hf
        exact B181 (z_39) ls H_41 locs ⟨lv_sub hl [0, 1] rfl, hP, hD, hS⟩ hf
      · skip
        rw [if_pos c_86] at hf
        refine lv_aload_n hx hb dX18_callOne_162 rfl (lv_at hl 0 rfl) ?_
        obtain ⟨z_87, r_88, hfc, hf⟩ := cal_some hf
        have hFc := de_free hD hS hA
        refine va_calli (va_runV (As := []) (rest := []) ⟨hx, hb, hml, hown, hts⟩ (de_X18_isTooMuch l dC dI cy a sh n H_41.size F z_39 h0 hfc) (cwV 0 hts gX18_callOne_X18_isTooMuch rfl rfl rfl (by decide +kernel) ⟨Nat.le_of_ble_eq_true rfl, Nat.le_of_ble_eq_true rfl⟩) ⟨fun a U g mk q => by obtain ⟨q0, q1, qP, qK, qD, qN⟩ := q; exact ⟨q0, q1, qP, va_K.moved (u := U) (U := U.calling g mk a) (Vm.Alike.refl U.vm) qK, qD, qN.same rfl⟩, va_recv hK hP (ci := 18) (q0 := h0) rfl (Wd_ob kg_1 sg_1 (by decide)), fun U hU hW => ⟨rfl, by rw [hU], by rw [hU]; exact hP, va_K.moved hW.alike hK, hD.weaken (fun _ _ _ _ => trivial), hN.warm hW⟩⟩ rfl rfl hl.1 rfl (lv_room (Nat.le_of_ble_eq_true rfl)) dX18_callOne_163 ⟨Nat.le_of_ble_eq_true rfl, Nat.le_of_ble_eq_true rfl⟩) hS (fun q _ h => hFc q h) hFc (fun rr u t H_89 locs ht hvm hw hB hz1 hk1 hS2 => ?_)
        rw [hw]
        clear hw
        obtain ⟨hP1, -, hD1⟩ := hB
        rw [ht] at hP1
        replace hD := hD1.weaken (fun _ _ _ h => hFc _ h)
        replace hP := hP1
        replace hS := hS2
        clear hP1 hD1 hS2 hFc hfc hz1 hk1 hvm ht
        refine lv_if_eq (tgt := 181) hx hb dX18_callOne_166 (by decide) (fun c_90 => ?_) (fun c_90 => ?_)
        · skip
          rw [if_pos c_90] at hf
          exact B181 (z_87) ls H_89 locs ⟨lv_sub hl [0, 1] rfl, hP, hD, hS⟩ hf
        · skip
          rw [if_neg c_90] at hf
          refine lv_aload_n hx hb dX18_callOne_169 rfl (lv_at hl 0 rfl) ?_
          refine lv_iconst (v := 2) hx hb dX18_callOne_170 (by decide) ?_
          refine va_put (D := (dC, dI)) (ci := 18) (v := .int 2) (ty := .int) (C := RX18) (T := TX18) (N := 78) hx hb hts iwd_X18_callOne_X18 tyX18 tyX18_ok nmX18 hown hK hP hD hS h0 (Wd_ob kg_1 sg_1 (by decide)) rfl 27 (by decide) (hts _ md_X18_callOne_14) (fun _ h9 => h9) rfl (by decide +kernel) rfl rfl (by rw [fl_len]; decide) dX18_callOne_171 (fun H_91 locs hP2 hD2 hS2 => ?_)
          rw [Wd_si sg_1 (by decide) rfl] at hP2 hD2
          obtain ⟨z_92, ez_92⟩ : ∃ w, w = si z_87 h0 27 2 := ⟨_, rfl⟩
          rw [← ez_92] at hP2 hD2
          replace hf := lt_at ez_92 hf
          clear ez_92
          replace hP := hP2
          replace hD := hD2
          replace hS := hS2
          clear hP2 hD2 hS2
          refine lv_aload_n hx hb dX18_callOne_174 rfl (lv_at hl 0 rfl) ?_
          refine lv_ldc2 hx hb hown (hts _ md_X18_callOne_15) dX18_callOne_175 ?_
          refine va_put (D := (dC, dI)) (ci := 18) (v := .long 4) (ty := .long) (C := RX18) (T := TX18) (N := 78) hx hb hts iwd_X18_callOne_X18 tyX18 tyX18_ok nmX18 hown hK hP hD hS h0 (Wd_ob kg_1 sg_1 (by decide)) rfl 28 (by decide) (hts _ md_X18_callOne_16) (fun _ h9 => h9) rfl (by decide +kernel) rfl rfl (by rw [fl_len]; decide) dX18_callOne_178 (fun H_93 locs hP2 hD2 hS2 => ?_)
          rw [Wd_sl sg_1 (by decide) rfl] at hP2 hD2
          obtain ⟨z_94, ez_94⟩ : ∃ w, w = sl z_92 h0 28 4 := ⟨_, rfl⟩
          rw [← ez_94] at hP2 hD2
          replace hf := lt_at ez_94 hf
          clear ez_94
          replace hP := hP2
          replace hD := hD2
          replace hS := hS2
          clear hP2 hD2 hS2
          exact B181 (z_94) ls H_93 locs ⟨lv_sub hl [0, 1] rfl, hP, hD, hS⟩ hf
    · skip
      rw [if_neg c_42] at hf
      refine lv_aload_n hx hb dX18_callOne_148 rfl (lv_at hl 0 rfl) ?_
      obtain ⟨z_95, _u, hfc, hf⟩ := cal_some hf
      have hFc := de_free hD hS hA
      refine va_callv (va_runV (As := []) (rest := []) ⟨hx, hb, hml, hown, hts⟩ (de_X18_one l dC dI cy a sh n H_41.size F sk z_39 h0 hfc) (cwV 0 hts gX18_callOne_X18_one rfl rfl rfl (by decide +kernel) ⟨Nat.le_of_ble_eq_true rfl, Nat.le_of_ble_eq_true rfl⟩) ⟨fun a U g mk q => by obtain ⟨q0, q1, qP, qK, qD, qN, qS⟩ := q; exact ⟨q0, q1, qP, va_K.moved (u := U) (U := U.calling g mk a) (Vm.Alike.refl U.vm) qK, qD, qN.same rfl, SKs.moved (u := U) (U := U.calling g mk a) (Vm.Alike.refl U.vm) qS⟩, va_recv hK hP (ci := 18) (q0 := h0) rfl (Wd_ob kg_1 sg_1 (by decide)), fun U hU hW => ⟨rfl, by rw [hU], by rw [hU]; exact hP, va_K.moved hW.alike hK, hD.weaken (fun _ _ _ _ => trivial), hN.warm hW, by rw [hU]; exact ((hSK.kept hS.2.1).narrow hFc).moved hW.alike⟩⟩ rfl rfl hl.1 rfl (lv_room (Nat.le_of_ble_eq_true rfl)) dX18_callOne_149 ⟨Nat.le_of_ble_eq_true rfl, Nat.le_of_ble_eq_true rfl⟩) hS (fun q _ h => hFc q h) hFc (fun u t H_96 locs ht hvm hw hB hz1 hk1 hS2 => ?_)
      obtain ⟨hP1, -, hD1⟩ := hB
      rw [ht] at hP1
      replace hD := hD1.weaken (fun _ _ _ h => hFc _ h)
      replace hP := hP1
      replace hS := hS2
      clear hP1 hD1 hS2 hFc hfc hz1 hk1 hvm ht
      refine lv_goto (tgt := 141) hx hb dX18_callOne_152 (by decide) ?_
      exact ih141 (z_95) ls H_96 locs ⟨lv_sub hl [0, 1] rfl, hP, hD, hS⟩ hf
  · skip
    rw [if_neg c_30] at hf
    refine lv_bipush (v := 8) hx hb dX18_callOne_76 (by decide) ?_
    refine lv_iload_n hx hb dX18_callOne_78 rfl (lv_at hl 2 rfl) ?_
    refine lv_imul hx hb dX18_callOne_79 ?_
    refine lv_iload hx hb dX18_callOne_80 (lv_at hl 0 rfl) ?_
    refine lv_iadd hx hb dX18_callOne_82 ?_
    refine lv_topi (fun v_97 ev_97 => ?_)
    replace hf := lt_at ev_97 hf
    clear ev_97
    refine lv_istore (lv' := [(5, .int v_97), (4, .int p_25), (0, .ref (a h0)), (1, .int x0), (2, .int x1)]) hx hb dX18_callOne_83 hl (by decide) rfl (fun ls hl2 => ?_)
    replace hl := hl2
    clear hl2
    refine lv_aload_n hx hb dX18_callOne_85 rfl (lv_at hl 2 rfl) ?_
    refine lv_aload_n hx hb dX18_callOne_86 rfl (lv_at hl 2 rfl) ?_
    obtain ⟨k_98, ek_98, hf⟩ := lnk_some hf
    refine va_get (D := (dC, dI)) (ci := 18) (v := .ref (a k_98)) (C := RX18) (T := TX18) (N := 78) hx hb hts iwd_X18_callOne_X18 hown hK hP h0 (Wd_ob kg_1 sg_1 (by decide)) rfl 15 (by decide) (hts _ md_X18_callOne_1) (fun _ h9 => h9) (fl_q rfl ek_98) dX18_callOne_87 ?_
    refine lv_aload_n hx hb dX18_callOne_90 rfl (lv_at hl 2 rfl) ?_
    obtain ⟨k_99, ek_99, hf⟩ := lnk_some hf
    refine va_get (D := (dC, dI)) (ci := 18) (v := .ref (a k_99)) (C := RX18) (T := TX18) (N := 78) hx hb hts iwd_X18_callOne_X18 hown hK hP h0 (Wd_ob kg_1 sg_1 (by decide)) rfl 61 (by decide) (hts _ md_X18_callOne_10) (fun _ h9 => h9) (fl_q rfl ek_99) dX18_callOne_91 ?_
    refine lv_iload hx hb dX18_callOne_94 (lv_at hl 0 rfl) ?_
    obtain ⟨g_100, hf⟩ := grd_some hf
    obtain ⟨kg_100, sg_100, ig_100⟩ := okA_at g_100
    refine va_bald hx hb hK hP k_99 0 (Wd_ab kg_100 sg_100) rfl ig_100 dX18_callOne_96 ?_
    refine lv_aload_n hx hb dX18_callOne_97 rfl (lv_at hl 2 rfl) ?_
    obtain ⟨k_101, ek_101, hf⟩ := lnk_some hf
    refine va_get (D := (dC, dI)) (ci := 18) (v := .ref (a k_101)) (C := RX18) (T := TX18) (N := 78) hx hb hts iwd_X18_callOne_X18 hown hK hP h0 (Wd_ob kg_1 sg_1 (by decide)) rfl 62 (by decide) (hts _ md_X18_callOne_11) (fun _ h9 => h9) (fl_q rfl ek_101) dX18_callOne_98 ?_
    refine lv_iload hx hb dX18_callOne_101 (lv_at hl 0 rfl) ?_
    obtain ⟨g_102, hf⟩ := grd_some hf
    obtain ⟨kg_102, sg_102, ig_102⟩ := okA_at g_102
    refine va_lald hx hb hK hP k_101 2 (Wd_al kg_102 sg_102) rfl ig_102 dX18_callOne_103 ?_
    refine lv_aload_n hx hb dX18_callOne_104 rfl (lv_at hl 2 rfl) ?_
    obtain ⟨k_103, ek_103, hf⟩ := lnk_some hf
    refine va_get (D := (dC, dI)) (ci := 18) (v := .ref (a k_103)) (C := RX18) (T := TX18) (N := 78) hx hb hts iwd_X18_callOne_X18 hown hK hP h0 (Wd_ob kg_1 sg_1 (by decide)) rfl 63 (by decide) (hts _ md_X18_callOne_12) (fun _ h9 => h9) (fl_q rfl ek_103) dX18_callOne_105 ?_
    refine lv_iload hx hb dX18_callOne_108 (lv_at hl 0 rfl) ?_
    obtain ⟨g_104, hf⟩ := grd_some hf
    obtain ⟨kg_104, sg_104, ig_104⟩ := okA_at g_104
    refine va_lald hx hb hK hP k_103 2 (Wd_al kg_104 sg_104) rfl ig_104 dX18_callOne_110 ?_
    obtain ⟨g_107, hf⟩ := grd_some hf
    obtain ⟨kg_107, sg_107⟩ := okO_at g_107
    obtain ⟨z_105, r_106, hfc, hf⟩ := cal_some hf
    have hFc := de_free hD hS hA
    refine va_calli (va_runV (As := [.int (z_26.1 k_99 v_97.toNatClampNeg), .long (z_26.2.1 k_101 v_97.toNatClampNeg), .long (z_26.2.1 k_103 v_97.toNatClampNeg)]) (rest := [.ref (a h0)]) ⟨hx, hb, hml, hown, hts⟩ (de_X15_make l dC dI cy a sh n H.size F z_26 k_98 (z_26.1 k_99 v_97.toNatClampNeg) (z_26.2.1 k_101 v_97.toNatClampNeg) (z_26.2.1 k_103 v_97.toNatClampNeg) hfc) (cwV 3 hts gX18_callOne_X15_make rfl rfl rfl (by decide +kernel) ⟨Nat.le_of_ble_eq_true rfl, Nat.le_of_ble_eq_true rfl⟩) ⟨fun a U g mk q => by obtain ⟨q0, q1, qP, qK, qD, qN⟩ := q; exact ⟨q0, q1, qP, va_K.moved (u := U) (U := U.calling g mk a) (Vm.Alike.refl U.vm) qK, qD, qN.same rfl⟩, va_recv hK hP (ci := 15) (q0 := k_98) rfl (Wd_ob kg_107 sg_107 (by decide)), fun U hU hW => ⟨rfl, by rw [hU], by rw [hU]; exact hP, va_K.moved hW.alike hK, hD.weaken (fun _ _ _ _ => trivial), hN.warm hW⟩⟩ rfl rfl hl.1 rfl (lv_room (Nat.le_of_ble_eq_true rfl)) dX18_callOne_111 ⟨Nat.le_of_ble_eq_true rfl, Nat.le_of_ble_eq_true rfl⟩) hS (fun q _ h => hFc q h) hFc (fun rr u t H_108 locs ht hvm hw hB hz1 hk1 hS2 => ?_)
    rw [hw]
    clear hw
    obtain ⟨hP1, -, hD1⟩ := hB
    rw [ht] at hP1
    replace hD := hD1.weaken (fun _ _ _ h => hFc _ h)
    replace hP := hP1
    replace hS := hS2
    clear hP1 hD1 hS2 hFc hfc hz1 hk1 hvm ht
    refine lv_iconst (v := 0) hx hb dX18_callOne_114 (by decide) ?_
    obtain ⟨z_109, _u, hfc, hf⟩ := cal_some hf
    have hFc := de_free hD hS hA
    refine va_callv (va_runV (As := [.int r_106, .int 0]) (rest := []) ⟨hx, hb, hml, hown, hts⟩ (de_X18_push l dC dI cy a sh n H_108.size F z_105 h0 r_106 0 hfc) (cwV 2 hts gX18_callOne_X18_push rfl rfl rfl (by decide +kernel) ⟨Nat.le_of_ble_eq_true rfl, Nat.le_of_ble_eq_true rfl⟩) ⟨fun a U g mk q => by obtain ⟨q0, q1, qP, qK, qD, qN⟩ := q; exact ⟨q0, q1, qP, va_K.moved (u := U) (U := U.calling g mk a) (Vm.Alike.refl U.vm) qK, qD, qN.same rfl⟩, va_recv hK hP (ci := 18) (q0 := h0) rfl (Wd_ob kg_1 sg_1 (by decide)), fun U hU hW => ⟨rfl, by rw [hU], by rw [hU]; exact hP, va_K.moved hW.alike hK, hD.weaken (fun _ _ _ _ => trivial), hN.warm hW⟩⟩ rfl rfl hl.1 rfl (lv_room (Nat.le_of_ble_eq_true rfl)) dX18_callOne_115 ⟨Nat.le_of_ble_eq_true rfl, Nat.le_of_ble_eq_true rfl⟩) hS (fun q _ h => hFc q h) hFc (fun u t H_110 locs ht hvm hw hB hz1 hk1 hS2 => ?_)
    obtain ⟨hP1, -, hD1⟩ := hB
    rw [ht] at hP1
    replace hD := hD1.weaken (fun _ _ _ h => hFc _ h)
    replace hP := hP1
    replace hS := hS2
    clear hP1 hD1 hS2 hFc hfc hz1 hk1 hvm ht
    refine lv_iinc (v := (p_25 + 1)) (lv' := [(4, .int (p_25 + 1)), (5, .int v_97), (0, .ref (a h0)), (1, .int x0), (2, .int x1)]) hx hb dX18_callOne_118 hl (k := 1) rfl rfl (by decide) rfl (fun ls hl2 => ?_)
    replace hl := hl2
    clear hl2
    refine lv_goto (tgt := 65) hx hb dX18_callOne_121 (by decide) ?_
    exact ih65 (z_109, (p_25 + 1)) ls H_110 locs ⟨lv_sub hl [0, 2, 3, 4] rfl, hP, hD, hS⟩ hf

theorem md_X13_check_1 : (.fieldLink RX13 72 "ResourceLedgerModel$Looker" "unit" "LResourceLedgerModel$Unit;" : Cond) ∈ wsX13_check := List.mem_of_getElem? (i := 1) rfl
theorem iwd_X13_check_X13 : ∀ w ∈ wsX130, w ∈ wsX13_check := fun _ h => List.mem_cons_of_mem _ (List.mem_append_left _ (List.mem_append_right _ h))
theorem md_X13_check_2 : (.fieldLink RX13 176 "ResourceLedgerModel$Looker" "now" "I" : Cond) ∈ wsX13_check := List.mem_of_getElem? (i := 2) rfl
theorem md_X13_check_3 : (.fieldLink RX13 231 "ResourceLedgerModel$Looker" "many" "I" : Cond) ∈ wsX13_check := List.mem_of_getElem? (i := 3) rfl
theorem md_X13_check_4 : (.fieldLink RX13 48 "ResourceLedgerModel$Looker" "fault" "I" : Cond) ∈ wsX13_check := List.mem_of_getElem? (i := 4) rfl
theorem md_X13_check_5 : (.fieldLink RX13 251 "ResourceLedgerModel$Looker" "found" "I" : Cond) ∈ wsX13_check := List.mem_of_getElem? (i := 5) rfl
set_option maxHeartbeats 4000000 in
set_option maxRecDepth 100000 in
theorem de_X13_check (l : Launch) (dC : Nat → ClassId) (dI : Nat → Nat → Nat) (cy : Nat → ClassId) (a : Nat → Nat) (sh : Nat → Nat × Nat) (n sz : Nat) (F : Nat) (z : St) (h0 : Nat) (x0 : Nat) (x1 : Int32) {z8 : St} {r8 : Int32} (hf : fn_X13_check F sh n z h0 x0 x1 = some (z8, r8)) : Met l yX13_check wsX13_check ({ frames := 9, cells := 0, slots := 0, locals := 217 }) (va_Pc [.ref (a h0), .ref (a x0), .int x1] (fun U => U.heap.size = sz ∧ va_P (dC, dI) vwCl (Wd cy a sh n z) U.heap ∧ va_K (dC, dI) vwCl (TYS cy) U ∧ va_D (fun _ => True) (Wd cy a sh n z) ∧ NK U)) (va_Qi (fun (r9 : Int32) (u : Unit) => r9 = r8) (fun u t => va_P (dC, dI) vwCl (Wd cy a sh n z8) t.heap ∧ va_K (dC, dI) vwCl (TYS cy) t ∧ va_D (va_A (Wd cy a sh n z) sz) (Wd cy a sh n z8)) (va_A (Wd cy a sh n z) sz)) 0 0 (va_A (Wd cy a sh n z) sz) := by
  refine Met.ofW (cc := cX13_check) (maxL := 4) (ret := (some .int)) (by decide) rfl ?_
  intro p e s m args below meth c s₁ B hml hv
  obtain ⟨rfl, hsz, hP, hK, hD0, hN⟩ := hv
  have hx := B.exec
  have hb := B.bytes
  have hr := B.returns
  have hts := atoms_spec (ws := wsX13_check) B.pre
  have hown : s.vm.findClass RX13 = some m.cls := findClass_of_methodNamed B.named
  have hlocks := B.notSynchronized
  subst hsz
  have hD := hD0.self (sz := s.heap.size)
  clear hD0
  generalize hAe : va_A (Wd cy a sh n z) s.heap.size = A at hD ⊢
  have hA : ∀ q : Nat, s.heap.size ≤ q → A q := fun q h => by rw [← hAe]; exact Or.inr h
  clear hAe
  have hS : va_S A s.heap s.heap [] := va_S.rf
  have hl := lv_entry ([.ref (a h0), .ref (a x0), .int x1]) (n := 4) (Nat.le_of_ble_eq_true rfl)
  rw [lg_entry_eq]
  generalize (lg_sl ([.ref (a h0), .ref (a x0), .int x1]) ++ List.replicate (4 - (lg_sl ([.ref (a h0), .ref (a x0), .int x1])).length) Slot.unset).toArray = ls at hl ⊢
  replace hl : lv_has ls 4 [(0, .ref (a h0)), (1, .ref (a x0)), (2, .int x1)] := hl
  unfold fn_X13_check at hf
  refine de_start hS hP (fun H locs hS hP => ?_)
  refine lv_aload_n hx hb dX13_check_0 rfl (lv_at hl 0 rfl) ?_
  refine lv_aload_n hx hb dX13_check_1 rfl (lv_at hl 1 rfl) ?_
  obtain ⟨g_1, hf⟩ := grd_some hf
  obtain ⟨kg_1, sg_1⟩ := okO_at g_1
  refine va_put (D := (dC, dI)) (ci := 13) (v := .ref (a x0)) (ty := .object "ResourceLedgerModel$Unit") (C := RX13) (T := TX13) (N := 22) hx hb hts iwd_X13_check_X13 tyX13 tyX13_ok nmX13 hown hK hP hD hS h0 (Wd_ob kg_1 sg_1 (by decide)) rfl 0 (by decide) (hts _ md_X13_check_1) (fun _ h9 => h9) rfl (by decide +kernel) rfl rfl (by rw [fl_len]; decide) dX13_check_2 (fun H_2 locs hP2 hD2 hS2 => ?_)
  rw [Wd_sq1 sg_1 (by decide) rfl] at hP2 hD2
  obtain ⟨z_3, ez_3⟩ : ∃ w, w = sq z h0 0 (some x0) := ⟨_, rfl⟩
  rw [← ez_3] at hP2 hD2
  replace hf := lt_at ez_3 hf
  clear ez_3
  replace hP := hP2
  replace hD := hD2
  replace hS := hS2
  clear hP2 hD2 hS2
  refine lv_aload_n hx hb dX13_check_5 rfl (lv_at hl 0 rfl) ?_
  refine lv_iload_n hx hb dX13_check_6 rfl (lv_at hl 2 rfl) ?_
  refine va_put (D := (dC, dI)) (ci := 13) (v := .int x1) (ty := .int) (C := RX13) (T := TX13) (N := 22) hx hb hts iwd_X13_check_X13 tyX13 tyX13_ok nmX13 hown hK hP hD hS h0 (Wd_ob kg_1 sg_1 (by decide)) rfl 1 (by decide) (hts _ md_X13_check_2) (fun _ h9 => h9) rfl (by decide +kernel) rfl rfl (by rw [fl_len]; decide) dX13_check_7 (fun H_4 locs hP2 hD2 hS2 => ?_)
  rw [Wd_si sg_1 (by decide) rfl] at hP2 hD2
  obtain ⟨z_5, ez_5⟩ : ∃ w, w = si z_3 h0 1 x1 := ⟨_, rfl⟩
  rw [← ez_5] at hP2 hD2
  replace hf := lt_at ez_5 hf
  clear ez_5
  replace hP := hP2
  replace hD := hD2
  replace hS := hS2
  clear hP2 hD2 hS2
  refine lv_aload_n hx hb dX13_check_10 rfl (lv_at hl 0 rfl) ?_
  obtain ⟨z_6, _u, hfc, hf⟩ := cal_some hf
  have hFc := de_free hD hS hA
  refine va_callv (va_runV (As := []) (rest := []) ⟨hx, hb, hml, hown, hts⟩ (de_X13_begin l dC dI cy a sh n H_4.size F z_5 h0 hfc) (cwV 0 hts gX13_check_X13_begin rfl rfl rfl (by decide +kernel) ⟨Nat.le_of_ble_eq_true rfl, Nat.le_of_ble_eq_true rfl⟩) ⟨fun a U g mk q => by obtain ⟨q0, q1, qP, qK, qD, qN⟩ := q; exact ⟨q0, q1, qP, va_K.moved (u := U) (U := U.calling g mk a) (Vm.Alike.refl U.vm) qK, qD, qN.same rfl⟩, va_recv hK hP (ci := 13) (q0 := h0) rfl (Wd_ob kg_1 sg_1 (by decide)), fun U hU hW => ⟨rfl, by rw [hU], by rw [hU]; exact hP, va_K.moved hW.alike hK, hD.weaken (fun _ _ _ _ => trivial), hN.warm hW⟩⟩ rfl rfl hl.1 rfl (lv_room (Nat.le_of_ble_eq_true rfl)) dX13_check_11 ⟨Nat.le_of_ble_eq_true rfl, Nat.le_of_ble_eq_true rfl⟩) hS (fun q _ h => hFc q h) hFc (fun u t H_7 locs ht hvm hw hB hz1 hk1 hS2 => ?_)
  obtain ⟨hP1, -, hD1⟩ := hB
  rw [ht] at hP1
  replace hD := hD1.weaken (fun _ _ _ h => hFc _ h)
  replace hP := hP1
  replace hS := hS2
  clear hP1 hD1 hS2 hFc hfc hz1 hk1 hvm ht
  refine lv_iconst (v := 0) hx hb dX13_check_14 (by decide) ?_
  refine lv_istore_n (lv' := [(3, .int 0), (0, .ref (a h0)), (1, .ref (a x0)), (2, .int x1)]) hx hb dX13_check_15 rfl hl (by decide) rfl (fun ls hl2 => ?_)
  replace hl := hl2
  clear hl2
  have hl0 : lv_has ls 4 [(3, .int 0), (0, .ref (a h0))] := lv_sub hl [0, 1] rfl
  refine de_loop (h := 16) (fun (x : St × Int32) ls H locs => lv_has ls 4 [(3, .int x.2), (0, .ref (a h0))] ∧ va_P (dC, dI) vwCl (Wd cy a sh n x.1) H ∧ va_D A (Wd cy a sh n x.1) ∧ va_S A s.heap H locs) (fun f x => fn_X13_check_L16 F sh n h0 f x.1 x.2) (z8, r8) ?_ (fun _ => rfl) F (z_6, 0) ls H_7 locs ⟨hl0, hP, hD, hS⟩ hf
  intro f_10 x ls H locs ih16 hI hf
  obtain ⟨z_9, p_8⟩ := x
  obtain ⟨hl2, hP2, hD2, hS2⟩ := hI
  replace hl : lv_has ls 4 [(3, .int p_8), (0, .ref (a h0))] := hl2
  replace hP := hP2
  replace hD := hD2
  replace hS := hS2
  clear hl2 hP2 hD2 hS2 hl0
  replace hf := fn_X13_check_L16_s hf
  refine lv_iload_n hx hb dX13_check_16 rfl (lv_at hl 0 rfl) ?_
  refine lv_aload_n hx hb dX13_check_17 rfl (lv_at hl 1 rfl) ?_
  refine va_get (D := (dC, dI)) (ci := 13) (v := .int (z_9.1 h0 4)) (C := RX13) (T := TX13) (N := 22) hx hb hts iwd_X13_check_X13 hown hK hP h0 (Wd_ob kg_1 sg_1 (by decide)) rfl 4 (by decide) (hts _ md_X13_check_3) (fun _ h9 => h9) (fl_at (t := 0) rfl) dX13_check_18 ?_
  refine lv_icmp_ge (tgt := 54) hx hb dX13_check_21 (by decide) (fun c_11 => ?_) (fun c_11 => ?_)
  · skip
    rw [if_pos c_11] at hf
    refine lv_aload_n hx hb dX13_check_54 rfl (lv_at hl 1 rfl) ?_
    refine va_get (D := (dC, dI)) (ci := 13) (v := .int (z_9.1 h0 18)) (C := RX13) (T := TX13) (N := 22) hx hb hts iwd_X13_check_X13 hown hK hP h0 (Wd_ob kg_1 sg_1 (by decide)) rfl 18 (by decide) (hts _ md_X13_check_4) (fun _ h9 => h9) (fl_at (t := 0) rfl) dX13_check_55 ?_
    obtain ⟨h8, h9⟩ := ret_some hf
    rw [h8, h9]
    exact W.iret (v := (z_9.1 h0 18)) hx hb hr (fun t ht hW => ⟨⟨(z_9.1 h0 18), (), rfl, rfl, by rw [ht]; exact hP, va_K.moved hW.alike hK, hD⟩, hS.F ht⟩) hS.2.2 dX13_check_58
  · skip
    rw [if_neg c_11] at hf
    refine lv_aload_n hx hb dX13_check_24 rfl (lv_at hl 1 rfl) ?_
    refine va_get (D := (dC, dI)) (ci := 13) (v := .int (z_9.1 h0 18)) (C := RX13) (T := TX13) (N := 22) hx hb hts iwd_X13_check_X13 hown hK hP h0 (Wd_ob kg_1 sg_1 (by decide)) rfl 18 (by decide) (hts _ md_X13_check_4) (fun _ h9 => h9) (fl_at (t := 0) rfl) dX13_check_25 ?_
    refine lv_if_ne (tgt := 54) hx hb dX13_check_28 (by decide) (fun c_12 => ?_) (fun c_12 => ?_)
    · skip
      rw [if_neg c_12] at hf
      refine lv_aload_n hx hb dX13_check_54 rfl (lv_at hl 1 rfl) ?_
      refine va_get (D := (dC, dI)) (ci := 13) (v := .int (z_9.1 h0 18)) (C := RX13) (T := TX13) (N := 22) hx hb hts iwd_X13_check_X13 hown hK hP h0 (Wd_ob kg_1 sg_1 (by decide)) rfl 18 (by decide) (hts _ md_X13_check_4) (fun _ h9 => h9) (fl_at (t := 0) rfl) dX13_check_55 ?_
      obtain ⟨h8, h9⟩ := ret_some hf
      rw [h8, h9]
      exact W.iret (v := (z_9.1 h0 18)) hx hb hr (fun t ht hW => ⟨⟨(z_9.1 h0 18), (), rfl, rfl, by rw [ht]; exact hP, va_K.moved hW.alike hK, hD⟩, hS.F ht⟩) hS.2.2 dX13_check_58
    · skip
      rw [if_pos c_12] at hf
      refine lv_aload_n hx hb dX13_check_31 rfl (lv_at hl 1 rfl) ?_
      refine lv_iload_n hx hb dX13_check_32 rfl (lv_at hl 0 rfl) ?_
      obtain ⟨z_13, _u, hfc, hf⟩ := cal_some hf
      have hFc := de_free hD hS hA
      refine va_callv (va_runV (As := [.int p_8]) (rest := []) ⟨hx, hb, hml, hown, hts⟩ (de_X13_look l dC dI cy a sh n H.size F z_9 h0 p_8 hfc) (cwV 1 hts gX13_check_X13_look rfl rfl rfl (by decide +kernel) ⟨Nat.le_of_ble_eq_true rfl, Nat.le_of_ble_eq_true rfl⟩) ⟨fun a U g mk q => by obtain ⟨q0, q1, qP, qK, qD, qN⟩ := q; exact ⟨q0, q1, qP, va_K.moved (u := U) (U := U.calling g mk a) (Vm.Alike.refl U.vm) qK, qD, qN.same rfl⟩, va_recv hK hP (ci := 13) (q0 := h0) rfl (Wd_ob kg_1 sg_1 (by decide)), fun U hU hW => ⟨rfl, by rw [hU], by rw [hU]; exact hP, va_K.moved hW.alike hK, hD.weaken (fun _ _ _ _ => trivial), hN.warm hW⟩⟩ rfl rfl hl.1 rfl (lv_room (Nat.le_of_ble_eq_true rfl)) dX13_check_33 ⟨Nat.le_of_ble_eq_true rfl, Nat.le_of_ble_eq_true rfl⟩) hS (fun q _ h => hFc q h) hFc (fun u t H_14 locs ht hvm hw hB hz1 hk1 hS2 => ?_)
      obtain ⟨hP1, -, hD1⟩ := hB
      rw [ht] at hP1
      replace hD := hD1.weaken (fun _ _ _ h => hFc _ h)
      replace hP := hP1
      replace hS := hS2
      clear hP1 hD1 hS2 hFc hfc hz1 hk1 hvm ht
      refine lv_aload_n hx hb dX13_check_36 rfl (lv_at hl 1 rfl) ?_
      refine va_get (D := (dC, dI)) (ci := 13) (v := .int (z_13.1 h0 18)) (C := RX13) (T := TX13) (N := 22) hx hb hts iwd_X13_check_X13 hown hK hP h0 (Wd_ob kg_1 sg_1 (by decide)) rfl 18 (by decide) (hts _ md_X13_check_4) (fun _ h9 => h9) (fl_at (t := 0) rfl) dX13_check_37 ?_
      refine de_cut (h := 48) (fun (x : St) => []) (fun x ls H locs => lv_has ls 4 [(3, .int p_8), (0, .ref (a h0))] ∧ va_P (dC, dI) vwCl (Wd cy a sh n x) H ∧ va_D A (Wd cy a sh n x) ∧ va_S A s.heap H locs) (fun x => fn_X13_check_B48 F sh n p_8 (fun z9 q3 => fn_X13_check_L16 F sh n h0 f_10 z9 q3) x) (z8, r8) ?_ (fun B48 => ?_)
      · intro x ls H locs hI hf
        obtain ⟨z_15, ez⟩ : ∃ w, w = x := ⟨_, rfl⟩
        subst ez
        obtain ⟨hl2, hP2, hD2, hS2⟩ := hI
        replace hl : lv_has ls 4 [(3, .int p_8), (0, .ref (a h0))] := hl2
        replace hP := hP2
        replace hD := hD2
        replace hS := hS2
        clear hl2 hP2 hD2 hS2
        replace hf := fn_X13_check_B48_s hf
        refine W.eq (g2 := F0 m 48 ls []) rfl ?_
        refine lv_iinc (v := (p_8 + 1)) (lv' := [(3, .int (p_8 + 1)), (0, .ref (a h0))]) hx hb dX13_check_48 hl (k := 0) rfl rfl (by decide) rfl (fun ls hl2 => ?_)
        replace hl := hl2
        clear hl2
        refine lv_goto (tgt := 16) hx hb dX13_check_51 (by decide) ?_
        exact ih16 (z_15, (p_8 + 1)) ls H locs ⟨lv_sub hl [0, 1] rfl, hP, hD, hS⟩ hf
      refine lv_if_eq (tgt := 48) hx hb dX13_check_40 (by decide) (fun c_16 => ?_) (fun c_16 => ?_)
      · skip
        rw [if_pos c_16] at hf
        exact B48 (z_13) ls H_14 locs ⟨lv_sub hl [0, 1] rfl, hP, hD, hS⟩ hf
      · skip
        rw [if_neg c_16] at hf
        refine lv_aload_n hx hb dX13_check_43 rfl (lv_at hl 1 rfl) ?_
        refine lv_iload_n hx hb dX13_check_44 rfl (lv_at hl 0 rfl) ?_
        refine va_put (D := (dC, dI)) (ci := 13) (v := .int p_8) (ty := .int) (C := RX13) (T := TX13) (N := 22) hx hb hts iwd_X13_check_X13 tyX13 tyX13_ok nmX13 hown hK hP hD hS h0 (Wd_ob kg_1 sg_1 (by decide)) rfl 5 (by decide) (hts _ md_X13_check_5) (fun _ h9 => h9) rfl (by decide +kernel) rfl rfl (by rw [fl_len]; decide) dX13_check_45 (fun H_17 locs hP2 hD2 hS2 => ?_)
        rw [Wd_si sg_1 (by decide) rfl] at hP2 hD2
        obtain ⟨z_18, ez_18⟩ : ∃ w, w = si z_13 h0 5 p_8 := ⟨_, rfl⟩
        rw [← ez_18] at hP2 hD2
        replace hf := lt_at ez_18 hf
        clear ez_18
        replace hP := hP2
        replace hD := hD2
        replace hS := hS2
        clear hP2 hD2 hS2
        exact B48 (z_18) ls H_17 locs ⟨lv_sub hl [0, 1] rfl, hP, hD, hS⟩ hf

theorem md_X18_takeModule_1 : (.fieldLink RX18 17 "ResourceLedgerModel" "units" "[LResourceLedgerModel$Unit;" : Cond) ∈ wsX18_takeModule := List.mem_of_getElem? (i := 1) rfl
theorem iwd_X18_takeModule_X18 : ∀ w ∈ wsX180, w ∈ wsX18_takeModule := fun _ h => List.mem_cons_of_mem _ (List.mem_append_left _ (List.mem_append_left _ (List.mem_append_right _ h)))
theorem md_X18_takeModule_2 : (.fieldLink RX18 215 "ResourceLedgerModel" "faultPlace" "I" : Cond) ∈ wsX18_takeModule := List.mem_of_getElem? (i := 2) rfl
theorem iwd_X18_takeModule_X16 : ∀ w ∈ wsX160, w ∈ wsX18_takeModule := fun _ h => List.mem_cons_of_mem _ (List.mem_append_left _ (List.mem_append_right _ h))
theorem md_X18_takeModule_3 : (.fieldLink RX18 231 "ResourceLedgerModel" "looker" "LResourceLedgerModel$Looker;" : Cond) ∈ wsX18_takeModule := List.mem_of_getElem? (i := 3) rfl
theorem iwd_X18_takeModule_X13 : ∀ w ∈ wsX130, w ∈ wsX18_takeModule := fun _ h => List.mem_cons_of_mem _ (List.mem_append_right _ h)
theorem md_X18_takeModule_4 : (.fieldLink RX18 189 "ResourceLedgerModel" "depths" "[I" : Cond) ∈ wsX18_takeModule := List.mem_of_getElem? (i := 4) rfl
set_option maxHeartbeats 4000000 in
set_option maxRecDepth 100000 in
theorem de_X18_takeModule (l : Launch) (dC : Nat → ClassId) (dI : Nat → Nat → Nat) (cy : Nat → ClassId) (a : Nat → Nat) (sh : Nat → Nat × Nat) (n sz : Nat) (F : Nat) (z : St) (h0 : Nat) (x0 : Nat) (x1 : Int32) (x2 : Int32) (x3 : Int32) {z8 : St} {r8 : Int32} (hf : fn_X18_takeModule F sh n z h0 x0 x1 x2 x3 = some (z8, r8)) : Met l yX18_takeModule wsX18_takeModule ({ frames := 10, cells := 0, slots := 0, locals := 240 }) (va_Pc [.ref (a h0), .ref (a x0), .int x1, .int x2, .int x3] (fun U => U.heap.size = sz ∧ va_P (dC, dI) vwCl (Wd cy a sh n z) U.heap ∧ va_K (dC, dI) vwCl (TYS cy) U ∧ va_D (fun _ => True) (Wd cy a sh n z) ∧ NK U)) (va_Qi (fun (r9 : Int32) (u : Unit) => r9 = r8) (fun u t => va_P (dC, dI) vwCl (Wd cy a sh n z8) t.heap ∧ va_K (dC, dI) vwCl (TYS cy) t ∧ va_D (va_A (Wd cy a sh n z) sz) (Wd cy a sh n z8)) (va_A (Wd cy a sh n z) sz)) 0 0 (va_A (Wd cy a sh n z) sz) := by
  refine Met.ofW (cc := cX18_takeModule) (maxL := 9) (ret := (some .int)) (by decide) rfl ?_
  intro p e s m args below meth c s₁ B hml hv
  obtain ⟨rfl, hsz, hP, hK, hD0, hN⟩ := hv
  have hx := B.exec
  have hb := B.bytes
  have hr := B.returns
  have hts := atoms_spec (ws := wsX18_takeModule) B.pre
  have hown : s.vm.findClass RX18 = some m.cls := findClass_of_methodNamed B.named
  have hlocks := B.notSynchronized
  subst hsz
  have hD := hD0.self (sz := s.heap.size)
  clear hD0
  generalize hAe : va_A (Wd cy a sh n z) s.heap.size = A at hD ⊢
  have hA : ∀ q : Nat, s.heap.size ≤ q → A q := fun q h => by rw [← hAe]; exact Or.inr h
  clear hAe
  have hS : va_S A s.heap s.heap [] := va_S.rf
  have hl := lv_entry ([.ref (a h0), .ref (a x0), .int x1, .int x2, .int x3]) (n := 9) (Nat.le_of_ble_eq_true rfl)
  rw [lg_entry_eq]
  generalize (lg_sl ([.ref (a h0), .ref (a x0), .int x1, .int x2, .int x3]) ++ List.replicate (9 - (lg_sl ([.ref (a h0), .ref (a x0), .int x1, .int x2, .int x3])).length) Slot.unset).toArray = ls at hl ⊢
  replace hl : lv_has ls 9 [(0, .ref (a h0)), (1, .ref (a x0)), (2, .int x1), (3, .int x2), (4, .int x3)] := hl
  unfold fn_X18_takeModule at hf
  refine de_start hS hP (fun H locs hS hP => ?_)
  refine lv_aload_n hx hb dX18_takeModule_0 rfl (lv_at hl 0 rfl) ?_
  obtain ⟨g_1, hf⟩ := grd_some hf
  obtain ⟨kg_1, sg_1⟩ := okO_at g_1
  obtain ⟨k_2, ek_2, hf⟩ := lnk_some hf
  refine va_get (D := (dC, dI)) (ci := 18) (v := .ref (a k_2)) (C := RX18) (T := TX18) (N := 78) hx hb hts iwd_X18_takeModule_X18 hown hK hP h0 (Wd_ob kg_1 sg_1 (by decide)) rfl 4 (by decide) (hts _ md_X18_takeModule_1) (fun _ h9 => h9) (fl_q rfl ek_2) dX18_takeModule_1 ?_
  refine lv_iload hx hb dX18_takeModule_4 (lv_at hl 4 rfl) ?_
  obtain ⟨g_3, hf⟩ := grd_some hf
  obtain ⟨kg_3, sg_3, ig_3⟩ := okA_at g_3
  obtain ⟨k_4, ek_4, hf⟩ := lnk_some hf
  refine va_aldq (C := RX16) hx hb hK hP k_2 6 (Wd_aq kg_3 sg_3 (by decide)) rfl ig_3 dX18_takeModule_6 ?_
  refine W.eq (g2 := F0 m 7 ls [.ref (a k_4)]) (by rw [ek_4]; rfl) ?_
  refine lv_astore (lv' := [(5, .ref (a k_4)), (0, .ref (a h0)), (1, .ref (a x0)), (2, .int x1), (3, .int x2), (4, .int x3)]) hx hb dX18_takeModule_7 hl (by decide) rfl (fun ls hl2 => ?_)
  replace hl := hl2
  clear hl2
  refine lv_aload hx hb dX18_takeModule_9 (lv_at hl 0 rfl) ?_
  refine lv_aload_n hx hb dX18_takeModule_11 rfl (lv_at hl 2 rfl) ?_
  refine lv_iload_n hx hb dX18_takeModule_12 rfl (lv_at hl 3 rfl) ?_
  refine lv_iload_n hx hb dX18_takeModule_13 rfl (lv_at hl 4 rfl) ?_
  obtain ⟨g_7, hf⟩ := grd_some hf
  obtain ⟨kg_7, sg_7⟩ := okO_at g_7
  obtain ⟨z_5, r_6, hfc, hf⟩ := cal_some hf
  have hFc := de_free hD hS hA
  refine va_calli (va_runV (As := [.ref (a x0), .int x1, .int x2]) (rest := []) ⟨hx, hb, hml, hown, hts⟩ (de_X16_read l dC dI cy a sh n H.size F z k_4 x0 x1 x2 hfc) (cwV 3 hts gX18_takeModule_X16_read rfl rfl rfl (by decide +kernel) ⟨Nat.le_of_ble_eq_true rfl, Nat.le_of_ble_eq_true rfl⟩) ⟨fun a U g mk q => by obtain ⟨q0, q1, qP, qK, qD, qN⟩ := q; exact ⟨q0, q1, qP, va_K.moved (u := U) (U := U.calling g mk a) (Vm.Alike.refl U.vm) qK, qD, qN.same rfl⟩, va_recv hK hP (ci := 16) (q0 := k_4) rfl (Wd_ob kg_7 sg_7 (by decide)), fun U hU hW => ⟨rfl, by rw [hU], by rw [hU]; exact hP, va_K.moved hW.alike hK, hD.weaken (fun _ _ _ _ => trivial), hN.warm hW⟩⟩ rfl rfl hl.1 rfl (lv_room (Nat.le_of_ble_eq_true rfl)) dX18_takeModule_14 ⟨Nat.le_of_ble_eq_true rfl, Nat.le_of_ble_eq_true rfl⟩) hS (fun q _ h => hFc q h) hFc (fun rr u t H_8 locs ht hvm hw hB hz1 hk1 hS2 => ?_)
  rw [hw]
  clear hw
  obtain ⟨hP1, -, hD1⟩ := hB
  rw [ht] at hP1
  replace hD := hD1.weaken (fun _ _ _ h => hFc _ h)
  replace hP := hP1
  replace hS := hS2
  clear hP1 hD1 hS2 hFc hfc hz1 hk1 hvm ht
  refine lv_istore (lv' := [(6, .int r_6), (5, .ref (a k_4)), (0, .ref (a h0)), (1, .ref (a x0)), (2, .int x1), (3, .int x2), (4, .int x3)]) hx hb dX18_takeModule_17 hl (by decide) rfl (fun ls hl2 => ?_)
  replace hl := hl2
  clear hl2
  refine lv_aload_n hx hb dX18_takeModule_19 rfl (lv_at hl 2 rfl) ?_
  refine lv_iload hx hb dX18_takeModule_20 (lv_at hl 0 rfl) ?_
  refine de_cut (h := 34) (fun (x : St × Int32) => [.int x.2, .ref (a h0)]) (fun x ls H locs => lv_has ls 9 [(6, .int r_6), (5, .ref (a k_4)), (0, .ref (a h0)), (4, .int x3)] ∧ va_P (dC, dI) vwCl (Wd cy a sh n x.1) H ∧ va_D A (Wd cy a sh n x.1) ∧ va_S A s.heap H locs) (fun x => fn_X18_takeModule_B34 F sh n h0 r_6 k_4 x3 x.1 x.2) (z8, r8) ?_ (fun B34 => ?_)
  · intro x ls H locs hI hf
    obtain ⟨z_10, p_9⟩ := x
    obtain ⟨hl2, hP2, hD2, hS2⟩ := hI
    replace hl : lv_has ls 9 [(6, .int r_6), (5, .ref (a k_4)), (0, .ref (a h0)), (4, .int x3)] := hl2
    replace hP := hP2
    replace hD := hD2
    replace hS := hS2
    clear hl2 hP2 hD2 hS2
    replace hf := fn_X18_takeModule_B34_s hf
    refine W.eq (g2 := F0 m 34 ls [.int p_9, .ref (a h0)]) rfl ?_
    refine va_put (D := (dC, dI)) (ci := 18) (v := .int p_9) (ty := .int) (C := RX18) (T := TX18) (N := 78) hx hb hts iwd_X18_takeModule_X18 tyX18 tyX18_ok nmX18 hown hK hP hD hS h0 (Wd_ob kg_1 sg_1 (by decide)) rfl 23 (by decide) (hts _ md_X18_takeModule_2) (fun _ h9 => h9) rfl (by decide +kernel) rfl rfl (by rw [fl_len]; decide) dX18_takeModule_34 (fun H_11 locs hP2 hD2 hS2 => ?_)
    rw [Wd_si sg_1 (by decide) rfl] at hP2 hD2
    obtain ⟨z_12, ez_12⟩ : ∃ w, w = si z_10 h0 23 p_9 := ⟨_, rfl⟩
    rw [← ez_12] at hP2 hD2
    replace hf := lt_at ez_12 hf
    clear ez_12
    replace hP := hP2
    replace hD := hD2
    replace hS := hS2
    clear hP2 hD2 hS2
    refine lv_iload hx hb dX18_takeModule_37 (lv_at hl 0 rfl) ?_
    refine lv_if_eq (tgt := 45) hx hb dX18_takeModule_39 (by decide) (fun c_13 => ?_) (fun c_13 => ?_)
    · skip
      rw [if_pos c_13] at hf
      refine lv_aload hx hb dX18_takeModule_45 (lv_at hl 1 rfl) ?_
      obtain ⟨z_14, r_15, hfc, hf⟩ := cal_some hf
      have hFc := de_free hD hS hA
      refine va_calli (va_runV (As := []) (rest := []) ⟨hx, hb, hml, hown, hts⟩ (de_X16_number l dC dI cy a sh n H_11.size F z_12 k_4 hfc) (cwV 0 hts gX18_takeModule_X16_number rfl rfl rfl (by decide +kernel) ⟨Nat.le_of_ble_eq_true rfl, Nat.le_of_ble_eq_true rfl⟩) ⟨fun a U g mk q => by obtain ⟨q0, q1, qP, qK, qD, qN⟩ := q; exact ⟨q0, q1, qP, va_K.moved (u := U) (U := U.calling g mk a) (Vm.Alike.refl U.vm) qK, qD, qN.same rfl⟩, va_recv hK hP (ci := 16) (q0 := k_4) rfl (Wd_ob kg_7 sg_7 (by decide)), fun U hU hW => ⟨rfl, by rw [hU], by rw [hU]; exact hP, va_K.moved hW.alike hK, hD.weaken (fun _ _ _ _ => trivial), hN.warm hW⟩⟩ rfl rfl hl.1 rfl (lv_room (Nat.le_of_ble_eq_true rfl)) dX18_takeModule_47 ⟨Nat.le_of_ble_eq_true rfl, Nat.le_of_ble_eq_true rfl⟩) hS (fun q _ h => hFc q h) hFc (fun rr u t H_16 locs ht hvm hw hB hz1 hk1 hS2 => ?_)
      rw [hw]
      clear hw
      obtain ⟨hP1, -, hD1⟩ := hB
      rw [ht] at hP1
      replace hD := hD1.weaken (fun _ _ _ h => hFc _ h)
      replace hP := hP1
      replace hS := hS2
      clear hP1 hD1 hS2 hFc hfc hz1 hk1 hvm ht
      refine lv_if_eq (tgt := 65) hx hb dX18_takeModule_50 (by decide) (fun c_17 => ?_) (fun c_17 => ?_)
      · skip
        rw [if_pos c_17] at hf
        refine lv_aload_n hx hb dX18_takeModule_65 rfl (lv_at hl 2 rfl) ?_
        refine lv_bipush (v := 21) hx hb dX18_takeModule_66 (by decide) ?_
        refine lv_iconst (v := 4) hx hb dX18_takeModule_68 (by decide) ?_
        obtain ⟨z_18, r_19, hfc, hf⟩ := cal_some hf
        have hFc := de_free hD hS hA
        refine va_calli (va_runV (As := [.int 21, .int 4]) (rest := []) ⟨hx, hb, hml, hown, hts⟩ (de_X18_tell l dC dI cy a sh n H_16.size F z_14 h0 21 4 hfc) (cwV 2 hts gX18_takeModule_X18_tell rfl rfl rfl (by decide +kernel) ⟨Nat.le_of_ble_eq_true rfl, Nat.le_of_ble_eq_true rfl⟩) ⟨fun a U g mk q => by obtain ⟨q0, q1, qP, qK, qD, qN⟩ := q; exact ⟨q0, q1, qP, va_K.moved (u := U) (U := U.calling g mk a) (Vm.Alike.refl U.vm) qK, qD, qN.same rfl⟩, va_recv hK hP (ci := 18) (q0 := h0) rfl (Wd_ob kg_1 sg_1 (by decide)), fun U hU hW => ⟨rfl, by rw [hU], by rw [hU]; exact hP, va_K.moved hW.alike hK, hD.weaken (fun _ _ _ _ => trivial), hN.warm hW⟩⟩ rfl rfl hl.1 rfl (lv_room (Nat.le_of_ble_eq_true rfl)) dX18_takeModule_69 ⟨Nat.le_of_ble_eq_true rfl, Nat.le_of_ble_eq_true rfl⟩) hS (fun q _ h => hFc q h) hFc (fun rr u t H_20 locs ht hvm hw hB hz1 hk1 hS2 => ?_)
        rw [hw]
        clear hw
        obtain ⟨hP1, -, hD1⟩ := hB
        rw [ht] at hP1
        replace hD := hD1.weaken (fun _ _ _ h => hFc _ h)
        replace hP := hP1
        replace hS := hS2
        clear hP1 hD1 hS2 hFc hfc hz1 hk1 hvm ht
        obtain ⟨h8, h9⟩ := ret_some hf
        rw [h8, h9]
        exact W.iret (v := r_19) hx hb hr (fun t ht hW => ⟨⟨r_19, (), rfl, rfl, by rw [ht]; exact hP, va_K.moved hW.alike hK, hD⟩, hS.F ht⟩) hS.2.2 dX18_takeModule_72
      · skip
        rw [if_neg c_17] at hf
        refine lv_aload_n hx hb dX18_takeModule_53 rfl (lv_at hl 2 rfl) ?_
        refine lv_aload hx hb dX18_takeModule_54 (lv_at hl 1 rfl) ?_
        obtain ⟨z_21, r_22, hfc, hf⟩ := cal_some hf
        have hFc := de_free hD hS hA
        refine va_calli (va_runV (As := []) (rest := [.ref (a h0)]) ⟨hx, hb, hml, hown, hts⟩ (de_X16_number l dC dI cy a sh n H_16.size F z_14 k_4 hfc) (cwV 0 hts gX18_takeModule_X16_number rfl rfl rfl (by decide +kernel) ⟨Nat.le_of_ble_eq_true rfl, Nat.le_of_ble_eq_true rfl⟩) ⟨fun a U g mk q => by obtain ⟨q0, q1, qP, qK, qD, qN⟩ := q; exact ⟨q0, q1, qP, va_K.moved (u := U) (U := U.calling g mk a) (Vm.Alike.refl U.vm) qK, qD, qN.same rfl⟩, va_recv hK hP (ci := 16) (q0 := k_4) rfl (Wd_ob kg_7 sg_7 (by decide)), fun U hU hW => ⟨rfl, by rw [hU], by rw [hU]; exact hP, va_K.moved hW.alike hK, hD.weaken (fun _ _ _ _ => trivial), hN.warm hW⟩⟩ rfl rfl hl.1 rfl (lv_room (Nat.le_of_ble_eq_true rfl)) dX18_takeModule_56 ⟨Nat.le_of_ble_eq_true rfl, Nat.le_of_ble_eq_true rfl⟩) hS (fun q _ h => hFc q h) hFc (fun rr u t H_23 locs ht hvm hw hB hz1 hk1 hS2 => ?_)
        rw [hw]
        clear hw
        obtain ⟨hP1, -, hD1⟩ := hB
        rw [ht] at hP1
        replace hD := hD1.weaken (fun _ _ _ h => hFc _ h)
        replace hP := hP1
        replace hS := hS2
        clear hP1 hD1 hS2 hFc hfc hz1 hk1 hvm ht
        obtain ⟨z_24, r_25, hfc, hf⟩ := cal_some hf
        have hFc := de_free hD hS hA
        refine va_calli (va_runV (As := [.int r_22]) (rest := []) ⟨hx, hb, hml, hown, hts⟩ (de_X18_findModule l dC dI cy a sh n H_23.size F z_21 h0 r_22 hfc) (cwV 1 hts gX18_takeModule_X18_findModule rfl rfl rfl (by decide +kernel) ⟨Nat.le_of_ble_eq_true rfl, Nat.le_of_ble_eq_true rfl⟩) ⟨fun a U g mk q => by obtain ⟨q0, q1, qP, qK, qD, qN⟩ := q; exact ⟨q0, q1, qP, va_K.moved (u := U) (U := U.calling g mk a) (Vm.Alike.refl U.vm) qK, qD, qN.same rfl⟩, va_recv hK hP (ci := 18) (q0 := h0) rfl (Wd_ob kg_1 sg_1 (by decide)), fun U hU hW => ⟨rfl, by rw [hU], by rw [hU]; exact hP, va_K.moved hW.alike hK, hD.weaken (fun _ _ _ _ => trivial), hN.warm hW⟩⟩ rfl rfl hl.1 rfl (lv_room (Nat.le_of_ble_eq_true rfl)) dX18_takeModule_59 ⟨Nat.le_of_ble_eq_true rfl, Nat.le_of_ble_eq_true rfl⟩) hS (fun q _ h => hFc q h) hFc (fun rr u t H_26 locs ht hvm hw hB hz1 hk1 hS2 => ?_)
        rw [hw]
        clear hw
        obtain ⟨hP1, -, hD1⟩ := hB
        rw [ht] at hP1
        replace hD := hD1.weaken (fun _ _ _ h => hFc _ h)
        replace hP := hP1
        replace hS := hS2
        clear hP1 hD1 hS2 hFc hfc hz1 hk1 hvm ht
        refine lv_if_le (tgt := 73) hx hb dX18_takeModule_62 (by decide) (fun c_27 => ?_) (fun c_27 => ?_)
        · skip
          rw [if_pos c_27] at hf
          refine lv_aload hx hb dX18_takeModule_73 (lv_at hl 1 rfl) ?_
          refine va_getN (D := (dC, dI)) (ci := 16) (v := .int (z_24.1 k_4 5)) (C := RX16) (T := TX16) (N := 18) hx hb hts iwd_X18_takeModule_X16 hown hK hP k_4 (Wd_ob kg_7 sg_7 (by decide)) rfl 5 (by decide) (va_Nw.use rfl (NK_f_X18_109 hN)) (fun _ h9 => h9) (fl_at (t := 0) rfl) dX18_takeModule_75 ?_
          refine lv_topi (fun v_28 ev_28 => ?_)
          replace hf := lt_at ev_28 hf
          clear ev_28
          refine lv_istore (lv' := [(7, .int v_28), (6, .int r_6), (5, .ref (a k_4)), (0, .ref (a h0)), (4, .int x3)]) hx hb dX18_takeModule_78 hl (by decide) rfl (fun ls hl2 => ?_)
          replace hl := hl2
          clear hl2
          have hl0 : lv_has ls 9 [(7, .int v_28), (5, .ref (a k_4)), (0, .ref (a h0)), (4, .int x3)] := lv_sub hl [0, 2, 3, 4] rfl
          refine de_loop (h := 80) (fun (x : St × Int32) ls H locs => lv_has ls 9 [(7, .int x.2), (5, .ref (a k_4)), (0, .ref (a h0)), (4, .int x3)] ∧ va_P (dC, dI) vwCl (Wd cy a sh n x.1) H ∧ va_D A (Wd cy a sh n x.1) ∧ va_S A s.heap H locs) (fun f x => fn_X18_takeModule_L80 F sh n k_4 h0 x3 f x.1 x.2) (z8, r8) ?_ (fun _ => rfl) F (z_24, v_28) ls H_26 locs ⟨hl0, hP, hD, hS⟩ hf
          intro f_31 x ls H locs ih80 hI hf
          obtain ⟨z_30, p_29⟩ := x
          obtain ⟨hl2, hP2, hD2, hS2⟩ := hI
          replace hl : lv_has ls 9 [(7, .int p_29), (5, .ref (a k_4)), (0, .ref (a h0)), (4, .int x3)] := hl2
          replace hP := hP2
          replace hD := hD2
          replace hS := hS2
          clear hl2 hP2 hD2 hS2 hl0
          replace hf := fn_X18_takeModule_L80_s hf
          refine lv_iload hx hb dX18_takeModule_80 (lv_at hl 0 rfl) ?_
          refine lv_aload hx hb dX18_takeModule_82 (lv_at hl 1 rfl) ?_
          obtain ⟨z_32, r_33, hfc, hf⟩ := cal_some hf
          have hFc := de_free hD hS hA
          refine va_calli (va_runV (As := []) (rest := [.int p_29]) ⟨hx, hb, hml, hown, hts⟩ (de_X16_structureCount l dC dI cy a sh n H.size F z_30 k_4 hfc) (cwV 0 hts gX18_takeModule_X16_structureCount rfl rfl rfl (by decide +kernel) ⟨Nat.le_of_ble_eq_true rfl, Nat.le_of_ble_eq_true rfl⟩) ⟨fun a U g mk q => by obtain ⟨q0, q1, qP, qK, qD, qN⟩ := q; exact ⟨q0, q1, qP, va_K.moved (u := U) (U := U.calling g mk a) (Vm.Alike.refl U.vm) qK, qD, qN.same rfl⟩, va_recv hK hP (ci := 16) (q0 := k_4) rfl (Wd_ob kg_7 sg_7 (by decide)), fun U hU hW => ⟨rfl, by rw [hU], by rw [hU]; exact hP, va_K.moved hW.alike hK, hD.weaken (fun _ _ _ _ => trivial), hN.warm hW⟩⟩ rfl rfl hl.1 rfl (lv_room (Nat.le_of_ble_eq_true rfl)) dX18_takeModule_84 ⟨Nat.le_of_ble_eq_true rfl, Nat.le_of_ble_eq_true rfl⟩) hS (fun q _ h => hFc q h) hFc (fun rr u t H_34 locs ht hvm hw hB hz1 hk1 hS2 => ?_)
          rw [hw]
          clear hw
          obtain ⟨hP1, -, hD1⟩ := hB
          rw [ht] at hP1
          replace hD := hD1.weaken (fun _ _ _ h => hFc _ h)
          replace hP := hP1
          replace hS := hS2
          clear hP1 hD1 hS2 hFc hfc hz1 hk1 hvm ht
          refine lv_icmp_ge (tgt := 164) hx hb dX18_takeModule_87 (by decide) (fun c_35 => ?_) (fun c_35 => ?_)
          · skip
            rw [if_pos c_35] at hf
            refine lv_aload hx hb dX18_takeModule_164 (lv_at hl 1 rfl) ?_
            refine va_getN (D := (dC, dI)) (ci := 16) (v := .int (z_32.1 k_4 9)) (C := RX16) (T := TX16) (N := 18) hx hb hts iwd_X18_takeModule_X16 hown hK hP k_4 (Wd_ob kg_7 sg_7 (by decide)) rfl 9 (by decide) (va_Nw.use rfl (NK_f_X18_112 hN)) (fun _ h9 => h9) (fl_at (t := 0) rfl) dX18_takeModule_166 ?_
            refine lv_topi (fun v_36 ev_36 => ?_)
            replace hf := lt_at ev_36 hf
            clear ev_36
            refine lv_istore (lv' := [(7, .int v_36), (5, .ref (a k_4)), (0, .ref (a h0)), (4, .int x3)]) hx hb dX18_takeModule_169 hl (by decide) rfl (fun ls hl2 => ?_)
            replace hl := hl2
            clear hl2
            have hl0 : lv_has ls 9 [(7, .int v_36), (5, .ref (a k_4)), (0, .ref (a h0)), (4, .int x3)] := lv_sub hl [0, 1, 2, 3] rfl
            refine de_loop (h := 171) (fun (x : St × Int32) ls H locs => lv_has ls 9 [(7, .int x.2), (5, .ref (a k_4)), (0, .ref (a h0)), (4, .int x3)] ∧ va_P (dC, dI) vwCl (Wd cy a sh n x.1) H ∧ va_D A (Wd cy a sh n x.1) ∧ va_S A s.heap H locs) (fun f x => fn_X18_takeModule_L171 F sh n k_4 h0 x3 f x.1 x.2) (z8, r8) ?_ (fun _ => rfl) F (z_32, v_36) ls H_34 locs ⟨hl0, hP, hD, hS⟩ hf
            intro f_39 x ls H locs ih171 hI hf
            obtain ⟨z_38, p_37⟩ := x
            obtain ⟨hl2, hP2, hD2, hS2⟩ := hI
            replace hl : lv_has ls 9 [(7, .int p_37), (5, .ref (a k_4)), (0, .ref (a h0)), (4, .int x3)] := hl2
            replace hP := hP2
            replace hD := hD2
            replace hS := hS2
            clear hl2 hP2 hD2 hS2 hl0
            replace hf := fn_X18_takeModule_L171_s hf
            refine lv_iload hx hb dX18_takeModule_171 (lv_at hl 0 rfl) ?_
            refine lv_aload hx hb dX18_takeModule_173 (lv_at hl 1 rfl) ?_
            obtain ⟨z_40, r_41, hfc, hf⟩ := cal_some hf
            have hFc := de_free hD hS hA
            refine va_calli (va_runV (As := []) (rest := [.int p_37]) ⟨hx, hb, hml, hown, hts⟩ (de_X16_functionCount l dC dI cy a sh n H.size F z_38 k_4 hfc) (cwV 0 hts gX18_takeModule_X16_functionCount rfl rfl rfl (by decide +kernel) ⟨Nat.le_of_ble_eq_true rfl, Nat.le_of_ble_eq_true rfl⟩) ⟨fun a U g mk q => by obtain ⟨q0, q1, qP, qK, qD, qN⟩ := q; exact ⟨q0, q1, qP, va_K.moved (u := U) (U := U.calling g mk a) (Vm.Alike.refl U.vm) qK, qD, qN.same rfl⟩, va_recv hK hP (ci := 16) (q0 := k_4) rfl (Wd_ob kg_7 sg_7 (by decide)), fun U hU hW => ⟨rfl, by rw [hU], by rw [hU]; exact hP, va_K.moved hW.alike hK, hD.weaken (fun _ _ _ _ => trivial), hN.warm hW⟩⟩ rfl rfl hl.1 rfl (lv_room (Nat.le_of_ble_eq_true rfl)) dX18_takeModule_175 ⟨Nat.le_of_ble_eq_true rfl, Nat.le_of_ble_eq_true rfl⟩) hS (fun q _ h => hFc q h) hFc (fun rr u t H_42 locs ht hvm hw hB hz1 hk1 hS2 => ?_)
            rw [hw]
            clear hw
            obtain ⟨hP1, -, hD1⟩ := hB
            rw [ht] at hP1
            replace hD := hD1.weaken (fun _ _ _ h => hFc _ h)
            replace hP := hP1
            replace hS := hS2
            clear hP1 hD1 hS2 hFc hfc hz1 hk1 hvm ht
            refine lv_icmp_ge (tgt := 213) hx hb dX18_takeModule_178 (by decide) (fun c_43 => ?_) (fun c_43 => ?_)
            · skip
              rw [if_pos c_43] at hf
              refine lv_iconst (v := 0) hx hb dX18_takeModule_213 (by decide) ?_
              refine lv_istore (lv' := [(7, .int 0), (5, .ref (a k_4)), (0, .ref (a h0)), (4, .int x3)]) hx hb dX18_takeModule_214 hl (by decide) rfl (fun ls hl2 => ?_)
              replace hl := hl2
              clear hl2
              have hl0 : lv_has ls 9 [(7, .int 0), (5, .ref (a k_4)), (0, .ref (a h0)), (4, .int x3)] := lv_sub hl [0, 1, 2, 3] rfl
              refine de_loop (h := 216) (fun (x : St × Int32) ls H locs => lv_has ls 9 [(7, .int x.2), (5, .ref (a k_4)), (0, .ref (a h0)), (4, .int x3)] ∧ va_P (dC, dI) vwCl (Wd cy a sh n x.1) H ∧ va_D A (Wd cy a sh n x.1) ∧ va_S A s.heap H locs) (fun f x => fn_X18_takeModule_L216 F sh n k_4 h0 x3 f x.1 x.2) (z8, r8) ?_ (fun _ => rfl) F (z_40, 0) ls H_42 locs ⟨hl0, hP, hD, hS⟩ hf
              intro f_46 x ls H locs ih216 hI hf
              obtain ⟨z_45, p_44⟩ := x
              obtain ⟨hl2, hP2, hD2, hS2⟩ := hI
              replace hl : lv_has ls 9 [(7, .int p_44), (5, .ref (a k_4)), (0, .ref (a h0)), (4, .int x3)] := hl2
              replace hP := hP2
              replace hD := hD2
              replace hS := hS2
              clear hl2 hP2 hD2 hS2 hl0
              replace hf := fn_X18_takeModule_L216_s hf
              refine lv_iload hx hb dX18_takeModule_216 (lv_at hl 0 rfl) ?_
              refine lv_aload hx hb dX18_takeModule_218 (lv_at hl 1 rfl) ?_
              refine va_getN (D := (dC, dI)) (ci := 16) (v := .int (z_45.1 k_4 5)) (C := RX16) (T := TX16) (N := 18) hx hb hts iwd_X18_takeModule_X16 hown hK hP k_4 (Wd_ob kg_7 sg_7 (by decide)) rfl 5 (by decide) (va_Nw.use rfl (NK_f_X18_109 hN)) (fun _ h9 => h9) (fl_at (t := 0) rfl) dX18_takeModule_220 ?_
              refine lv_icmp_ge (tgt := 255) hx hb dX18_takeModule_223 (by decide) (fun c_47 => ?_) (fun c_47 => ?_)
              · skip
                rw [if_pos c_47] at hf
                refine lv_aload_n hx hb dX18_takeModule_255 rfl (lv_at hl 2 rfl) ?_
                refine lv_iload hx hb dX18_takeModule_256 (lv_at hl 3 rfl) ?_
                obtain ⟨z_48, _u, hfc, hf⟩ := cal_some hf
                have hFc := de_free hD hS hA
                refine va_callv (va_runV (As := [.int x3]) (rest := []) ⟨hx, hb, hml, hown, hts⟩ (de_X18_measure l dC dI cy a sh n H.size F z_45 h0 x3 hfc) (cwV 1 hts gX18_takeModule_X18_measure rfl rfl rfl (by decide +kernel) ⟨Nat.le_of_ble_eq_true rfl, Nat.le_of_ble_eq_true rfl⟩) ⟨fun a U g mk q => by obtain ⟨q0, q1, qP, qK, qD, qN⟩ := q; exact ⟨q0, q1, qP, va_K.moved (u := U) (U := U.calling g mk a) (Vm.Alike.refl U.vm) qK, qD, qN.same rfl⟩, va_recv hK hP (ci := 18) (q0 := h0) rfl (Wd_ob kg_1 sg_1 (by decide)), fun U hU hW => ⟨rfl, by rw [hU], by rw [hU]; exact hP, va_K.moved hW.alike hK, hD.weaken (fun _ _ _ _ => trivial), hN.warm hW⟩⟩ rfl rfl hl.1 rfl (lv_room (Nat.le_of_ble_eq_true rfl)) dX18_takeModule_258 ⟨Nat.le_of_ble_eq_true rfl, Nat.le_of_ble_eq_true rfl⟩) hS (fun q _ h => hFc q h) hFc (fun u t H_49 locs ht hvm hw hB hz1 hk1 hS2 => ?_)
                obtain ⟨hP1, -, hD1⟩ := hB
                rw [ht] at hP1
                replace hD := hD1.weaken (fun _ _ _ h => hFc _ h)
                replace hP := hP1
                replace hS := hS2
                clear hP1 hD1 hS2 hFc hfc hz1 hk1 hvm ht
                refine lv_iconst (v := 0) hx hb dX18_takeModule_261 (by decide) ?_
                refine lv_istore (lv' := [(7, .int 0), (5, .ref (a k_4)), (0, .ref (a h0)), (4, .int x3)]) hx hb dX18_takeModule_262 hl (by decide) rfl (fun ls hl2 => ?_)
                replace hl := hl2
                clear hl2
                have hl0 : lv_has ls 9 [(7, .int 0), (5, .ref (a k_4)), (0, .ref (a h0)), (4, .int x3)] := lv_sub hl [0, 1, 2, 3] rfl
                refine de_loop (h := 264) (fun (x : St × Int32) ls H locs => lv_has ls 9 [(7, .int x.2), (5, .ref (a k_4)), (0, .ref (a h0)), (4, .int x3)] ∧ va_P (dC, dI) vwCl (Wd cy a sh n x.1) H ∧ va_D A (Wd cy a sh n x.1) ∧ va_S A s.heap H locs) (fun f x => fn_X18_takeModule_L264 F sh n k_4 h0 x3 f x.1 x.2) (z8, r8) ?_ (fun _ => rfl) F (z_48, 0) ls H_49 locs ⟨hl0, hP, hD, hS⟩ hf
                intro f_52 x ls H locs ih264 hI hf
                obtain ⟨z_51, p_50⟩ := x
                obtain ⟨hl2, hP2, hD2, hS2⟩ := hI
                replace hl : lv_has ls 9 [(7, .int p_50), (5, .ref (a k_4)), (0, .ref (a h0)), (4, .int x3)] := hl2
                replace hP := hP2
                replace hD := hD2
                replace hS := hS2
                clear hl2 hP2 hD2 hS2 hl0
                replace hf := fn_X18_takeModule_L264_s hf
                refine lv_iload hx hb dX18_takeModule_264 (lv_at hl 0 rfl) ?_
                refine lv_aload hx hb dX18_takeModule_266 (lv_at hl 1 rfl) ?_
                refine va_getN (D := (dC, dI)) (ci := 16) (v := .int (z_51.1 k_4 5)) (C := RX16) (T := TX16) (N := 18) hx hb hts iwd_X18_takeModule_X16 hown hK hP k_4 (Wd_ob kg_7 sg_7 (by decide)) rfl 5 (by decide) (va_Nw.use rfl (NK_f_X18_109 hN)) (fun _ h9 => h9) (fl_at (t := 0) rfl) dX18_takeModule_268 ?_
                refine lv_icmp_ge (tgt := 307) hx hb dX18_takeModule_271 (by decide) (fun c_53 => ?_) (fun c_53 => ?_)
                · skip
                  rw [if_pos c_53] at hf
                  refine lv_iconst (v := 0) hx hb dX18_takeModule_307 (by decide) ?_
                  refine lv_istore (lv' := [(7, .int 0), (5, .ref (a k_4)), (0, .ref (a h0)), (4, .int x3)]) hx hb dX18_takeModule_308 hl (by decide) rfl (fun ls hl2 => ?_)
                  replace hl := hl2
                  clear hl2
                  have hl0 : lv_has ls 9 [(7, .int 0), (5, .ref (a k_4)), (0, .ref (a h0))] := lv_sub hl [0, 1, 2] rfl
                  refine de_loop (h := 310) (fun (x : St × Int32) ls H locs => lv_has ls 9 [(7, .int x.2), (5, .ref (a k_4)), (0, .ref (a h0))] ∧ va_P (dC, dI) vwCl (Wd cy a sh n x.1) H ∧ va_D A (Wd cy a sh n x.1) ∧ va_S A s.heap H locs) (fun f x => fn_X18_takeModule_L310 F sh n k_4 h0 f x.1 x.2) (z8, r8) ?_ (fun _ => rfl) F (z_51, 0) ls H locs ⟨hl0, hP, hD, hS⟩ hf
                  intro f_56 x ls H locs ih310 hI hf
                  obtain ⟨z_55, p_54⟩ := x
                  obtain ⟨hl2, hP2, hD2, hS2⟩ := hI
                  replace hl : lv_has ls 9 [(7, .int p_54), (5, .ref (a k_4)), (0, .ref (a h0))] := hl2
                  replace hP := hP2
                  replace hD := hD2
                  replace hS := hS2
                  clear hl2 hP2 hD2 hS2 hl0
                  replace hf := fn_X18_takeModule_L310_s hf
                  refine lv_iload hx hb dX18_takeModule_310 (lv_at hl 0 rfl) ?_
                  refine lv_aload hx hb dX18_takeModule_312 (lv_at hl 1 rfl) ?_
                  refine va_getN (D := (dC, dI)) (ci := 16) (v := .int (z_55.1 k_4 9)) (C := RX16) (T := TX16) (N := 18) hx hb hts iwd_X18_takeModule_X16 hown hK hP k_4 (Wd_ob kg_7 sg_7 (by decide)) rfl 9 (by decide) (va_Nw.use rfl (NK_f_X18_112 hN)) (fun _ h9 => h9) (fl_at (t := 0) rfl) dX18_takeModule_314 ?_
                  refine lv_icmp_ge (tgt := 368) hx hb dX18_takeModule_317 (by decide) (fun c_57 => ?_) (fun c_57 => ?_)
                  · skip
                    rw [if_pos c_57] at hf
                    refine lv_iconst (v := 0) hx hb dX18_takeModule_368 (by decide) ?_
                    obtain ⟨h8, h9⟩ := ret_some hf
                    rw [h8, h9]
                    exact W.iret (v := 0) hx hb hr (fun t ht hW => ⟨⟨0, (), rfl, rfl, by rw [ht]; exact hP, va_K.moved hW.alike hK, hD⟩, hS.F ht⟩) hS.2.2 dX18_takeModule_369
                  · skip
                    rw [if_neg c_57] at hf
                    refine lv_aload_n hx hb dX18_takeModule_320 rfl (lv_at hl 2 rfl) ?_
                    obtain ⟨k_58, ek_58, hf⟩ := lnk_some hf
                    refine va_get (D := (dC, dI)) (ci := 18) (v := .ref (a k_58)) (C := RX18) (T := TX18) (N := 78) hx hb hts iwd_X18_takeModule_X18 hown hK hP h0 (Wd_ob kg_1 sg_1 (by decide)) rfl 16 (by decide) (hts _ md_X18_takeModule_3) (fun _ h9 => h9) (fl_q rfl ek_58) dX18_takeModule_321 ?_
                    refine lv_aload hx hb dX18_takeModule_324 (lv_at hl 1 rfl) ?_
                    refine lv_iload hx hb dX18_takeModule_326 (lv_at hl 0 rfl) ?_
                    obtain ⟨g_61, hf⟩ := grd_some hf
                    obtain ⟨kg_61, sg_61⟩ := okO_at g_61
                    obtain ⟨z_59, r_60, hfc, hf⟩ := cal_some hf
                    have hFc := de_free hD hS hA
                    refine va_calli (va_runV (As := [.ref (a k_4), .int p_54]) (rest := []) ⟨hx, hb, hml, hown, hts⟩ (de_X13_check l dC dI cy a sh n H.size F z_55 k_58 k_4 p_54 hfc) (cwV 2 hts gX18_takeModule_X13_check rfl rfl rfl (by decide +kernel) ⟨Nat.le_of_ble_eq_true rfl, Nat.le_of_ble_eq_true rfl⟩) ⟨fun a U g mk q => by obtain ⟨q0, q1, qP, qK, qD, qN⟩ := q; exact ⟨q0, q1, qP, va_K.moved (u := U) (U := U.calling g mk a) (Vm.Alike.refl U.vm) qK, qD, qN.same rfl⟩, va_recv hK hP (ci := 13) (q0 := k_58) rfl (Wd_ob kg_61 sg_61 (by decide)), fun U hU hW => ⟨rfl, by rw [hU], by rw [hU]; exact hP, va_K.moved hW.alike hK, hD.weaken (fun _ _ _ _ => trivial), hN.warm hW⟩⟩ rfl rfl hl.1 rfl (lv_room (Nat.le_of_ble_eq_true rfl)) dX18_takeModule_328 ⟨Nat.le_of_ble_eq_true rfl, Nat.le_of_ble_eq_true rfl⟩) hS (fun q _ h => hFc q h) hFc (fun rr u t H_62 locs ht hvm hw hB hz1 hk1 hS2 => ?_)
                    rw [hw]
                    clear hw
                    obtain ⟨hP1, -, hD1⟩ := hB
                    rw [ht] at hP1
                    replace hD := hD1.weaken (fun _ _ _ h => hFc _ h)
                    replace hP := hP1
                    replace hS := hS2
                    clear hP1 hD1 hS2 hFc hfc hz1 hk1 hvm ht
                    refine lv_istore (lv' := [(8, .int r_60), (7, .int p_54), (5, .ref (a k_4)), (0, .ref (a h0))]) hx hb dX18_takeModule_331 hl (by decide) rfl (fun ls hl2 => ?_)
                    replace hl := hl2
                    clear hl2
                    refine lv_iload hx hb dX18_takeModule_333 (lv_at hl 0 rfl) ?_
                    refine lv_if_eq (tgt := 362) hx hb dX18_takeModule_335 (by decide) (fun c_63 => ?_) (fun c_63 => ?_)
                    · skip
                      rw [if_pos c_63] at hf
                      refine lv_iinc (v := (p_54 + 1)) (lv' := [(7, .int (p_54 + 1)), (8, .int r_60), (5, .ref (a k_4)), (0, .ref (a h0))]) hx hb dX18_takeModule_362 hl (k := 1) rfl rfl (by decide) rfl (fun ls hl2 => ?_)
                      replace hl := hl2
                      clear hl2
                      refine lv_goto (tgt := 310) hx hb dX18_takeModule_365 (by decide) ?_
                      exact ih310 (z_59, (p_54 + 1)) ls H_62 locs ⟨lv_sub hl [0, 2, 3] rfl, hP, hD, hS⟩ hf
                    · skip
                      rw [if_neg c_63] at hf
                      refine lv_aload_n hx hb dX18_takeModule_338 rfl (lv_at hl 3 rfl) ?_
                      refine lv_bipush (v := 30) hx hb dX18_takeModule_339 (by decide) ?_
                      refine lv_iload hx hb dX18_takeModule_341 (lv_at hl 0 rfl) ?_
                      refine lv_iadd hx hb dX18_takeModule_343 ?_
                      refine lv_sipush (v := 1024) hx hb dX18_takeModule_344 (by decide) ?_
                      refine lv_iload hx hb dX18_takeModule_347 (lv_at hl 1 rfl) ?_
                      refine lv_imul hx hb dX18_takeModule_349 ?_
                      refine lv_aload_n hx hb dX18_takeModule_350 rfl (lv_at hl 3 rfl) ?_
                      obtain ⟨k_64, ek_64, hf⟩ := lnk_some hf
                      refine va_get (D := (dC, dI)) (ci := 18) (v := .ref (a k_64)) (C := RX18) (T := TX18) (N := 78) hx hb hts iwd_X18_takeModule_X18 hown hK hP h0 (Wd_ob kg_1 sg_1 (by decide)) rfl 16 (by decide) (hts _ md_X18_takeModule_3) (fun _ h9 => h9) (fl_q rfl ek_64) dX18_takeModule_351 ?_
                      obtain ⟨g_65, hf⟩ := grd_some hf
                      obtain ⟨kg_65, sg_65⟩ := okO_at g_65
                      refine va_getN (D := (dC, dI)) (ci := 13) (v := .int (z_59.1 k_64 5)) (C := RX13) (T := TX13) (N := 22) hx hb hts iwd_X18_takeModule_X13 hown hK hP k_64 (Wd_ob kg_65 sg_65 (by decide)) rfl 5 (by decide) (va_Nw.use rfl (NK_f_X18_247 hN)) (fun _ h9 => h9) (fl_at (t := 0) rfl) dX18_takeModule_354 ?_
                      refine lv_iadd hx hb dX18_takeModule_357 ?_
                      obtain ⟨z_66, r_67, hfc, hf⟩ := cal_some hf
                      have hFc := de_free hD hS hA
                      refine va_calli (va_runV (As := [.int (30 + r_60), .int ((1024 * p_54) + (z_59.1 k_64 5))]) (rest := []) ⟨hx, hb, hml, hown, hts⟩ (de_X18_tell l dC dI cy a sh n H_62.size F z_59 h0 (30 + r_60) ((1024 * p_54) + (z_59.1 k_64 5)) hfc) (cwV 2 hts gX18_takeModule_X18_tell rfl rfl rfl (by decide +kernel) ⟨Nat.le_of_ble_eq_true rfl, Nat.le_of_ble_eq_true rfl⟩) ⟨fun a U g mk q => by obtain ⟨q0, q1, qP, qK, qD, qN⟩ := q; exact ⟨q0, q1, qP, va_K.moved (u := U) (U := U.calling g mk a) (Vm.Alike.refl U.vm) qK, qD, qN.same rfl⟩, va_recv hK hP (ci := 18) (q0 := h0) rfl (Wd_ob kg_1 sg_1 (by decide)), fun U hU hW => ⟨rfl, by rw [hU], by rw [hU]; exact hP, va_K.moved hW.alike hK, hD.weaken (fun _ _ _ _ => trivial), hN.warm hW⟩⟩ rfl rfl hl.1 rfl (lv_room (Nat.le_of_ble_eq_true rfl)) dX18_takeModule_358 ⟨Nat.le_of_ble_eq_true rfl, Nat.le_of_ble_eq_true rfl⟩) hS (fun q _ h => hFc q h) hFc (fun rr u t H_68 locs ht hvm hw hB hz1 hk1 hS2 => ?_)
                      rw [hw]
                      clear hw
                      obtain ⟨hP1, -, hD1⟩ := hB
                      rw [ht] at hP1
                      replace hD := hD1.weaken (fun _ _ _ h => hFc _ h)
                      replace hP := hP1
                      replace hS := hS2
                      clear hP1 hD1 hS2 hFc hfc hz1 hk1 hvm ht
                      obtain ⟨h8, h9⟩ := ret_some hf
                      rw [h8, h9]
                      exact W.iret (v := r_67) hx hb hr (fun t ht hW => ⟨⟨r_67, (), rfl, rfl, by rw [ht]; exact hP, va_K.moved hW.alike hK, hD⟩, hS.F ht⟩) hS.2.2 dX18_takeModule_361
                · skip
                  rw [if_neg c_53] at hf
                  refine lv_aload_n hx hb dX18_takeModule_274 rfl (lv_at hl 2 rfl) ?_
                  obtain ⟨k_69, ek_69, hf⟩ := lnk_some hf
                  refine va_get (D := (dC, dI)) (ci := 18) (v := .ref (a k_69)) (C := RX18) (T := TX18) (N := 78) hx hb hts iwd_X18_takeModule_X18 hown hK hP h0 (Wd_ob kg_1 sg_1 (by decide)) rfl 6 (by decide) (hts _ md_X18_takeModule_4) (fun _ h9 => h9) (fl_q rfl ek_69) dX18_takeModule_275 ?_
                  refine lv_bipush (v := 64) hx hb dX18_takeModule_278 (by decide) ?_
                  refine lv_iload hx hb dX18_takeModule_280 (lv_at hl 3 rfl) ?_
                  refine lv_imul hx hb dX18_takeModule_282 ?_
                  refine lv_iload hx hb dX18_takeModule_283 (lv_at hl 0 rfl) ?_
                  refine lv_iadd hx hb dX18_takeModule_285 ?_
                  obtain ⟨g_70, hf⟩ := grd_some hf
                  obtain ⟨kg_70, sg_70, ig_70⟩ := okA_at g_70
                  refine va_iald hx hb hK hP k_69 1 (Wd_ai kg_70 sg_70) rfl ig_70 dX18_takeModule_286 ?_
                  refine lv_bipush (v := 24) hx hb dX18_takeModule_287 (by decide) ?_
                  refine lv_icmp_le (tgt := 301) hx hb dX18_takeModule_289 (by decide) (fun c_71 => ?_) (fun c_71 => ?_)
                  · skip
                    rw [if_pos c_71] at hf
                    refine lv_iinc (v := (p_50 + 1)) (lv' := [(7, .int (p_50 + 1)), (5, .ref (a k_4)), (0, .ref (a h0)), (4, .int x3)]) hx hb dX18_takeModule_301 hl (k := 0) rfl rfl (by decide) rfl (fun ls hl2 => ?_)
                    replace hl := hl2
                    clear hl2
                    refine lv_goto (tgt := 264) hx hb dX18_takeModule_304 (by decide) ?_
                    exact ih264 (z_51, (p_50 + 1)) ls H locs ⟨lv_sub hl [0, 1, 2, 3] rfl, hP, hD, hS⟩ hf
                  · skip
                    rw [if_neg c_71] at hf
                    refine lv_aload_n hx hb dX18_takeModule_292 rfl (lv_at hl 2 rfl) ?_
                    refine lv_bipush (v := 25) hx hb dX18_takeModule_293 (by decide) ?_
                    refine lv_iload hx hb dX18_takeModule_295 (lv_at hl 0 rfl) ?_
                    obtain ⟨z_72, r_73, hfc, hf⟩ := cal_some hf
                    have hFc := de_free hD hS hA
                    refine va_calli (va_runV (As := [.int 25, .int p_50]) (rest := []) ⟨hx, hb, hml, hown, hts⟩ (de_X18_tell l dC dI cy a sh n H.size F z_51 h0 25 p_50 hfc) (cwV 2 hts gX18_takeModule_X18_tell rfl rfl rfl (by decide +kernel) ⟨Nat.le_of_ble_eq_true rfl, Nat.le_of_ble_eq_true rfl⟩) ⟨fun a U g mk q => by obtain ⟨q0, q1, qP, qK, qD, qN⟩ := q; exact ⟨q0, q1, qP, va_K.moved (u := U) (U := U.calling g mk a) (Vm.Alike.refl U.vm) qK, qD, qN.same rfl⟩, va_recv hK hP (ci := 18) (q0 := h0) rfl (Wd_ob kg_1 sg_1 (by decide)), fun U hU hW => ⟨rfl, by rw [hU], by rw [hU]; exact hP, va_K.moved hW.alike hK, hD.weaken (fun _ _ _ _ => trivial), hN.warm hW⟩⟩ rfl rfl hl.1 rfl (lv_room (Nat.le_of_ble_eq_true rfl)) dX18_takeModule_297 ⟨Nat.le_of_ble_eq_true rfl, Nat.le_of_ble_eq_true rfl⟩) hS (fun q _ h => hFc q h) hFc (fun rr u t H_74 locs ht hvm hw hB hz1 hk1 hS2 => ?_)
                    rw [hw]
                    clear hw
                    obtain ⟨hP1, -, hD1⟩ := hB
                    rw [ht] at hP1
                    replace hD := hD1.weaken (fun _ _ _ h => hFc _ h)
                    replace hP := hP1
                    replace hS := hS2
                    clear hP1 hD1 hS2 hFc hfc hz1 hk1 hvm ht
                    obtain ⟨h8, h9⟩ := ret_some hf
                    rw [h8, h9]
                    exact W.iret (v := r_73) hx hb hr (fun t ht hW => ⟨⟨r_73, (), rfl, rfl, by rw [ht]; exact hP, va_K.moved hW.alike hK, hD⟩, hS.F ht⟩) hS.2.2 dX18_takeModule_300
              · skip
                rw [if_neg c_47] at hf
                refine lv_aload_n hx hb dX18_takeModule_226 rfl (lv_at hl 2 rfl) ?_
                obtain ⟨k_75, ek_75, hf⟩ := lnk_some hf
                refine va_get (D := (dC, dI)) (ci := 18) (v := .ref (a k_75)) (C := RX18) (T := TX18) (N := 78) hx hb hts iwd_X18_takeModule_X18 hown hK hP h0 (Wd_ob kg_1 sg_1 (by decide)) rfl 16 (by decide) (hts _ md_X18_takeModule_3) (fun _ h9 => h9) (fl_q rfl ek_75) dX18_takeModule_227 ?_
                refine lv_aload hx hb dX18_takeModule_230 (lv_at hl 1 rfl) ?_
                refine lv_iload hx hb dX18_takeModule_232 (lv_at hl 0 rfl) ?_
                obtain ⟨g_78, hf⟩ := grd_some hf
                obtain ⟨kg_78, sg_78⟩ := okO_at g_78
                obtain ⟨z_76, r_77, hfc, hf⟩ := cal_some hf
                have hFc := de_free hD hS hA
                refine va_calli (va_runV (As := [.ref (a k_4), .int p_44]) (rest := []) ⟨hx, hb, hml, hown, hts⟩ (de_X13_bears l dC dI cy a sh n H.size F z_45 k_75 k_4 p_44 hfc) (cwV 2 hts gX18_takeModule_X13_bears rfl rfl rfl (by decide +kernel) ⟨Nat.le_of_ble_eq_true rfl, Nat.le_of_ble_eq_true rfl⟩) ⟨fun a U g mk q => by obtain ⟨q0, q1, qP, qK, qD, qN⟩ := q; exact ⟨q0, q1, qP, va_K.moved (u := U) (U := U.calling g mk a) (Vm.Alike.refl U.vm) qK, qD, qN.same rfl⟩, va_recv hK hP (ci := 13) (q0 := k_75) rfl (Wd_ob kg_78 sg_78 (by decide)), fun U hU hW => ⟨rfl, by rw [hU], by rw [hU]; exact hP, va_K.moved hW.alike hK, hD.weaken (fun _ _ _ _ => trivial), hN.warm hW⟩⟩ rfl rfl hl.1 rfl (lv_room (Nat.le_of_ble_eq_true rfl)) dX18_takeModule_234 ⟨Nat.le_of_ble_eq_true rfl, Nat.le_of_ble_eq_true rfl⟩) hS (fun q _ h => hFc q h) hFc (fun rr u t H_79 locs ht hvm hw hB hz1 hk1 hS2 => ?_)
                rw [hw]
                clear hw
                obtain ⟨hP1, -, hD1⟩ := hB
                rw [ht] at hP1
                replace hD := hD1.weaken (fun _ _ _ h => hFc _ h)
                replace hP := hP1
                replace hS := hS2
                clear hP1 hD1 hS2 hFc hfc hz1 hk1 hvm ht
                refine lv_if_ne (tgt := 249) hx hb dX18_takeModule_237 (by decide) (fun c_80 => ?_) (fun c_80 => ?_)
                · skip
                  rw [if_neg c_80] at hf
                  refine lv_iinc (v := (p_44 + 1)) (lv' := [(7, .int (p_44 + 1)), (5, .ref (a k_4)), (0, .ref (a h0)), (4, .int x3)]) hx hb dX18_takeModule_249 hl (k := 0) rfl rfl (by decide) rfl (fun ls hl2 => ?_)
                  replace hl := hl2
                  clear hl2
                  refine lv_goto (tgt := 216) hx hb dX18_takeModule_252 (by decide) ?_
                  exact ih216 (z_76, (p_44 + 1)) ls H_79 locs ⟨lv_sub hl [0, 1, 2, 3] rfl, hP, hD, hS⟩ hf
                · skip
                  rw [if_pos c_80] at hf
                  refine lv_aload_n hx hb dX18_takeModule_240 rfl (lv_at hl 2 rfl) ?_
                  refine lv_bipush (v := 24) hx hb dX18_takeModule_241 (by decide) ?_
                  refine lv_iload hx hb dX18_takeModule_243 (lv_at hl 0 rfl) ?_
                  obtain ⟨z_81, r_82, hfc, hf⟩ := cal_some hf
                  have hFc := de_free hD hS hA
                  refine va_calli (va_runV (As := [.int 24, .int p_44]) (rest := []) ⟨hx, hb, hml, hown, hts⟩ (de_X18_tell l dC dI cy a sh n H_79.size F z_76 h0 24 p_44 hfc) (cwV 2 hts gX18_takeModule_X18_tell rfl rfl rfl (by decide +kernel) ⟨Nat.le_of_ble_eq_true rfl, Nat.le_of_ble_eq_true rfl⟩) ⟨fun a U g mk q => by obtain ⟨q0, q1, qP, qK, qD, qN⟩ := q; exact ⟨q0, q1, qP, va_K.moved (u := U) (U := U.calling g mk a) (Vm.Alike.refl U.vm) qK, qD, qN.same rfl⟩, va_recv hK hP (ci := 18) (q0 := h0) rfl (Wd_ob kg_1 sg_1 (by decide)), fun U hU hW => ⟨rfl, by rw [hU], by rw [hU]; exact hP, va_K.moved hW.alike hK, hD.weaken (fun _ _ _ _ => trivial), hN.warm hW⟩⟩ rfl rfl hl.1 rfl (lv_room (Nat.le_of_ble_eq_true rfl)) dX18_takeModule_245 ⟨Nat.le_of_ble_eq_true rfl, Nat.le_of_ble_eq_true rfl⟩) hS (fun q _ h => hFc q h) hFc (fun rr u t H_83 locs ht hvm hw hB hz1 hk1 hS2 => ?_)
                  rw [hw]
                  clear hw
                  obtain ⟨hP1, -, hD1⟩ := hB
                  rw [ht] at hP1
                  replace hD := hD1.weaken (fun _ _ _ h => hFc _ h)
                  replace hP := hP1
                  replace hS := hS2
                  clear hP1 hD1 hS2 hFc hfc hz1 hk1 hvm ht
                  obtain ⟨h8, h9⟩ := ret_some hf
                  rw [h8, h9]
                  exact W.iret (v := r_82) hx hb hr (fun t ht hW => ⟨⟨r_82, (), rfl, rfl, by rw [ht]; exact hP, va_K.moved hW.alike hK, hD⟩, hS.F ht⟩) hS.2.2 dX18_takeModule_248
            · skip
              rw [if_neg c_43] at hf
              refine lv_aload_n hx hb dX18_takeModule_181 rfl (lv_at hl 2 rfl) ?_
              refine lv_aload hx hb dX18_takeModule_182 (lv_at hl 1 rfl) ?_
              refine lv_iload hx hb dX18_takeModule_184 (lv_at hl 0 rfl) ?_
              obtain ⟨z_84, r_85, hfc, hf⟩ := cal_some hf
              have hFc := de_free hD hS hA
              refine va_calli (va_runV (As := [.ref (a k_4), .int p_37]) (rest := []) ⟨hx, hb, hml, hown, hts⟩ (de_X18_isFunctionAs l dC dI cy a sh n H_42.size F z_40 h0 k_4 p_37 hfc) (cwV 2 hts gX18_takeModule_X18_isFunctionAs rfl rfl rfl (by decide +kernel) ⟨Nat.le_of_ble_eq_true rfl, Nat.le_of_ble_eq_true rfl⟩) ⟨fun a U g mk q => by obtain ⟨q0, q1, qP, qK, qD, qN⟩ := q; exact ⟨q0, q1, qP, va_K.moved (u := U) (U := U.calling g mk a) (Vm.Alike.refl U.vm) qK, qD, qN.same rfl⟩, va_recv hK hP (ci := 18) (q0 := h0) rfl (Wd_ob kg_1 sg_1 (by decide)), fun U hU hW => ⟨rfl, by rw [hU], by rw [hU]; exact hP, va_K.moved hW.alike hK, hD.weaken (fun _ _ _ _ => trivial), hN.warm hW⟩⟩ rfl rfl hl.1 rfl (lv_room (Nat.le_of_ble_eq_true rfl)) dX18_takeModule_186 ⟨Nat.le_of_ble_eq_true rfl, Nat.le_of_ble_eq_true rfl⟩) hS (fun q _ h => hFc q h) hFc (fun rr u t H_86 locs ht hvm hw hB hz1 hk1 hS2 => ?_)
              rw [hw]
              clear hw
              obtain ⟨hP1, -, hD1⟩ := hB
              rw [ht] at hP1
              replace hD := hD1.weaken (fun _ _ _ h => hFc _ h)
              replace hP := hP1
              replace hS := hS2
              clear hP1 hD1 hS2 hFc hfc hz1 hk1 hvm ht
              refine lv_if_ne (tgt := 207) hx hb dX18_takeModule_189 (by decide) (fun c_87 => ?_) (fun c_87 => ?_)
              · skip
                rw [if_neg c_87] at hf
                refine lv_iinc (v := (p_37 + 1)) (lv' := [(7, .int (p_37 + 1)), (5, .ref (a k_4)), (0, .ref (a h0)), (4, .int x3)]) hx hb dX18_takeModule_207 hl (k := 0) rfl rfl (by decide) rfl (fun ls hl2 => ?_)
                replace hl := hl2
                clear hl2
                refine lv_goto (tgt := 171) hx hb dX18_takeModule_210 (by decide) ?_
                exact ih171 (z_84, (p_37 + 1)) ls H_86 locs ⟨lv_sub hl [0, 1, 2, 3] rfl, hP, hD, hS⟩ hf
              · skip
                rw [if_pos c_87] at hf
                refine lv_aload_n hx hb dX18_takeModule_192 rfl (lv_at hl 2 rfl) ?_
                refine lv_bipush (v := 23) hx hb dX18_takeModule_193 (by decide) ?_
                refine lv_iload hx hb dX18_takeModule_195 (lv_at hl 0 rfl) ?_
                refine lv_aload hx hb dX18_takeModule_197 (lv_at hl 1 rfl) ?_
                refine va_getN (D := (dC, dI)) (ci := 16) (v := .int (z_84.1 k_4 9)) (C := RX16) (T := TX16) (N := 18) hx hb hts iwd_X18_takeModule_X16 hown hK hP k_4 (Wd_ob kg_7 sg_7 (by decide)) rfl 9 (by decide) (va_Nw.use rfl (NK_f_X18_112 hN)) (fun _ h9 => h9) (fl_at (t := 0) rfl) dX18_takeModule_199 ?_
                refine lv_isub hx hb dX18_takeModule_202 ?_
                obtain ⟨z_88, r_89, hfc, hf⟩ := cal_some hf
                have hFc := de_free hD hS hA
                refine va_calli (va_runV (As := [.int 23, .int (p_37 - (z_84.1 k_4 9))]) (rest := []) ⟨hx, hb, hml, hown, hts⟩ (de_X18_tell l dC dI cy a sh n H_86.size F z_84 h0 23 (p_37 - (z_84.1 k_4 9)) hfc) (cwV 2 hts gX18_takeModule_X18_tell rfl rfl rfl (by decide +kernel) ⟨Nat.le_of_ble_eq_true rfl, Nat.le_of_ble_eq_true rfl⟩) ⟨fun a U g mk q => by obtain ⟨q0, q1, qP, qK, qD, qN⟩ := q; exact ⟨q0, q1, qP, va_K.moved (u := U) (U := U.calling g mk a) (Vm.Alike.refl U.vm) qK, qD, qN.same rfl⟩, va_recv hK hP (ci := 18) (q0 := h0) rfl (Wd_ob kg_1 sg_1 (by decide)), fun U hU hW => ⟨rfl, by rw [hU], by rw [hU]; exact hP, va_K.moved hW.alike hK, hD.weaken (fun _ _ _ _ => trivial), hN.warm hW⟩⟩ rfl rfl hl.1 rfl (lv_room (Nat.le_of_ble_eq_true rfl)) dX18_takeModule_203 ⟨Nat.le_of_ble_eq_true rfl, Nat.le_of_ble_eq_true rfl⟩) hS (fun q _ h => hFc q h) hFc (fun rr u t H_90 locs ht hvm hw hB hz1 hk1 hS2 => ?_)
                rw [hw]
                clear hw
                obtain ⟨hP1, -, hD1⟩ := hB
                rw [ht] at hP1
                replace hD := hD1.weaken (fun _ _ _ h => hFc _ h)
                replace hP := hP1
                replace hS := hS2
                clear hP1 hD1 hS2 hFc hfc hz1 hk1 hvm ht
                obtain ⟨h8, h9⟩ := ret_some hf
                rw [h8, h9]
                exact W.iret (v := r_89) hx hb hr (fun t ht hW => ⟨⟨r_89, (), rfl, rfl, by rw [ht]; exact hP, va_K.moved hW.alike hK, hD⟩, hS.F ht⟩) hS.2.2 dX18_takeModule_206
          · skip
            rw [if_neg c_35] at hf
            refine lv_aload hx hb dX18_takeModule_90 (lv_at hl 1 rfl) ?_
            refine lv_iload hx hb dX18_takeModule_92 (lv_at hl 0 rfl) ?_
            obtain ⟨z_91, r_92, hfc, hf⟩ := cal_some hf
            have hFc := de_free hD hS hA
            refine va_calli (va_runV (As := [.int p_29]) (rest := []) ⟨hx, hb, hml, hown, hts⟩ (de_X16_identity l dC dI cy a sh n H_34.size F z_32 k_4 p_29 hfc) (cwV 1 hts gX18_takeModule_X16_identity rfl rfl rfl (by decide +kernel) ⟨Nat.le_of_ble_eq_true rfl, Nat.le_of_ble_eq_true rfl⟩) ⟨fun a U g mk q => by obtain ⟨q0, q1, qP, qK, qD, qN⟩ := q; exact ⟨q0, q1, qP, va_K.moved (u := U) (U := U.calling g mk a) (Vm.Alike.refl U.vm) qK, qD, qN.same rfl⟩, va_recv hK hP (ci := 16) (q0 := k_4) rfl (Wd_ob kg_7 sg_7 (by decide)), fun U hU hW => ⟨rfl, by rw [hU], by rw [hU]; exact hP, va_K.moved hW.alike hK, hD.weaken (fun _ _ _ _ => trivial), hN.warm hW⟩⟩ rfl rfl hl.1 rfl (lv_room (Nat.le_of_ble_eq_true rfl)) dX18_takeModule_94 ⟨Nat.le_of_ble_eq_true rfl, Nat.le_of_ble_eq_true rfl⟩) hS (fun q _ h => hFc q h) hFc (fun rr u t H_93 locs ht hvm hw hB hz1 hk1 hS2 => ?_)
            rw [hw]
            clear hw
            obtain ⟨hP1, -, hD1⟩ := hB
            rw [ht] at hP1
            replace hD := hD1.weaken (fun _ _ _ h => hFc _ h)
            replace hP := hP1
            replace hS := hS2
            clear hP1 hD1 hS2 hFc hfc hz1 hk1 hvm ht
            refine lv_istore (lv' := [(8, .int r_92), (7, .int p_29), (5, .ref (a k_4)), (0, .ref (a h0)), (4, .int x3)]) hx hb dX18_takeModule_97 hl (by decide) rfl (fun ls hl2 => ?_)
            replace hl := hl2
            clear hl2
            refine lv_aload_n hx hb dX18_takeModule_99 rfl (lv_at hl 3 rfl) ?_
            refine lv_iload hx hb dX18_takeModule_100 (lv_at hl 0 rfl) ?_
            refine lv_bipush (v := 8) hx hb dX18_takeModule_102 (by decide) ?_
            refine lv_ishr hx hb dX18_takeModule_104 ?_
            refine lv_iload hx hb dX18_takeModule_105 (lv_at hl 0 rfl) ?_
            refine lv_sipush (v := 255) hx hb dX18_takeModule_107 (by decide) ?_
            refine lv_iand hx hb dX18_takeModule_110 ?_
            refine lv_iconst (v := 1) hx hb dX18_takeModule_111 (by decide) ?_
            obtain ⟨z_94, r_95, hfc, hf⟩ := cal_some hf
            have hFc := de_free hD hS hA
            refine va_calli (va_runV (As := [.int (r_92 >>> (8 &&& 31)), .int (r_92 &&& 255), .int 1]) (rest := []) ⟨hx, hb, hml, hown, hts⟩ (de_X18_isThere l dC dI cy a sh n H_93.size F z_91 h0 (r_92 >>> (8 &&& 31)) (r_92 &&& 255) 1 hfc) (cwV 3 hts gX18_takeModule_X18_isThere rfl rfl rfl (by decide +kernel) ⟨Nat.le_of_ble_eq_true rfl, Nat.le_of_ble_eq_true rfl⟩) ⟨fun a U g mk q => by obtain ⟨q0, q1, qP, qK, qD, qN⟩ := q; exact ⟨q0, q1, qP, va_K.moved (u := U) (U := U.calling g mk a) (Vm.Alike.refl U.vm) qK, qD, qN.same rfl⟩, va_recv hK hP (ci := 18) (q0 := h0) rfl (Wd_ob kg_1 sg_1 (by decide)), fun U hU hW => ⟨rfl, by rw [hU], by rw [hU]; exact hP, va_K.moved hW.alike hK, hD.weaken (fun _ _ _ _ => trivial), hN.warm hW⟩⟩ rfl rfl hl.1 rfl (lv_room (Nat.le_of_ble_eq_true rfl)) dX18_takeModule_112 ⟨Nat.le_of_ble_eq_true rfl, Nat.le_of_ble_eq_true rfl⟩) hS (fun q _ h => hFc q h) hFc (fun rr u t H_96 locs ht hvm hw hB hz1 hk1 hS2 => ?_)
            rw [hw]
            clear hw
            obtain ⟨hP1, -, hD1⟩ := hB
            rw [ht] at hP1
            replace hD := hD1.weaken (fun _ _ _ h => hFc _ h)
            replace hP := hP1
            replace hS := hS2
            clear hP1 hD1 hS2 hFc hfc hz1 hk1 hvm ht
            refine de_cut (h := 143) (fun (x : St) => []) (fun x ls H locs => lv_has ls 9 [(7, .int p_29), (5, .ref (a k_4)), (0, .ref (a h0))] ∧ va_P (dC, dI) vwCl (Wd cy a sh n x) H ∧ va_D A (Wd cy a sh n x) ∧ va_S A s.heap H locs) (fun x => fn_X18_takeModule_B143 F sh n h0 p_29 k_4 x) (z8, r8) ?_ (fun B143 => ?_)
            · intro x ls H locs hI hf
              obtain ⟨z_97, ez⟩ : ∃ w, w = x := ⟨_, rfl⟩
              subst ez
              obtain ⟨hl2, hP2, hD2, hS2⟩ := hI
              replace hl : lv_has ls 9 [(7, .int p_29), (5, .ref (a k_4)), (0, .ref (a h0))] := hl2
              replace hP := hP2
              replace hD := hD2
              replace hS := hS2
              clear hl2 hP2 hD2 hS2
              replace hf := fn_X18_takeModule_B143_s hf
              refine W.eq (g2 := F0 m 143 ls []) rfl ?_
              refine lv_aload_n hx hb dX18_takeModule_143 rfl (lv_at hl 2 rfl) ?_
              refine lv_bipush (v := 22) hx hb dX18_takeModule_144 (by decide) ?_
              refine lv_iload hx hb dX18_takeModule_146 (lv_at hl 0 rfl) ?_
              refine lv_aload hx hb dX18_takeModule_148 (lv_at hl 1 rfl) ?_
              refine va_getN (D := (dC, dI)) (ci := 16) (v := .int (z_97.1 k_4 5)) (C := RX16) (T := TX16) (N := 18) hx hb hts iwd_X18_takeModule_X16 hown hK hP k_4 (Wd_ob kg_7 sg_7 (by decide)) rfl 5 (by decide) (va_Nw.use rfl (NK_f_X18_109 hN)) (fun _ h9 => h9) (fl_at (t := 0) rfl) dX18_takeModule_150 ?_
              refine lv_isub hx hb dX18_takeModule_153 ?_
              obtain ⟨z_98, r_99, hfc, hf⟩ := cal_some hf
              have hFc := de_free hD hS hA
              refine va_calli (va_runV (As := [.int 22, .int (p_29 - (z_97.1 k_4 5))]) (rest := []) ⟨hx, hb, hml, hown, hts⟩ (de_X18_tell l dC dI cy a sh n H.size F z_97 h0 22 (p_29 - (z_97.1 k_4 5)) hfc) (cwV 2 hts gX18_takeModule_X18_tell rfl rfl rfl (by decide +kernel) ⟨Nat.le_of_ble_eq_true rfl, Nat.le_of_ble_eq_true rfl⟩) ⟨fun a U g mk q => by obtain ⟨q0, q1, qP, qK, qD, qN⟩ := q; exact ⟨q0, q1, qP, va_K.moved (u := U) (U := U.calling g mk a) (Vm.Alike.refl U.vm) qK, qD, qN.same rfl⟩, va_recv hK hP (ci := 18) (q0 := h0) rfl (Wd_ob kg_1 sg_1 (by decide)), fun U hU hW => ⟨rfl, by rw [hU], by rw [hU]; exact hP, va_K.moved hW.alike hK, hD.weaken (fun _ _ _ _ => trivial), hN.warm hW⟩⟩ rfl rfl hl.1 rfl (lv_room (Nat.le_of_ble_eq_true rfl)) dX18_takeModule_154 ⟨Nat.le_of_ble_eq_true rfl, Nat.le_of_ble_eq_true rfl⟩) hS (fun q _ h => hFc q h) hFc (fun rr u t H_100 locs ht hvm hw hB hz1 hk1 hS2 => ?_)
              rw [hw]
              clear hw
              obtain ⟨hP1, -, hD1⟩ := hB
              rw [ht] at hP1
              replace hD := hD1.weaken (fun _ _ _ h => hFc _ h)
              replace hP := hP1
              replace hS := hS2
              clear hP1 hD1 hS2 hFc hfc hz1 hk1 hvm ht
              obtain ⟨h8, h9⟩ := ret_some hf
              rw [h8, h9]
              exact W.iret (v := r_99) hx hb hr (fun t ht hW => ⟨⟨r_99, (), rfl, rfl, by rw [ht]; exact hP, va_K.moved hW.alike hK, hD⟩, hS.F ht⟩) hS.2.2 dX18_takeModule_157
            refine lv_if_eq (tgt := 143) hx hb dX18_takeModule_115 (by decide) (fun c_101 => ?_) (fun c_101 => ?_)
            · skip
              rw [if_pos c_101] at hf
              exact B143 (z_94) ls H_96 locs ⟨lv_sub hl [1, 2, 3] rfl, hP, hD, hS⟩ hf
            · skip
              rw [if_neg c_101] at hf
              refine lv_aload_n hx hb dX18_takeModule_118 rfl (lv_at hl 3 rfl) ?_
              refine lv_iload hx hb dX18_takeModule_119 (lv_at hl 0 rfl) ?_
              refine lv_bipush (v := 8) hx hb dX18_takeModule_121 (by decide) ?_
              refine lv_ishr hx hb dX18_takeModule_123 ?_
              refine lv_iload hx hb dX18_takeModule_124 (lv_at hl 0 rfl) ?_
              refine lv_sipush (v := 255) hx hb dX18_takeModule_126 (by decide) ?_
              refine lv_iand hx hb dX18_takeModule_129 ?_
              obtain ⟨z_102, r_103, hfc, hf⟩ := cal_some hf
              have hFc := de_free hD hS hA
              refine va_calli (va_runV (As := [.int (r_92 >>> (8 &&& 31)), .int (r_92 &&& 255)]) (rest := []) ⟨hx, hb, hml, hown, hts⟩ (de_X18_abilitiesThere l dC dI cy a sh n H_96.size F z_94 h0 (r_92 >>> (8 &&& 31)) (r_92 &&& 255) hfc) (cwV 2 hts gX18_takeModule_X18_abilitiesThere rfl rfl rfl (by decide +kernel) ⟨Nat.le_of_ble_eq_true rfl, Nat.le_of_ble_eq_true rfl⟩) ⟨fun a U g mk q => by obtain ⟨q0, q1, qP, qK, qD, qN⟩ := q; exact ⟨q0, q1, qP, va_K.moved (u := U) (U := U.calling g mk a) (Vm.Alike.refl U.vm) qK, qD, qN.same rfl⟩, va_recv hK hP (ci := 18) (q0 := h0) rfl (Wd_ob kg_1 sg_1 (by decide)), fun U hU hW => ⟨rfl, by rw [hU], by rw [hU]; exact hP, va_K.moved hW.alike hK, hD.weaken (fun _ _ _ _ => trivial), hN.warm hW⟩⟩ rfl rfl hl.1 rfl (lv_room (Nat.le_of_ble_eq_true rfl)) dX18_takeModule_130 ⟨Nat.le_of_ble_eq_true rfl, Nat.le_of_ble_eq_true rfl⟩) hS (fun q _ h => hFc q h) hFc (fun rr u t H_104 locs ht hvm hw hB hz1 hk1 hS2 => ?_)
              rw [hw]
              clear hw
              obtain ⟨hP1, -, hD1⟩ := hB
              rw [ht] at hP1
              replace hD := hD1.weaken (fun _ _ _ h => hFc _ h)
              replace hP := hP1
              replace hS := hS2
              clear hP1 hD1 hS2 hFc hfc hz1 hk1 hvm ht
              refine lv_aload hx hb dX18_takeModule_133 (lv_at hl 2 rfl) ?_
              refine lv_iload hx hb dX18_takeModule_135 (lv_at hl 1 rfl) ?_
              obtain ⟨z_105, r_106, hfc, hf⟩ := cal_some hf
              have hFc := de_free hD hS hA
              refine va_calli (va_runV (As := [.int p_29]) (rest := [.int r_103]) ⟨hx, hb, hml, hown, hts⟩ (de_X16_abilitiesOf l dC dI cy a sh n H_104.size F z_102 k_4 p_29 hfc) (cwV 1 hts gX18_takeModule_X16_abilitiesOf rfl rfl rfl (by decide +kernel) ⟨Nat.le_of_ble_eq_true rfl, Nat.le_of_ble_eq_true rfl⟩) ⟨fun a U g mk q => by obtain ⟨q0, q1, qP, qK, qD, qN⟩ := q; exact ⟨q0, q1, qP, va_K.moved (u := U) (U := U.calling g mk a) (Vm.Alike.refl U.vm) qK, qD, qN.same rfl⟩, va_recv hK hP (ci := 16) (q0 := k_4) rfl (Wd_ob kg_7 sg_7 (by decide)), fun U hU hW => ⟨rfl, by rw [hU], by rw [hU]; exact hP, va_K.moved hW.alike hK, hD.weaken (fun _ _ _ _ => trivial), hN.warm hW⟩⟩ rfl rfl hl.1 rfl (lv_room (Nat.le_of_ble_eq_true rfl)) dX18_takeModule_137 ⟨Nat.le_of_ble_eq_true rfl, Nat.le_of_ble_eq_true rfl⟩) hS (fun q _ h => hFc q h) hFc (fun rr u t H_107 locs ht hvm hw hB hz1 hk1 hS2 => ?_)
              rw [hw]
              clear hw
              obtain ⟨hP1, -, hD1⟩ := hB
              rw [ht] at hP1
              replace hD := hD1.weaken (fun _ _ _ h => hFc _ h)
              replace hP := hP1
              replace hS := hS2
              clear hP1 hD1 hS2 hFc hfc hz1 hk1 hvm ht
              refine lv_icmp_eq (tgt := 158) hx hb dX18_takeModule_140 (by decide) (fun c_108 => ?_) (fun c_108 => ?_)
              · skip
                rw [if_pos c_108] at hf
                refine lv_iinc (v := (p_29 + 1)) (lv' := [(7, .int (p_29 + 1)), (8, .int r_92), (5, .ref (a k_4)), (0, .ref (a h0)), (4, .int x3)]) hx hb dX18_takeModule_158 hl (k := 1) rfl rfl (by decide) rfl (fun ls hl2 => ?_)
                replace hl := hl2
                clear hl2
                refine lv_goto (tgt := 80) hx hb dX18_takeModule_161 (by decide) ?_
                exact ih80 (z_105, (p_29 + 1)) ls H_107 locs ⟨lv_sub hl [0, 2, 3, 4] rfl, hP, hD, hS⟩ hf
              · skip
                rw [if_neg c_108] at hf
                exact B143 (z_105) ls H_107 locs ⟨lv_sub hl [1, 2, 3] rfl, hP, hD, hS⟩ hf
        · skip
          rw [if_neg c_27] at hf
          refine lv_aload_n hx hb dX18_takeModule_65 rfl (lv_at hl 2 rfl) ?_
          refine lv_bipush (v := 21) hx hb dX18_takeModule_66 (by decide) ?_
          refine lv_iconst (v := 4) hx hb dX18_takeModule_68 (by decide) ?_
          obtain ⟨z_109, r_110, hfc, hf⟩ := cal_some hf
          have hFc := de_free hD hS hA
          refine va_calli (va_runV (As := [.int 21, .int 4]) (rest := []) ⟨hx, hb, hml, hown, hts⟩ (de_X18_tell l dC dI cy a sh n H_26.size F z_24 h0 21 4 hfc) (cwV 2 hts gX18_takeModule_X18_tell rfl rfl rfl (by decide +kernel) ⟨Nat.le_of_ble_eq_true rfl, Nat.le_of_ble_eq_true rfl⟩) ⟨fun a U g mk q => by obtain ⟨q0, q1, qP, qK, qD, qN⟩ := q; exact ⟨q0, q1, qP, va_K.moved (u := U) (U := U.calling g mk a) (Vm.Alike.refl U.vm) qK, qD, qN.same rfl⟩, va_recv hK hP (ci := 18) (q0 := h0) rfl (Wd_ob kg_1 sg_1 (by decide)), fun U hU hW => ⟨rfl, by rw [hU], by rw [hU]; exact hP, va_K.moved hW.alike hK, hD.weaken (fun _ _ _ _ => trivial), hN.warm hW⟩⟩ rfl rfl hl.1 rfl (lv_room (Nat.le_of_ble_eq_true rfl)) dX18_takeModule_69 ⟨Nat.le_of_ble_eq_true rfl, Nat.le_of_ble_eq_true rfl⟩) hS (fun q _ h => hFc q h) hFc (fun rr u t H_111 locs ht hvm hw hB hz1 hk1 hS2 => ?_)
          rw [hw]
          clear hw
          obtain ⟨hP1, -, hD1⟩ := hB
          rw [ht] at hP1
          replace hD := hD1.weaken (fun _ _ _ h => hFc _ h)
          replace hP := hP1
          replace hS := hS2
          clear hP1 hD1 hS2 hFc hfc hz1 hk1 hvm ht
          obtain ⟨h8, h9⟩ := ret_some hf
          rw [h8, h9]
          exact W.iret (v := r_110) hx hb hr (fun t ht hW => ⟨⟨r_110, (), rfl, rfl, by rw [ht]; exact hP, va_K.moved hW.alike hK, hD⟩, hS.F ht⟩) hS.2.2 dX18_takeModule_72
    · skip
      rw [if_neg c_13] at hf
      refine lv_iload hx hb dX18_takeModule_42 (lv_at hl 0 rfl) ?_
      obtain ⟨h8, h9⟩ := ret_some hf
      rw [h8, h9]
      exact W.iret (v := r_6) hx hb hr (fun t ht hW => ⟨⟨r_6, (), rfl, rfl, by rw [ht]; exact hP, va_K.moved hW.alike hK, hD⟩, hS.F ht⟩) hS.2.2 dX18_takeModule_44
  refine lv_if_eq (tgt := 33) hx hb dX18_takeModule_22 (by decide) (fun c_112 => ?_) (fun c_112 => ?_)
  · skip
    rw [if_pos c_112] at hf
    refine lv_iconst (v := 0) hx hb dX18_takeModule_33 (by decide) ?_
    exact B34 (z_5, 0) ls H_8 locs ⟨lv_sub hl [0, 1, 2, 6] rfl, hP, hD, hS⟩ hf
  · skip
    rw [if_neg c_112] at hf
    refine lv_aload hx hb dX18_takeModule_25 (lv_at hl 1 rfl) ?_
    refine va_getN (D := (dC, dI)) (ci := 16) (v := .int (z_5.1 k_4 4)) (C := RX16) (T := TX16) (N := 18) hx hb hts iwd_X18_takeModule_X16 hown hK hP k_4 (Wd_ob kg_7 sg_7 (by decide)) rfl 4 (by decide) (va_Nw.use rfl (NK_f_X18_212 hN)) (fun _ h9 => h9) (fl_at (t := 0) rfl) dX18_takeModule_27 ?_
    refine lv_goto (tgt := 34) hx hb dX18_takeModule_30 (by decide) ?_
    exact B34 (z_5, (z_5.1 k_4 4)) ls H_8 locs ⟨lv_sub hl [0, 1, 2, 6] rfl, hP, hD, hS⟩ hf

theorem md_X18_publishOne_1 : (.fieldLink RX18 572 "ResourceLedgerModel" "publishedSizes" "[I" : Cond) ∈ wsX18_publishOne := List.mem_of_getElem? (i := 1) rfl
theorem iwd_X18_publishOne_X18 : ∀ w ∈ wsX180, w ∈ wsX18_publishOne := fun _ h => List.mem_cons_of_mem _ (List.mem_append_left _ (List.mem_append_left _ (List.mem_append_right _ h)))
theorem md_X18_publishOne_2 : (.fieldLink RX18 7 "ResourceLedgerModel" "modules" "I" : Cond) ∈ wsX18_publishOne := List.mem_of_getElem? (i := 2) rfl
theorem md_X18_publishOne_4 : (.fieldLink RX18 569 "ResourceLedgerModel" "published" "[B" : Cond) ∈ wsX18_publishOne := List.mem_of_getElem? (i := 4) rfl
theorem md_X18_publishOne_3 : (.constantLong RX18 283 (4) : Cond) ∈ wsX18_publishOne := List.mem_of_getElem? (i := 3) rfl
theorem md_X18_publishOne_5 : (.fieldLink RX18 581 "ResourceLedgerModel" "faultPlaces" "[I" : Cond) ∈ wsX18_publishOne := List.mem_of_getElem? (i := 5) rfl
theorem md_X18_publishOne_6 : (.fieldLink RX18 215 "ResourceLedgerModel" "faultPlace" "I" : Cond) ∈ wsX18_publishOne := List.mem_of_getElem? (i := 6) rfl
set_option maxHeartbeats 4000000 in
set_option maxRecDepth 100000 in
theorem de_X18_publishOne (l : Launch) (dC : Nat → ClassId) (dI : Nat → Nat → Nat) (cy : Nat → ClassId) (a : Nat → Nat) (sh : Nat → Nat × Nat) (n sz : Nat) (F : Nat) (z : St) (h0 : Nat) (x0 : Int32) {z8 : St} {r8 : Unit} (hf : fn_X18_publishOne F sh n z h0 x0 = some (z8, r8)) : Met l yX18_publishOne wsX18_publishOne ({ frames := 11, cells := 0, slots := 0, locals := 268 }) (va_Pc [.ref (a h0), .int x0] (fun U => U.heap.size = sz ∧ va_P (dC, dI) vwCl (Wd cy a sh n z) U.heap ∧ va_K (dC, dI) vwCl (TYS cy) U ∧ va_D (fun _ => True) (Wd cy a sh n z) ∧ NK U)) (va_Qv (fun u : Unit => True) (fun u t => va_P (dC, dI) vwCl (Wd cy a sh n z8) t.heap ∧ va_K (dC, dI) vwCl (TYS cy) t ∧ va_D (va_A (Wd cy a sh n z) sz) (Wd cy a sh n z8)) (va_A (Wd cy a sh n z) sz)) 0 0 (va_A (Wd cy a sh n z) sz) := by
  refine Met.ofW (cc := cX18_publishOne) (maxL := 5) (ret := none) (by decide) rfl ?_
  intro p e s m args below meth c s₁ B hml hv
  obtain ⟨rfl, hsz, hP, hK, hD0, hN⟩ := hv
  have hx := B.exec
  have hb := B.bytes
  have hr := B.returns
  have hts := atoms_spec (ws := wsX18_publishOne) B.pre
  have hown : s.vm.findClass RX18 = some m.cls := findClass_of_methodNamed B.named
  have hlocks := B.notSynchronized
  subst hsz
  have hD := hD0.self (sz := s.heap.size)
  clear hD0
  generalize hAe : va_A (Wd cy a sh n z) s.heap.size = A at hD ⊢
  have hA : ∀ q : Nat, s.heap.size ≤ q → A q := fun q h => by rw [← hAe]; exact Or.inr h
  clear hAe
  have hS : va_S A s.heap s.heap [] := va_S.rf
  have hl := lv_entry ([.ref (a h0), .int x0]) (n := 5) (Nat.le_of_ble_eq_true rfl)
  rw [lg_entry_eq]
  generalize (lg_sl ([.ref (a h0), .int x0]) ++ List.replicate (5 - (lg_sl ([.ref (a h0), .int x0])).length) Slot.unset).toArray = ls at hl ⊢
  replace hl : lv_has ls 5 [(0, .ref (a h0)), (1, .int x0)] := hl
  unfold fn_X18_publishOne at hf
  refine de_start hS hP (fun H locs hS hP => ?_)
  refine lv_aload_n hx hb dX18_publishOne_0 rfl (lv_at hl 0 rfl) ?_
  obtain ⟨g_1, hf⟩ := grd_some hf
  obtain ⟨kg_1, sg_1⟩ := okO_at g_1
  obtain ⟨k_2, ek_2, hf⟩ := lnk_some hf
  refine va_get (D := (dC, dI)) (ci := 18) (v := .ref (a k_2)) (C := RX18) (T := TX18) (N := 78) hx hb hts iwd_X18_publishOne_X18 hown hK hP h0 (Wd_ob kg_1 sg_1 (by decide)) rfl 65 (by decide) (hts _ md_X18_publishOne_1) (fun _ h9 => h9) (fl_q rfl ek_2) dX18_publishOne_1 ?_
  refine lv_iload_n hx hb dX18_publishOne_4 rfl (lv_at hl 1 rfl) ?_
  obtain ⟨g_3, hf⟩ := grd_some hf
  obtain ⟨kg_3, sg_3, ig_3⟩ := okA_at g_3
  refine va_iald hx hb hK hP k_2 1 (Wd_ai kg_3 sg_3) rfl ig_3 dX18_publishOne_5 ?_
  refine lv_topi (fun v_4 ev_4 => ?_)
  replace hf := lt_at ev_4 hf
  clear ev_4
  refine lv_istore_n (lv' := [(2, .int v_4), (0, .ref (a h0)), (1, .int x0)]) hx hb dX18_publishOne_6 rfl hl (by decide) rfl (fun ls hl2 => ?_)
  replace hl := hl2
  clear hl2
  refine lv_bipush (v := 10) hx hb dX18_publishOne_7 (by decide) ?_
  refine lv_iload_n hx hb dX18_publishOne_9 rfl (lv_at hl 0 rfl) ?_
  refine lv_bipush (v := 15) hx hb dX18_publishOne_10 (by decide) ?_
  refine lv_iadd hx hb dX18_publishOne_12 ?_
  refine lv_bipush (v := 16) hx hb dX18_publishOne_13 (by decide) ?_
  refine lv_idiv hx hb dX18_publishOne_15 (by decide) ?_
  refine lv_iadd hx hb dX18_publishOne_16 ?_
  refine lv_topi (fun v_5 ev_5 => ?_)
  replace hf := lt_at ev_5 hf
  clear ev_5
  refine lv_istore_n (lv' := [(3, .int v_5), (2, .int v_4), (0, .ref (a h0)), (1, .int x0)]) hx hb dX18_publishOne_17 rfl hl (by decide) rfl (fun ls hl2 => ?_)
  replace hl := hl2
  clear hl2
  refine lv_aload_n hx hb dX18_publishOne_18 rfl (lv_at hl 2 rfl) ?_
  refine lv_iload_n hx hb dX18_publishOne_19 rfl (lv_at hl 0 rfl) ?_
  obtain ⟨z_6, r_7, hfc, hf⟩ := cal_some hf
  have hFc := de_free hD hS hA
  refine va_calli (va_runV (As := [.int v_5]) (rest := []) ⟨hx, hb, hml, hown, hts⟩ (de_X18_spend l dC dI cy a sh n H.size F z h0 v_5 hfc) (cwV 1 hts gX18_publishOne_X18_spend rfl rfl rfl (by decide +kernel) ⟨Nat.le_of_ble_eq_true rfl, Nat.le_of_ble_eq_true rfl⟩) ⟨fun a U g mk q => by obtain ⟨q0, q1, qP, qK, qD, qN⟩ := q; exact ⟨q0, q1, qP, va_K.moved (u := U) (U := U.calling g mk a) (Vm.Alike.refl U.vm) qK, qD, qN.same rfl⟩, va_recv hK hP (ci := 18) (q0 := h0) rfl (Wd_ob kg_1 sg_1 (by decide)), fun U hU hW => ⟨rfl, by rw [hU], by rw [hU]; exact hP, va_K.moved hW.alike hK, hD.weaken (fun _ _ _ _ => trivial), hN.warm hW⟩⟩ rfl rfl hl.1 rfl (lv_room (Nat.le_of_ble_eq_true rfl)) dX18_publishOne_20 ⟨Nat.le_of_ble_eq_true rfl, Nat.le_of_ble_eq_true rfl⟩) hS (fun q _ h => hFc q h) hFc (fun rr u t H_8 locs ht hvm hw hB hz1 hk1 hS2 => ?_)
  rw [hw]
  clear hw
  obtain ⟨hP1, -, hD1⟩ := hB
  rw [ht] at hP1
  replace hD := hD1.weaken (fun _ _ _ h => hFc _ h)
  replace hP := hP1
  replace hS := hS2
  clear hP1 hD1 hS2 hFc hfc hz1 hk1 hvm ht
  refine lv_if_ne (tgt := 27) hx hb dX18_publishOne_23 (by decide) (fun c_9 => ?_) (fun c_9 => ?_)
  · skip
    rw [if_neg c_9] at hf
    refine lv_aload_n hx hb dX18_publishOne_27 rfl (lv_at hl 2 rfl) ?_
    refine va_get (D := (dC, dI)) (ci := 18) (v := .int (z_6.1 h0 5)) (C := RX18) (T := TX18) (N := 78) hx hb hts iwd_X18_publishOne_X18 hown hK hP h0 (Wd_ob kg_1 sg_1 (by decide)) rfl 5 (by decide) (hts _ md_X18_publishOne_2) (fun _ h9 => h9) (fl_at (t := 0) rfl) dX18_publishOne_28 ?_
    refine lv_bipush (v := 8) hx hb dX18_publishOne_31 (by decide) ?_
    refine lv_icmp_ne (tgt := 45) hx hb dX18_publishOne_33 (by decide) (fun c_10 => ?_) (fun c_10 => ?_)
    · skip
      rw [if_neg c_10] at hf
      refine lv_aload_n hx hb dX18_publishOne_45 rfl (lv_at hl 2 rfl) ?_
      refine lv_aload_n hx hb dX18_publishOne_46 rfl (lv_at hl 2 rfl) ?_
      obtain ⟨k_11, ek_11, hf⟩ := lnk_some hf
      refine va_get (D := (dC, dI)) (ci := 18) (v := .ref (a k_11)) (C := RX18) (T := TX18) (N := 78) hx hb hts iwd_X18_publishOne_X18 hown hK hP h0 (Wd_ob kg_1 sg_1 (by decide)) rfl 64 (by decide) (hts _ md_X18_publishOne_4) (fun _ h9 => h9) (fl_q rfl ek_11) dX18_publishOne_47 ?_
      refine lv_sipush (v := 2048) hx hb dX18_publishOne_50 (by decide) ?_
      refine lv_iload_n hx hb dX18_publishOne_53 rfl (lv_at hl 3 rfl) ?_
      refine lv_imul hx hb dX18_publishOne_54 ?_
      refine lv_iload_n hx hb dX18_publishOne_55 rfl (lv_at hl 1 rfl) ?_
      refine lv_aload_n hx hb dX18_publishOne_56 rfl (lv_at hl 2 rfl) ?_
      refine va_get (D := (dC, dI)) (ci := 18) (v := .int (z_6.1 h0 5)) (C := RX18) (T := TX18) (N := 78) hx hb hts iwd_X18_publishOne_X18 hown hK hP h0 (Wd_ob kg_1 sg_1 (by decide)) rfl 5 (by decide) (hts _ md_X18_publishOne_2) (fun _ h9 => h9) (fl_at (t := 0) rfl) dX18_publishOne_57 ?_
      refine lv_iconst (v := 1) hx hb dX18_publishOne_60 (by decide) ?_
      refine lv_iadd hx hb dX18_publishOne_61 ?_
      obtain ⟨z_12, r_13, hfc, hf⟩ := cal_some hf
      have hFc := de_free hD hS hA
      refine va_calli (va_runV (As := [.ref (a k_11), .int (2048 * x0), .int v_4, .int ((z_6.1 h0 5) + 1)]) (rest := []) ⟨hx, hb, hml, hown, hts⟩ (de_X18_takeModule l dC dI cy a sh n H_8.size F z_6 h0 k_11 (2048 * x0) v_4 ((z_6.1 h0 5) + 1) hfc) (cwV 4 hts gX18_publishOne_X18_takeModule rfl rfl rfl (by decide +kernel) ⟨Nat.le_of_ble_eq_true rfl, Nat.le_of_ble_eq_true rfl⟩) ⟨fun a U g mk q => by obtain ⟨q0, q1, qP, qK, qD, qN⟩ := q; exact ⟨q0, q1, qP, va_K.moved (u := U) (U := U.calling g mk a) (Vm.Alike.refl U.vm) qK, qD, qN.same rfl⟩, va_recv hK hP (ci := 18) (q0 := h0) rfl (Wd_ob kg_1 sg_1 (by decide)), fun U hU hW => ⟨rfl, by rw [hU], by rw [hU]; exact hP, va_K.moved hW.alike hK, hD.weaken (fun _ _ _ _ => trivial), hN.warm hW⟩⟩ rfl rfl hl.1 rfl (lv_room (Nat.le_of_ble_eq_true rfl)) dX18_publishOne_62 ⟨Nat.le_of_ble_eq_true rfl, Nat.le_of_ble_eq_true rfl⟩) hS (fun q _ h => hFc q h) hFc (fun rr u t H_14 locs ht hvm hw hB hz1 hk1 hS2 => ?_)
      rw [hw]
      clear hw
      obtain ⟨hP1, -, hD1⟩ := hB
      rw [ht] at hP1
      replace hD := hD1.weaken (fun _ _ _ h => hFc _ h)
      replace hP := hP1
      replace hS := hS2
      clear hP1 hD1 hS2 hFc hfc hz1 hk1 hvm ht
      refine lv_istore (lv' := [(4, .int r_13), (3, .int v_5), (2, .int v_4), (0, .ref (a h0)), (1, .int x0)]) hx hb dX18_publishOne_65 hl (by decide) rfl (fun ls hl2 => ?_)
      replace hl := hl2
      clear hl2
      refine lv_iload hx hb dX18_publishOne_67 (lv_at hl 0 rfl) ?_
      refine lv_if_eq (tgt := 93) hx hb dX18_publishOne_69 (by decide) (fun c_15 => ?_) (fun c_15 => ?_)
      · skip
        rw [if_pos c_15] at hf
        refine lv_aload_n hx hb dX18_publishOne_93 rfl (lv_at hl 3 rfl) ?_
        obtain ⟨z_16, r_17, hfc, hf⟩ := cal_some hf
        have hFc := de_free hD hS hA
        refine va_calli (va_runV (As := []) (rest := []) ⟨hx, hb, hml, hown, hts⟩ (de_X18_placeCount l dC dI cy a sh n H_14.size F z_12 h0 hfc) (cwV 0 hts gX18_publishOne_X18_placeCount rfl rfl rfl (by decide +kernel) ⟨Nat.le_of_ble_eq_true rfl, Nat.le_of_ble_eq_true rfl⟩) ⟨fun a U g mk q => by obtain ⟨q0, q1, qP, qK, qD, qN⟩ := q; exact ⟨q0, q1, qP, va_K.moved (u := U) (U := U.calling g mk a) (Vm.Alike.refl U.vm) qK, qD, qN.same rfl⟩, va_recv hK hP (ci := 18) (q0 := h0) rfl (Wd_ob kg_1 sg_1 (by decide)), fun U hU hW => ⟨rfl, by rw [hU], by rw [hU]; exact hP, va_K.moved hW.alike hK, hD.weaken (fun _ _ _ _ => trivial), hN.warm hW⟩⟩ rfl rfl hl.1 rfl (lv_room (Nat.le_of_ble_eq_true rfl)) dX18_publishOne_94 ⟨Nat.le_of_ble_eq_true rfl, Nat.le_of_ble_eq_true rfl⟩) hS (fun q _ h => hFc q h) hFc (fun rr u t H_18 locs ht hvm hw hB hz1 hk1 hS2 => ?_)
        rw [hw]
        clear hw
        obtain ⟨hP1, -, hD1⟩ := hB
        rw [ht] at hP1
        replace hD := hD1.weaken (fun _ _ _ h => hFc _ h)
        replace hP := hP1
        replace hS := hS2
        clear hP1 hD1 hS2 hFc hfc hz1 hk1 hvm ht
        refine lv_sipush (v := 256) hx hb dX18_publishOne_97 (by decide) ?_
        refine lv_icmp_ne (tgt := 114) hx hb dX18_publishOne_100 (by decide) (fun c_19 => ?_) (fun c_19 => ?_)
        · skip
          rw [if_neg c_19] at hf
          refine lv_aload_n hx hb dX18_publishOne_114 rfl (lv_at hl 3 rfl) ?_
          refine lv_dup hx hb dX18_publishOne_115 rfl ?_
          refine va_get (D := (dC, dI)) (ci := 18) (v := .int (z_16.1 h0 5)) (C := RX18) (T := TX18) (N := 78) hx hb hts iwd_X18_publishOne_X18 hown hK hP h0 (Wd_ob kg_1 sg_1 (by decide)) rfl 5 (by decide) (hts _ md_X18_publishOne_2) (fun _ h9 => h9) (fl_at (t := 0) rfl) dX18_publishOne_116 ?_
          refine lv_iconst (v := 1) hx hb dX18_publishOne_119 (by decide) ?_
          refine lv_iadd hx hb dX18_publishOne_120 ?_
          refine va_put (D := (dC, dI)) (ci := 18) (v := .int ((z_16.1 h0 5) + 1)) (ty := .int) (C := RX18) (T := TX18) (N := 78) hx hb hts iwd_X18_publishOne_X18 tyX18 tyX18_ok nmX18 hown hK hP hD hS h0 (Wd_ob kg_1 sg_1 (by decide)) rfl 5 (by decide) (hts _ md_X18_publishOne_2) (fun _ h9 => h9) rfl (by decide +kernel) rfl rfl (by rw [fl_len]; decide) dX18_publishOne_121 (fun H_20 locs hP2 hD2 hS2 => ?_)
          rw [Wd_si sg_1 (by decide) rfl] at hP2 hD2
          obtain ⟨z_21, ez_21⟩ : ∃ w, w = si z_16 h0 5 ((z_16.1 h0 5) + 1) := ⟨_, rfl⟩
          rw [← ez_21] at hP2 hD2
          replace hf := lt_at ez_21 hf
          clear ez_21
          replace hP := hP2
          replace hD := hD2
          replace hS := hS2
          clear hP2 hD2 hS2
          refine lv_aload_n hx hb dX18_publishOne_124 rfl (lv_at hl 3 rfl) ?_
          refine lv_iconst (v := 0) hx hb dX18_publishOne_125 (by decide) ?_
          refine lv_lconst (v := 0) hx hb dX18_publishOne_126 (by decide) ?_
          obtain ⟨z_22, _u, hfc, hf⟩ := cal_some hf
          have hFc := de_free hD hS hA
          refine va_callv (va_runV (As := [.int 0, .long 0]) (rest := []) ⟨hx, hb, hml, hown, hts⟩ (de_X18_end l dC dI cy a sh n H_20.size F z_21 h0 0 0 hfc) (cwV 2 hts gX18_publishOne_X18_end rfl rfl rfl (by decide +kernel) ⟨Nat.le_of_ble_eq_true rfl, Nat.le_of_ble_eq_true rfl⟩) ⟨fun a U g mk q => by obtain ⟨q0, q1, qP, qK, qD, qN⟩ := q; exact ⟨q0, q1, qP, va_K.moved (u := U) (U := U.calling g mk a) (Vm.Alike.refl U.vm) qK, qD, qN.same rfl⟩, va_recv hK hP (ci := 18) (q0 := h0) rfl (Wd_ob kg_1 sg_1 (by decide)), fun U hU hW => ⟨rfl, by rw [hU], by rw [hU]; exact hP, va_K.moved hW.alike hK, hD.weaken (fun _ _ _ _ => trivial), hN.warm hW⟩⟩ rfl rfl hl.1 rfl (lv_room (Nat.le_of_ble_eq_true rfl)) dX18_publishOne_127 ⟨Nat.le_of_ble_eq_true rfl, Nat.le_of_ble_eq_true rfl⟩) hS (fun q _ h => hFc q h) hFc (fun u t H_23 locs ht hvm hw hB hz1 hk1 hS2 => ?_)
          obtain ⟨hP1, -, hD1⟩ := hB
          rw [ht] at hP1
          replace hD := hD1.weaken (fun _ _ _ h => hFc _ h)
          replace hP := hP1
          replace hS := hS2
          clear hP1 hD1 hS2 hFc hfc hz1 hk1 hvm ht
          obtain ⟨h8, h9⟩ := ret_some hf
          rw [h8]
          exact W.vret hx hb hr (fun t ht hW => ⟨⟨(), rfl, trivial, by rw [ht]; exact hP, va_K.moved hW.alike hK, hD⟩, hS.F ht⟩) hS.2.2 dX18_publishOne_130
        · skip
          rw [if_pos c_19] at hf
          refine lv_aload_n hx hb dX18_publishOne_103 rfl (lv_at hl 3 rfl) ?_
          refine lv_iconst (v := 2) hx hb dX18_publishOne_104 (by decide) ?_
          refine lv_ldc2 hx hb hown (hts _ md_X18_publishOne_3) dX18_publishOne_105 ?_
          obtain ⟨z_24, _u, hfc, hf⟩ := cal_some hf
          have hFc := de_free hD hS hA
          refine va_callv (va_runV (As := [.int 2, .long 4]) (rest := []) ⟨hx, hb, hml, hown, hts⟩ (de_X18_end l dC dI cy a sh n H_18.size F z_16 h0 2 4 hfc) (cwV 2 hts gX18_publishOne_X18_end rfl rfl rfl (by decide +kernel) ⟨Nat.le_of_ble_eq_true rfl, Nat.le_of_ble_eq_true rfl⟩) ⟨fun a U g mk q => by obtain ⟨q0, q1, qP, qK, qD, qN⟩ := q; exact ⟨q0, q1, qP, va_K.moved (u := U) (U := U.calling g mk a) (Vm.Alike.refl U.vm) qK, qD, qN.same rfl⟩, va_recv hK hP (ci := 18) (q0 := h0) rfl (Wd_ob kg_1 sg_1 (by decide)), fun U hU hW => ⟨rfl, by rw [hU], by rw [hU]; exact hP, va_K.moved hW.alike hK, hD.weaken (fun _ _ _ _ => trivial), hN.warm hW⟩⟩ rfl rfl hl.1 rfl (lv_room (Nat.le_of_ble_eq_true rfl)) dX18_publishOne_108 ⟨Nat.le_of_ble_eq_true rfl, Nat.le_of_ble_eq_true rfl⟩) hS (fun q _ h => hFc q h) hFc (fun u t H_25 locs ht hvm hw hB hz1 hk1 hS2 => ?_)
          obtain ⟨hP1, -, hD1⟩ := hB
          rw [ht] at hP1
          replace hD := hD1.weaken (fun _ _ _ h => hFc _ h)
          replace hP := hP1
          replace hS := hS2
          clear hP1 hD1 hS2 hFc hfc hz1 hk1 hvm ht
          refine lv_goto (tgt := 130) hx hb dX18_publishOne_111 (by decide) ?_
          obtain ⟨h8, h9⟩ := ret_some hf
          rw [h8]
          exact W.vret hx hb hr (fun t ht hW => ⟨⟨(), rfl, trivial, by rw [ht]; exact hP, va_K.moved hW.alike hK, hD⟩, hS.F ht⟩) hS.2.2 dX18_publishOne_130
      · skip
        rw [if_neg c_15] at hf
        refine lv_aload_n hx hb dX18_publishOne_72 rfl (lv_at hl 3 rfl) ?_
        obtain ⟨k_26, ek_26, hf⟩ := lnk_some hf
        refine va_get (D := (dC, dI)) (ci := 18) (v := .ref (a k_26)) (C := RX18) (T := TX18) (N := 78) hx hb hts iwd_X18_publishOne_X18 hown hK hP h0 (Wd_ob kg_1 sg_1 (by decide)) rfl 68 (by decide) (hts _ md_X18_publishOne_5) (fun _ h9 => h9) (fl_q rfl ek_26) dX18_publishOne_73 ?_
        refine lv_iload_n hx hb dX18_publishOne_76 rfl (lv_at hl 4 rfl) ?_
        refine lv_aload_n hx hb dX18_publishOne_77 rfl (lv_at hl 3 rfl) ?_
        refine va_get (D := (dC, dI)) (ci := 18) (v := .int (z_12.1 h0 23)) (C := RX18) (T := TX18) (N := 78) hx hb hts iwd_X18_publishOne_X18 hown hK hP h0 (Wd_ob kg_1 sg_1 (by decide)) rfl 23 (by decide) (hts _ md_X18_publishOne_6) (fun _ h9 => h9) (fl_at (t := 0) rfl) dX18_publishOne_78 ?_
        obtain ⟨g_27, hf⟩ := grd_some hf
        obtain ⟨kg_27, sg_27, ig_27⟩ := okA_at g_27
        refine va_iast hx hb hK hP hD hS k_26 1 (Wd_ai kg_27 sg_27) rfl ig_27 dX18_publishOne_81 (fun H_28 locs hP2 hD2 hS2 => ?_)
        rw [Wd_ti sg_27] at hP2 hD2
        obtain ⟨z_29, ez_29⟩ : ∃ w, w = si z_12 k_26 x0.toNatClampNeg (z_12.1 h0 23) := ⟨_, rfl⟩
        rw [← ez_29] at hP2 hD2
        replace hf := lt_at ez_29 hf
        clear ez_29
        replace hP := hP2
        replace hD := hD2
        replace hS := hS2
        clear hP2 hD2 hS2
        refine lv_aload_n hx hb dX18_publishOne_82 rfl (lv_at hl 3 rfl) ?_
        refine lv_iconst (v := 4) hx hb dX18_publishOne_83 (by decide) ?_
        refine lv_iload hx hb dX18_publishOne_84 (lv_at hl 0 rfl) ?_
        refine lv_i2l (v := (r_13 : Int32).toInt64) hx hb dX18_publishOne_86 rfl ?_
        obtain ⟨z_30, _u, hfc, hf⟩ := cal_some hf
        have hFc := de_free hD hS hA
        refine va_callv (va_runV (As := [.int 4, .long ((r_13 : Int32).toInt64)]) (rest := []) ⟨hx, hb, hml, hown, hts⟩ (de_X18_end l dC dI cy a sh n H_28.size F z_29 h0 4 ((r_13 : Int32).toInt64) hfc) (cwV 2 hts gX18_publishOne_X18_end rfl rfl rfl (by decide +kernel) ⟨Nat.le_of_ble_eq_true rfl, Nat.le_of_ble_eq_true rfl⟩) ⟨fun a U g mk q => by obtain ⟨q0, q1, qP, qK, qD, qN⟩ := q; exact ⟨q0, q1, qP, va_K.moved (u := U) (U := U.calling g mk a) (Vm.Alike.refl U.vm) qK, qD, qN.same rfl⟩, va_recv hK hP (ci := 18) (q0 := h0) rfl (Wd_ob kg_1 sg_1 (by decide)), fun U hU hW => ⟨rfl, by rw [hU], by rw [hU]; exact hP, va_K.moved hW.alike hK, hD.weaken (fun _ _ _ _ => trivial), hN.warm hW⟩⟩ rfl rfl hl.1 rfl (lv_room (Nat.le_of_ble_eq_true rfl)) dX18_publishOne_87 ⟨Nat.le_of_ble_eq_true rfl, Nat.le_of_ble_eq_true rfl⟩) hS (fun q _ h => hFc q h) hFc (fun u t H_31 locs ht hvm hw hB hz1 hk1 hS2 => ?_)
        obtain ⟨hP1, -, hD1⟩ := hB
        rw [ht] at hP1
        replace hD := hD1.weaken (fun _ _ _ h => hFc _ h)
        replace hP := hP1
        replace hS := hS2
        clear hP1 hD1 hS2 hFc hfc hz1 hk1 hvm ht
        refine lv_goto (tgt := 130) hx hb dX18_publishOne_90 (by decide) ?_
        obtain ⟨h8, h9⟩ := ret_some hf
        rw [h8]
        exact W.vret hx hb hr (fun t ht hW => ⟨⟨(), rfl, trivial, by rw [ht]; exact hP, va_K.moved hW.alike hK, hD⟩, hS.F ht⟩) hS.2.2 dX18_publishOne_130
    · skip
      rw [if_pos c_10] at hf
      refine lv_aload_n hx hb dX18_publishOne_36 rfl (lv_at hl 2 rfl) ?_
      refine lv_iconst (v := 2) hx hb dX18_publishOne_37 (by decide) ?_
      refine lv_ldc2 hx hb hown (hts _ md_X18_publishOne_3) dX18_publishOne_38 ?_
      obtain ⟨z_32, _u, hfc, hf⟩ := cal_some hf
      have hFc := de_free hD hS hA
      refine va_callv (va_runV (As := [.int 2, .long 4]) (rest := []) ⟨hx, hb, hml, hown, hts⟩ (de_X18_end l dC dI cy a sh n H_8.size F z_6 h0 2 4 hfc) (cwV 2 hts gX18_publishOne_X18_end rfl rfl rfl (by decide +kernel) ⟨Nat.le_of_ble_eq_true rfl, Nat.le_of_ble_eq_true rfl⟩) ⟨fun a U g mk q => by obtain ⟨q0, q1, qP, qK, qD, qN⟩ := q; exact ⟨q0, q1, qP, va_K.moved (u := U) (U := U.calling g mk a) (Vm.Alike.refl U.vm) qK, qD, qN.same rfl⟩, va_recv hK hP (ci := 18) (q0 := h0) rfl (Wd_ob kg_1 sg_1 (by decide)), fun U hU hW => ⟨rfl, by rw [hU], by rw [hU]; exact hP, va_K.moved hW.alike hK, hD.weaken (fun _ _ _ _ => trivial), hN.warm hW⟩⟩ rfl rfl hl.1 rfl (lv_room (Nat.le_of_ble_eq_true rfl)) dX18_publishOne_41 ⟨Nat.le_of_ble_eq_true rfl, Nat.le_of_ble_eq_true rfl⟩) hS (fun q _ h => hFc q h) hFc (fun u t H_33 locs ht hvm hw hB hz1 hk1 hS2 => ?_)
      obtain ⟨hP1, -, hD1⟩ := hB
      rw [ht] at hP1
      replace hD := hD1.weaken (fun _ _ _ h => hFc _ h)
      replace hP := hP1
      replace hS := hS2
      clear hP1 hD1 hS2 hFc hfc hz1 hk1 hvm ht
      obtain ⟨h8, h9⟩ := ret_some hf
      rw [h8]
      exact W.vret hx hb hr (fun t ht hW => ⟨⟨(), rfl, trivial, by rw [ht]; exact hP, va_K.moved hW.alike hK, hD⟩, hS.F ht⟩) hS.2.2 dX18_publishOne_44
  · skip
    rw [if_pos c_9] at hf
    obtain ⟨h8, h9⟩ := ret_some hf
    rw [h8]
    exact W.vret hx hb hr (fun t ht hW => ⟨⟨(), rfl, trivial, by rw [ht]; exact hP, va_K.moved hW.alike hK, hD⟩, hS.F ht⟩) hS.2.2 dX18_publishOne_26

theorem md_X18_doOne_1 : (.fieldLink RX18 541 "ResourceLedgerModel" "senders" "[J" : Cond) ∈ wsX18_doOne := List.mem_of_getElem? (i := 1) rfl
theorem iwd_X18_doOne_X18 : ∀ w ∈ wsX180, w ∈ wsX18_doOne := fun _ h => List.mem_cons_of_mem _ (List.mem_append_left _ (List.mem_append_left _ (List.mem_append_left _ (List.mem_append_left _ (List.mem_append_left _ (List.mem_append_right _ h))))))
theorem md_X18_doOne_2 : (.fieldLink RX18 411 "ResourceLedgerModel" "sender" "J" : Cond) ∈ wsX18_doOne := List.mem_of_getElem? (i := 2) rfl
theorem md_X18_doOne_3 : (.fieldLink RX18 547 "ResourceLedgerModel" "limits" "[I" : Cond) ∈ wsX18_doOne := List.mem_of_getElem? (i := 3) rfl
theorem md_X18_doOne_4 : (.fieldLink RX18 264 "ResourceLedgerModel" "limit" "I" : Cond) ∈ wsX18_doOne := List.mem_of_getElem? (i := 4) rfl
theorem md_X18_doOne_5 : (.fieldLink RX18 261 "ResourceLedgerModel" "gas" "I" : Cond) ∈ wsX18_doOne := List.mem_of_getElem? (i := 5) rfl
theorem md_X18_doOne_6 : (.fieldLink RX18 250 "ResourceLedgerModel" "outcome" "I" : Cond) ∈ wsX18_doOne := List.mem_of_getElem? (i := 6) rfl
theorem md_X18_doOne_7 : (.fieldLink RX18 253 "ResourceLedgerModel" "code" "J" : Cond) ∈ wsX18_doOne := List.mem_of_getElem? (i := 7) rfl
theorem md_X18_doOne_8 : (.fieldLink RX18 587 "ResourceLedgerModel" "resultCounts" "[I" : Cond) ∈ wsX18_doOne := List.mem_of_getElem? (i := 8) rfl
theorem md_X18_doOne_9 : (.fieldLink RX18 581 "ResourceLedgerModel" "faultPlaces" "[I" : Cond) ∈ wsX18_doOne := List.mem_of_getElem? (i := 9) rfl
theorem md_X18_doOne_13 : (.fieldLink RX18 550 "ResourceLedgerModel" "modulesCalled" "[I" : Cond) ∈ wsX18_doOne := List.mem_of_getElem? (i := 13) rfl
theorem md_X18_doOne_16 : (.fieldLink RX18 575 "ResourceLedgerModel" "outcomes" "[I" : Cond) ∈ wsX18_doOne := List.mem_of_getElem? (i := 16) rfl
theorem md_X18_doOne_17 : (.fieldLink RX18 578 "ResourceLedgerModel" "gases" "[I" : Cond) ∈ wsX18_doOne := List.mem_of_getElem? (i := 17) rfl
theorem md_X18_doOne_18 : (.fieldLink RX18 584 "ResourceLedgerModel" "codes" "[J" : Cond) ∈ wsX18_doOne := List.mem_of_getElem? (i := 18) rfl
theorem md_X18_doOne_14 : (.fieldLink RX18 538 "ResourceLedgerModel" "sorts" "[I" : Cond) ∈ wsX18_doOne := List.mem_of_getElem? (i := 14) rfl
theorem md_X18_doOne_12 : (.fieldLink RX18 303 "ResourceLedgerModel" "balances" "[J" : Cond) ∈ wsX18_doOne := List.mem_of_getElem? (i := 12) rfl
theorem md_X18_doOne_10 : (.fieldLink RX18 519 "ResourceLedgerModel" "sequences" "[J" : Cond) ∈ wsX18_doOne := List.mem_of_getElem? (i := 10) rfl
theorem md_X18_doOne_15 : (.fieldLink RX18 615 "ResourceLedgerModel" "burned" "J" : Cond) ∈ wsX18_doOne := List.mem_of_getElem? (i := 15) rfl
theorem md_X18_doOne_11 : (.fieldLink RX18 544 "ResourceLedgerModel" "turns" "[J" : Cond) ∈ wsX18_doOne := List.mem_of_getElem? (i := 11) rfl
set_option maxHeartbeats 4000000 in
set_option maxRecDepth 100000 in
theorem de_X18_doOne (l : Launch) (dC : Nat → ClassId) (dI : Nat → Nat → Nat) (cy : Nat → ClassId) (a : Nat → Nat) (sh : Nat → Nat × Nat) (n sz : Nat) (F : Nat) (sk : Nat → Nat) (z : St) (h0 : Nat) (x0 : Int32) {z8 : St} {r8 : Unit} (hf : fn_X18_doOne F sh n z h0 x0 = some (z8, r8)) : Met l yX18_doOne wsX18_doOne ({ frames := 56, cells := 0, slots := 0, locals := 1304 }) (va_Pc [.ref (a h0), .int x0] (fun U => U.heap.size = sz ∧ va_P (dC, dI) vwCl (Wd cy a sh n z) U.heap ∧ va_K (dC, dI) vwCl (TYS cy) U ∧ va_D (fun _ => True) (Wd cy a sh n z) ∧ NK U ∧ SKs sk (a CBK) (va_A (Wd cy a sh n z) sz) U U.heap)) (va_Qv (fun u : Unit => True) (fun u t => va_P (dC, dI) vwCl (Wd cy a sh n z8) t.heap ∧ va_K (dC, dI) vwCl (TYS cy) t ∧ va_D (va_A (Wd cy a sh n z) sz) (Wd cy a sh n z8)) (va_A (Wd cy a sh n z) sz)) 0 0 (va_A (Wd cy a sh n z) sz) := by
  refine Met.ofW (cc := cX18_doOne) (maxL := 5) (ret := none) (by decide) rfl ?_
  intro p e s m args below meth c s₁ B hml hv
  obtain ⟨rfl, hsz, hP, hK, hD0, hN, hSK⟩ := hv
  have hx := B.exec
  have hb := B.bytes
  have hr := B.returns
  have hts := atoms_spec (ws := wsX18_doOne) B.pre
  have hown : s.vm.findClass RX18 = some m.cls := findClass_of_methodNamed B.named
  have hlocks := B.notSynchronized
  subst hsz
  have hD := hD0.self (sz := s.heap.size)
  clear hD0
  generalize hAe : va_A (Wd cy a sh n z) s.heap.size = A at hD hSK ⊢
  have hA : ∀ q : Nat, s.heap.size ≤ q → A q := fun q h => by rw [← hAe]; exact Or.inr h
  clear hAe
  have hS : va_S A s.heap s.heap [] := va_S.rf
  have hl := lv_entry ([.ref (a h0), .int x0]) (n := 5) (Nat.le_of_ble_eq_true rfl)
  rw [lg_entry_eq]
  generalize (lg_sl ([.ref (a h0), .int x0]) ++ List.replicate (5 - (lg_sl ([.ref (a h0), .int x0])).length) Slot.unset).toArray = ls at hl ⊢
  replace hl : lv_has ls 5 [(0, .ref (a h0)), (1, .int x0)] := hl
  unfold fn_X18_doOne at hf
  refine de_start hS hP (fun H locs hS hP => ?_)
  refine lv_aload_n hx hb dX18_doOne_0 rfl (lv_at hl 0 rfl) ?_
  refine lv_aload_n hx hb dX18_doOne_1 rfl (lv_at hl 0 rfl) ?_
  obtain ⟨g_1, hf⟩ := grd_some hf
  obtain ⟨kg_1, sg_1⟩ := okO_at g_1
  obtain ⟨k_2, ek_2, hf⟩ := lnk_some hf
  refine va_get (D := (dC, dI)) (ci := 18) (v := .ref (a k_2)) (C := RX18) (T := TX18) (N := 78) hx hb hts iwd_X18_doOne_X18 hown hK hP h0 (Wd_ob kg_1 sg_1 (by decide)) rfl 55 (by decide) (hts _ md_X18_doOne_1) (fun _ h9 => h9) (fl_q rfl ek_2) dX18_doOne_2 ?_
  refine lv_iload_n hx hb dX18_doOne_5 rfl (lv_at hl 1 rfl) ?_
  obtain ⟨g_3, hf⟩ := grd_some hf
  obtain ⟨kg_3, sg_3, ig_3⟩ := okA_at g_3
  refine va_lald hx hb hK hP k_2 2 (Wd_al kg_3 sg_3) rfl ig_3 dX18_doOne_6 ?_
  refine va_put (D := (dC, dI)) (ci := 18) (v := .long (z.2.1 k_2 x0.toNatClampNeg)) (ty := .long) (C := RX18) (T := TX18) (N := 78) hx hb hts iwd_X18_doOne_X18 tyX18 tyX18_ok nmX18 hown hK hP hD hS h0 (Wd_ob kg_1 sg_1 (by decide)) rfl 24 (by decide) (hts _ md_X18_doOne_2) (fun _ h9 => h9) rfl (by decide +kernel) rfl rfl (by rw [fl_len]; decide) dX18_doOne_7 (fun H_4 locs hP2 hD2 hS2 => ?_)
  rw [Wd_sl sg_1 (by decide) rfl] at hP2 hD2
  obtain ⟨z_5, ez_5⟩ : ∃ w, w = sl z h0 24 (z.2.1 k_2 x0.toNatClampNeg) := ⟨_, rfl⟩
  rw [← ez_5] at hP2 hD2
  replace hf := lt_at ez_5 hf
  clear ez_5
  replace hP := hP2
  replace hD := hD2
  replace hS := hS2
  clear hP2 hD2 hS2
  refine lv_aload_n hx hb dX18_doOne_10 rfl (lv_at hl 0 rfl) ?_
  refine lv_aload_n hx hb dX18_doOne_11 rfl (lv_at hl 0 rfl) ?_
  obtain ⟨k_6, ek_6, hf⟩ := lnk_some hf
  refine va_get (D := (dC, dI)) (ci := 18) (v := .ref (a k_6)) (C := RX18) (T := TX18) (N := 78) hx hb hts iwd_X18_doOne_X18 hown hK hP h0 (Wd_ob kg_1 sg_1 (by decide)) rfl 57 (by decide) (hts _ md_X18_doOne_3) (fun _ h9 => h9) (fl_q rfl ek_6) dX18_doOne_12 ?_
  refine lv_iload_n hx hb dX18_doOne_15 rfl (lv_at hl 1 rfl) ?_
  obtain ⟨g_7, hf⟩ := grd_some hf
  obtain ⟨kg_7, sg_7, ig_7⟩ := okA_at g_7
  refine va_iald hx hb hK hP k_6 1 (Wd_ai kg_7 sg_7) rfl ig_7 dX18_doOne_16 ?_
  refine va_put (D := (dC, dI)) (ci := 18) (v := .int (z_5.1 k_6 x0.toNatClampNeg)) (ty := .int) (C := RX18) (T := TX18) (N := 78) hx hb hts iwd_X18_doOne_X18 tyX18 tyX18_ok nmX18 hown hK hP hD hS h0 (Wd_ob kg_1 sg_1 (by decide)) rfl 25 (by decide) (hts _ md_X18_doOne_4) (fun _ h9 => h9) rfl (by decide +kernel) rfl rfl (by rw [fl_len]; decide) dX18_doOne_17 (fun H_8 locs hP2 hD2 hS2 => ?_)
  rw [Wd_si sg_1 (by decide) rfl] at hP2 hD2
  obtain ⟨z_9, ez_9⟩ : ∃ w, w = si z_5 h0 25 (z_5.1 k_6 x0.toNatClampNeg) := ⟨_, rfl⟩
  rw [← ez_9] at hP2 hD2
  replace hf := lt_at ez_9 hf
  clear ez_9
  replace hP := hP2
  replace hD := hD2
  replace hS := hS2
  clear hP2 hD2 hS2
  refine lv_aload_n hx hb dX18_doOne_20 rfl (lv_at hl 0 rfl) ?_
  refine lv_iconst (v := 0) hx hb dX18_doOne_21 (by decide) ?_
  refine va_put (D := (dC, dI)) (ci := 18) (v := .int 0) (ty := .int) (C := RX18) (T := TX18) (N := 78) hx hb hts iwd_X18_doOne_X18 tyX18 tyX18_ok nmX18 hown hK hP hD hS h0 (Wd_ob kg_1 sg_1 (by decide)) rfl 26 (by decide) (hts _ md_X18_doOne_5) (fun _ h9 => h9) rfl (by decide +kernel) rfl rfl (by rw [fl_len]; decide) dX18_doOne_22 (fun H_10 locs hP2 hD2 hS2 => ?_)
  rw [Wd_si sg_1 (by decide) rfl] at hP2 hD2
  obtain ⟨z_11, ez_11⟩ : ∃ w, w = si z_9 h0 26 0 := ⟨_, rfl⟩
  rw [← ez_11] at hP2 hD2
  replace hf := lt_at ez_11 hf
  clear ez_11
  replace hP := hP2
  replace hD := hD2
  replace hS := hS2
  clear hP2 hD2 hS2
  refine lv_aload_n hx hb dX18_doOne_25 rfl (lv_at hl 0 rfl) ?_
  refine lv_iconst (v := (-1)) hx hb dX18_doOne_26 (by decide) ?_
  refine va_put (D := (dC, dI)) (ci := 18) (v := .int (-1)) (ty := .int) (C := RX18) (T := TX18) (N := 78) hx hb hts iwd_X18_doOne_X18 tyX18 tyX18_ok nmX18 hown hK hP hD hS h0 (Wd_ob kg_1 sg_1 (by decide)) rfl 27 (by decide) (hts _ md_X18_doOne_6) (fun _ h9 => h9) rfl (by decide +kernel) rfl rfl (by rw [fl_len]; decide) dX18_doOne_27 (fun H_12 locs hP2 hD2 hS2 => ?_)
  rw [Wd_si sg_1 (by decide) rfl] at hP2 hD2
  obtain ⟨z_13, ez_13⟩ : ∃ w, w = si z_11 h0 27 (-1) := ⟨_, rfl⟩
  rw [← ez_13] at hP2 hD2
  replace hf := lt_at ez_13 hf
  clear ez_13
  replace hP := hP2
  replace hD := hD2
  replace hS := hS2
  clear hP2 hD2 hS2
  refine lv_aload_n hx hb dX18_doOne_30 rfl (lv_at hl 0 rfl) ?_
  refine lv_lconst (v := 0) hx hb dX18_doOne_31 (by decide) ?_
  refine va_put (D := (dC, dI)) (ci := 18) (v := .long 0) (ty := .long) (C := RX18) (T := TX18) (N := 78) hx hb hts iwd_X18_doOne_X18 tyX18 tyX18_ok nmX18 hown hK hP hD hS h0 (Wd_ob kg_1 sg_1 (by decide)) rfl 28 (by decide) (hts _ md_X18_doOne_7) (fun _ h9 => h9) rfl (by decide +kernel) rfl rfl (by rw [fl_len]; decide) dX18_doOne_32 (fun H_14 locs hP2 hD2 hS2 => ?_)
  rw [Wd_sl sg_1 (by decide) rfl] at hP2 hD2
  obtain ⟨z_15, ez_15⟩ : ∃ w, w = sl z_13 h0 28 0 := ⟨_, rfl⟩
  rw [← ez_15] at hP2 hD2
  replace hf := lt_at ez_15 hf
  clear ez_15
  replace hP := hP2
  replace hD := hD2
  replace hS := hS2
  clear hP2 hD2 hS2
  refine lv_aload_n hx hb dX18_doOne_35 rfl (lv_at hl 0 rfl) ?_
  obtain ⟨k_16, ek_16, hf⟩ := lnk_some hf
  refine va_get (D := (dC, dI)) (ci := 18) (v := .ref (a k_16)) (C := RX18) (T := TX18) (N := 78) hx hb hts iwd_X18_doOne_X18 hown hK hP h0 (Wd_ob kg_1 sg_1 (by decide)) rfl 70 (by decide) (hts _ md_X18_doOne_8) (fun _ h9 => h9) (fl_q rfl ek_16) dX18_doOne_36 ?_
  refine lv_iload_n hx hb dX18_doOne_39 rfl (lv_at hl 1 rfl) ?_
  refine lv_iconst (v := 0) hx hb dX18_doOne_40 (by decide) ?_
  obtain ⟨g_17, hf⟩ := grd_some hf
  obtain ⟨kg_17, sg_17, ig_17⟩ := okA_at g_17
  refine va_iast hx hb hK hP hD hS k_16 1 (Wd_ai kg_17 sg_17) rfl ig_17 dX18_doOne_41 (fun H_18 locs hP2 hD2 hS2 => ?_)
  rw [Wd_ti sg_17] at hP2 hD2
  obtain ⟨z_19, ez_19⟩ : ∃ w, w = si z_15 k_16 x0.toNatClampNeg 0 := ⟨_, rfl⟩
  rw [← ez_19] at hP2 hD2
  replace hf := lt_at ez_19 hf
  clear ez_19
  replace hP := hP2
  replace hD := hD2
  replace hS := hS2
  clear hP2 hD2 hS2
  refine lv_aload_n hx hb dX18_doOne_42 rfl (lv_at hl 0 rfl) ?_
  obtain ⟨k_20, ek_20, hf⟩ := lnk_some hf
  refine va_get (D := (dC, dI)) (ci := 18) (v := .ref (a k_20)) (C := RX18) (T := TX18) (N := 78) hx hb hts iwd_X18_doOne_X18 hown hK hP h0 (Wd_ob kg_1 sg_1 (by decide)) rfl 68 (by decide) (hts _ md_X18_doOne_9) (fun _ h9 => h9) (fl_q rfl ek_20) dX18_doOne_43 ?_
  refine lv_iload_n hx hb dX18_doOne_46 rfl (lv_at hl 1 rfl) ?_
  refine lv_iconst (v := 0) hx hb dX18_doOne_47 (by decide) ?_
  obtain ⟨g_21, hf⟩ := grd_some hf
  obtain ⟨kg_21, sg_21, ig_21⟩ := okA_at g_21
  refine va_iast hx hb hK hP hD hS k_20 1 (Wd_ai kg_21 sg_21) rfl ig_21 dX18_doOne_48 (fun H_22 locs hP2 hD2 hS2 => ?_)
  rw [Wd_ti sg_21] at hP2 hD2
  obtain ⟨z_23, ez_23⟩ : ∃ w, w = si z_19 k_20 x0.toNatClampNeg 0 := ⟨_, rfl⟩
  rw [← ez_23] at hP2 hD2
  replace hf := lt_at ez_23 hf
  clear ez_23
  replace hP := hP2
  replace hD := hD2
  replace hS := hS2
  clear hP2 hD2 hS2
  refine lv_aload_n hx hb dX18_doOne_49 rfl (lv_at hl 0 rfl) ?_
  refine lv_aload_n hx hb dX18_doOne_50 rfl (lv_at hl 0 rfl) ?_
  refine va_get (D := (dC, dI)) (ci := 18) (v := .long (z_23.2.1 h0 24)) (C := RX18) (T := TX18) (N := 78) hx hb hts iwd_X18_doOne_X18 hown hK hP h0 (Wd_ob kg_1 sg_1 (by decide)) rfl 24 (by decide) (hts _ md_X18_doOne_2) (fun _ h9 => h9) (fl_at (t := 1) rfl) dX18_doOne_51 ?_
  obtain ⟨z_24, r_25, hfc, hf⟩ := cal_some hf
  have hFc := de_free hD hS hA
  refine va_calli (va_runV (As := [.long (z_23.2.1 h0 24)]) (rest := []) ⟨hx, hb, hml, hown, hts⟩ (de_X18_findAccount l dC dI cy a sh n H_22.size F z_23 h0 (z_23.2.1 h0 24) hfc) (cwV 1 hts gX18_doOne_X18_findAccount rfl rfl rfl (by decide +kernel) ⟨Nat.le_of_ble_eq_true rfl, Nat.le_of_ble_eq_true rfl⟩) ⟨fun a U g mk q => by obtain ⟨q0, q1, qP, qK, qD, qN⟩ := q; exact ⟨q0, q1, qP, va_K.moved (u := U) (U := U.calling g mk a) (Vm.Alike.refl U.vm) qK, qD, qN.same rfl⟩, va_recv hK hP (ci := 18) (q0 := h0) rfl (Wd_ob kg_1 sg_1 (by decide)), fun U hU hW => ⟨rfl, by rw [hU], by rw [hU]; exact hP, va_K.moved hW.alike hK, hD.weaken (fun _ _ _ _ => trivial), hN.warm hW⟩⟩ rfl rfl hl.1 rfl (lv_room (Nat.le_of_ble_eq_true rfl)) dX18_doOne_54 ⟨Nat.le_of_ble_eq_true rfl, Nat.le_of_ble_eq_true rfl⟩) hS (fun q _ h => hFc q h) hFc (fun rr u t H_26 locs ht hvm hw hB hz1 hk1 hS2 => ?_)
  rw [hw]
  clear hw
  obtain ⟨hP1, -, hD1⟩ := hB
  rw [ht] at hP1
  replace hD := hD1.weaken (fun _ _ _ h => hFc _ h)
  replace hP := hP1
  replace hS := hS2
  clear hP1 hD1 hS2 hFc hfc hz1 hk1 hvm ht
  refine lv_istore_n (lv' := [(2, .int r_25), (0, .ref (a h0)), (1, .int x0)]) hx hb dX18_doOne_57 rfl hl (by decide) rfl (fun ls hl2 => ?_)
  replace hl := hl2
  clear hl2
  refine lv_iload_n hx hb dX18_doOne_58 rfl (lv_at hl 0 rfl) ?_
  refine de_cut (h := 106) (fun (x : St × Int32) => [.int x.2]) (fun x ls H locs => lv_has ls 5 [(2, .int r_25), (0, .ref (a h0)), (1, .int x0)] ∧ va_P (dC, dI) vwCl (Wd cy a sh n x.1) H ∧ va_D A (Wd cy a sh n x.1) ∧ va_S A s.heap H locs) (fun x => fn_X18_doOne_B106 F sh n h0 x0 r_25 x.1 x.2) (z8, r8) ?_ (fun B106 => ?_)
  · intro x ls H locs hI hf
    obtain ⟨z_28, p_27⟩ := x
    obtain ⟨hl2, hP2, hD2, hS2⟩ := hI
    replace hl : lv_has ls 5 [(2, .int r_25), (0, .ref (a h0)), (1, .int x0)] := hl2
    replace hP := hP2
    replace hD := hD2
    replace hS := hS2
    clear hl2 hP2 hD2 hS2
    replace hf := fn_X18_doOne_B106_s hf
    refine W.eq (g2 := F0 m 106 ls [.int p_27]) rfl ?_
    refine lv_istore_n (lv' := [(3, .int p_27), (2, .int r_25), (0, .ref (a h0)), (1, .int x0)]) hx hb dX18_doOne_106 rfl hl (by decide) rfl (fun ls hl2 => ?_)
    replace hl := hl2
    clear hl2
    refine lv_aload_n hx hb dX18_doOne_107 rfl (lv_at hl 2 rfl) ?_
    refine lv_aload_n hx hb dX18_doOne_108 rfl (lv_at hl 2 rfl) ?_
    obtain ⟨k_29, ek_29, hf⟩ := lnk_some hf
    refine va_get (D := (dC, dI)) (ci := 18) (v := .ref (a k_29)) (C := RX18) (T := TX18) (N := 78) hx hb hts iwd_X18_doOne_X18 hown hK hP h0 (Wd_ob kg_1 sg_1 (by decide)) rfl 58 (by decide) (hts _ md_X18_doOne_13) (fun _ h9 => h9) (fl_q rfl ek_29) dX18_doOne_109 ?_
    refine lv_iload_n hx hb dX18_doOne_112 rfl (lv_at hl 3 rfl) ?_
    obtain ⟨g_30, hf⟩ := grd_some hf
    obtain ⟨kg_30, sg_30, ig_30⟩ := okA_at g_30
    refine va_iald hx hb hK hP k_29 1 (Wd_ai kg_30 sg_30) rfl ig_30 dX18_doOne_113 ?_
    obtain ⟨z_31, r_32, hfc, hf⟩ := cal_some hf
    have hFc := de_free hD hS hA
    refine va_calli (va_runV (As := [.int (z_28.1 k_29 x0.toNatClampNeg)]) (rest := []) ⟨hx, hb, hml, hown, hts⟩ (de_X18_findModule l dC dI cy a sh n H.size F z_28 h0 (z_28.1 k_29 x0.toNatClampNeg) hfc) (cwV 1 hts gX18_doOne_X18_findModule rfl rfl rfl (by decide +kernel) ⟨Nat.le_of_ble_eq_true rfl, Nat.le_of_ble_eq_true rfl⟩) ⟨fun a U g mk q => by obtain ⟨q0, q1, qP, qK, qD, qN⟩ := q; exact ⟨q0, q1, qP, va_K.moved (u := U) (U := U.calling g mk a) (Vm.Alike.refl U.vm) qK, qD, qN.same rfl⟩, va_recv hK hP (ci := 18) (q0 := h0) rfl (Wd_ob kg_1 sg_1 (by decide)), fun U hU hW => ⟨rfl, by rw [hU], by rw [hU]; exact hP, va_K.moved hW.alike hK, hD.weaken (fun _ _ _ _ => trivial), hN.warm hW⟩⟩ rfl rfl hl.1 rfl (lv_room (Nat.le_of_ble_eq_true rfl)) dX18_doOne_114 ⟨Nat.le_of_ble_eq_true rfl, Nat.le_of_ble_eq_true rfl⟩) hS (fun q _ h => hFc q h) hFc (fun rr u t H_33 locs ht hvm hw hB hz1 hk1 hS2 => ?_)
    rw [hw]
    clear hw
    obtain ⟨hP1, -, hD1⟩ := hB
    rw [ht] at hP1
    replace hD := hD1.weaken (fun _ _ _ h => hFc _ h)
    replace hP := hP1
    replace hS := hS2
    clear hP1 hD1 hS2 hFc hfc hz1 hk1 hvm ht
    refine lv_istore (lv' := [(4, .int r_32), (3, .int p_27), (2, .int r_25), (0, .ref (a h0)), (1, .int x0)]) hx hb dX18_doOne_117 hl (by decide) rfl (fun ls hl2 => ?_)
    replace hl := hl2
    clear hl2
    refine lv_iload_n hx hb dX18_doOne_119 rfl (lv_at hl 1 rfl) ?_
    refine de_cut (h := 141) (fun (x : St × Int32) => []) (fun x ls H locs => lv_has ls 5 [(3, .int x.2), (4, .int r_32), (2, .int r_25), (0, .ref (a h0)), (1, .int x0)] ∧ va_P (dC, dI) vwCl (Wd cy a sh n x.1) H ∧ va_D A (Wd cy a sh n x.1) ∧ va_S A s.heap H locs) (fun x => fn_X18_doOne_B141 F sh n h0 x0 r_32 r_25 x.1 x.2) (z8, r8) ?_ (fun B141 => ?_)
    · intro x ls H locs hI hf
      obtain ⟨z_35, p_34⟩ := x
      obtain ⟨hl2, hP2, hD2, hS2⟩ := hI
      replace hl : lv_has ls 5 [(3, .int p_34), (4, .int r_32), (2, .int r_25), (0, .ref (a h0)), (1, .int x0)] := hl2
      replace hP := hP2
      replace hD := hD2
      replace hS := hS2
      clear hl2 hP2 hD2 hS2
      replace hf := fn_X18_doOne_B141_s hf
      refine W.eq (g2 := F0 m 141 ls []) rfl ?_
      refine lv_iload_n hx hb dX18_doOne_141 rfl (lv_at hl 0 rfl) ?_
      refine de_cut (h := 228) (fun (x : St) => []) (fun x ls H locs => lv_has ls 5 [(0, .ref (a h0)), (1, .int x0)] ∧ va_P (dC, dI) vwCl (Wd cy a sh n x) H ∧ va_D A (Wd cy a sh n x) ∧ va_S A s.heap H locs) (fun x => fn_X18_doOne_B228 F sh n h0 x0 x) (z8, r8) ?_ (fun B228 => ?_)
      · intro x ls H locs hI hf
        obtain ⟨z_36, ez⟩ : ∃ w, w = x := ⟨_, rfl⟩
        subst ez
        obtain ⟨hl2, hP2, hD2, hS2⟩ := hI
        replace hl : lv_has ls 5 [(0, .ref (a h0)), (1, .int x0)] := hl2
        replace hP := hP2
        replace hD := hD2
        replace hS := hS2
        clear hl2 hP2 hD2 hS2
        replace hf := fn_X18_doOne_B228_s hf
        refine W.eq (g2 := F0 m 228 ls []) rfl ?_
        refine lv_aload_n hx hb dX18_doOne_228 rfl (lv_at hl 0 rfl) ?_
        obtain ⟨k_37, ek_37, hf⟩ := lnk_some hf
        refine va_get (D := (dC, dI)) (ci := 18) (v := .ref (a k_37)) (C := RX18) (T := TX18) (N := 78) hx hb hts iwd_X18_doOne_X18 hown hK hP h0 (Wd_ob kg_1 sg_1 (by decide)) rfl 66 (by decide) (hts _ md_X18_doOne_16) (fun _ h9 => h9) (fl_q rfl ek_37) dX18_doOne_229 ?_
        refine lv_iload_n hx hb dX18_doOne_232 rfl (lv_at hl 1 rfl) ?_
        refine lv_aload_n hx hb dX18_doOne_233 rfl (lv_at hl 0 rfl) ?_
        refine va_get (D := (dC, dI)) (ci := 18) (v := .int (z_36.1 h0 27)) (C := RX18) (T := TX18) (N := 78) hx hb hts iwd_X18_doOne_X18 hown hK hP h0 (Wd_ob kg_1 sg_1 (by decide)) rfl 27 (by decide) (hts _ md_X18_doOne_6) (fun _ h9 => h9) (fl_at (t := 0) rfl) dX18_doOne_234 ?_
        obtain ⟨g_38, hf⟩ := grd_some hf
        obtain ⟨kg_38, sg_38, ig_38⟩ := okA_at g_38
        refine va_iast hx hb hK hP hD hS k_37 1 (Wd_ai kg_38 sg_38) rfl ig_38 dX18_doOne_237 (fun H_39 locs hP2 hD2 hS2 => ?_)
        rw [Wd_ti sg_38] at hP2 hD2
        obtain ⟨z_40, ez_40⟩ : ∃ w, w = si z_36 k_37 x0.toNatClampNeg (z_36.1 h0 27) := ⟨_, rfl⟩
        rw [← ez_40] at hP2 hD2
        replace hf := lt_at ez_40 hf
        clear ez_40
        replace hP := hP2
        replace hD := hD2
        replace hS := hS2
        clear hP2 hD2 hS2
        refine lv_aload_n hx hb dX18_doOne_238 rfl (lv_at hl 0 rfl) ?_
        obtain ⟨k_41, ek_41, hf⟩ := lnk_some hf
        refine va_get (D := (dC, dI)) (ci := 18) (v := .ref (a k_41)) (C := RX18) (T := TX18) (N := 78) hx hb hts iwd_X18_doOne_X18 hown hK hP h0 (Wd_ob kg_1 sg_1 (by decide)) rfl 67 (by decide) (hts _ md_X18_doOne_17) (fun _ h9 => h9) (fl_q rfl ek_41) dX18_doOne_239 ?_
        refine lv_iload_n hx hb dX18_doOne_242 rfl (lv_at hl 1 rfl) ?_
        refine lv_aload_n hx hb dX18_doOne_243 rfl (lv_at hl 0 rfl) ?_
        refine va_get (D := (dC, dI)) (ci := 18) (v := .int (z_40.1 h0 26)) (C := RX18) (T := TX18) (N := 78) hx hb hts iwd_X18_doOne_X18 hown hK hP h0 (Wd_ob kg_1 sg_1 (by decide)) rfl 26 (by decide) (hts _ md_X18_doOne_5) (fun _ h9 => h9) (fl_at (t := 0) rfl) dX18_doOne_244 ?_
        obtain ⟨g_42, hf⟩ := grd_some hf
        obtain ⟨kg_42, sg_42, ig_42⟩ := okA_at g_42
        refine va_iast hx hb hK hP hD hS k_41 1 (Wd_ai kg_42 sg_42) rfl ig_42 dX18_doOne_247 (fun H_43 locs hP2 hD2 hS2 => ?_)
        rw [Wd_ti sg_42] at hP2 hD2
        obtain ⟨z_44, ez_44⟩ : ∃ w, w = si z_40 k_41 x0.toNatClampNeg (z_40.1 h0 26) := ⟨_, rfl⟩
        rw [← ez_44] at hP2 hD2
        replace hf := lt_at ez_44 hf
        clear ez_44
        replace hP := hP2
        replace hD := hD2
        replace hS := hS2
        clear hP2 hD2 hS2
        refine lv_aload_n hx hb dX18_doOne_248 rfl (lv_at hl 0 rfl) ?_
        obtain ⟨k_45, ek_45, hf⟩ := lnk_some hf
        refine va_get (D := (dC, dI)) (ci := 18) (v := .ref (a k_45)) (C := RX18) (T := TX18) (N := 78) hx hb hts iwd_X18_doOne_X18 hown hK hP h0 (Wd_ob kg_1 sg_1 (by decide)) rfl 69 (by decide) (hts _ md_X18_doOne_18) (fun _ h9 => h9) (fl_q rfl ek_45) dX18_doOne_249 ?_
        refine lv_iload_n hx hb dX18_doOne_252 rfl (lv_at hl 1 rfl) ?_
        refine lv_aload_n hx hb dX18_doOne_253 rfl (lv_at hl 0 rfl) ?_
        refine va_get (D := (dC, dI)) (ci := 18) (v := .long (z_44.2.1 h0 28)) (C := RX18) (T := TX18) (N := 78) hx hb hts iwd_X18_doOne_X18 hown hK hP h0 (Wd_ob kg_1 sg_1 (by decide)) rfl 28 (by decide) (hts _ md_X18_doOne_7) (fun _ h9 => h9) (fl_at (t := 1) rfl) dX18_doOne_254 ?_
        obtain ⟨g_46, hf⟩ := grd_some hf
        obtain ⟨kg_46, sg_46, ig_46⟩ := okA_at g_46
        refine va_last hx hb hK hP hD hS k_45 2 (Wd_al kg_46 sg_46) rfl ig_46 dX18_doOne_257 (fun H_47 locs hP2 hD2 hS2 => ?_)
        rw [Wd_tl sg_46] at hP2 hD2
        obtain ⟨z_48, ez_48⟩ : ∃ w, w = sl z_44 k_45 x0.toNatClampNeg (z_44.2.1 h0 28) := ⟨_, rfl⟩
        rw [← ez_48] at hP2 hD2
        replace hf := lt_at ez_48 hf
        clear ez_48
        replace hP := hP2
        replace hD := hD2
        replace hS := hS2
        clear hP2 hD2 hS2
        obtain ⟨h8, h9⟩ := ret_some hf
        rw [h8]
        exact W.vret hx hb hr (fun t ht hW => ⟨⟨(), rfl, trivial, by rw [ht]; exact hP, va_K.moved hW.alike hK, hD⟩, hS.F ht⟩) hS.2.2 dX18_doOne_258
      refine lv_if_eq (tgt := 155) hx hb dX18_doOne_142 (by decide) (fun c_49 => ?_) (fun c_49 => ?_)
      · skip
        rw [if_pos c_49] at hf
        refine lv_aload_n hx hb dX18_doOne_155 rfl (lv_at hl 3 rfl) ?_
        obtain ⟨k_50, ek_50, hf⟩ := lnk_some hf
        refine va_get (D := (dC, dI)) (ci := 18) (v := .ref (a k_50)) (C := RX18) (T := TX18) (N := 78) hx hb hts iwd_X18_doOne_X18 hown hK hP h0 (Wd_ob kg_1 sg_1 (by decide)) rfl 54 (by decide) (hts _ md_X18_doOne_14) (fun _ h9 => h9) (fl_q rfl ek_50) dX18_doOne_156 ?_
        refine lv_iload_n hx hb dX18_doOne_159 rfl (lv_at hl 4 rfl) ?_
        obtain ⟨g_51, hf⟩ := grd_some hf
        obtain ⟨kg_51, sg_51, ig_51⟩ := okA_at g_51
        refine va_iald hx hb hK hP k_50 1 (Wd_ai kg_51 sg_51) rfl ig_51 dX18_doOne_160 ?_
        refine lv_iconst (v := 1) hx hb dX18_doOne_161 (by decide) ?_
        refine de_cut (h := 181) (fun (x : St) => []) (fun x ls H locs => lv_has ls 5 [(0, .ref (a h0)), (1, .int x0)] ∧ va_P (dC, dI) vwCl (Wd cy a sh n x) H ∧ va_D A (Wd cy a sh n x) ∧ va_S A s.heap H locs) (fun x => fn_X18_doOne_B181 F sh n h0 x0 x) (z8, r8) ?_ (fun B181 => ?_)
        · intro x ls H locs hI hf
          obtain ⟨z_52, ez⟩ : ∃ w, w = x := ⟨_, rfl⟩
          subst ez
          obtain ⟨hl2, hP2, hD2, hS2⟩ := hI
          replace hl : lv_has ls 5 [(0, .ref (a h0)), (1, .int x0)] := hl2
          replace hP := hP2
          replace hD := hD2
          replace hS := hS2
          clear hl2 hP2 hD2 hS2
          replace hf := fn_X18_doOne_B181_s hf
          refine W.eq (g2 := F0 m 181 ls []) rfl ?_
          refine lv_aload_n hx hb dX18_doOne_181 rfl (lv_at hl 0 rfl) ?_
          refine lv_aload_n hx hb dX18_doOne_182 rfl (lv_at hl 0 rfl) ?_
          refine va_get (D := (dC, dI)) (ci := 18) (v := .long (z_52.2.1 h0 24)) (C := RX18) (T := TX18) (N := 78) hx hb hts iwd_X18_doOne_X18 hown hK hP h0 (Wd_ob kg_1 sg_1 (by decide)) rfl 24 (by decide) (hts _ md_X18_doOne_2) (fun _ h9 => h9) (fl_at (t := 1) rfl) dX18_doOne_183 ?_
          obtain ⟨z_53, r_54, hfc, hf⟩ := cal_some hf
          have hFc := de_free hD hS hA
          refine va_calli (va_runV (As := [.long (z_52.2.1 h0 24)]) (rest := []) ⟨hx, hb, hml, hown, hts⟩ (de_X18_findAccount l dC dI cy a sh n H.size F z_52 h0 (z_52.2.1 h0 24) hfc) (cwV 1 hts gX18_doOne_X18_findAccount rfl rfl rfl (by decide +kernel) ⟨Nat.le_of_ble_eq_true rfl, Nat.le_of_ble_eq_true rfl⟩) ⟨fun a U g mk q => by obtain ⟨q0, q1, qP, qK, qD, qN⟩ := q; exact ⟨q0, q1, qP, va_K.moved (u := U) (U := U.calling g mk a) (Vm.Alike.refl U.vm) qK, qD, qN.same rfl⟩, va_recv hK hP (ci := 18) (q0 := h0) rfl (Wd_ob kg_1 sg_1 (by decide)), fun U hU hW => ⟨rfl, by rw [hU], by rw [hU]; exact hP, va_K.moved hW.alike hK, hD.weaken (fun _ _ _ _ => trivial), hN.warm hW⟩⟩ rfl rfl hl.1 rfl (lv_room (Nat.le_of_ble_eq_true rfl)) dX18_doOne_186 ⟨Nat.le_of_ble_eq_true rfl, Nat.le_of_ble_eq_true rfl⟩) hS (fun q _ h => hFc q h) hFc (fun rr u t H_55 locs ht hvm hw hB hz1 hk1 hS2 => ?_)
          rw [hw]
          clear hw
          obtain ⟨hP1, -, hD1⟩ := hB
          rw [ht] at hP1
          replace hD := hD1.weaken (fun _ _ _ h => hFc _ h)
          replace hP := hP1
          replace hS := hS2
          clear hP1 hD1 hS2 hFc hfc hz1 hk1 hvm ht
          refine lv_istore_n (lv' := [(2, .int r_54), (0, .ref (a h0)), (1, .int x0)]) hx hb dX18_doOne_189 rfl hl (by decide) rfl (fun ls hl2 => ?_)
          replace hl := hl2
          clear hl2
          refine lv_aload_n hx hb dX18_doOne_190 rfl (lv_at hl 1 rfl) ?_
          obtain ⟨k_56, ek_56, hf⟩ := lnk_some hf
          refine va_get (D := (dC, dI)) (ci := 18) (v := .ref (a k_56)) (C := RX18) (T := TX18) (N := 78) hx hb hts iwd_X18_doOne_X18 hown hK hP h0 (Wd_ob kg_1 sg_1 (by decide)) rfl 1 (by decide) (hts _ md_X18_doOne_12) (fun _ h9 => h9) (fl_q rfl ek_56) dX18_doOne_191 ?_
          refine lv_iload_n hx hb dX18_doOne_194 rfl (lv_at hl 0 rfl) ?_
          refine lv_dup2_11 hx hb dX18_doOne_195 rfl rfl ?_
          obtain ⟨g_57, hf⟩ := grd_some hf
          obtain ⟨kg_57, sg_57, ig_57⟩ := okA_at g_57
          refine va_lald hx hb hK hP k_56 2 (Wd_al kg_57 sg_57) rfl ig_57 dX18_doOne_196 ?_
          refine lv_aload_n hx hb dX18_doOne_197 rfl (lv_at hl 1 rfl) ?_
          refine va_get (D := (dC, dI)) (ci := 18) (v := .int (z_53.1 h0 26)) (C := RX18) (T := TX18) (N := 78) hx hb hts iwd_X18_doOne_X18 hown hK hP h0 (Wd_ob kg_1 sg_1 (by decide)) rfl 26 (by decide) (hts _ md_X18_doOne_5) (fun _ h9 => h9) (fl_at (t := 0) rfl) dX18_doOne_198 ?_
          refine lv_i2l (v := ((z_53.1 h0 26) : Int32).toInt64) hx hb dX18_doOne_201 rfl ?_
          refine lv_lsub hx hb dX18_doOne_202 ?_
          obtain ⟨g_58, hf⟩ := grd_some hf
          obtain ⟨kg_58, sg_58, ig_58⟩ := okA_at g_58
          refine va_last hx hb hK hP hD hS k_56 2 (Wd_al kg_58 sg_58) rfl ig_58 dX18_doOne_203 (fun H_59 locs hP2 hD2 hS2 => ?_)
          rw [Wd_tl sg_58] at hP2 hD2
          obtain ⟨z_60, ez_60⟩ : ∃ w, w = sl z_53 k_56 r_54.toNatClampNeg ((z_53.2.1 k_56 r_54.toNatClampNeg) - (((z_53.1 h0 26) : Int32).toInt64)) := ⟨_, rfl⟩
          rw [← ez_60] at hP2 hD2
          replace hf := lt_at ez_60 hf
          clear ez_60
          replace hP := hP2
          replace hD := hD2
          replace hS := hS2
          clear hP2 hD2 hS2
          refine lv_aload_n hx hb dX18_doOne_204 rfl (lv_at hl 1 rfl) ?_
          obtain ⟨k_61, ek_61, hf⟩ := lnk_some hf
          refine va_get (D := (dC, dI)) (ci := 18) (v := .ref (a k_61)) (C := RX18) (T := TX18) (N := 78) hx hb hts iwd_X18_doOne_X18 hown hK hP h0 (Wd_ob kg_1 sg_1 (by decide)) rfl 2 (by decide) (hts _ md_X18_doOne_10) (fun _ h9 => h9) (fl_q rfl ek_61) dX18_doOne_205 ?_
          refine lv_iload_n hx hb dX18_doOne_208 rfl (lv_at hl 0 rfl) ?_
          refine lv_dup2_11 hx hb dX18_doOne_209 rfl rfl ?_
          obtain ⟨g_62, hf⟩ := grd_some hf
          obtain ⟨kg_62, sg_62, ig_62⟩ := okA_at g_62
          refine va_lald hx hb hK hP k_61 2 (Wd_al kg_62 sg_62) rfl ig_62 dX18_doOne_210 ?_
          refine lv_lconst (v := 1) hx hb dX18_doOne_211 (by decide) ?_
          refine lv_ladd hx hb dX18_doOne_212 ?_
          obtain ⟨g_63, hf⟩ := grd_some hf
          obtain ⟨kg_63, sg_63, ig_63⟩ := okA_at g_63
          refine va_last hx hb hK hP hD hS k_61 2 (Wd_al kg_63 sg_63) rfl ig_63 dX18_doOne_213 (fun H_64 locs hP2 hD2 hS2 => ?_)
          rw [Wd_tl sg_63] at hP2 hD2
          obtain ⟨z_65, ez_65⟩ : ∃ w, w = sl z_60 k_61 r_54.toNatClampNeg ((z_60.2.1 k_61 r_54.toNatClampNeg) + 1) := ⟨_, rfl⟩
          rw [← ez_65] at hP2 hD2
          replace hf := lt_at ez_65 hf
          clear ez_65
          replace hP := hP2
          replace hD := hD2
          replace hS := hS2
          clear hP2 hD2 hS2
          refine lv_aload_n hx hb dX18_doOne_214 rfl (lv_at hl 1 rfl) ?_
          refine lv_dup hx hb dX18_doOne_215 rfl ?_
          refine va_get (D := (dC, dI)) (ci := 18) (v := .long (z_65.2.1 h0 21)) (C := RX18) (T := TX18) (N := 78) hx hb hts iwd_X18_doOne_X18 hown hK hP h0 (Wd_ob kg_1 sg_1 (by decide)) rfl 21 (by decide) (hts _ md_X18_doOne_15) (fun _ h9 => h9) (fl_at (t := 1) rfl) dX18_doOne_216 ?_
          refine lv_aload_n hx hb dX18_doOne_219 rfl (lv_at hl 1 rfl) ?_
          refine va_get (D := (dC, dI)) (ci := 18) (v := .int (z_65.1 h0 26)) (C := RX18) (T := TX18) (N := 78) hx hb hts iwd_X18_doOne_X18 hown hK hP h0 (Wd_ob kg_1 sg_1 (by decide)) rfl 26 (by decide) (hts _ md_X18_doOne_5) (fun _ h9 => h9) (fl_at (t := 0) rfl) dX18_doOne_220 ?_
          refine lv_i2l (v := ((z_65.1 h0 26) : Int32).toInt64) hx hb dX18_doOne_223 rfl ?_
          refine lv_ladd hx hb dX18_doOne_224 ?_
          refine va_put (D := (dC, dI)) (ci := 18) (v := .long ((z_65.2.1 h0 21) + (((z_65.1 h0 26) : Int32).toInt64))) (ty := .long) (C := RX18) (T := TX18) (N := 78) hx hb hts iwd_X18_doOne_X18 tyX18 tyX18_ok nmX18 hown hK hP hD hS h0 (Wd_ob kg_1 sg_1 (by decide)) rfl 21 (by decide) (hts _ md_X18_doOne_15) (fun _ h9 => h9) rfl (by decide +kernel) rfl rfl (by rw [fl_len]; decide) dX18_doOne_225 (fun H_66 locs hP2 hD2 hS2 => ?_)
          rw [Wd_sl sg_1 (by decide) rfl] at hP2 hD2
          obtain ⟨z_67, ez_67⟩ : ∃ w, w = sl z_65 h0 21 ((z_65.2.1 h0 21) + (((z_65.1 h0 26) : Int32).toInt64)) := ⟨_, rfl⟩
          rw [← ez_67] at hP2 hD2
          replace hf := lt_at ez_67 hf
          clear ez_67
          replace hP := hP2
          replace hD := hD2
          replace hS := hS2
          clear hP2 hD2 hS2
          exact B228 (z_67) ls H_66 locs ⟨lv_sub hl [1, 2] rfl, hP, hD, hS⟩ hf
        refine lv_icmp_ne (tgt := 173) hx hb dX18_doOne_162 (by decide) (fun c_68 => ?_) (fun c_68 => ?_)
        · skip
          rw [if_neg c_68] at hf
          refine lv_aload_n hx hb dX18_doOne_173 rfl (lv_at hl 3 rfl) ?_
          refine lv_iload_n hx hb dX18_doOne_174 rfl (lv_at hl 4 rfl) ?_
          refine lv_iload hx hb dX18_doOne_175 (lv_at hl 1 rfl) ?_
          refine lv_iload_n hx hb dX18_doOne_177 rfl (lv_at hl 2 rfl) ?_
          obtain ⟨z_69, _u, hfc, hf⟩ := cal_some hf
          have hFc := de_free hD hS hA
          refine va_callv (va_runV (As := [.int x0, .int r_32, .int r_25]) (rest := []) ⟨hx, hb, hml, hown, hts⟩ (de_X18_callOne l dC dI cy a sh n H.size F sk z_35 h0 x0 r_32 r_25 hfc) (cwV 3 hts gX18_doOne_X18_callOne rfl rfl rfl (by decide +kernel) ⟨Nat.le_of_ble_eq_true rfl, Nat.le_of_ble_eq_true rfl⟩) ⟨fun a U g mk q => by obtain ⟨q0, q1, qP, qK, qD, qN, qS⟩ := q; exact ⟨q0, q1, qP, va_K.moved (u := U) (U := U.calling g mk a) (Vm.Alike.refl U.vm) qK, qD, qN.same rfl, SKs.moved (u := U) (U := U.calling g mk a) (Vm.Alike.refl U.vm) qS⟩, va_recv hK hP (ci := 18) (q0 := h0) rfl (Wd_ob kg_1 sg_1 (by decide)), fun U hU hW => ⟨rfl, by rw [hU], by rw [hU]; exact hP, va_K.moved hW.alike hK, hD.weaken (fun _ _ _ _ => trivial), hN.warm hW, by rw [hU]; exact ((hSK.kept hS.2.1).narrow hFc).moved hW.alike⟩⟩ rfl rfl hl.1 rfl (lv_room (Nat.le_of_ble_eq_true rfl)) dX18_doOne_178 ⟨Nat.le_of_ble_eq_true rfl, Nat.le_of_ble_eq_true rfl⟩) hS (fun q _ h => hFc q h) hFc (fun u t H_70 locs ht hvm hw hB hz1 hk1 hS2 => ?_)
          obtain ⟨hP1, -, hD1⟩ := hB
          rw [ht] at hP1
          replace hD := hD1.weaken (fun _ _ _ h => hFc _ h)
          replace hP := hP1
          replace hS := hS2
          clear hP1 hD1 hS2 hFc hfc hz1 hk1 hvm ht
          exact B181 (z_69) ls H_70 locs ⟨lv_sub hl [3, 4] rfl, hP, hD, hS⟩ hf
        · skip
          rw [if_pos c_68] at hf
          refine lv_aload_n hx hb dX18_doOne_165 rfl (lv_at hl 3 rfl) ?_
          refine lv_iload_n hx hb dX18_doOne_166 rfl (lv_at hl 4 rfl) ?_
          obtain ⟨z_71, _u, hfc, hf⟩ := cal_some hf
          have hFc := de_free hD hS hA
          refine va_callv (va_runV (As := [.int x0]) (rest := []) ⟨hx, hb, hml, hown, hts⟩ (de_X18_publishOne l dC dI cy a sh n H.size F z_35 h0 x0 hfc) (cwV 1 hts gX18_doOne_X18_publishOne rfl rfl rfl (by decide +kernel) ⟨Nat.le_of_ble_eq_true rfl, Nat.le_of_ble_eq_true rfl⟩) ⟨fun a U g mk q => by obtain ⟨q0, q1, qP, qK, qD, qN⟩ := q; exact ⟨q0, q1, qP, va_K.moved (u := U) (U := U.calling g mk a) (Vm.Alike.refl U.vm) qK, qD, qN.same rfl⟩, va_recv hK hP (ci := 18) (q0 := h0) rfl (Wd_ob kg_1 sg_1 (by decide)), fun U hU hW => ⟨rfl, by rw [hU], by rw [hU]; exact hP, va_K.moved hW.alike hK, hD.weaken (fun _ _ _ _ => trivial), hN.warm hW⟩⟩ rfl rfl hl.1 rfl (lv_room (Nat.le_of_ble_eq_true rfl)) dX18_doOne_167 ⟨Nat.le_of_ble_eq_true rfl, Nat.le_of_ble_eq_true rfl⟩) hS (fun q _ h => hFc q h) hFc (fun u t H_72 locs ht hvm hw hB hz1 hk1 hS2 => ?_)
          obtain ⟨hP1, -, hD1⟩ := hB
          rw [ht] at hP1
          replace hD := hD1.weaken (fun _ _ _ h => hFc _ h)
          replace hP := hP1
          replace hS := hS2
          clear hP1 hD1 hS2 hFc hfc hz1 hk1 hvm ht
          refine lv_goto (tgt := 181) hx hb dX18_doOne_170 (by decide) ?_
          exact B181 (z_71) ls H_72 locs ⟨lv_sub hl [3, 4] rfl, hP, hD, hS⟩ hf
      · skip
        rw [if_neg c_49] at hf
        refine lv_aload_n hx hb dX18_doOne_145 rfl (lv_at hl 3 rfl) ?_
        refine lv_iconst (v := 3) hx hb dX18_doOne_146 (by decide) ?_
        refine lv_iload_n hx hb dX18_doOne_147 rfl (lv_at hl 0 rfl) ?_
        refine lv_i2l (v := (p_34 : Int32).toInt64) hx hb dX18_doOne_148 rfl ?_
        obtain ⟨z_73, _u, hfc, hf⟩ := cal_some hf
        have hFc := de_free hD hS hA
        refine va_callv (va_runV (As := [.int 3, .long ((p_34 : Int32).toInt64)]) (rest := []) ⟨hx, hb, hml, hown, hts⟩ (de_X18_end l dC dI cy a sh n H.size F z_35 h0 3 ((p_34 : Int32).toInt64) hfc) (cwV 2 hts gX18_doOne_X18_end rfl rfl rfl (by decide +kernel) ⟨Nat.le_of_ble_eq_true rfl, Nat.le_of_ble_eq_true rfl⟩) ⟨fun a U g mk q => by obtain ⟨q0, q1, qP, qK, qD, qN⟩ := q; exact ⟨q0, q1, qP, va_K.moved (u := U) (U := U.calling g mk a) (Vm.Alike.refl U.vm) qK, qD, qN.same rfl⟩, va_recv hK hP (ci := 18) (q0 := h0) rfl (Wd_ob kg_1 sg_1 (by decide)), fun U hU hW => ⟨rfl, by rw [hU], by rw [hU]; exact hP, va_K.moved hW.alike hK, hD.weaken (fun _ _ _ _ => trivial), hN.warm hW⟩⟩ rfl rfl hl.1 rfl (lv_room (Nat.le_of_ble_eq_true rfl)) dX18_doOne_149 ⟨Nat.le_of_ble_eq_true rfl, Nat.le_of_ble_eq_true rfl⟩) hS (fun q _ h => hFc q h) hFc (fun u t H_74 locs ht hvm hw hB hz1 hk1 hS2 => ?_)
        obtain ⟨hP1, -, hD1⟩ := hB
        rw [ht] at hP1
        replace hD := hD1.weaken (fun _ _ _ h => hFc _ h)
        replace hP := hP1
        replace hS := hS2
        clear hP1 hD1 hS2 hFc hfc hz1 hk1 hvm ht
        refine lv_goto (tgt := 228) hx hb dX18_doOne_152 (by decide) ?_
        exact B228 (z_73) ls H_74 locs ⟨lv_sub hl [3, 4] rfl, hP, hD, hS⟩ hf
    refine lv_if_ne (tgt := 141) hx hb dX18_doOne_120 (by decide) (fun c_75 => ?_) (fun c_75 => ?_)
    · skip
      rw [if_neg c_75] at hf
      exact B141 (z_31, p_27) ls H_33 locs ⟨lv_sub hl [1, 0, 2, 3, 4] rfl, hP, hD, hS⟩ hf
    · skip
      rw [if_pos c_75] at hf
      refine lv_aload_n hx hb dX18_doOne_123 rfl (lv_at hl 3 rfl) ?_
      obtain ⟨k_76, ek_76, hf⟩ := lnk_some hf
      refine va_get (D := (dC, dI)) (ci := 18) (v := .ref (a k_76)) (C := RX18) (T := TX18) (N := 78) hx hb hts iwd_X18_doOne_X18 hown hK hP h0 (Wd_ob kg_1 sg_1 (by decide)) rfl 54 (by decide) (hts _ md_X18_doOne_14) (fun _ h9 => h9) (fl_q rfl ek_76) dX18_doOne_124 ?_
      refine lv_iload_n hx hb dX18_doOne_127 rfl (lv_at hl 4 rfl) ?_
      obtain ⟨g_77, hf⟩ := grd_some hf
      obtain ⟨kg_77, sg_77, ig_77⟩ := okA_at g_77
      refine va_iald hx hb hK hP k_76 1 (Wd_ai kg_77 sg_77) rfl ig_77 dX18_doOne_128 ?_
      refine lv_iconst (v := 2) hx hb dX18_doOne_129 (by decide) ?_
      refine lv_icmp_ne (tgt := 141) hx hb dX18_doOne_130 (by decide) (fun c_78 => ?_) (fun c_78 => ?_)
      · skip
        rw [if_neg c_78] at hf
        exact B141 (z_31, p_27) ls H_33 locs ⟨lv_sub hl [1, 0, 2, 3, 4] rfl, hP, hD, hS⟩ hf
      · skip
        rw [if_pos c_78] at hf
        refine lv_aload_n hx hb dX18_doOne_133 rfl (lv_at hl 3 rfl) ?_
        refine lv_iload_n hx hb dX18_doOne_134 rfl (lv_at hl 4 rfl) ?_
        refine lv_iload hx hb dX18_doOne_135 (lv_at hl 0 rfl) ?_
        obtain ⟨z_79, r_80, hfc, hf⟩ := cal_some hf
        have hFc := de_free hD hS hA
        refine va_calli (va_runV (As := [.int x0, .int r_32]) (rest := []) ⟨hx, hb, hml, hown, hts⟩ (de_X18_refusal l dC dI cy a sh n H_33.size F z_31 h0 x0 r_32 hfc) (cwV 2 hts gX18_doOne_X18_refusal rfl rfl rfl (by decide +kernel) ⟨Nat.le_of_ble_eq_true rfl, Nat.le_of_ble_eq_true rfl⟩) ⟨fun a U g mk q => by obtain ⟨q0, q1, qP, qK, qD, qN⟩ := q; exact ⟨q0, q1, qP, va_K.moved (u := U) (U := U.calling g mk a) (Vm.Alike.refl U.vm) qK, qD, qN.same rfl⟩, va_recv hK hP (ci := 18) (q0 := h0) rfl (Wd_ob kg_1 sg_1 (by decide)), fun U hU hW => ⟨rfl, by rw [hU], by rw [hU]; exact hP, va_K.moved hW.alike hK, hD.weaken (fun _ _ _ _ => trivial), hN.warm hW⟩⟩ rfl rfl hl.1 rfl (lv_room (Nat.le_of_ble_eq_true rfl)) dX18_doOne_137 ⟨Nat.le_of_ble_eq_true rfl, Nat.le_of_ble_eq_true rfl⟩) hS (fun q _ h => hFc q h) hFc (fun rr u t H_81 locs ht hvm hw hB hz1 hk1 hS2 => ?_)
        rw [hw]
        clear hw
        obtain ⟨hP1, -, hD1⟩ := hB
        rw [ht] at hP1
        replace hD := hD1.weaken (fun _ _ _ h => hFc _ h)
        replace hP := hP1
        replace hS := hS2
        clear hP1 hD1 hS2 hFc hfc hz1 hk1 hvm ht
        refine lv_istore_n (lv' := [(3, .int r_80), (4, .int r_32), (2, .int r_25), (0, .ref (a h0)), (1, .int x0)]) hx hb dX18_doOne_140 rfl hl (by decide) rfl (fun ls hl2 => ?_)
        replace hl := hl2
        clear hl2
        exact B141 (z_79, r_80) ls H_81 locs ⟨lv_sub hl [0, 1, 2, 3, 4] rfl, hP, hD, hS⟩ hf
  refine lv_if_ge (tgt := 66) hx hb dX18_doOne_59 (by decide) (fun c_82 => ?_) (fun c_82 => ?_)
  · skip
    rw [if_pos c_82] at hf
    refine lv_aload_n hx hb dX18_doOne_66 rfl (lv_at hl 1 rfl) ?_
    obtain ⟨k_83, ek_83, hf⟩ := lnk_some hf
    refine va_get (D := (dC, dI)) (ci := 18) (v := .ref (a k_83)) (C := RX18) (T := TX18) (N := 78) hx hb hts iwd_X18_doOne_X18 hown hK hP h0 (Wd_ob kg_1 sg_1 (by decide)) rfl 2 (by decide) (hts _ md_X18_doOne_10) (fun _ h9 => h9) (fl_q rfl ek_83) dX18_doOne_67 ?_
    refine lv_iload_n hx hb dX18_doOne_70 rfl (lv_at hl 0 rfl) ?_
    obtain ⟨g_84, hf⟩ := grd_some hf
    obtain ⟨kg_84, sg_84, ig_84⟩ := okA_at g_84
    refine va_lald hx hb hK hP k_83 2 (Wd_al kg_84 sg_84) rfl ig_84 dX18_doOne_71 ?_
    refine lv_aload_n hx hb dX18_doOne_72 rfl (lv_at hl 1 rfl) ?_
    obtain ⟨k_85, ek_85, hf⟩ := lnk_some hf
    refine va_get (D := (dC, dI)) (ci := 18) (v := .ref (a k_85)) (C := RX18) (T := TX18) (N := 78) hx hb hts iwd_X18_doOne_X18 hown hK hP h0 (Wd_ob kg_1 sg_1 (by decide)) rfl 56 (by decide) (hts _ md_X18_doOne_11) (fun _ h9 => h9) (fl_q rfl ek_85) dX18_doOne_73 ?_
    refine lv_iload_n hx hb dX18_doOne_76 rfl (lv_at hl 2 rfl) ?_
    obtain ⟨g_86, hf⟩ := grd_some hf
    obtain ⟨kg_86, sg_86, ig_86⟩ := okA_at g_86
    refine va_lald hx hb hK hP k_85 2 (Wd_al kg_86 sg_86) rfl ig_86 dX18_doOne_77 ?_
    refine W.lcmp hx hb dX18_doOne_78 ?_
    refine lv_if_eq (tgt := 86) hx hb dX18_doOne_79 (by decide) (fun c_87 => ?_) (fun c_87 => ?_)
    · skip
      rw [lg_cmp_eq] at c_87
      rw [if_pos c_87] at hf
      refine lv_aload_n hx hb dX18_doOne_86 rfl (lv_at hl 1 rfl) ?_
      obtain ⟨k_88, ek_88, hf⟩ := lnk_some hf
      refine va_get (D := (dC, dI)) (ci := 18) (v := .ref (a k_88)) (C := RX18) (T := TX18) (N := 78) hx hb hts iwd_X18_doOne_X18 hown hK hP h0 (Wd_ob kg_1 sg_1 (by decide)) rfl 1 (by decide) (hts _ md_X18_doOne_12) (fun _ h9 => h9) (fl_q rfl ek_88) dX18_doOne_87 ?_
      refine lv_iload_n hx hb dX18_doOne_90 rfl (lv_at hl 0 rfl) ?_
      obtain ⟨g_89, hf⟩ := grd_some hf
      obtain ⟨kg_89, sg_89, ig_89⟩ := okA_at g_89
      refine va_lald hx hb hK hP k_88 2 (Wd_al kg_89 sg_89) rfl ig_89 dX18_doOne_91 ?_
      refine lv_aload_n hx hb dX18_doOne_92 rfl (lv_at hl 1 rfl) ?_
      refine va_get (D := (dC, dI)) (ci := 18) (v := .int (z_24.1 h0 25)) (C := RX18) (T := TX18) (N := 78) hx hb hts iwd_X18_doOne_X18 hown hK hP h0 (Wd_ob kg_1 sg_1 (by decide)) rfl 25 (by decide) (hts _ md_X18_doOne_4) (fun _ h9 => h9) (fl_at (t := 0) rfl) dX18_doOne_93 ?_
      refine lv_i2l (v := ((z_24.1 h0 25) : Int32).toInt64) hx hb dX18_doOne_96 rfl ?_
      refine W.lcmp hx hb dX18_doOne_97 ?_
      refine lv_if_ge (tgt := 105) hx hb dX18_doOne_98 (by decide) (fun c_90 => ?_) (fun c_90 => ?_)
      · skip
        rw [lg_cmp_ge] at c_90
        rw [if_pos c_90] at hf
        refine lv_iconst (v := 0) hx hb dX18_doOne_105 (by decide) ?_
        exact B106 (z_24, 0) ls H_26 locs ⟨lv_sub hl [0, 1, 2] rfl, hP, hD, hS⟩ hf
      · skip
        rw [lg_cmp_ge] at c_90
        rw [if_neg c_90] at hf
        refine lv_iconst (v := 3) hx hb dX18_doOne_101 (by decide) ?_
        refine lv_goto (tgt := 106) hx hb dX18_doOne_102 (by decide) ?_
        exact B106 (z_24, 3) ls H_26 locs ⟨lv_sub hl [0, 1, 2] rfl, hP, hD, hS⟩ hf
    · skip
      rw [lg_cmp_eq] at c_87
      rw [if_neg c_87] at hf
      refine lv_iconst (v := 2) hx hb dX18_doOne_82 (by decide) ?_
      refine lv_goto (tgt := 106) hx hb dX18_doOne_83 (by decide) ?_
      exact B106 (z_24, 2) ls H_26 locs ⟨lv_sub hl [0, 1, 2] rfl, hP, hD, hS⟩ hf
  · skip
    rw [if_neg c_82] at hf
    refine lv_iconst (v := 1) hx hb dX18_doOne_62 (by decide) ?_
    refine lv_goto (tgt := 106) hx hb dX18_doOne_63 (by decide) ?_
    exact B106 (z_24, 1) ls H_26 locs ⟨lv_sub hl [0, 1, 2] rfl, hP, hD, hS⟩ hf

theorem md_X18_execute_1 : (.fieldLink RX18 628 "ResourceLedgerModel" "done" "I" : Cond) ∈ wsX18_execute := List.mem_of_getElem? (i := 1) rfl
theorem iwd_X18_execute_X18 : ∀ w ∈ wsX180, w ∈ wsX18_execute := fun _ h => List.mem_cons_of_mem _ (List.mem_append_left _ (List.mem_append_left _ (List.mem_append_left _ (List.mem_append_left _ (List.mem_append_left _ (List.mem_append_right _ h))))))
theorem md_X18_execute_2 : (.fieldLink RX18 626 "ResourceLedgerModel" "count" "I" : Cond) ∈ wsX18_execute := List.mem_of_getElem? (i := 2) rfl
theorem md_X18_execute_3 : (.fieldLink RX18 575 "ResourceLedgerModel" "outcomes" "[I" : Cond) ∈ wsX18_execute := List.mem_of_getElem? (i := 3) rfl
set_option maxHeartbeats 4000000 in
set_option maxRecDepth 100000 in
theorem de_X18_execute (l : Launch) (dC : Nat → ClassId) (dI : Nat → Nat → Nat) (cy : Nat → ClassId) (a : Nat → Nat) (sh : Nat → Nat × Nat) (n sz : Nat) (F : Nat) (sk : Nat → Nat) (z : St) (h0 : Nat) {z8 : St} {r8 : Int32} (hf : fn_X18_execute F sh n z h0 = some (z8, r8)) : Met l yX18_execute wsX18_execute ({ frames := 57, cells := 0, slots := 0, locals := 1328 }) (va_Pc [.ref (a h0)] (fun U => U.heap.size = sz ∧ va_P (dC, dI) vwCl (Wd cy a sh n z) U.heap ∧ va_K (dC, dI) vwCl (TYS cy) U ∧ va_D (fun _ => True) (Wd cy a sh n z) ∧ NK U ∧ SKs sk (a CBK) (va_A (Wd cy a sh n z) sz) U U.heap)) (va_Qi (fun (r9 : Int32) (u : Unit) => r9 = r8) (fun u t => va_P (dC, dI) vwCl (Wd cy a sh n z8) t.heap ∧ va_K (dC, dI) vwCl (TYS cy) t ∧ va_D (va_A (Wd cy a sh n z) sz) (Wd cy a sh n z8)) (va_A (Wd cy a sh n z) sz)) 0 0 (va_A (Wd cy a sh n z) sz) := by
  refine Met.ofW (cc := cX18_execute) (maxL := 3) (ret := (some .int)) (by decide) rfl ?_
  intro p e s m args below meth c s₁ B hml hv
  obtain ⟨rfl, hsz, hP, hK, hD0, hN, hSK⟩ := hv
  have hx := B.exec
  have hb := B.bytes
  have hr := B.returns
  have hts := atoms_spec (ws := wsX18_execute) B.pre
  have hown : s.vm.findClass RX18 = some m.cls := findClass_of_methodNamed B.named
  have hlocks := B.notSynchronized
  subst hsz
  have hD := hD0.self (sz := s.heap.size)
  clear hD0
  generalize hAe : va_A (Wd cy a sh n z) s.heap.size = A at hD hSK ⊢
  have hA : ∀ q : Nat, s.heap.size ≤ q → A q := fun q h => by rw [← hAe]; exact Or.inr h
  clear hAe
  have hS : va_S A s.heap s.heap [] := va_S.rf
  have hl := lv_entry ([.ref (a h0)]) (n := 3) (Nat.le_of_ble_eq_true rfl)
  rw [lg_entry_eq]
  generalize (lg_sl ([.ref (a h0)]) ++ List.replicate (3 - (lg_sl ([.ref (a h0)])).length) Slot.unset).toArray = ls at hl ⊢
  replace hl : lv_has ls 3 [(0, .ref (a h0))] := hl
  unfold fn_X18_execute at hf
  refine de_start hS hP (fun H locs hS hP => ?_)
  refine lv_aload_n hx hb dX18_execute_0 rfl (lv_at hl 0 rfl) ?_
  obtain ⟨g_1, hf⟩ := grd_some hf
  obtain ⟨kg_1, sg_1⟩ := okO_at g_1
  refine va_get (D := (dC, dI)) (ci := 18) (v := .int (z.1 h0 53)) (C := RX18) (T := TX18) (N := 78) hx hb hts iwd_X18_execute_X18 hown hK hP h0 (Wd_ob kg_1 sg_1 (by decide)) rfl 53 (by decide) (hts _ md_X18_execute_1) (fun _ h9 => h9) (fl_at (t := 0) rfl) dX18_execute_1 ?_
  refine lv_aload_n hx hb dX18_execute_4 rfl (lv_at hl 0 rfl) ?_
  refine va_get (D := (dC, dI)) (ci := 18) (v := .int (z.1 h0 52)) (C := RX18) (T := TX18) (N := 78) hx hb hts iwd_X18_execute_X18 hown hK hP h0 (Wd_ob kg_1 sg_1 (by decide)) rfl 52 (by decide) (hts _ md_X18_execute_2) (fun _ h9 => h9) (fl_at (t := 0) rfl) dX18_execute_5 ?_
  refine lv_icmp_ne (tgt := 14) hx hb dX18_execute_8 (by decide) (fun c_2 => ?_) (fun c_2 => ?_)
  · skip
    rw [if_neg c_2] at hf
    refine lv_iconst (v := 0) hx hb dX18_execute_14 (by decide) ?_
    refine lv_istore_n (lv' := [(1, .int 0), (0, .ref (a h0))]) hx hb dX18_execute_15 rfl hl (by decide) rfl (fun ls hl2 => ?_)
    replace hl := hl2
    clear hl2
    refine lv_aload_n hx hb dX18_execute_16 rfl (lv_at hl 1 rfl) ?_
    refine va_get (D := (dC, dI)) (ci := 18) (v := .int (z.1 h0 53)) (C := RX18) (T := TX18) (N := 78) hx hb hts iwd_X18_execute_X18 hown hK hP h0 (Wd_ob kg_1 sg_1 (by decide)) rfl 53 (by decide) (hts _ md_X18_execute_1) (fun _ h9 => h9) (fl_at (t := 0) rfl) dX18_execute_17 ?_
    refine lv_topi (fun v_3 ev_3 => ?_)
    replace hf := lt_at ev_3 hf
    clear ev_3
    refine lv_istore_n (lv' := [(2, .int v_3), (1, .int 0), (0, .ref (a h0))]) hx hb dX18_execute_20 rfl hl (by decide) rfl (fun ls hl2 => ?_)
    replace hl := hl2
    clear hl2
    have hl0 : lv_has ls 3 [(2, .int v_3), (1, .int 0), (0, .ref (a h0))] := lv_sub hl [0, 1, 2] rfl
    refine de_loop (h := 21) (fun (x : St × Int32 × Int32) ls H locs => lv_has ls 3 [(2, .int x.2.2), (1, .int x.2.1), (0, .ref (a h0))] ∧ va_P (dC, dI) vwCl (Wd cy a sh n x.1) H ∧ va_D A (Wd cy a sh n x.1) ∧ va_S A s.heap H locs) (fun f x => fn_X18_execute_L21 F sh n h0 f x.1 x.2.1 x.2.2) (z8, r8) ?_ (fun _ => rfl) F (z, 0, v_3) ls H locs ⟨hl0, hP, hD, hS⟩ hf
    intro f_7 x ls H locs ih21 hI hf
    obtain ⟨z_6, p_4, p_5⟩ := x
    obtain ⟨hl2, hP2, hD2, hS2⟩ := hI
    replace hl : lv_has ls 3 [(2, .int p_5), (1, .int p_4), (0, .ref (a h0))] := hl2
    replace hP := hP2
    replace hD := hD2
    replace hS := hS2
    clear hl2 hP2 hD2 hS2 hl0
    replace hf := fn_X18_execute_L21_s hf
    refine lv_iload_n hx hb dX18_execute_21 rfl (lv_at hl 0 rfl) ?_
    refine lv_aload_n hx hb dX18_execute_22 rfl (lv_at hl 2 rfl) ?_
    refine va_get (D := (dC, dI)) (ci := 18) (v := .int (z_6.1 h0 52)) (C := RX18) (T := TX18) (N := 78) hx hb hts iwd_X18_execute_X18 hown hK hP h0 (Wd_ob kg_1 sg_1 (by decide)) rfl 52 (by decide) (hts _ md_X18_execute_2) (fun _ h9 => h9) (fl_at (t := 0) rfl) dX18_execute_23 ?_
    refine lv_icmp_ge (tgt := 57) hx hb dX18_execute_26 (by decide) (fun c_8 => ?_) (fun c_8 => ?_)
    · skip
      rw [if_pos c_8] at hf
      refine lv_aload_n hx hb dX18_execute_57 rfl (lv_at hl 2 rfl) ?_
      refine lv_aload_n hx hb dX18_execute_58 rfl (lv_at hl 2 rfl) ?_
      refine va_get (D := (dC, dI)) (ci := 18) (v := .int (z_6.1 h0 52)) (C := RX18) (T := TX18) (N := 78) hx hb hts iwd_X18_execute_X18 hown hK hP h0 (Wd_ob kg_1 sg_1 (by decide)) rfl 52 (by decide) (hts _ md_X18_execute_2) (fun _ h9 => h9) (fl_at (t := 0) rfl) dX18_execute_59 ?_
      refine va_put (D := (dC, dI)) (ci := 18) (v := .int (z_6.1 h0 52)) (ty := .int) (C := RX18) (T := TX18) (N := 78) hx hb hts iwd_X18_execute_X18 tyX18 tyX18_ok nmX18 hown hK hP hD hS h0 (Wd_ob kg_1 sg_1 (by decide)) rfl 53 (by decide) (hts _ md_X18_execute_1) (fun _ h9 => h9) rfl (by decide +kernel) rfl rfl (by rw [fl_len]; decide) dX18_execute_62 (fun H_9 locs hP2 hD2 hS2 => ?_)
      rw [Wd_si sg_1 (by decide) rfl] at hP2 hD2
      obtain ⟨z_10, ez_10⟩ : ∃ w, w = si z_6 h0 53 (z_6.1 h0 52) := ⟨_, rfl⟩
      rw [← ez_10] at hP2 hD2
      replace hf := lt_at ez_10 hf
      clear ez_10
      replace hP := hP2
      replace hD := hD2
      replace hS := hS2
      clear hP2 hD2 hS2
      refine lv_iload_n hx hb dX18_execute_65 rfl (lv_at hl 1 rfl) ?_
      obtain ⟨h8, h9⟩ := ret_some hf
      rw [h8, h9]
      exact W.iret (v := p_4) hx hb hr (fun t ht hW => ⟨⟨p_4, (), rfl, rfl, by rw [ht]; exact hP, va_K.moved hW.alike hK, hD⟩, hS.F ht⟩) hS.2.2 dX18_execute_66
    · skip
      rw [if_neg c_8] at hf
      refine lv_aload_n hx hb dX18_execute_29 rfl (lv_at hl 2 rfl) ?_
      refine lv_iload_n hx hb dX18_execute_30 rfl (lv_at hl 0 rfl) ?_
      obtain ⟨z_11, _u, hfc, hf⟩ := cal_some hf
      have hFc := de_free hD hS hA
      refine va_callv (va_runV (As := [.int p_5]) (rest := []) ⟨hx, hb, hml, hown, hts⟩ (de_X18_doOne l dC dI cy a sh n H.size F sk z_6 h0 p_5 hfc) (cwV 1 hts gX18_execute_X18_doOne rfl rfl rfl (by decide +kernel) ⟨Nat.le_of_ble_eq_true rfl, Nat.le_of_ble_eq_true rfl⟩) ⟨fun a U g mk q => by obtain ⟨q0, q1, qP, qK, qD, qN, qS⟩ := q; exact ⟨q0, q1, qP, va_K.moved (u := U) (U := U.calling g mk a) (Vm.Alike.refl U.vm) qK, qD, qN.same rfl, SKs.moved (u := U) (U := U.calling g mk a) (Vm.Alike.refl U.vm) qS⟩, va_recv hK hP (ci := 18) (q0 := h0) rfl (Wd_ob kg_1 sg_1 (by decide)), fun U hU hW => ⟨rfl, by rw [hU], by rw [hU]; exact hP, va_K.moved hW.alike hK, hD.weaken (fun _ _ _ _ => trivial), hN.warm hW, by rw [hU]; exact ((hSK.kept hS.2.1).narrow hFc).moved hW.alike⟩⟩ rfl rfl hl.1 rfl (lv_room (Nat.le_of_ble_eq_true rfl)) dX18_execute_31 ⟨Nat.le_of_ble_eq_true rfl, Nat.le_of_ble_eq_true rfl⟩) hS (fun q _ h => hFc q h) hFc (fun u t H_12 locs ht hvm hw hB hz1 hk1 hS2 => ?_)
      obtain ⟨hP1, -, hD1⟩ := hB
      rw [ht] at hP1
      replace hD := hD1.weaken (fun _ _ _ h => hFc _ h)
      replace hP := hP1
      replace hS := hS2
      clear hP1 hD1 hS2 hFc hfc hz1 hk1 hvm ht
      refine lv_iload_n hx hb dX18_execute_34 rfl (lv_at hl 1 rfl) ?_
      refine lv_aload_n hx hb dX18_execute_35 rfl (lv_at hl 2 rfl) ?_
      obtain ⟨k_13, ek_13, hf⟩ := lnk_some hf
      refine va_get (D := (dC, dI)) (ci := 18) (v := .ref (a k_13)) (C := RX18) (T := TX18) (N := 78) hx hb hts iwd_X18_execute_X18 hown hK hP h0 (Wd_ob kg_1 sg_1 (by decide)) rfl 66 (by decide) (hts _ md_X18_execute_3) (fun _ h9 => h9) (fl_q rfl ek_13) dX18_execute_36 ?_
      refine lv_iload_n hx hb dX18_execute_39 rfl (lv_at hl 0 rfl) ?_
      obtain ⟨g_14, hf⟩ := grd_some hf
      obtain ⟨kg_14, sg_14, ig_14⟩ := okA_at g_14
      refine va_iald hx hb hK hP k_13 1 (Wd_ai kg_14 sg_14) rfl ig_14 dX18_execute_40 ?_
      refine de_cut (h := 49) (fun (x : St × Int32) => [.int x.2, .int p_4]) (fun x ls H locs => lv_has ls 3 [(2, .int p_5), (0, .ref (a h0))] ∧ va_P (dC, dI) vwCl (Wd cy a sh n x.1) H ∧ va_D A (Wd cy a sh n x.1) ∧ va_S A s.heap H locs) (fun x => fn_X18_execute_B49 F sh n p_4 p_5 (fun z9 q1 q2 => fn_X18_execute_L21 F sh n h0 f_7 z9 q1 q2) x.1 x.2) (z8, r8) ?_ (fun B49 => ?_)
      · intro x ls H locs hI hf
        obtain ⟨z_16, p_15⟩ := x
        obtain ⟨hl2, hP2, hD2, hS2⟩ := hI
        replace hl : lv_has ls 3 [(2, .int p_5), (0, .ref (a h0))] := hl2
        replace hP := hP2
        replace hD := hD2
        replace hS := hS2
        clear hl2 hP2 hD2 hS2
        replace hf := fn_X18_execute_B49_s hf
        refine W.eq (g2 := F0 m 49 ls [.int p_15, .int p_4]) rfl ?_
        refine lv_iadd hx hb dX18_execute_49 ?_
        refine lv_topi (fun v_17 ev_17 => ?_)
        replace hf := lt_at ev_17 hf
        clear ev_17
        refine lv_istore_n (lv' := [(1, .int v_17), (2, .int p_5), (0, .ref (a h0))]) hx hb dX18_execute_50 rfl hl (by decide) rfl (fun ls hl2 => ?_)
        replace hl := hl2
        clear hl2
        refine lv_iinc (v := (p_5 + 1)) (lv' := [(2, .int (p_5 + 1)), (1, .int v_17), (0, .ref (a h0))]) hx hb dX18_execute_51 hl (k := 1) rfl rfl (by decide) rfl (fun ls hl2 => ?_)
        replace hl := hl2
        clear hl2
        refine lv_goto (tgt := 21) hx hb dX18_execute_54 (by decide) ?_
        exact ih21 (z_16, v_17, (p_5 + 1)) ls H locs ⟨lv_sub hl [0, 1, 2] rfl, hP, hD, hS⟩ hf
      refine lv_if_ne (tgt := 48) hx hb dX18_execute_41 (by decide) (fun c_18 => ?_) (fun c_18 => ?_)
      · skip
        rw [if_neg c_18] at hf
        refine lv_iconst (v := 0) hx hb dX18_execute_48 (by decide) ?_
        exact B49 (z_11, 0) ls H_12 locs ⟨lv_sub hl [0, 2] rfl, hP, hD, hS⟩ hf
      · skip
        rw [if_pos c_18] at hf
        refine lv_iconst (v := 1) hx hb dX18_execute_44 (by decide) ?_
        refine lv_goto (tgt := 49) hx hb dX18_execute_45 (by decide) ?_
        exact B49 (z_11, 1) ls H_12 locs ⟨lv_sub hl [0, 2] rfl, hP, hD, hS⟩ hf
  · skip
    rw [if_pos c_2] at hf
    refine lv_bipush (v := (-2)) hx hb dX18_execute_11 (by decide) ?_
    obtain ⟨h8, h9⟩ := ret_some hf
    rw [h8, h9]
    exact W.iret (v := (-2)) hx hb hr (fun t ht hW => ⟨⟨(-2), (), rfl, rfl, by rw [ht]; exact hP, va_K.moved hW.alike hK, hD⟩, hS.F ht⟩) hS.2.2 dX18_execute_13

