theorem md_X16_overInstruction_1 : (.fieldLink RX16 29 "ResourceLedgerModel$Unit" "instructionAt" "[I" : Cond) ∈ wsX16_overInstruction := List.mem_of_getElem? (i := 1) rfl
theorem iwd_X16_overInstruction_X16 : ∀ w ∈ wsX160, w ∈ wsX16_overInstruction := fun _ h => List.mem_cons_of_mem _ (List.mem_append_right _ h)
theorem md_X16_overInstruction_2 : (.fieldLink RX16 72 "ResourceLedgerModel$Unit" "all" "I" : Cond) ∈ wsX16_overInstruction := List.mem_of_getElem? (i := 2) rfl
set_option maxHeartbeats 4000000 in
set_option maxRecDepth 100000 in
theorem de_X16_overInstruction (l : Launch) (dC : Nat → ClassId) (dI : Nat → Nat → Nat) (cy : Nat → ClassId) (a : Nat → Nat) (sh : Nat → Nat × Nat) (n sz : Nat) (F : Nat) (z : St) (h0 : Nat) {z8 : St} {r8 : Unit} (hf : fn_X16_overInstruction F sh n z h0 = some (z8, r8)) : Met l yX16_overInstruction wsX16_overInstruction ({ frames := 3, cells := 0, slots := 0, locals := 67 }) (va_Pc [.ref (a h0)] (fun U => U.heap.size = sz ∧ va_P (dC, dI) vwCl (Wd cy a sh n z) U.heap ∧ va_K (dC, dI) vwCl (TYS cy) U ∧ va_D (fun _ => True) (Wd cy a sh n z) ∧ NK U)) (va_Qv (fun u : Unit => True) (fun u t => va_P (dC, dI) vwCl (Wd cy a sh n z8) t.heap ∧ va_K (dC, dI) vwCl (TYS cy) t ∧ va_D (va_A (Wd cy a sh n z) sz) (Wd cy a sh n z8)) (va_A (Wd cy a sh n z) sz)) 0 0 (va_A (Wd cy a sh n z) sz) := by
  refine Met.ofW (cc := cX16_overInstruction) (maxL := 2) (ret := none) (by decide) rfl ?_
  intro p e s m args below meth c s₁ B hml hv
  obtain ⟨rfl, hsz, hP, hK, hD0, hN⟩ := hv
  have hx := B.exec
  have hb := B.bytes
  have hr := B.returns
  have hts := atoms_spec (ws := wsX16_overInstruction) B.pre
  have hown : s.vm.findClass RX16 = some m.cls := findClass_of_methodNamed B.named
  have hlocks := B.notSynchronized
  subst hsz
  have hD := hD0.self (sz := s.heap.size)
  clear hD0
  generalize hAe : va_A (Wd cy a sh n z) s.heap.size = A at hD ⊢
  have hA : ∀ q : Nat, s.heap.size ≤ q → A q := fun q h => by rw [← hAe]; exact Or.inr h
  clear hAe
  have hS : va_S A s.heap s.heap [] := va_S.rf
  have hl := lv_entry ([.ref (a h0)]) (n := 2) (Nat.le_of_ble_eq_true rfl)
  rw [lg_entry_eq]
  generalize (lg_sl ([.ref (a h0)]) ++ List.replicate (2 - (lg_sl ([.ref (a h0)])).length) Slot.unset).toArray = ls at hl ⊢
  replace hl : lv_has ls 2 [(0, .ref (a h0))] := hl
  unfold fn_X16_overInstruction at hf
  refine de_start hS hP (fun H locs hS hP => ?_)
  refine lv_aload_n hx hb dX16_overInstruction_0 rfl (lv_at hl 0 rfl) ?_
  refine lv_iconst (v := 1) hx hb dX16_overInstruction_1 (by decide) ?_
  obtain ⟨g_3, hf⟩ := grd_some hf
  obtain ⟨kg_3, sg_3⟩ := okO_at g_3
  obtain ⟨z_1, r_2, hfc, hf⟩ := cal_some hf
  have hFc := de_free hD hS hA
  refine va_calli (va_runV (As := [.int 1]) (rest := []) ⟨hx, hb, hml, hown, hts⟩ (de_X16_over l dC dI cy a sh n H.size F z h0 1 hfc) (cwV 1 hts gX16_overInstruction_X16_over rfl rfl rfl (by decide +kernel) ⟨Nat.le_of_ble_eq_true rfl, Nat.le_of_ble_eq_true rfl⟩) ⟨fun a U g mk q => by obtain ⟨q0, q1, qP, qK, qD, qN⟩ := q; exact ⟨q0, q1, qP, va_K.moved (u := U) (U := U.calling g mk a) (Vm.Alike.refl U.vm) qK, qD, qN.same rfl⟩, va_recv hK hP (ci := 16) (q0 := h0) rfl (Wd_ob kg_3 sg_3 (by decide)), fun U hU hW => ⟨rfl, by rw [hU], by rw [hU]; exact hP, va_K.moved hW.alike hK, hD.weaken (fun _ _ _ _ => trivial), hN.warm hW⟩⟩ rfl rfl hl.1 rfl (lv_room (Nat.le_of_ble_eq_true rfl)) dX16_overInstruction_2 ⟨Nat.le_of_ble_eq_true rfl, Nat.le_of_ble_eq_true rfl⟩) hS (fun q _ h => hFc q h) hFc (fun rr u t H_4 locs ht hvm hw hB hz1 hk1 hS2 => ?_)
  rw [hw]
  clear hw
  obtain ⟨hP1, -, hD1⟩ := hB
  rw [ht] at hP1
  replace hD := hD1.weaken (fun _ _ _ h => hFc _ h)
  replace hP := hP1
  replace hS := hS2
  clear hP1 hD1 hS2 hFc hfc hz1 hk1 hvm ht
  refine lv_istore_n (lv' := [(1, .int r_2), (0, .ref (a h0))]) hx hb dX16_overInstruction_5 rfl hl (by decide) rfl (fun ls hl2 => ?_)
  replace hl := hl2
  clear hl2
  refine lv_aload_n hx hb dX16_overInstruction_6 rfl (lv_at hl 1 rfl) ?_
  obtain ⟨z_5, r_6, hfc, hf⟩ := cal_some hf
  have hFc := de_free hD hS hA
  refine va_calli (va_runV (As := []) (rest := []) ⟨hx, hb, hml, hown, hts⟩ (de_X16_isGood l dC dI cy a sh n H_4.size F z_1 h0 hfc) (cwV 0 hts gX16_overInstruction_X16_isGood rfl rfl rfl (by decide +kernel) ⟨Nat.le_of_ble_eq_true rfl, Nat.le_of_ble_eq_true rfl⟩) ⟨fun a U g mk q => by obtain ⟨q0, q1, qP, qK, qD, qN⟩ := q; exact ⟨q0, q1, qP, va_K.moved (u := U) (U := U.calling g mk a) (Vm.Alike.refl U.vm) qK, qD, qN.same rfl⟩, va_recv hK hP (ci := 16) (q0 := h0) rfl (Wd_ob kg_3 sg_3 (by decide)), fun U hU hW => ⟨rfl, by rw [hU], by rw [hU]; exact hP, va_K.moved hW.alike hK, hD.weaken (fun _ _ _ _ => trivial), hN.warm hW⟩⟩ rfl rfl hl.1 rfl (lv_room (Nat.le_of_ble_eq_true rfl)) dX16_overInstruction_7 ⟨Nat.le_of_ble_eq_true rfl, Nat.le_of_ble_eq_true rfl⟩) hS (fun q _ h => hFc q h) hFc (fun rr u t H_7 locs ht hvm hw hB hz1 hk1 hS2 => ?_)
  rw [hw]
  clear hw
  obtain ⟨hP1, -, hD1⟩ := hB
  rw [ht] at hP1
  replace hD := hD1.weaken (fun _ _ _ h => hFc _ h)
  replace hP := hP1
  replace hS := hS2
  clear hP1 hD1 hS2 hFc hfc hz1 hk1 hvm ht
  refine lv_if_ne (tgt := 14) hx hb dX16_overInstruction_10 (by decide) (fun c_8 => ?_) (fun c_8 => ?_)
  · skip
    rw [if_neg c_8] at hf
    refine lv_aload_n hx hb dX16_overInstruction_14 rfl (lv_at hl 1 rfl) ?_
    obtain ⟨k_9, ek_9, hf⟩ := lnk_some hf
    refine va_get (D := (dC, dI)) (ci := 16) (v := .ref (a k_9)) (C := RX16) (T := TX16) (N := 18) hx hb hts iwd_X16_overInstruction_X16 hown hK hP h0 (Wd_ob kg_3 sg_3 (by decide)) rfl 16 (by decide) (hts _ md_X16_overInstruction_1) (fun _ h9 => h9) (fl_q rfl ek_9) dX16_overInstruction_15 ?_
    refine lv_aload_n hx hb dX16_overInstruction_18 rfl (lv_at hl 1 rfl) ?_
    refine va_get (D := (dC, dI)) (ci := 16) (v := .int (z_5.1 h0 10)) (C := RX16) (T := TX16) (N := 18) hx hb hts iwd_X16_overInstruction_X16 hown hK hP h0 (Wd_ob kg_3 sg_3 (by decide)) rfl 10 (by decide) (hts _ md_X16_overInstruction_2) (fun _ h9 => h9) (fl_at (t := 0) rfl) dX16_overInstruction_19 ?_
    refine lv_iload_n hx hb dX16_overInstruction_22 rfl (lv_at hl 0 rfl) ?_
    obtain ⟨g_10, hf⟩ := grd_some hf
    obtain ⟨kg_10, sg_10, ig_10⟩ := okA_at g_10
    refine va_iast hx hb hK hP hD hS k_9 1 (Wd_ai kg_10 sg_10) rfl ig_10 dX16_overInstruction_23 (fun H_11 locs hP2 hD2 hS2 => ?_)
    rw [Wd_ti sg_10] at hP2 hD2
    obtain ⟨z_12, ez_12⟩ : ∃ w, w = si z_5 k_9 (z_5.1 h0 10).toNatClampNeg r_2 := ⟨_, rfl⟩
    rw [← ez_12] at hP2 hD2
    replace hf := lt_at ez_12 hf
    clear ez_12
    replace hP := hP2
    replace hD := hD2
    replace hS := hS2
    clear hP2 hD2 hS2
    refine lv_aload_n hx hb dX16_overInstruction_24 rfl (lv_at hl 1 rfl) ?_
    refine lv_dup hx hb dX16_overInstruction_25 rfl ?_
    refine va_get (D := (dC, dI)) (ci := 16) (v := .int (z_12.1 h0 10)) (C := RX16) (T := TX16) (N := 18) hx hb hts iwd_X16_overInstruction_X16 hown hK hP h0 (Wd_ob kg_3 sg_3 (by decide)) rfl 10 (by decide) (hts _ md_X16_overInstruction_2) (fun _ h9 => h9) (fl_at (t := 0) rfl) dX16_overInstruction_26 ?_
    refine lv_iconst (v := 1) hx hb dX16_overInstruction_29 (by decide) ?_
    refine lv_iadd hx hb dX16_overInstruction_30 ?_
    refine va_put (D := (dC, dI)) (ci := 16) (v := .int ((z_12.1 h0 10) + 1)) (ty := .int) (C := RX16) (T := TX16) (N := 18) hx hb hts iwd_X16_overInstruction_X16 tyX16 tyX16_ok nmX16 hown hK hP hD hS h0 (Wd_ob kg_3 sg_3 (by decide)) rfl 10 (by decide) (hts _ md_X16_overInstruction_2) (fun _ h9 => h9) rfl (by decide +kernel) rfl rfl (by rw [fl_len]; decide) dX16_overInstruction_31 (fun H_13 locs hP2 hD2 hS2 => ?_)
    rw [Wd_si sg_3 (by decide) rfl] at hP2 hD2
    obtain ⟨z_14, ez_14⟩ : ∃ w, w = si z_12 h0 10 ((z_12.1 h0 10) + 1) := ⟨_, rfl⟩
    rw [← ez_14] at hP2 hD2
    replace hf := lt_at ez_14 hf
    clear ez_14
    replace hP := hP2
    replace hD := hD2
    replace hS := hS2
    clear hP2 hD2 hS2
    refine lv_aload_n hx hb dX16_overInstruction_34 rfl (lv_at hl 1 rfl) ?_
    refine lv_iload_n hx hb dX16_overInstruction_35 rfl (lv_at hl 0 rfl) ?_
    obtain ⟨z_15, r_16, hfc, hf⟩ := cal_some hf
    have hFc := de_free hD hS hA
    refine va_calli (va_runV (As := [.int r_2]) (rest := []) ⟨hx, hb, hml, hown, hts⟩ (de_X16_byteAt l dC dI cy a sh n H_13.size F z_14 h0 r_2 hfc) (cwV 1 hts gX16_overInstruction_X16_byteAt rfl rfl rfl (by decide +kernel) ⟨Nat.le_of_ble_eq_true rfl, Nat.le_of_ble_eq_true rfl⟩) ⟨fun a U g mk q => by obtain ⟨q0, q1, qP, qK, qD, qN⟩ := q; exact ⟨q0, q1, qP, va_K.moved (u := U) (U := U.calling g mk a) (Vm.Alike.refl U.vm) qK, qD, qN.same rfl⟩, va_recv hK hP (ci := 16) (q0 := h0) rfl (Wd_ob kg_3 sg_3 (by decide)), fun U hU hW => ⟨rfl, by rw [hU], by rw [hU]; exact hP, va_K.moved hW.alike hK, hD.weaken (fun _ _ _ _ => trivial), hN.warm hW⟩⟩ rfl rfl hl.1 rfl (lv_room (Nat.le_of_ble_eq_true rfl)) dX16_overInstruction_36 ⟨Nat.le_of_ble_eq_true rfl, Nat.le_of_ble_eq_true rfl⟩) hS (fun q _ h => hFc q h) hFc (fun rr u t H_17 locs ht hvm hw hB hz1 hk1 hS2 => ?_)
    rw [hw]
    clear hw
    obtain ⟨hP1, -, hD1⟩ := hB
    rw [ht] at hP1
    replace hD := hD1.weaken (fun _ _ _ h => hFc _ h)
    replace hP := hP1
    replace hS := hS2
    clear hP1 hD1 hS2 hFc hfc hz1 hk1 hvm ht
    refine lv_bipush (v := 59) hx hb dX16_overInstruction_39 (by decide) ?_
    refine lv_icmp_le (tgt := 53) hx hb dX16_overInstruction_41 (by decide) (fun c_18 => ?_) (fun c_18 => ?_)
    · skip
      rw [if_pos c_18] at hf
      refine lv_aload_n hx hb dX16_overInstruction_53 rfl (lv_at hl 1 rfl) ?_
      refine lv_iload_n hx hb dX16_overInstruction_54 rfl (lv_at hl 0 rfl) ?_
      obtain ⟨z_19, r_20, hfc, hf⟩ := cal_some hf
      have hFc := de_free hD hS hA
      refine va_calli (va_runV (As := [.int r_2]) (rest := []) ⟨hx, hb, hml, hown, hts⟩ (de_X16_byteAt l dC dI cy a sh n H_17.size F z_15 h0 r_2 hfc) (cwV 1 hts gX16_overInstruction_X16_byteAt rfl rfl rfl (by decide +kernel) ⟨Nat.le_of_ble_eq_true rfl, Nat.le_of_ble_eq_true rfl⟩) ⟨fun a U g mk q => by obtain ⟨q0, q1, qP, qK, qD, qN⟩ := q; exact ⟨q0, q1, qP, va_K.moved (u := U) (U := U.calling g mk a) (Vm.Alike.refl U.vm) qK, qD, qN.same rfl⟩, va_recv hK hP (ci := 16) (q0 := h0) rfl (Wd_ob kg_3 sg_3 (by decide)), fun U hU hW => ⟨rfl, by rw [hU], by rw [hU]; exact hP, va_K.moved hW.alike hK, hD.weaken (fun _ _ _ _ => trivial), hN.warm hW⟩⟩ rfl rfl hl.1 rfl (lv_room (Nat.le_of_ble_eq_true rfl)) dX16_overInstruction_55 ⟨Nat.le_of_ble_eq_true rfl, Nat.le_of_ble_eq_true rfl⟩) hS (fun q _ h => hFc q h) hFc (fun rr u t H_21 locs ht hvm hw hB hz1 hk1 hS2 => ?_)
      rw [hw]
      clear hw
      obtain ⟨hP1, -, hD1⟩ := hB
      rw [ht] at hP1
      replace hD := hD1.weaken (fun _ _ _ h => hFc _ h)
      replace hP := hP1
      replace hS := hS2
      clear hP1 hD1 hS2 hFc hfc hz1 hk1 hvm ht
      refine lv_bipush (v := 52) hx hb dX16_overInstruction_58 (by decide) ?_
      refine lv_icmp_ne (tgt := 87) hx hb dX16_overInstruction_60 (by decide) (fun c_22 => ?_) (fun c_22 => ?_)
      · skip
        rw [if_neg c_22] at hf
        refine lv_aload_n hx hb dX16_overInstruction_87 rfl (lv_at hl 1 rfl) ?_
        refine lv_aload_n hx hb dX16_overInstruction_88 rfl (lv_at hl 1 rfl) ?_
        refine lv_iload_n hx hb dX16_overInstruction_89 rfl (lv_at hl 0 rfl) ?_
        obtain ⟨z_23, r_24, hfc, hf⟩ := cal_some hf
        have hFc := de_free hD hS hA
        refine va_calli (va_runV (As := [.int r_2]) (rest := [.ref (a h0)]) ⟨hx, hb, hml, hown, hts⟩ (de_X16_byteAt l dC dI cy a sh n H_21.size F z_19 h0 r_2 hfc) (cwV 1 hts gX16_overInstruction_X16_byteAt rfl rfl rfl (by decide +kernel) ⟨Nat.le_of_ble_eq_true rfl, Nat.le_of_ble_eq_true rfl⟩) ⟨fun a U g mk q => by obtain ⟨q0, q1, qP, qK, qD, qN⟩ := q; exact ⟨q0, q1, qP, va_K.moved (u := U) (U := U.calling g mk a) (Vm.Alike.refl U.vm) qK, qD, qN.same rfl⟩, va_recv hK hP (ci := 16) (q0 := h0) rfl (Wd_ob kg_3 sg_3 (by decide)), fun U hU hW => ⟨rfl, by rw [hU], by rw [hU]; exact hP, va_K.moved hW.alike hK, hD.weaken (fun _ _ _ _ => trivial), hN.warm hW⟩⟩ rfl rfl hl.1 rfl (lv_room (Nat.le_of_ble_eq_true rfl)) dX16_overInstruction_90 ⟨Nat.le_of_ble_eq_true rfl, Nat.le_of_ble_eq_true rfl⟩) hS (fun q _ h => hFc q h) hFc (fun rr u t H_25 locs ht hvm hw hB hz1 hk1 hS2 => ?_)
        rw [hw]
        clear hw
        obtain ⟨hP1, -, hD1⟩ := hB
        rw [ht] at hP1
        replace hD := hD1.weaken (fun _ _ _ h => hFc _ h)
        replace hP := hP1
        replace hS := hS2
        clear hP1 hD1 hS2 hFc hfc hz1 hk1 hvm ht
        obtain ⟨z_26, r_27, hfc, hf⟩ := cal_some hf
        have hFc := de_free hD hS hA
        refine va_calli (va_runS (As := [.int r_24]) (rest := [.ref (a h0)]) ⟨hx, hb, hml, hown, hts⟩ (de_X16_operandBytes l dC dI cy a sh n H_25.size F z_23 r_24 hfc) (va_cwS 1 hts gX16_overInstruction_X16_operandBytes rfl rfl rfl (by decide +kernel) ⟨Nat.le_of_ble_eq_true rfl, Nat.le_of_ble_eq_true rfl⟩) ⟨fun a U g mk q => by obtain ⟨q0, q1, qP, qK, qD, qN⟩ := q; exact ⟨q0, q1, qP, va_K.moved (u := U) (U := U.calling g mk a) (Vm.Alike.refl U.vm) qK, qD, qN.same rfl⟩, fun U hU hW => ⟨rfl, by rw [hU], by rw [hU]; exact hP, va_K.moved hW.alike hK, hD.weaken (fun _ _ _ _ => trivial), hN.warm hW⟩⟩ rfl rfl hl.1 rfl (lv_room (Nat.le_of_ble_eq_true rfl)) dX16_overInstruction_93 ⟨Nat.le_of_ble_eq_true rfl, Nat.le_of_ble_eq_true rfl⟩) hS (fun q _ h => hFc q h) hFc (fun rr u t H_28 locs ht hvm hw hB hz1 hk1 hS2 => ?_)
        rw [hw]
        clear hw
        obtain ⟨hP1, -, hD1⟩ := hB
        rw [ht] at hP1
        replace hD := hD1.weaken (fun _ _ _ h => hFc _ h)
        replace hP := hP1
        replace hS := hS2
        clear hP1 hD1 hS2 hFc hfc hz1 hk1 hvm ht
        obtain ⟨z_29, r_30, hfc, hf⟩ := cal_some hf
        have hFc := de_free hD hS hA
        refine va_calli (va_runV (As := [.int r_27]) (rest := []) ⟨hx, hb, hml, hown, hts⟩ (de_X16_over l dC dI cy a sh n H_28.size F z_26 h0 r_27 hfc) (cwV 1 hts gX16_overInstruction_X16_over rfl rfl rfl (by decide +kernel) ⟨Nat.le_of_ble_eq_true rfl, Nat.le_of_ble_eq_true rfl⟩) ⟨fun a U g mk q => by obtain ⟨q0, q1, qP, qK, qD, qN⟩ := q; exact ⟨q0, q1, qP, va_K.moved (u := U) (U := U.calling g mk a) (Vm.Alike.refl U.vm) qK, qD, qN.same rfl⟩, va_recv hK hP (ci := 16) (q0 := h0) rfl (Wd_ob kg_3 sg_3 (by decide)), fun U hU hW => ⟨rfl, by rw [hU], by rw [hU]; exact hP, va_K.moved hW.alike hK, hD.weaken (fun _ _ _ _ => trivial), hN.warm hW⟩⟩ rfl rfl hl.1 rfl (lv_room (Nat.le_of_ble_eq_true rfl)) dX16_overInstruction_96 ⟨Nat.le_of_ble_eq_true rfl, Nat.le_of_ble_eq_true rfl⟩) hS (fun q _ h => hFc q h) hFc (fun rr u t H_31 locs ht hvm hw hB hz1 hk1 hS2 => ?_)
        rw [hw]
        clear hw
        obtain ⟨hP1, -, hD1⟩ := hB
        rw [ht] at hP1
        replace hD := hD1.weaken (fun _ _ _ h => hFc _ h)
        replace hP := hP1
        replace hS := hS2
        clear hP1 hD1 hS2 hFc hfc hz1 hk1 hvm ht
        refine lv_pop hx hb dX16_overInstruction_99 rfl ?_
        obtain ⟨h8, h9⟩ := ret_some hf
        rw [h8]
        exact W.vret hx hb hr (fun t ht hW => ⟨⟨(), rfl, trivial, by rw [ht]; exact hP, va_K.moved hW.alike hK, hD⟩, hS.F ht⟩) hS.2.2 dX16_overInstruction_100
      · skip
        rw [if_pos c_22] at hf
        refine lv_aload_n hx hb dX16_overInstruction_63 rfl (lv_at hl 1 rfl) ?_
        refine lv_iconst (v := 1) hx hb dX16_overInstruction_64 (by decide) ?_
        obtain ⟨z_32, r_33, hfc, hf⟩ := cal_some hf
        have hFc := de_free hD hS hA
        refine va_calli (va_runV (As := [.int 1]) (rest := []) ⟨hx, hb, hml, hown, hts⟩ (de_X16_over l dC dI cy a sh n H_21.size F z_19 h0 1 hfc) (cwV 1 hts gX16_overInstruction_X16_over rfl rfl rfl (by decide +kernel) ⟨Nat.le_of_ble_eq_true rfl, Nat.le_of_ble_eq_true rfl⟩) ⟨fun a U g mk q => by obtain ⟨q0, q1, qP, qK, qD, qN⟩ := q; exact ⟨q0, q1, qP, va_K.moved (u := U) (U := U.calling g mk a) (Vm.Alike.refl U.vm) qK, qD, qN.same rfl⟩, va_recv hK hP (ci := 16) (q0 := h0) rfl (Wd_ob kg_3 sg_3 (by decide)), fun U hU hW => ⟨rfl, by rw [hU], by rw [hU]; exact hP, va_K.moved hW.alike hK, hD.weaken (fun _ _ _ _ => trivial), hN.warm hW⟩⟩ rfl rfl hl.1 rfl (lv_room (Nat.le_of_ble_eq_true rfl)) dX16_overInstruction_65 ⟨Nat.le_of_ble_eq_true rfl, Nat.le_of_ble_eq_true rfl⟩) hS (fun q _ h => hFc q h) hFc (fun rr u t H_34 locs ht hvm hw hB hz1 hk1 hS2 => ?_)
        rw [hw]
        clear hw
        obtain ⟨hP1, -, hD1⟩ := hB
        rw [ht] at hP1
        replace hD := hD1.weaken (fun _ _ _ h => hFc _ h)
        replace hP := hP1
        replace hS := hS2
        clear hP1 hD1 hS2 hFc hfc hz1 hk1 hvm ht
        refine lv_pop hx hb dX16_overInstruction_68 rfl ?_
        refine lv_aload_n hx hb dX16_overInstruction_69 rfl (lv_at hl 1 rfl) ?_
        obtain ⟨z_35, r_36, hfc, hf⟩ := cal_some hf
        have hFc := de_free hD hS hA
        refine va_calli (va_runV (As := []) (rest := []) ⟨hx, hb, hml, hown, hts⟩ (de_X16_isGood l dC dI cy a sh n H_34.size F z_32 h0 hfc) (cwV 0 hts gX16_overInstruction_X16_isGood rfl rfl rfl (by decide +kernel) ⟨Nat.le_of_ble_eq_true rfl, Nat.le_of_ble_eq_true rfl⟩) ⟨fun a U g mk q => by obtain ⟨q0, q1, qP, qK, qD, qN⟩ := q; exact ⟨q0, q1, qP, va_K.moved (u := U) (U := U.calling g mk a) (Vm.Alike.refl U.vm) qK, qD, qN.same rfl⟩, va_recv hK hP (ci := 16) (q0 := h0) rfl (Wd_ob kg_3 sg_3 (by decide)), fun U hU hW => ⟨rfl, by rw [hU], by rw [hU]; exact hP, va_K.moved hW.alike hK, hD.weaken (fun _ _ _ _ => trivial), hN.warm hW⟩⟩ rfl rfl hl.1 rfl (lv_room (Nat.le_of_ble_eq_true rfl)) dX16_overInstruction_70 ⟨Nat.le_of_ble_eq_true rfl, Nat.le_of_ble_eq_true rfl⟩) hS (fun q _ h => hFc q h) hFc (fun rr u t H_37 locs ht hvm hw hB hz1 hk1 hS2 => ?_)
        rw [hw]
        clear hw
        obtain ⟨hP1, -, hD1⟩ := hB
        rw [ht] at hP1
        replace hD := hD1.weaken (fun _ _ _ h => hFc _ h)
        replace hP := hP1
        replace hS := hS2
        clear hP1 hD1 hS2 hFc hfc hz1 hk1 hvm ht
        refine lv_if_eq (tgt := 100) hx hb dX16_overInstruction_73 (by decide) (fun c_38 => ?_) (fun c_38 => ?_)
        · skip
          rw [if_pos c_38] at hf
          obtain ⟨h8, h9⟩ := ret_some hf
          rw [h8]
          exact W.vret hx hb hr (fun t ht hW => ⟨⟨(), rfl, trivial, by rw [ht]; exact hP, va_K.moved hW.alike hK, hD⟩, hS.F ht⟩) hS.2.2 dX16_overInstruction_100
        · skip
          rw [if_neg c_38] at hf
          refine lv_aload_n hx hb dX16_overInstruction_76 rfl (lv_at hl 1 rfl) ?_
          refine lv_iconst (v := 0) hx hb dX16_overInstruction_77 (by decide) ?_
          refine lv_bipush (v := 64) hx hb dX16_overInstruction_78 (by decide) ?_
          obtain ⟨z_39, r_40, hfc, hf⟩ := cal_some hf
          have hFc := de_free hD hS hA
          refine va_calli (va_runV (As := [.int 0, .int 64]) (rest := []) ⟨hx, hb, hml, hown, hts⟩ (de_X16_count l dC dI cy a sh n H_37.size F z_35 h0 0 64 hfc) (cwV 2 hts gX16_overInstruction_X16_count rfl rfl rfl (by decide +kernel) ⟨Nat.le_of_ble_eq_true rfl, Nat.le_of_ble_eq_true rfl⟩) ⟨fun a U g mk q => by obtain ⟨q0, q1, qP, qK, qD, qN⟩ := q; exact ⟨q0, q1, qP, va_K.moved (u := U) (U := U.calling g mk a) (Vm.Alike.refl U.vm) qK, qD, qN.same rfl⟩, va_recv hK hP (ci := 16) (q0 := h0) rfl (Wd_ob kg_3 sg_3 (by decide)), fun U hU hW => ⟨rfl, by rw [hU], by rw [hU]; exact hP, va_K.moved hW.alike hK, hD.weaken (fun _ _ _ _ => trivial), hN.warm hW⟩⟩ rfl rfl hl.1 rfl (lv_room (Nat.le_of_ble_eq_true rfl)) dX16_overInstruction_80 ⟨Nat.le_of_ble_eq_true rfl, Nat.le_of_ble_eq_true rfl⟩) hS (fun q _ h => hFc q h) hFc (fun rr u t H_41 locs ht hvm hw hB hz1 hk1 hS2 => ?_)
          rw [hw]
          clear hw
          obtain ⟨hP1, -, hD1⟩ := hB
          rw [ht] at hP1
          replace hD := hD1.weaken (fun _ _ _ h => hFc _ h)
          replace hP := hP1
          replace hS := hS2
          clear hP1 hD1 hS2 hFc hfc hz1 hk1 hvm ht
          refine lv_pop hx hb dX16_overInstruction_83 rfl ?_
          refine lv_goto (tgt := 100) hx hb dX16_overInstruction_84 (by decide) ?_
          obtain ⟨h8, h9⟩ := ret_some hf
          rw [h8]
          exact W.vret hx hb hr (fun t ht hW => ⟨⟨(), rfl, trivial, by rw [ht]; exact hP, va_K.moved hW.alike hK, hD⟩, hS.F ht⟩) hS.2.2 dX16_overInstruction_100
    · skip
      rw [if_neg c_18] at hf
      refine lv_aload_n hx hb dX16_overInstruction_44 rfl (lv_at hl 1 rfl) ?_
      refine lv_iconst (v := 5) hx hb dX16_overInstruction_45 (by decide) ?_
      refine lv_iload_n hx hb dX16_overInstruction_46 rfl (lv_at hl 0 rfl) ?_
      obtain ⟨z_42, _u, hfc, hf⟩ := cal_some hf
      have hFc := de_free hD hS hA
      refine va_callv (va_runV (As := [.int 5, .int r_2]) (rest := []) ⟨hx, hb, hml, hown, hts⟩ (de_X16_fail l dC dI cy a sh n H_17.size F z_15 h0 5 r_2 hfc) (cwV 2 hts gX16_overInstruction_X16_fail rfl rfl rfl (by decide +kernel) ⟨Nat.le_of_ble_eq_true rfl, Nat.le_of_ble_eq_true rfl⟩) ⟨fun a U g mk q => by obtain ⟨q0, q1, qP, qK, qD, qN⟩ := q; exact ⟨q0, q1, qP, va_K.moved (u := U) (U := U.calling g mk a) (Vm.Alike.refl U.vm) qK, qD, qN.same rfl⟩, va_recv hK hP (ci := 16) (q0 := h0) rfl (Wd_ob kg_3 sg_3 (by decide)), fun U hU hW => ⟨rfl, by rw [hU], by rw [hU]; exact hP, va_K.moved hW.alike hK, hD.weaken (fun _ _ _ _ => trivial), hN.warm hW⟩⟩ rfl rfl hl.1 rfl (lv_room (Nat.le_of_ble_eq_true rfl)) dX16_overInstruction_47 ⟨Nat.le_of_ble_eq_true rfl, Nat.le_of_ble_eq_true rfl⟩) hS (fun q _ h => hFc q h) hFc (fun u t H_43 locs ht hvm hw hB hz1 hk1 hS2 => ?_)
      obtain ⟨hP1, -, hD1⟩ := hB
      rw [ht] at hP1
      replace hD := hD1.weaken (fun _ _ _ h => hFc _ h)
      replace hP := hP1
      replace hS := hS2
      clear hP1 hD1 hS2 hFc hfc hz1 hk1 hvm ht
      refine lv_goto (tgt := 100) hx hb dX16_overInstruction_50 (by decide) ?_
      obtain ⟨h8, h9⟩ := ret_some hf
      rw [h8]
      exact W.vret hx hb hr (fun t ht hW => ⟨⟨(), rfl, trivial, by rw [ht]; exact hP, va_K.moved hW.alike hK, hD⟩, hS.F ht⟩) hS.2.2 dX16_overInstruction_100
  · skip
    rw [if_pos c_8] at hf
    obtain ⟨h8, h9⟩ := ret_some hf
    rw [h8]
    exact W.vret hx hb hr (fun t ht hW => ⟨⟨(), rfl, trivial, by rw [ht]; exact hP, va_K.moved hW.alike hK, hD⟩, hS.F ht⟩) hS.2.2 dX16_overInstruction_13

theorem md_X5_strangeFunction_1 : (.fieldLink RX5 45 "ResourceLedger$Program" "foreignFunctions" "I" : Cond) ∈ wsX5_strangeFunction := List.mem_of_getElem? (i := 1) rfl
theorem iwd_X5_strangeFunction_X5 : ∀ w ∈ wsX50, w ∈ wsX5_strangeFunction := fun _ h => List.mem_cons_of_mem _ (List.mem_append_left _ (List.mem_append_right _ h))
theorem md_X5_strangeFunction_2 : (.fieldLink RX5 55 "ResourceLedger$Program" "ownFunctions" "I" : Cond) ∈ wsX5_strangeFunction := List.mem_of_getElem? (i := 2) rfl
set_option maxHeartbeats 4000000 in
set_option maxRecDepth 100000 in
theorem de_X5_strangeFunction (l : Launch) (dC : Nat → ClassId) (dI : Nat → Nat → Nat) (cy : Nat → ClassId) (a : Nat → Nat) (sh : Nat → Nat × Nat) (n sz : Nat) (F : Nat) (z : St) (h0 : Nat) (x0 : Nat) {z8 : St} {r8 : Int32} (hf : fn_X5_strangeFunction F sh n z h0 x0 = some (z8, r8)) : Met l yX5_strangeFunction wsX5_strangeFunction ({ frames := 3, cells := 0, slots := 0, locals := 73 }) (va_Pc [.ref (a h0), .ref (a x0)] (fun U => U.heap.size = sz ∧ va_P (dC, dI) vwCl (Wd cy a sh n z) U.heap ∧ va_K (dC, dI) vwCl (TYS cy) U ∧ va_D (fun _ => True) (Wd cy a sh n z) ∧ NK U)) (va_Qi (fun (r9 : Int32) (u : Unit) => r9 = r8) (fun u t => va_P (dC, dI) vwCl (Wd cy a sh n z8) t.heap ∧ va_K (dC, dI) vwCl (TYS cy) t ∧ va_D (va_A (Wd cy a sh n z) sz) (Wd cy a sh n z8)) (va_A (Wd cy a sh n z) sz)) 0 0 (va_A (Wd cy a sh n z) sz) := by
  refine Met.ofW (cc := cX5_strangeFunction) (maxL := 6) (ret := (some .int)) (by decide) rfl ?_
  intro p e s m args below meth c s₁ B hml hv
  obtain ⟨rfl, hsz, hP, hK, hD0, hN⟩ := hv
  have hx := B.exec
  have hb := B.bytes
  have hr := B.returns
  have hts := atoms_spec (ws := wsX5_strangeFunction) B.pre
  have hown : s.vm.findClass RX5 = some m.cls := findClass_of_methodNamed B.named
  have hlocks := B.notSynchronized
  subst hsz
  have hD := hD0.self (sz := s.heap.size)
  clear hD0
  generalize hAe : va_A (Wd cy a sh n z) s.heap.size = A at hD ⊢
  have hA : ∀ q : Nat, s.heap.size ≤ q → A q := fun q h => by rw [← hAe]; exact Or.inr h
  clear hAe
  have hS : va_S A s.heap s.heap [] := va_S.rf
  have hl := lv_entry ([.ref (a h0), .ref (a x0)]) (n := 6) (Nat.le_of_ble_eq_true rfl)
  rw [lg_entry_eq]
  generalize (lg_sl ([.ref (a h0), .ref (a x0)]) ++ List.replicate (6 - (lg_sl ([.ref (a h0), .ref (a x0)])).length) Slot.unset).toArray = ls at hl ⊢
  replace hl : lv_has ls 6 [(0, .ref (a h0)), (1, .ref (a x0))] := hl
  unfold fn_X5_strangeFunction at hf
  refine de_start hS hP (fun H locs hS hP => ?_)
  refine lv_iconst (v := 0) hx hb dX5_strangeFunction_0 (by decide) ?_
  refine lv_istore_n (lv' := [(2, .int 0), (0, .ref (a h0)), (1, .ref (a x0))]) hx hb dX5_strangeFunction_1 rfl hl (by decide) rfl (fun ls hl2 => ?_)
  replace hl := hl2
  clear hl2
  have hl0 : lv_has ls 6 [(2, .int 0), (0, .ref (a h0)), (1, .ref (a x0))] := lv_sub hl [0, 1, 2] rfl
  refine de_loop (h := 2) (fun (x : St × Int32) ls H locs => lv_has ls 6 [(2, .int x.2), (0, .ref (a h0)), (1, .ref (a x0))] ∧ va_P (dC, dI) vwCl (Wd cy a sh n x.1) H ∧ va_D A (Wd cy a sh n x.1) ∧ va_S A s.heap H locs) (fun f x => fn_X5_strangeFunction_L2 F sh n h0 x0 f x.1 x.2) (z8, r8) ?_ (fun _ => rfl) F (z, 0) ls H locs ⟨hl0, hP, hD, hS⟩ hf
  intro f_3 x ls H locs ih2 hI hf
  obtain ⟨z_2, p_1⟩ := x
  obtain ⟨hl2, hP2, hD2, hS2⟩ := hI
  replace hl : lv_has ls 6 [(2, .int p_1), (0, .ref (a h0)), (1, .ref (a x0))] := hl2
  replace hP := hP2
  replace hD := hD2
  replace hS := hS2
  clear hl2 hP2 hD2 hS2 hl0
  replace hf := fn_X5_strangeFunction_L2_s hf
  refine lv_iload_n hx hb dX5_strangeFunction_2 rfl (lv_at hl 0 rfl) ?_
  refine lv_aload_n hx hb dX5_strangeFunction_3 rfl (lv_at hl 1 rfl) ?_
  obtain ⟨g_4, hf⟩ := grd_some hf
  obtain ⟨kg_4, sg_4⟩ := okO_at g_4
  refine va_get (D := (dC, dI)) (ci := 5) (v := .int (z_2.1 h0 12)) (C := RX5) (T := TX5) (N := 15) hx hb hts iwd_X5_strangeFunction_X5 hown hK hP h0 (Wd_ob kg_4 sg_4 (by decide)) rfl 12 (by decide) (hts _ md_X5_strangeFunction_1) (fun _ h9 => h9) (fl_at (t := 0) rfl) dX5_strangeFunction_4 ?_
  refine lv_icmp_ge (tgt := 104) hx hb dX5_strangeFunction_7 (by decide) (fun c_5 => ?_) (fun c_5 => ?_)
  · skip
    rw [if_pos c_5] at hf
    refine lv_iconst (v := (-1)) hx hb dX5_strangeFunction_104 (by decide) ?_
    obtain ⟨h8, h9⟩ := ret_some hf
    rw [h8, h9]
    exact W.iret (v := (-1)) hx hb hr (fun t ht hW => ⟨⟨(-1), (), rfl, rfl, by rw [ht]; exact hP, va_K.moved hW.alike hK, hD⟩, hS.F ht⟩) hS.2.2 dX5_strangeFunction_105
  · skip
    rw [if_neg c_5] at hf
    refine lv_aload_n hx hb dX5_strangeFunction_10 rfl (lv_at hl 1 rfl) ?_
    refine va_get (D := (dC, dI)) (ci := 5) (v := .int (z_2.1 h0 11)) (C := RX5) (T := TX5) (N := 15) hx hb hts iwd_X5_strangeFunction_X5 hown hK hP h0 (Wd_ob kg_4 sg_4 (by decide)) rfl 11 (by decide) (hts _ md_X5_strangeFunction_2) (fun _ h9 => h9) (fl_at (t := 0) rfl) dX5_strangeFunction_11 ?_
    refine lv_iload_n hx hb dX5_strangeFunction_14 rfl (lv_at hl 0 rfl) ?_
    refine lv_iadd hx hb dX5_strangeFunction_15 ?_
    refine lv_topi (fun v_6 ev_6 => ?_)
    replace hf := lt_at ev_6 hf
    clear ev_6
    refine lv_istore_n (lv' := [(3, .int v_6), (2, .int p_1), (0, .ref (a h0)), (1, .ref (a x0))]) hx hb dX5_strangeFunction_16 rfl hl (by decide) rfl (fun ls hl2 => ?_)
    replace hl := hl2
    clear hl2
    refine lv_aload_n hx hb dX5_strangeFunction_17 rfl (lv_at hl 3 rfl) ?_
    refine lv_aload_n hx hb dX5_strangeFunction_18 rfl (lv_at hl 2 rfl) ?_
    refine lv_iload_n hx hb dX5_strangeFunction_19 rfl (lv_at hl 0 rfl) ?_
    refine lv_bipush (v := 7) hx hb dX5_strangeFunction_20 (by decide) ?_
    obtain ⟨z_7, r_8, hfc, hf⟩ := cal_some hf
    have hFc := de_free hD hS hA
    refine va_calli (va_runV (As := [.int v_6, .int 7]) (rest := [.ref (a x0)]) ⟨hx, hb, hml, hown, hts⟩ (de_X5_functionColumn l dC dI cy a sh n H.size F z_2 h0 v_6 7 hfc) (cwV 2 hts gX5_strangeFunction_X5_functionColumn rfl rfl rfl (by decide +kernel) ⟨Nat.le_of_ble_eq_true rfl, Nat.le_of_ble_eq_true rfl⟩) ⟨fun a U g mk q => by obtain ⟨q0, q1, qP, qK, qD, qN⟩ := q; exact ⟨q0, q1, qP, va_K.moved (u := U) (U := U.calling g mk a) (Vm.Alike.refl U.vm) qK, qD, qN.same rfl⟩, va_recv hK hP (ci := 5) (q0 := h0) rfl (Wd_ob kg_4 sg_4 (by decide)), fun U hU hW => ⟨rfl, by rw [hU], by rw [hU]; exact hP, va_K.moved hW.alike hK, hD.weaken (fun _ _ _ _ => trivial), hN.warm hW⟩⟩ rfl rfl hl.1 rfl (lv_room (Nat.le_of_ble_eq_true rfl)) dX5_strangeFunction_22 ⟨Nat.le_of_ble_eq_true rfl, Nat.le_of_ble_eq_true rfl⟩) hS (fun q _ h => hFc q h) hFc (fun rr u t H_9 locs ht hvm hw hB hz1 hk1 hS2 => ?_)
    rw [hw]
    clear hw
    obtain ⟨hP1, -, hD1⟩ := hB
    rw [ht] at hP1
    replace hD := hD1.weaken (fun _ _ _ h => hFc _ h)
    replace hP := hP1
    replace hS := hS2
    clear hP1 hD1 hS2 hFc hfc hz1 hk1 hvm ht
    obtain ⟨g_12, hf⟩ := grd_some hf
    obtain ⟨kg_12, sg_12⟩ := okO_at g_12
    obtain ⟨z_10, r_11, hfc, hf⟩ := cal_some hf
    have hFc := de_free hD hS hA
    refine va_callq (va_runV (As := [.int r_8]) (rest := []) ⟨hx, hb, hml, hown, hts⟩ (de_X7_findProgram l dC dI cy a sh n H_9.size F z_7 x0 r_8 hfc) (cwV 1 hts gX5_strangeFunction_X7_findProgram rfl rfl rfl (by decide +kernel) ⟨Nat.le_of_ble_eq_true rfl, Nat.le_of_ble_eq_true rfl⟩) ⟨fun a U g mk q => by obtain ⟨q0, q1, qP, qK, qD, qN⟩ := q; exact ⟨q0, q1, qP, va_K.moved (u := U) (U := U.calling g mk a) (Vm.Alike.refl U.vm) qK, qD, qN.same rfl⟩, va_recv hK hP (ci := 7) (q0 := x0) rfl (Wd_ob kg_12 sg_12 (by decide)), fun U hU hW => ⟨rfl, by rw [hU], by rw [hU]; exact hP, va_K.moved hW.alike hK, hD.weaken (fun _ _ _ _ => trivial), hN.warm hW⟩⟩ rfl rfl hl.1 rfl (lv_room (Nat.le_of_ble_eq_true rfl)) dX5_strangeFunction_25 ⟨Nat.le_of_ble_eq_true rfl, Nat.le_of_ble_eq_true rfl⟩) hS (fun q _ h => hFc q h) hFc (fun rr u t H_13 locs ht hvm hw hB hz1 hk1 hS2 => ?_)
    rw [hw]
    clear hw
    obtain ⟨hP1, -, hD1⟩ := hB
    rw [ht] at hP1
    replace hD := hD1.weaken (fun _ _ _ h => hFc _ h)
    replace hP := hP1
    replace hS := hS2
    clear hP1 hD1 hS2 hFc hfc hz1 hk1 hvm ht
    rcases r_11 with _ | k_14
    · skip
      replace hf := nul_none hf
      refine W.eq (g2 := F0 m 28 ls [.null]) rfl ?_
      refine lv_astoreN (lv' := [(4, .null), (3, .int v_6), (2, .int p_1), (0, .ref (a h0)), (1, .ref (a x0))]) hx hb dX5_strangeFunction_28 hl (by decide) rfl (fun ls hl2 => ?_)
      replace hl := hl2
      clear hl2
      refine lv_aload_n hx hb dX5_strangeFunction_30 rfl (lv_at hl 3 rfl) ?_
      refine lv_iload_n hx hb dX5_strangeFunction_31 rfl (lv_at hl 1 rfl) ?_
      refine lv_bipush (v := 8) hx hb dX5_strangeFunction_32 (by decide) ?_
      obtain ⟨z_15, r_16, hfc, hf⟩ := cal_some hf
      have hFc := de_free hD hS hA
      refine va_calli (va_runV (As := [.int v_6, .int 8]) (rest := []) ⟨hx, hb, hml, hown, hts⟩ (de_X5_functionColumn l dC dI cy a sh n H_13.size F z_10 h0 v_6 8 hfc) (cwV 2 hts gX5_strangeFunction_X5_functionColumn rfl rfl rfl (by decide +kernel) ⟨Nat.le_of_ble_eq_true rfl, Nat.le_of_ble_eq_true rfl⟩) ⟨fun a U g mk q => by obtain ⟨q0, q1, qP, qK, qD, qN⟩ := q; exact ⟨q0, q1, qP, va_K.moved (u := U) (U := U.calling g mk a) (Vm.Alike.refl U.vm) qK, qD, qN.same rfl⟩, va_recv hK hP (ci := 5) (q0 := h0) rfl (Wd_ob kg_4 sg_4 (by decide)), fun U hU hW => ⟨rfl, by rw [hU], by rw [hU]; exact hP, va_K.moved hW.alike hK, hD.weaken (fun _ _ _ _ => trivial), hN.warm hW⟩⟩ rfl rfl hl.1 rfl (lv_room (Nat.le_of_ble_eq_true rfl)) dX5_strangeFunction_34 ⟨Nat.le_of_ble_eq_true rfl, Nat.le_of_ble_eq_true rfl⟩) hS (fun q _ h => hFc q h) hFc (fun rr u t H_17 locs ht hvm hw hB hz1 hk1 hS2 => ?_)
      rw [hw]
      clear hw
      obtain ⟨hP1, -, hD1⟩ := hB
      rw [ht] at hP1
      replace hD := hD1.weaken (fun _ _ _ h => hFc _ h)
      replace hP := hP1
      replace hS := hS2
      clear hP1 hD1 hS2 hFc hfc hz1 hk1 hvm ht
      refine lv_istore (lv' := [(5, .int r_16), (4, .null), (3, .int v_6), (2, .int p_1), (0, .ref (a h0)), (1, .ref (a x0))]) hx hb dX5_strangeFunction_37 hl (by decide) rfl (fun ls hl2 => ?_)
      replace hl := hl2
      clear hl2
      refine lv_aloadN hx hb dX5_strangeFunction_39 (lv_at hl 1 rfl) ?_
      refine lv_ifnullN (tgt := 96) hx hb dX5_strangeFunction_41 (by decide) ?_
      refine lv_iload_n hx hb dX5_strangeFunction_96 rfl (lv_at hl 3 rfl) ?_
      obtain ⟨h8, h9⟩ := ret_some hf
      rw [h8, h9]
      exact W.iret (v := p_1) hx hb hr (fun t ht hW => ⟨⟨p_1, (), rfl, rfl, by rw [ht]; exact hP, va_K.moved hW.alike hK, hD⟩, hS.F ht⟩) hS.2.2 dX5_strangeFunction_97
    · skip
      replace hf := nul_some hf
      refine W.eq (g2 := F0 m 28 ls [.ref (a k_14)]) rfl ?_
      refine lv_astore (lv' := [(4, .ref (a k_14)), (3, .int v_6), (2, .int p_1), (0, .ref (a h0)), (1, .ref (a x0))]) hx hb dX5_strangeFunction_28 hl (by decide) rfl (fun ls hl2 => ?_)
      replace hl := hl2
      clear hl2
      refine lv_aload_n hx hb dX5_strangeFunction_30 rfl (lv_at hl 3 rfl) ?_
      refine lv_iload_n hx hb dX5_strangeFunction_31 rfl (lv_at hl 1 rfl) ?_
      refine lv_bipush (v := 8) hx hb dX5_strangeFunction_32 (by decide) ?_
      obtain ⟨z_18, r_19, hfc, hf⟩ := cal_some hf
      have hFc := de_free hD hS hA
      refine va_calli (va_runV (As := [.int v_6, .int 8]) (rest := []) ⟨hx, hb, hml, hown, hts⟩ (de_X5_functionColumn l dC dI cy a sh n H_13.size F z_10 h0 v_6 8 hfc) (cwV 2 hts gX5_strangeFunction_X5_functionColumn rfl rfl rfl (by decide +kernel) ⟨Nat.le_of_ble_eq_true rfl, Nat.le_of_ble_eq_true rfl⟩) ⟨fun a U g mk q => by obtain ⟨q0, q1, qP, qK, qD, qN⟩ := q; exact ⟨q0, q1, qP, va_K.moved (u := U) (U := U.calling g mk a) (Vm.Alike.refl U.vm) qK, qD, qN.same rfl⟩, va_recv hK hP (ci := 5) (q0 := h0) rfl (Wd_ob kg_4 sg_4 (by decide)), fun U hU hW => ⟨rfl, by rw [hU], by rw [hU]; exact hP, va_K.moved hW.alike hK, hD.weaken (fun _ _ _ _ => trivial), hN.warm hW⟩⟩ rfl rfl hl.1 rfl (lv_room (Nat.le_of_ble_eq_true rfl)) dX5_strangeFunction_34 ⟨Nat.le_of_ble_eq_true rfl, Nat.le_of_ble_eq_true rfl⟩) hS (fun q _ h => hFc q h) hFc (fun rr u t H_20 locs ht hvm hw hB hz1 hk1 hS2 => ?_)
      rw [hw]
      clear hw
      obtain ⟨hP1, -, hD1⟩ := hB
      rw [ht] at hP1
      replace hD := hD1.weaken (fun _ _ _ h => hFc _ h)
      replace hP := hP1
      replace hS := hS2
      clear hP1 hD1 hS2 hFc hfc hz1 hk1 hvm ht
      refine lv_istore (lv' := [(5, .int r_19), (4, .ref (a k_14)), (3, .int v_6), (2, .int p_1), (0, .ref (a h0)), (1, .ref (a x0))]) hx hb dX5_strangeFunction_37 hl (by decide) rfl (fun ls hl2 => ?_)
      replace hl := hl2
      clear hl2
      refine lv_aload hx hb dX5_strangeFunction_39 (lv_at hl 1 rfl) ?_
      refine lv_ifnull hx hb dX5_strangeFunction_41 ?_
      refine lv_iload hx hb dX5_strangeFunction_44 (lv_at hl 0 rfl) ?_
      refine lv_aload hx hb dX5_strangeFunction_46 (lv_at hl 1 rfl) ?_
      obtain ⟨g_21, hf⟩ := grd_some hf
      obtain ⟨kg_21, sg_21⟩ := okO_at g_21
      refine va_get (D := (dC, dI)) (ci := 5) (v := .int (z_18.1 k_14 11)) (C := RX5) (T := TX5) (N := 15) hx hb hts iwd_X5_strangeFunction_X5 hown hK hP k_14 (Wd_ob kg_21 sg_21 (by decide)) rfl 11 (by decide) (hts _ md_X5_strangeFunction_2) (fun _ h9 => h9) (fl_at (t := 0) rfl) dX5_strangeFunction_48 ?_
      refine lv_icmp_ge (tgt := 96) hx hb dX5_strangeFunction_51 (by decide) (fun c_22 => ?_) (fun c_22 => ?_)
      · skip
        rw [if_pos c_22] at hf
        refine lv_iload_n hx hb dX5_strangeFunction_96 rfl (lv_at hl 3 rfl) ?_
        obtain ⟨h8, h9⟩ := ret_some hf
        rw [h8, h9]
        exact W.iret (v := p_1) hx hb hr (fun t ht hW => ⟨⟨p_1, (), rfl, rfl, by rw [ht]; exact hP, va_K.moved hW.alike hK, hD⟩, hS.F ht⟩) hS.2.2 dX5_strangeFunction_97
      · skip
        rw [if_neg c_22] at hf
        refine lv_aload hx hb dX5_strangeFunction_54 (lv_at hl 1 rfl) ?_
        refine lv_iload hx hb dX5_strangeFunction_56 (lv_at hl 0 rfl) ?_
        obtain ⟨z_23, r_24, hfc, hf⟩ := cal_some hf
        have hFc := de_free hD hS hA
        refine va_calli (va_runV (As := [.int r_19]) (rest := []) ⟨hx, hb, hml, hown, hts⟩ (de_X5_flags l dC dI cy a sh n H_20.size F z_18 k_14 r_19 hfc) (cwV 1 hts gX5_strangeFunction_X5_flags rfl rfl rfl (by decide +kernel) ⟨Nat.le_of_ble_eq_true rfl, Nat.le_of_ble_eq_true rfl⟩) ⟨fun a U g mk q => by obtain ⟨q0, q1, qP, qK, qD, qN⟩ := q; exact ⟨q0, q1, qP, va_K.moved (u := U) (U := U.calling g mk a) (Vm.Alike.refl U.vm) qK, qD, qN.same rfl⟩, va_recv hK hP (ci := 5) (q0 := k_14) rfl (Wd_ob kg_21 sg_21 (by decide)), fun U hU hW => ⟨rfl, by rw [hU], by rw [hU]; exact hP, va_K.moved hW.alike hK, hD.weaken (fun _ _ _ _ => trivial), hN.warm hW⟩⟩ rfl rfl hl.1 rfl (lv_room (Nat.le_of_ble_eq_true rfl)) dX5_strangeFunction_58 ⟨Nat.le_of_ble_eq_true rfl, Nat.le_of_ble_eq_true rfl⟩) hS (fun q _ h => hFc q h) hFc (fun rr u t H_25 locs ht hvm hw hB hz1 hk1 hS2 => ?_)
        rw [hw]
        clear hw
        obtain ⟨hP1, -, hD1⟩ := hB
        rw [ht] at hP1
        replace hD := hD1.weaken (fun _ _ _ h => hFc _ h)
        replace hP := hP1
        replace hS := hS2
        clear hP1 hD1 hS2 hFc hfc hz1 hk1 hvm ht
        refine lv_iconst (v := 1) hx hb dX5_strangeFunction_61 (by decide) ?_
        refine lv_iand hx hb dX5_strangeFunction_62 ?_
        refine lv_if_eq (tgt := 96) hx hb dX5_strangeFunction_63 (by decide) (fun c_26 => ?_) (fun c_26 => ?_)
        · skip
          rw [if_pos c_26] at hf
          refine lv_iload_n hx hb dX5_strangeFunction_96 rfl (lv_at hl 3 rfl) ?_
          obtain ⟨h8, h9⟩ := ret_some hf
          rw [h8, h9]
          exact W.iret (v := p_1) hx hb hr (fun t ht hW => ⟨⟨p_1, (), rfl, rfl, by rw [ht]; exact hP, va_K.moved hW.alike hK, hD⟩, hS.F ht⟩) hS.2.2 dX5_strangeFunction_97
        · skip
          rw [if_neg c_26] at hf
          refine lv_aload hx hb dX5_strangeFunction_66 (lv_at hl 1 rfl) ?_
          refine lv_iload hx hb dX5_strangeFunction_68 (lv_at hl 0 rfl) ?_
          obtain ⟨z_27, r_28, hfc, hf⟩ := cal_some hf
          have hFc := de_free hD hS hA
          refine va_calli (va_runV (As := [.int r_19]) (rest := []) ⟨hx, hb, hml, hown, hts⟩ (de_X5_flags l dC dI cy a sh n H_25.size F z_23 k_14 r_19 hfc) (cwV 1 hts gX5_strangeFunction_X5_flags rfl rfl rfl (by decide +kernel) ⟨Nat.le_of_ble_eq_true rfl, Nat.le_of_ble_eq_true rfl⟩) ⟨fun a U g mk q => by obtain ⟨q0, q1, qP, qK, qD, qN⟩ := q; exact ⟨q0, q1, qP, va_K.moved (u := U) (U := U.calling g mk a) (Vm.Alike.refl U.vm) qK, qD, qN.same rfl⟩, va_recv hK hP (ci := 5) (q0 := k_14) rfl (Wd_ob kg_21 sg_21 (by decide)), fun U hU hW => ⟨rfl, by rw [hU], by rw [hU]; exact hP, va_K.moved hW.alike hK, hD.weaken (fun _ _ _ _ => trivial), hN.warm hW⟩⟩ rfl rfl hl.1 rfl (lv_room (Nat.le_of_ble_eq_true rfl)) dX5_strangeFunction_70 ⟨Nat.le_of_ble_eq_true rfl, Nat.le_of_ble_eq_true rfl⟩) hS (fun q _ h => hFc q h) hFc (fun rr u t H_29 locs ht hvm hw hB hz1 hk1 hS2 => ?_)
          rw [hw]
          clear hw
          obtain ⟨hP1, -, hD1⟩ := hB
          rw [ht] at hP1
          replace hD := hD1.weaken (fun _ _ _ h => hFc _ h)
          replace hP := hP1
          replace hS := hS2
          clear hP1 hD1 hS2 hFc hfc hz1 hk1 hvm ht
          refine lv_aload_n hx hb dX5_strangeFunction_73 rfl (lv_at hl 4 rfl) ?_
          refine lv_iload_n hx hb dX5_strangeFunction_74 rfl (lv_at hl 2 rfl) ?_
          obtain ⟨z_30, r_31, hfc, hf⟩ := cal_some hf
          have hFc := de_free hD hS hA
          refine va_calli (va_runV (As := [.int v_6]) (rest := [.int r_28]) ⟨hx, hb, hml, hown, hts⟩ (de_X5_flags l dC dI cy a sh n H_29.size F z_27 h0 v_6 hfc) (cwV 1 hts gX5_strangeFunction_X5_flags rfl rfl rfl (by decide +kernel) ⟨Nat.le_of_ble_eq_true rfl, Nat.le_of_ble_eq_true rfl⟩) ⟨fun a U g mk q => by obtain ⟨q0, q1, qP, qK, qD, qN⟩ := q; exact ⟨q0, q1, qP, va_K.moved (u := U) (U := U.calling g mk a) (Vm.Alike.refl U.vm) qK, qD, qN.same rfl⟩, va_recv hK hP (ci := 5) (q0 := h0) rfl (Wd_ob kg_4 sg_4 (by decide)), fun U hU hW => ⟨rfl, by rw [hU], by rw [hU]; exact hP, va_K.moved hW.alike hK, hD.weaken (fun _ _ _ _ => trivial), hN.warm hW⟩⟩ rfl rfl hl.1 rfl (lv_room (Nat.le_of_ble_eq_true rfl)) dX5_strangeFunction_75 ⟨Nat.le_of_ble_eq_true rfl, Nat.le_of_ble_eq_true rfl⟩) hS (fun q _ h => hFc q h) hFc (fun rr u t H_32 locs ht hvm hw hB hz1 hk1 hS2 => ?_)
          rw [hw]
          clear hw
          obtain ⟨hP1, -, hD1⟩ := hB
          rw [ht] at hP1
          replace hD := hD1.weaken (fun _ _ _ h => hFc _ h)
          replace hP := hP1
          replace hS := hS2
          clear hP1 hD1 hS2 hFc hfc hz1 hk1 hvm ht
          refine lv_ixor hx hb dX5_strangeFunction_78 ?_
          refine lv_iconst (v := 4) hx hb dX5_strangeFunction_79 (by decide) ?_
          refine lv_iand hx hb dX5_strangeFunction_80 ?_
          refine lv_if_ne (tgt := 96) hx hb dX5_strangeFunction_81 (by decide) (fun c_33 => ?_) (fun c_33 => ?_)
          · skip
            rw [if_neg c_33] at hf
            refine lv_iload_n hx hb dX5_strangeFunction_96 rfl (lv_at hl 3 rfl) ?_
            obtain ⟨h8, h9⟩ := ret_some hf
            rw [h8, h9]
            exact W.iret (v := p_1) hx hb hr (fun t ht hW => ⟨⟨p_1, (), rfl, rfl, by rw [ht]; exact hP, va_K.moved hW.alike hK, hD⟩, hS.F ht⟩) hS.2.2 dX5_strangeFunction_97
          · skip
            rw [if_pos c_33] at hf
            refine lv_aload_n hx hb dX5_strangeFunction_84 rfl (lv_at hl 4 rfl) ?_
            refine lv_iload_n hx hb dX5_strangeFunction_85 rfl (lv_at hl 2 rfl) ?_
            refine lv_aload hx hb dX5_strangeFunction_86 (lv_at hl 1 rfl) ?_
            refine lv_iload hx hb dX5_strangeFunction_88 (lv_at hl 0 rfl) ?_
            obtain ⟨z_34, r_35, hfc, hf⟩ := cal_some hf
            have hFc := de_free hD hS hA
            refine va_calli (va_runV (As := [.int v_6, .ref (a k_14), .int r_19]) (rest := []) ⟨hx, hb, hml, hown, hts⟩ (de_X5_sameLists l dC dI cy a sh n H_32.size F z_30 h0 v_6 k_14 r_19 hfc) (cwV 3 hts gX5_strangeFunction_X5_sameLists rfl rfl rfl (by decide +kernel) ⟨Nat.le_of_ble_eq_true rfl, Nat.le_of_ble_eq_true rfl⟩) ⟨fun a U g mk q => by obtain ⟨q0, q1, qP, qK, qD, qN⟩ := q; exact ⟨q0, q1, qP, va_K.moved (u := U) (U := U.calling g mk a) (Vm.Alike.refl U.vm) qK, qD, qN.same rfl⟩, va_recv hK hP (ci := 5) (q0 := h0) rfl (Wd_ob kg_4 sg_4 (by decide)), fun U hU hW => ⟨rfl, by rw [hU], by rw [hU]; exact hP, va_K.moved hW.alike hK, hD.weaken (fun _ _ _ _ => trivial), hN.warm hW⟩⟩ rfl rfl hl.1 rfl (lv_room (Nat.le_of_ble_eq_true rfl)) dX5_strangeFunction_90 ⟨Nat.le_of_ble_eq_true rfl, Nat.le_of_ble_eq_true rfl⟩) hS (fun q _ h => hFc q h) hFc (fun rr u t H_36 locs ht hvm hw hB hz1 hk1 hS2 => ?_)
            rw [hw]
            clear hw
            obtain ⟨hP1, -, hD1⟩ := hB
            rw [ht] at hP1
            replace hD := hD1.weaken (fun _ _ _ h => hFc _ h)
            replace hP := hP1
            replace hS := hS2
            clear hP1 hD1 hS2 hFc hfc hz1 hk1 hvm ht
            refine lv_if_ne (tgt := 98) hx hb dX5_strangeFunction_93 (by decide) (fun c_37 => ?_) (fun c_37 => ?_)
            · skip
              rw [if_neg c_37] at hf
              refine lv_iinc (v := (p_1 + 1)) (lv' := [(2, .int (p_1 + 1)), (5, .int r_19), (4, .ref (a k_14)), (3, .int v_6), (0, .ref (a h0)), (1, .ref (a x0))]) hx hb dX5_strangeFunction_98 hl (k := 3) rfl rfl (by decide) rfl (fun ls hl2 => ?_)
              replace hl := hl2
              clear hl2
              refine lv_goto (tgt := 2) hx hb dX5_strangeFunction_101 (by decide) ?_
              exact ih2 (z_34, (p_1 + 1)) ls H_36 locs ⟨lv_sub hl [0, 4, 5] rfl, hP, hD, hS⟩ hf
            · skip
              rw [if_pos c_37] at hf
              refine lv_iload_n hx hb dX5_strangeFunction_96 rfl (lv_at hl 3 rfl) ?_
              obtain ⟨h8, h9⟩ := ret_some hf
              rw [h8, h9]
              exact W.iret (v := p_1) hx hb hr (fun t ht hW => ⟨⟨p_1, (), rfl, rfl, by rw [ht]; exact hP, va_K.moved hW.alike hK, hD⟩, hS.F ht⟩) hS.2.2 dX5_strangeFunction_97

theorem md_X2_fits_1 : (.fieldLink RX2 38 "ResourceLedger$Journal" "state" "LResourceLedger$State;" : Cond) ∈ wsX2_fits := List.mem_of_getElem? (i := 1) rfl
theorem iwd_X2_fits_X2 : ∀ w ∈ wsX20, w ∈ wsX2_fits := fun _ h => List.mem_cons_of_mem _ (List.mem_append_left _ (List.mem_append_left _ (List.mem_append_right _ h)))
theorem md_X2_fits_2 : (.fieldLink RX2 46 "ResourceLedger$Journal" "count" "I" : Cond) ∈ wsX2_fits := List.mem_of_getElem? (i := 2) rfl
theorem md_X2_fits_3 : (.fieldLink RX2 11 "ResourceLedger$Journal" "kind" "[I" : Cond) ∈ wsX2_fits := List.mem_of_getElem? (i := 3) rfl
theorem md_X2_fits_4 : (.fieldLink RX2 29 "ResourceLedger$Journal" "isThere" "[Z" : Cond) ∈ wsX2_fits := List.mem_of_getElem? (i := 4) rfl
theorem md_X2_fits_7 : (.fieldLink RX2 25 "ResourceLedger$Journal" "wasThere" "[Z" : Cond) ∈ wsX2_fits := List.mem_of_getElem? (i := 7) rfl
theorem md_X2_fits_5 : (.fieldLink RX2 42 "ResourceLedger$Journal" "heap" "LResourceLedger$Heap;" : Cond) ∈ wsX2_fits := List.mem_of_getElem? (i := 5) rfl
theorem md_X2_fits_6 : (.fieldLink RX2 35 "ResourceLedger$Journal" "node" "[I" : Cond) ∈ wsX2_fits := List.mem_of_getElem? (i := 6) rfl
set_option maxHeartbeats 4000000 in
set_option maxRecDepth 100000 in
theorem de_X2_fits (l : Launch) (dC : Nat → ClassId) (dI : Nat → Nat → Nat) (cy : Nat → ClassId) (a : Nat → Nat) (sh : Nat → Nat × Nat) (n sz : Nat) (F : Nat) (z : St) (h0 : Nat) {z8 : St} {r8 : Int32} (hf : fn_X2_fits F sh n z h0 = some (z8, r8)) : Met l yX2_fits wsX2_fits ({ frames := 51, cells := 0, slots := 0, locals := 1315 }) (va_Pc [.ref (a h0)] (fun U => U.heap.size = sz ∧ va_P (dC, dI) vwCl (Wd cy a sh n z) U.heap ∧ va_K (dC, dI) vwCl (TYS cy) U ∧ va_D (fun _ => True) (Wd cy a sh n z) ∧ NK U)) (va_Qi (fun (r9 : Int32) (u : Unit) => r9 = r8) (fun u t => va_P (dC, dI) vwCl (Wd cy a sh n z8) t.heap ∧ va_K (dC, dI) vwCl (TYS cy) t ∧ va_D (va_A (Wd cy a sh n z) sz) (Wd cy a sh n z8)) (va_A (Wd cy a sh n z) sz)) 0 0 (va_A (Wd cy a sh n z) sz) := by
  refine Met.ofW (cc := cX2_fits) (maxL := 3) (ret := (some .boolean)) (by decide) rfl ?_
  intro p e s m args below meth c s₁ B hml hv
  obtain ⟨rfl, hsz, hP, hK, hD0, hN⟩ := hv
  have hx := B.exec
  have hb := B.bytes
  have hr := B.returns
  have hts := atoms_spec (ws := wsX2_fits) B.pre
  have hown : s.vm.findClass RX2 = some m.cls := findClass_of_methodNamed B.named
  have hlocks := B.notSynchronized
  subst hsz
  have hD := hD0.self (sz := s.heap.size)
  clear hD0
  generalize hAe : va_A (Wd cy a sh n z) s.heap.size = A at hD ⊢
  have hA : ∀ q : Nat, s.heap.size ≤ q → A q := fun q h => by rw [← hAe]; exact Or.inr h
  clear hAe
  have hS : va_S A s.heap s.heap [] := va_S.rf
  have hl := lv_entry ([.ref (a h0)]) (n := 3) (Nat.le_of_ble_eq_true rfl)
  rw [lg_entry_eq]
  generalize (lg_sl ([.ref (a h0)]) ++ List.replicate (3 - (lg_sl ([.ref (a h0)])).length) Slot.unset).toArray = ls at hl ⊢
  replace hl : lv_has ls 3 [(0, .ref (a h0))] := hl
  unfold fn_X2_fits at hf
  refine de_start hS hP (fun H locs hS hP => ?_)
  refine lv_aload_n hx hb dX2_fits_0 rfl (lv_at hl 0 rfl) ?_
  obtain ⟨g_1, hf⟩ := grd_some hf
  obtain ⟨kg_1, sg_1⟩ := okO_at g_1
  obtain ⟨k_2, ek_2, hf⟩ := lnk_some hf
  refine va_get (D := (dC, dI)) (ci := 2) (v := .ref (a k_2)) (C := RX2) (T := TX2) (N := 11) hx hb hts iwd_X2_fits_X2 hown hK hP h0 (Wd_ob kg_1 sg_1 (by decide)) rfl 0 (by decide) (hts _ md_X2_fits_1) (fun _ h9 => h9) (fl_q rfl ek_2) dX2_fits_1 ?_
  obtain ⟨g_5, hf⟩ := grd_some hf
  obtain ⟨kg_5, sg_5⟩ := okO_at g_5
  obtain ⟨z_3, r_4, hfc, hf⟩ := cal_some hf
  have hFc := de_free hD hS hA
  refine va_calli (va_runV (As := []) (rest := []) ⟨hx, hb, hml, hown, hts⟩ (de_X7_placeCount l dC dI cy a sh n H.size F z k_2 hfc) (cwV 0 hts gX2_fits_X7_placeCount rfl rfl rfl (by decide +kernel) ⟨Nat.le_of_ble_eq_true rfl, Nat.le_of_ble_eq_true rfl⟩) ⟨fun a U g mk q => by obtain ⟨q0, q1, qP, qK, qD, qN⟩ := q; exact ⟨q0, q1, qP, va_K.moved (u := U) (U := U.calling g mk a) (Vm.Alike.refl U.vm) qK, qD, qN.same rfl⟩, va_recv hK hP (ci := 7) (q0 := k_2) rfl (Wd_ob kg_5 sg_5 (by decide)), fun U hU hW => ⟨rfl, by rw [hU], by rw [hU]; exact hP, va_K.moved hW.alike hK, hD.weaken (fun _ _ _ _ => trivial), hN.warm hW⟩⟩ rfl rfl hl.1 rfl (lv_room (Nat.le_of_ble_eq_true rfl)) dX2_fits_4 ⟨Nat.le_of_ble_eq_true rfl, Nat.le_of_ble_eq_true rfl⟩) hS (fun q _ h => hFc q h) hFc (fun rr u t H_6 locs ht hvm hw hB hz1 hk1 hS2 => ?_)
  rw [hw]
  clear hw
  obtain ⟨hP1, -, hD1⟩ := hB
  rw [ht] at hP1
  replace hD := hD1.weaken (fun _ _ _ h => hFc _ h)
  replace hP := hP1
  replace hS := hS2
  clear hP1 hD1 hS2 hFc hfc hz1 hk1 hvm ht
  refine lv_istore_n (lv' := [(1, .int r_4), (0, .ref (a h0))]) hx hb dX2_fits_7 rfl hl (by decide) rfl (fun ls hl2 => ?_)
  replace hl := hl2
  clear hl2
  refine lv_iconst (v := 0) hx hb dX2_fits_8 (by decide) ?_
  refine lv_istore_n (lv' := [(2, .int 0), (1, .int r_4), (0, .ref (a h0))]) hx hb dX2_fits_9 rfl hl (by decide) rfl (fun ls hl2 => ?_)
  replace hl := hl2
  clear hl2
  have hl0 : lv_has ls 3 [(2, .int 0), (1, .int r_4), (0, .ref (a h0))] := lv_sub hl [0, 1, 2] rfl
  refine de_loop (h := 10) (fun (x : St × Int32 × Int32) ls H locs => lv_has ls 3 [(2, .int x.2.2), (1, .int x.2.1), (0, .ref (a h0))] ∧ va_P (dC, dI) vwCl (Wd cy a sh n x.1) H ∧ va_D A (Wd cy a sh n x.1) ∧ va_S A s.heap H locs) (fun f x => fn_X2_fits_L10 F sh n h0 f x.1 x.2.1 x.2.2) (z8, r8) ?_ (fun _ => rfl) F (z_3, r_4, 0) ls H_6 locs ⟨hl0, hP, hD, hS⟩ hf
  intro f_10 x ls H locs ih10 hI hf
  obtain ⟨z_9, p_7, p_8⟩ := x
  obtain ⟨hl2, hP2, hD2, hS2⟩ := hI
  replace hl : lv_has ls 3 [(2, .int p_8), (1, .int p_7), (0, .ref (a h0))] := hl2
  replace hP := hP2
  replace hD := hD2
  replace hS := hS2
  clear hl2 hP2 hD2 hS2 hl0
  replace hf := fn_X2_fits_L10_s hf
  refine lv_iload_n hx hb dX2_fits_10 rfl (lv_at hl 0 rfl) ?_
  refine lv_aload_n hx hb dX2_fits_11 rfl (lv_at hl 2 rfl) ?_
  refine va_get (D := (dC, dI)) (ci := 2) (v := .int (z_9.1 h0 7)) (C := RX2) (T := TX2) (N := 11) hx hb hts iwd_X2_fits_X2 hown hK hP h0 (Wd_ob kg_1 sg_1 (by decide)) rfl 7 (by decide) (hts _ md_X2_fits_2) (fun _ h9 => h9) (fl_at (t := 0) rfl) dX2_fits_12 ?_
  refine lv_icmp_ge (tgt := 95) hx hb dX2_fits_15 (by decide) (fun c_11 => ?_) (fun c_11 => ?_)
  · skip
    rw [if_pos c_11] at hf
    refine lv_iload_n hx hb dX2_fits_95 rfl (lv_at hl 1 rfl) ?_
    refine lv_sipush (v := 256) hx hb dX2_fits_96 (by decide) ?_
    refine lv_icmp_gt (tgt := 106) hx hb dX2_fits_99 (by decide) (fun c_12 => ?_) (fun c_12 => ?_)
    · skip
      rw [if_pos c_12] at hf
      refine lv_iconst (v := 0) hx hb dX2_fits_106 (by decide) ?_
      obtain ⟨h8, h9⟩ := ret_some hf
      rw [h8, h9]
      exact W.zret (v := 0) hx hb hr rfl (fun t ht hW => ⟨⟨0, (), rfl, rfl, by rw [ht]; exact hP, va_K.moved hW.alike hK, hD⟩, hS.F ht⟩) hS.2.2 dX2_fits_107
    · skip
      rw [if_neg c_12] at hf
      refine lv_iconst (v := 1) hx hb dX2_fits_102 (by decide) ?_
      refine lv_goto (tgt := 107) hx hb dX2_fits_103 (by decide) ?_
      obtain ⟨h8, h9⟩ := ret_some hf
      rw [h8, h9]
      exact W.zret (v := 1) hx hb hr rfl (fun t ht hW => ⟨⟨1, (), rfl, rfl, by rw [ht]; exact hP, va_K.moved hW.alike hK, hD⟩, hS.F ht⟩) hS.2.2 dX2_fits_107
  · skip
    rw [if_neg c_11] at hf
    refine lv_aload_n hx hb dX2_fits_18 rfl (lv_at hl 2 rfl) ?_
    obtain ⟨k_13, ek_13, hf⟩ := lnk_some hf
    refine va_get (D := (dC, dI)) (ci := 2) (v := .ref (a k_13)) (C := RX2) (T := TX2) (N := 11) hx hb hts iwd_X2_fits_X2 hown hK hP h0 (Wd_ob kg_1 sg_1 (by decide)) rfl 2 (by decide) (hts _ md_X2_fits_3) (fun _ h9 => h9) (fl_q rfl ek_13) dX2_fits_19 ?_
    refine lv_iload_n hx hb dX2_fits_22 rfl (lv_at hl 0 rfl) ?_
    obtain ⟨g_14, hf⟩ := grd_some hf
    obtain ⟨kg_14, sg_14, ig_14⟩ := okA_at g_14
    refine va_iald hx hb hK hP k_13 1 (Wd_ai kg_14 sg_14) rfl ig_14 dX2_fits_23 ?_
    refine lv_iconst (v := 3) hx hb dX2_fits_24 (by decide) ?_
    refine de_cut (h := 57) (fun (x : St) => []) (fun x ls H locs => lv_has ls 3 [(2, .int p_8), (1, .int p_7), (0, .ref (a h0))] ∧ va_P (dC, dI) vwCl (Wd cy a sh n x) H ∧ va_D A (Wd cy a sh n x) ∧ va_S A s.heap H locs) (fun x => fn_X2_fits_B57 F sh n h0 p_8 p_7 (fun z9 q1 q2 => fn_X2_fits_L10 F sh n h0 f_10 z9 q1 q2) x) (z8, r8) ?_ (fun B57 => ?_)
    · intro x ls H locs hI hf
      obtain ⟨z_15, ez⟩ : ∃ w, w = x := ⟨_, rfl⟩
      subst ez
      obtain ⟨hl2, hP2, hD2, hS2⟩ := hI
      replace hl : lv_has ls 3 [(2, .int p_8), (1, .int p_7), (0, .ref (a h0))] := hl2
      replace hP := hP2
      replace hD := hD2
      replace hS := hS2
      clear hl2 hP2 hD2 hS2
      replace hf := fn_X2_fits_B57_s hf
      refine W.eq (g2 := F0 m 57 ls []) rfl ?_
      refine lv_iload_n hx hb dX2_fits_57 rfl (lv_at hl 1 rfl) ?_
      refine lv_aload_n hx hb dX2_fits_58 rfl (lv_at hl 2 rfl) ?_
      obtain ⟨k_16, ek_16, hf⟩ := lnk_some hf
      refine va_get (D := (dC, dI)) (ci := 2) (v := .ref (a k_16)) (C := RX2) (T := TX2) (N := 11) hx hb hts iwd_X2_fits_X2 hown hK hP h0 (Wd_ob kg_1 sg_1 (by decide)) rfl 8 (by decide) (hts _ md_X2_fits_4) (fun _ h9 => h9) (fl_q rfl ek_16) dX2_fits_59 ?_
      refine lv_iload_n hx hb dX2_fits_62 rfl (lv_at hl 0 rfl) ?_
      obtain ⟨g_17, hf⟩ := grd_some hf
      obtain ⟨kg_17, sg_17, ig_17⟩ := okA_at g_17
      refine va_zald hx hb hK hP k_16 3 (Wd_az kg_17 sg_17) rfl ig_17 dX2_fits_63 ?_
      refine de_cut (h := 72) (fun (x : St × Int32) => [.int x.2, .int p_7]) (fun x ls H locs => lv_has ls 3 [(2, .int p_8), (0, .ref (a h0))] ∧ va_P (dC, dI) vwCl (Wd cy a sh n x.1) H ∧ va_D A (Wd cy a sh n x.1) ∧ va_S A s.heap H locs) (fun x => fn_X2_fits_B72 F sh n h0 p_8 p_7 (fun z9 q1 q2 => fn_X2_fits_L10 F sh n h0 f_10 z9 q1 q2) x.1 x.2) (z8, r8) ?_ (fun B72 => ?_)
      · intro x ls H locs hI hf
        obtain ⟨z_19, p_18⟩ := x
        obtain ⟨hl2, hP2, hD2, hS2⟩ := hI
        replace hl : lv_has ls 3 [(2, .int p_8), (0, .ref (a h0))] := hl2
        replace hP := hP2
        replace hD := hD2
        replace hS := hS2
        clear hl2 hP2 hD2 hS2
        replace hf := fn_X2_fits_B72_s hf
        refine W.eq (g2 := F0 m 72 ls [.int p_18, .int p_7]) rfl ?_
        refine lv_aload_n hx hb dX2_fits_72 rfl (lv_at hl 1 rfl) ?_
        obtain ⟨k_20, ek_20, hf⟩ := lnk_some hf
        refine va_get (D := (dC, dI)) (ci := 2) (v := .ref (a k_20)) (C := RX2) (T := TX2) (N := 11) hx hb hts iwd_X2_fits_X2 hown hK hP h0 (Wd_ob kg_1 sg_1 (by decide)) rfl 6 (by decide) (hts _ md_X2_fits_7) (fun _ h9 => h9) (fl_q rfl ek_20) dX2_fits_73 ?_
        refine lv_iload_n hx hb dX2_fits_76 rfl (lv_at hl 0 rfl) ?_
        obtain ⟨g_21, hf⟩ := grd_some hf
        obtain ⟨kg_21, sg_21, ig_21⟩ := okA_at g_21
        refine va_zald hx hb hK hP k_20 3 (Wd_az kg_21 sg_21) rfl ig_21 dX2_fits_77 ?_
        refine de_cut (h := 86) (fun (x : St × Int32) => [.int x.2, .int p_18, .int p_7]) (fun x ls H locs => lv_has ls 3 [(2, .int p_8), (0, .ref (a h0))] ∧ va_P (dC, dI) vwCl (Wd cy a sh n x.1) H ∧ va_D A (Wd cy a sh n x.1) ∧ va_S A s.heap H locs) (fun x => fn_X2_fits_B86 F sh n p_7 p_18 p_8 (fun z9 q1 q2 => fn_X2_fits_L10 F sh n h0 f_10 z9 q1 q2) x.1 x.2) (z8, r8) ?_ (fun B86 => ?_)
        · intro x ls H locs hI hf
          obtain ⟨z_23, p_22⟩ := x
          obtain ⟨hl2, hP2, hD2, hS2⟩ := hI
          replace hl : lv_has ls 3 [(2, .int p_8), (0, .ref (a h0))] := hl2
          replace hP := hP2
          replace hD := hD2
          replace hS := hS2
          clear hl2 hP2 hD2 hS2
          replace hf := fn_X2_fits_B86_s hf
          refine W.eq (g2 := F0 m 86 ls [.int p_22, .int p_18, .int p_7]) rfl ?_
          refine lv_isub hx hb dX2_fits_86 ?_
          refine lv_iadd hx hb dX2_fits_87 ?_
          refine lv_topi (fun v_24 ev_24 => ?_)
          replace hf := lt_at ev_24 hf
          clear ev_24
          refine lv_istore_n (lv' := [(1, .int v_24), (2, .int p_8), (0, .ref (a h0))]) hx hb dX2_fits_88 rfl hl (by decide) rfl (fun ls hl2 => ?_)
          replace hl := hl2
          clear hl2
          refine lv_iinc (v := (p_8 + 1)) (lv' := [(2, .int (p_8 + 1)), (1, .int v_24), (0, .ref (a h0))]) hx hb dX2_fits_89 hl (k := 1) rfl rfl (by decide) rfl (fun ls hl2 => ?_)
          replace hl := hl2
          clear hl2
          refine lv_goto (tgt := 10) hx hb dX2_fits_92 (by decide) ?_
          exact ih10 (z_23, v_24, (p_8 + 1)) ls H locs ⟨lv_sub hl [0, 1, 2] rfl, hP, hD, hS⟩ hf
        refine lv_if_eq (tgt := 85) hx hb dX2_fits_78 (by decide) (fun c_25 => ?_) (fun c_25 => ?_)
        · skip
          rw [if_pos c_25] at hf
          refine lv_iconst (v := 0) hx hb dX2_fits_85 (by decide) ?_
          exact B86 (z_19, 0) ls H locs ⟨lv_sub hl [0, 1] rfl, hP, hD, hS⟩ hf
        · skip
          rw [if_neg c_25] at hf
          refine lv_iconst (v := 1) hx hb dX2_fits_81 (by decide) ?_
          refine lv_goto (tgt := 86) hx hb dX2_fits_82 (by decide) ?_
          exact B86 (z_19, 1) ls H locs ⟨lv_sub hl [0, 1] rfl, hP, hD, hS⟩ hf
      refine lv_if_eq (tgt := 71) hx hb dX2_fits_64 (by decide) (fun c_26 => ?_) (fun c_26 => ?_)
      · skip
        rw [if_pos c_26] at hf
        refine lv_iconst (v := 0) hx hb dX2_fits_71 (by decide) ?_
        exact B72 (z_15, 0) ls H locs ⟨lv_sub hl [0, 2] rfl, hP, hD, hS⟩ hf
      · skip
        rw [if_neg c_26] at hf
        refine lv_iconst (v := 1) hx hb dX2_fits_67 (by decide) ?_
        refine lv_goto (tgt := 72) hx hb dX2_fits_68 (by decide) ?_
        exact B72 (z_15, 1) ls H locs ⟨lv_sub hl [0, 2] rfl, hP, hD, hS⟩ hf
    refine lv_icmp_ne (tgt := 57) hx hb dX2_fits_25 (by decide) (fun c_27 => ?_) (fun c_27 => ?_)
    · skip
      rw [if_neg c_27] at hf
      exact B57 (z_9) ls H locs ⟨lv_sub hl [0, 1, 2] rfl, hP, hD, hS⟩ hf
    · skip
      rw [if_pos c_27] at hf
      refine lv_aload_n hx hb dX2_fits_28 rfl (lv_at hl 2 rfl) ?_
      obtain ⟨k_28, ek_28, hf⟩ := lnk_some hf
      refine va_get (D := (dC, dI)) (ci := 2) (v := .ref (a k_28)) (C := RX2) (T := TX2) (N := 11) hx hb hts iwd_X2_fits_X2 hown hK hP h0 (Wd_ob kg_1 sg_1 (by decide)) rfl 8 (by decide) (hts _ md_X2_fits_4) (fun _ h9 => h9) (fl_q rfl ek_28) dX2_fits_29 ?_
      refine lv_iload_n hx hb dX2_fits_32 rfl (lv_at hl 0 rfl) ?_
      obtain ⟨g_29, hf⟩ := grd_some hf
      obtain ⟨kg_29, sg_29, ig_29⟩ := okA_at g_29
      refine va_zald hx hb hK hP k_28 3 (Wd_az kg_29 sg_29) rfl ig_29 dX2_fits_33 ?_
      refine lv_if_eq (tgt := 57) hx hb dX2_fits_34 (by decide) (fun c_30 => ?_) (fun c_30 => ?_)
      · skip
        rw [if_pos c_30] at hf
        exact B57 (z_9) ls H locs ⟨lv_sub hl [0, 1, 2] rfl, hP, hD, hS⟩ hf
      · skip
        rw [if_neg c_30] at hf
        refine lv_aload_n hx hb dX2_fits_37 rfl (lv_at hl 2 rfl) ?_
        obtain ⟨k_31, ek_31, hf⟩ := lnk_some hf
        refine va_get (D := (dC, dI)) (ci := 2) (v := .ref (a k_31)) (C := RX2) (T := TX2) (N := 11) hx hb hts iwd_X2_fits_X2 hown hK hP h0 (Wd_ob kg_1 sg_1 (by decide)) rfl 1 (by decide) (hts _ md_X2_fits_5) (fun _ h9 => h9) (fl_q rfl ek_31) dX2_fits_38 ?_
        refine lv_aload_n hx hb dX2_fits_41 rfl (lv_at hl 2 rfl) ?_
        obtain ⟨k_32, ek_32, hf⟩ := lnk_some hf
        refine va_get (D := (dC, dI)) (ci := 2) (v := .ref (a k_32)) (C := RX2) (T := TX2) (N := 11) hx hb hts iwd_X2_fits_X2 hown hK hP h0 (Wd_ob kg_1 sg_1 (by decide)) rfl 10 (by decide) (hts _ md_X2_fits_6) (fun _ h9 => h9) (fl_q rfl ek_32) dX2_fits_42 ?_
        refine lv_iload_n hx hb dX2_fits_45 rfl (lv_at hl 0 rfl) ?_
        obtain ⟨g_33, hf⟩ := grd_some hf
        obtain ⟨kg_33, sg_33, ig_33⟩ := okA_at g_33
        refine va_iald hx hb hK hP k_32 1 (Wd_ai kg_33 sg_33) rfl ig_33 dX2_fits_46 ?_
        obtain ⟨g_36, hf⟩ := grd_some hf
        obtain ⟨kg_36, sg_36⟩ := okO_at g_36
        obtain ⟨z_34, r_35, hfc, hf⟩ := cal_some hf
        have hFc := de_free hD hS hA
        refine va_calli (va_runV (As := [.int (z_9.1 k_32 p_8.toNatClampNeg)]) (rest := []) ⟨hx, hb, hml, hown, hts⟩ (de_X1_sizeOf l dC dI cy a sh n H.size F z_9 k_31 (z_9.1 k_32 p_8.toNatClampNeg) hfc) (cwV 1 hts gX2_fits_X1_sizeOf rfl rfl rfl (by decide +kernel) ⟨Nat.le_of_ble_eq_true rfl, Nat.le_of_ble_eq_true rfl⟩) ⟨fun a U g mk q => by obtain ⟨q0, q1, qP, qK, qD, qN⟩ := q; exact ⟨q0, q1, qP, va_K.moved (u := U) (U := U.calling g mk a) (Vm.Alike.refl U.vm) qK, qD, qN.same rfl⟩, va_recv hK hP (ci := 1) (q0 := k_31) rfl (Wd_ob kg_36 sg_36 (by decide)), fun U hU hW => ⟨rfl, by rw [hU], by rw [hU]; exact hP, va_K.moved hW.alike hK, hD.weaken (fun _ _ _ _ => trivial), hN.warm hW⟩⟩ rfl rfl hl.1 rfl (lv_room (Nat.le_of_ble_eq_true rfl)) dX2_fits_47 ⟨Nat.le_of_ble_eq_true rfl, Nat.le_of_ble_eq_true rfl⟩) hS (fun q _ h => hFc q h) hFc (fun rr u t H_37 locs ht hvm hw hB hz1 hk1 hS2 => ?_)
        rw [hw]
        clear hw
        obtain ⟨hP1, -, hD1⟩ := hB
        rw [ht] at hP1
        replace hD := hD1.weaken (fun _ _ _ h => hFc _ h)
        replace hP := hP1
        replace hS := hS2
        clear hP1 hD1 hS2 hFc hfc hz1 hk1 hvm ht
        refine lv_bipush (v := 64) hx hb dX2_fits_50 (by decide) ?_
        refine lv_icmp_le (tgt := 57) hx hb dX2_fits_52 (by decide) (fun c_38 => ?_) (fun c_38 => ?_)
        · skip
          rw [if_pos c_38] at hf
          exact B57 (z_34) ls H_37 locs ⟨lv_sub hl [0, 1, 2] rfl, hP, hD, hS⟩ hf
        · skip
          rw [if_neg c_38] at hf
          refine lv_iconst (v := 0) hx hb dX2_fits_55 (by decide) ?_
          obtain ⟨h8, h9⟩ := ret_some hf
          rw [h8, h9]
          exact W.zret (v := 0) hx hb hr rfl (fun t ht hW => ⟨⟨0, (), rfl, rfl, by rw [ht]; exact hP, va_K.moved hW.alike hK, hD⟩, hS.F ht⟩) hS.2.2 dX2_fits_56

theorem md_X17_reckon_1 : (.fieldLink RX17 7 "ResourceLedgerModel$Wide" "a" "[I" : Cond) ∈ wsX17_reckon := List.mem_of_getElem? (i := 1) rfl
theorem iwd_X17_reckon_X17 : ∀ w ∈ wsX170, w ∈ wsX17_reckon := fun _ h => List.mem_cons_of_mem _ (List.mem_append_right _ h)
theorem md_X17_reckon_2 : (.fieldLink RX17 13 "ResourceLedgerModel$Wide" "b" "[I" : Cond) ∈ wsX17_reckon := List.mem_of_getElem? (i := 2) rfl
set_option maxHeartbeats 4000000 in
set_option maxRecDepth 100000 in
theorem de_X17_reckon (l : Launch) (dC : Nat → ClassId) (dI : Nat → Nat → Nat) (cy : Nat → ClassId) (a : Nat → Nat) (sh : Nat → Nat × Nat) (n sz : Nat) (F : Nat) (z : St) (h0 : Nat) (x0 : Int32) (x1 : Int64) (x2 : Int64) (x3 : Int64) (x4 : Int64) (x5 : Int32) {z8 : St} {r8 : Int32} (hf : fn_X17_reckon F sh n z h0 x0 x1 x2 x3 x4 x5 = some (z8, r8)) : Met l yX17_reckon wsX17_reckon ({ frames := 3, cells := 0, slots := 0, locals := 73 }) (va_Pc [.ref (a h0), .int x0, .long x1, .long x2, .long x3, .long x4, .int x5] (fun U => U.heap.size = sz ∧ va_P (dC, dI) vwCl (Wd cy a sh n z) U.heap ∧ va_K (dC, dI) vwCl (TYS cy) U ∧ va_D (fun _ => True) (Wd cy a sh n z) ∧ NK U)) (va_Qi (fun (r9 : Int32) (u : Unit) => r9 = r8) (fun u t => va_P (dC, dI) vwCl (Wd cy a sh n z8) t.heap ∧ va_K (dC, dI) vwCl (TYS cy) t ∧ va_D (va_A (Wd cy a sh n z) sz) (Wd cy a sh n z8)) (va_A (Wd cy a sh n z) sz)) 0 0 (va_A (Wd cy a sh n z) sz) := by
  refine Met.ofW (cc := cX17_reckon) (maxL := 11) (ret := (some .boolean)) (by decide) rfl ?_
  intro p e s m args below meth c s₁ B hml hv
  obtain ⟨rfl, hsz, hP, hK, hD0, hN⟩ := hv
  have hx := B.exec
  have hb := B.bytes
  have hr := B.returns
  have hts := atoms_spec (ws := wsX17_reckon) B.pre
  have hown : s.vm.findClass RX17 = some m.cls := findClass_of_methodNamed B.named
  have hlocks := B.notSynchronized
  subst hsz
  have hD := hD0.self (sz := s.heap.size)
  clear hD0
  generalize hAe : va_A (Wd cy a sh n z) s.heap.size = A at hD ⊢
  have hA : ∀ q : Nat, s.heap.size ≤ q → A q := fun q h => by rw [← hAe]; exact Or.inr h
  clear hAe
  have hS : va_S A s.heap s.heap [] := va_S.rf
  have hl := lv_entry ([.ref (a h0), .int x0, .long x1, .long x2, .long x3, .long x4, .int x5]) (n := 11) (Nat.le_of_ble_eq_true rfl)
  rw [lg_entry_eq]
  generalize (lg_sl ([.ref (a h0), .int x0, .long x1, .long x2, .long x3, .long x4, .int x5]) ++ List.replicate (11 - (lg_sl ([.ref (a h0), .int x0, .long x1, .long x2, .long x3, .long x4, .int x5])).length) Slot.unset).toArray = ls at hl ⊢
  replace hl : lv_has ls 11 [(0, .ref (a h0)), (1, .int x0), (2, .long x1), (4, .long x2), (6, .long x3), (8, .long x4), (10, .int x5)] := hl
  unfold fn_X17_reckon at hf
  refine de_start hS hP (fun H locs hS hP => ?_)
  refine lv_aload_n hx hb dX17_reckon_0 rfl (lv_at hl 0 rfl) ?_
  obtain ⟨g_1, hf⟩ := grd_some hf
  obtain ⟨kg_1, sg_1⟩ := okO_at g_1
  obtain ⟨k_2, ek_2, hf⟩ := lnk_some hf
  refine va_get (D := (dC, dI)) (ci := 17) (v := .ref (a k_2)) (C := RX17) (T := TX17) (N := 5) hx hb hts iwd_X17_reckon_X17 hown hK hP h0 (Wd_ob kg_1 sg_1 (by decide)) rfl 0 (by decide) (hts _ md_X17_reckon_1) (fun _ h9 => h9) (fl_q rfl ek_2) dX17_reckon_1 ?_
  refine lv_lload_n hx hb dX17_reckon_4 rfl (lv_at hl 2 rfl) ?_
  refine lv_lload hx hb dX17_reckon_5 (lv_at hl 3 rfl) ?_
  obtain ⟨z_3, _u, hfc, hf⟩ := cal_some hf
  have hFc := de_free hD hS hA
  refine va_callv (va_runS (As := [.ref (a k_2), .long x1, .long x2]) (rest := []) ⟨hx, hb, hml, hown, hts⟩ (de_X17_lay l dC dI cy a sh n H.size F z k_2 x1 x2 hfc) (va_cwS 3 hts gX17_reckon_X17_lay rfl rfl rfl (by decide +kernel) ⟨Nat.le_of_ble_eq_true rfl, Nat.le_of_ble_eq_true rfl⟩) ⟨fun a U g mk q => by obtain ⟨q0, q1, qP, qK, qD, qN⟩ := q; exact ⟨q0, q1, qP, va_K.moved (u := U) (U := U.calling g mk a) (Vm.Alike.refl U.vm) qK, qD, qN.same rfl⟩, fun U hU hW => ⟨rfl, by rw [hU], by rw [hU]; exact hP, va_K.moved hW.alike hK, hD.weaken (fun _ _ _ _ => trivial), hN.warm hW⟩⟩ rfl rfl hl.1 rfl (lv_room (Nat.le_of_ble_eq_true rfl)) dX17_reckon_7 ⟨Nat.le_of_ble_eq_true rfl, Nat.le_of_ble_eq_true rfl⟩) hS (fun q _ h => hFc q h) hFc (fun u t H_4 locs ht hvm hw hB hz1 hk1 hS2 => ?_)
  obtain ⟨hP1, -, hD1⟩ := hB
  rw [ht] at hP1
  replace hD := hD1.weaken (fun _ _ _ h => hFc _ h)
  replace hP := hP1
  replace hS := hS2
  clear hP1 hD1 hS2 hFc hfc hz1 hk1 hvm ht
  refine lv_aload_n hx hb dX17_reckon_10 rfl (lv_at hl 0 rfl) ?_
  obtain ⟨k_5, ek_5, hf⟩ := lnk_some hf
  refine va_get (D := (dC, dI)) (ci := 17) (v := .ref (a k_5)) (C := RX17) (T := TX17) (N := 5) hx hb hts iwd_X17_reckon_X17 hown hK hP h0 (Wd_ob kg_1 sg_1 (by decide)) rfl 1 (by decide) (hts _ md_X17_reckon_2) (fun _ h9 => h9) (fl_q rfl ek_5) dX17_reckon_11 ?_
  refine lv_lload hx hb dX17_reckon_14 (lv_at hl 4 rfl) ?_
  refine lv_lload hx hb dX17_reckon_16 (lv_at hl 5 rfl) ?_
  obtain ⟨z_6, _u, hfc, hf⟩ := cal_some hf
  have hFc := de_free hD hS hA
  refine va_callv (va_runS (As := [.ref (a k_5), .long x3, .long x4]) (rest := []) ⟨hx, hb, hml, hown, hts⟩ (de_X17_lay l dC dI cy a sh n H_4.size F z_3 k_5 x3 x4 hfc) (va_cwS 3 hts gX17_reckon_X17_lay rfl rfl rfl (by decide +kernel) ⟨Nat.le_of_ble_eq_true rfl, Nat.le_of_ble_eq_true rfl⟩) ⟨fun a U g mk q => by obtain ⟨q0, q1, qP, qK, qD, qN⟩ := q; exact ⟨q0, q1, qP, va_K.moved (u := U) (U := U.calling g mk a) (Vm.Alike.refl U.vm) qK, qD, qN.same rfl⟩, fun U hU hW => ⟨rfl, by rw [hU], by rw [hU]; exact hP, va_K.moved hW.alike hK, hD.weaken (fun _ _ _ _ => trivial), hN.warm hW⟩⟩ rfl rfl hl.1 rfl (lv_room (Nat.le_of_ble_eq_true rfl)) dX17_reckon_18 ⟨Nat.le_of_ble_eq_true rfl, Nat.le_of_ble_eq_true rfl⟩) hS (fun q _ h => hFc q h) hFc (fun u t H_7 locs ht hvm hw hB hz1 hk1 hS2 => ?_)
  obtain ⟨hP1, -, hD1⟩ := hB
  rw [ht] at hP1
  replace hD := hD1.weaken (fun _ _ _ h => hFc _ h)
  replace hP := hP1
  replace hS := hS2
  clear hP1 hD1 hS2 hFc hfc hz1 hk1 hvm ht
  refine lv_aload_n hx hb dX17_reckon_21 rfl (lv_at hl 0 rfl) ?_
  obtain ⟨z_8, _u, hfc, hf⟩ := cal_some hf
  have hFc := de_free hD hS hA
  refine va_callv (va_runV (As := []) (rest := []) ⟨hx, hb, hml, hown, hts⟩ (de_X17_clear l dC dI cy a sh n H_7.size F z_6 h0 hfc) (cwV 0 hts gX17_reckon_X17_clear rfl rfl rfl (by decide +kernel) ⟨Nat.le_of_ble_eq_true rfl, Nat.le_of_ble_eq_true rfl⟩) ⟨fun a U g mk q => by obtain ⟨q0, q1, qP, qK, qD, qN⟩ := q; exact ⟨q0, q1, qP, va_K.moved (u := U) (U := U.calling g mk a) (Vm.Alike.refl U.vm) qK, qD, qN.same rfl⟩, va_recv hK hP (ci := 17) (q0 := h0) rfl (Wd_ob kg_1 sg_1 (by decide)), fun U hU hW => ⟨rfl, by rw [hU], by rw [hU]; exact hP, va_K.moved hW.alike hK, hD.weaken (fun _ _ _ _ => trivial), hN.warm hW⟩⟩ rfl rfl hl.1 rfl (lv_room (Nat.le_of_ble_eq_true rfl)) dX17_reckon_22 ⟨Nat.le_of_ble_eq_true rfl, Nat.le_of_ble_eq_true rfl⟩) hS (fun q _ h => hFc q h) hFc (fun u t H_9 locs ht hvm hw hB hz1 hk1 hS2 => ?_)
  obtain ⟨hP1, -, hD1⟩ := hB
  rw [ht] at hP1
  replace hD := hD1.weaken (fun _ _ _ h => hFc _ h)
  replace hP := hP1
  replace hS := hS2
  clear hP1 hD1 hS2 hFc hfc hz1 hk1 hvm ht
  refine lv_iload_n hx hb dX17_reckon_25 rfl (lv_at hl 1 rfl) ?_
  refine lv_bipush (v := 24) hx hb dX17_reckon_26 (by decide) ?_
  refine lv_icmp_ne (tgt := 38) hx hb dX17_reckon_28 (by decide) (fun c_10 => ?_) (fun c_10 => ?_)
  · skip
    rw [if_neg c_10] at hf
    refine lv_iload_n hx hb dX17_reckon_38 rfl (lv_at hl 1 rfl) ?_
    refine lv_bipush (v := 25) hx hb dX17_reckon_39 (by decide) ?_
    refine lv_icmp_ne (tgt := 72) hx hb dX17_reckon_41 (by decide) (fun c_11 => ?_) (fun c_11 => ?_)
    · skip
      rw [if_neg c_11] at hf
      refine lv_iload_n hx hb dX17_reckon_72 rfl (lv_at hl 1 rfl) ?_
      refine lv_bipush (v := 26) hx hb dX17_reckon_73 (by decide) ?_
      refine lv_icmp_ne (tgt := 85) hx hb dX17_reckon_75 (by decide) (fun c_12 => ?_) (fun c_12 => ?_)
      · skip
        rw [if_neg c_12] at hf
        refine lv_lload hx hb dX17_reckon_85 (lv_at hl 4 rfl) ?_
        refine lv_lload hx hb dX17_reckon_87 (lv_at hl 5 rfl) ?_
        refine lv_lor hx hb dX17_reckon_89 ?_
        refine lv_lconst (v := 0) hx hb dX17_reckon_90 (by decide) ?_
        refine W.lcmp hx hb dX17_reckon_91 ?_
        refine lv_if_eq (tgt := 119) hx hb dX17_reckon_92 (by decide) (fun c_13 => ?_) (fun c_13 => ?_)
        · skip
          rw [lg_cmp_eq] at c_13
          rw [if_pos c_13] at hf
          refine lv_iconst (v := 0) hx hb dX17_reckon_119 (by decide) ?_
          obtain ⟨h8, h9⟩ := ret_some hf
          rw [h8, h9]
          exact W.zret (v := 0) hx hb hr rfl (fun t ht hW => ⟨⟨0, (), rfl, rfl, by rw [ht]; exact hP, va_K.moved hW.alike hK, hD⟩, hS.F ht⟩) hS.2.2 dX17_reckon_120
        · skip
          rw [lg_cmp_eq] at c_13
          rw [if_neg c_13] at hf
          refine lv_aload_n hx hb dX17_reckon_95 rfl (lv_at hl 0 rfl) ?_
          refine lv_iload_n hx hb dX17_reckon_96 rfl (lv_at hl 1 rfl) ?_
          refine lv_bipush (v := 27) hx hb dX17_reckon_97 (by decide) ?_
          refine de_cut (h := 107) (fun (x : St × Int32) => [.int x.2, .ref (a h0)]) (fun x ls H locs => lv_has ls 11 [(10, .int x5)] ∧ va_P (dC, dI) vwCl (Wd cy a sh n x.1) H ∧ va_D A (Wd cy a sh n x.1) ∧ va_S A s.heap H locs) (fun x => fn_X17_reckon_B107 F sh n h0 x5 x.1 x.2) (z8, r8) ?_ (fun B107 => ?_)
          · intro x ls H locs hI hf
            obtain ⟨z_15, p_14⟩ := x
            obtain ⟨hl2, hP2, hD2, hS2⟩ := hI
            replace hl : lv_has ls 11 [(10, .int x5)] := hl2
            replace hP := hP2
            replace hD := hD2
            replace hS := hS2
            clear hl2 hP2 hD2 hS2
            replace hf := fn_X17_reckon_B107_s hf
            refine W.eq (g2 := F0 m 107 ls [.int p_14, .ref (a h0)]) rfl ?_
            refine lv_iload hx hb dX17_reckon_107 (lv_at hl 0 rfl) ?_
            obtain ⟨z_16, r_17, hfc, hf⟩ := cal_some hf
            have hFc := de_free hD hS hA
            refine va_calli (va_runV (As := [.int p_14, .int x5]) (rest := []) ⟨hx, hb, hml, hown, hts⟩ (de_X17_divide l dC dI cy a sh n H.size F z_15 h0 p_14 x5 hfc) (cwV 2 hts gX17_reckon_X17_divide rfl rfl rfl (by decide +kernel) ⟨Nat.le_of_ble_eq_true rfl, Nat.le_of_ble_eq_true rfl⟩) ⟨fun a U g mk q => by obtain ⟨q0, q1, qP, qK, qD, qN⟩ := q; exact ⟨q0, q1, qP, va_K.moved (u := U) (U := U.calling g mk a) (Vm.Alike.refl U.vm) qK, qD, qN.same rfl⟩, va_recv hK hP (ci := 17) (q0 := h0) rfl (Wd_ob kg_1 sg_1 (by decide)), fun U hU hW => ⟨rfl, by rw [hU], by rw [hU]; exact hP, va_K.moved hW.alike hK, hD.weaken (fun _ _ _ _ => trivial), hN.warm hW⟩⟩ rfl rfl hl.1 rfl (lv_room (Nat.le_of_ble_eq_true rfl)) dX17_reckon_109 ⟨Nat.le_of_ble_eq_true rfl, Nat.le_of_ble_eq_true rfl⟩) hS (fun q _ h => hFc q h) hFc (fun rr u t H_18 locs ht hvm hw hB hz1 hk1 hS2 => ?_)
            rw [hw]
            clear hw
            obtain ⟨hP1, -, hD1⟩ := hB
            rw [ht] at hP1
            replace hD := hD1.weaken (fun _ _ _ h => hFc _ h)
            replace hP := hP1
            replace hS := hS2
            clear hP1 hD1 hS2 hFc hfc hz1 hk1 hvm ht
            refine lv_if_eq (tgt := 119) hx hb dX17_reckon_112 (by decide) (fun c_19 => ?_) (fun c_19 => ?_)
            · skip
              rw [if_pos c_19] at hf
              refine lv_iconst (v := 0) hx hb dX17_reckon_119 (by decide) ?_
              obtain ⟨h8, h9⟩ := ret_some hf
              rw [h8, h9]
              exact W.zret (v := 0) hx hb hr rfl (fun t ht hW => ⟨⟨0, (), rfl, rfl, by rw [ht]; exact hP, va_K.moved hW.alike hK, hD⟩, hS.F ht⟩) hS.2.2 dX17_reckon_120
            · skip
              rw [if_neg c_19] at hf
              refine lv_iconst (v := 1) hx hb dX17_reckon_115 (by decide) ?_
              refine lv_goto (tgt := 120) hx hb dX17_reckon_116 (by decide) ?_
              obtain ⟨h8, h9⟩ := ret_some hf
              rw [h8, h9]
              exact W.zret (v := 1) hx hb hr rfl (fun t ht hW => ⟨⟨1, (), rfl, rfl, by rw [ht]; exact hP, va_K.moved hW.alike hK, hD⟩, hS.F ht⟩) hS.2.2 dX17_reckon_120
          refine lv_icmp_ne (tgt := 106) hx hb dX17_reckon_99 (by decide) (fun c_20 => ?_) (fun c_20 => ?_)
          · skip
            rw [if_neg c_20] at hf
            refine lv_iconst (v := 0) hx hb dX17_reckon_106 (by decide) ?_
            exact B107 (z_8, 0) ls H_9 locs ⟨lv_sub hl [6] rfl, hP, hD, hS⟩ hf
          · skip
            rw [if_pos c_20] at hf
            refine lv_iconst (v := 1) hx hb dX17_reckon_102 (by decide) ?_
            refine lv_goto (tgt := 107) hx hb dX17_reckon_103 (by decide) ?_
            exact B107 (z_8, 1) ls H_9 locs ⟨lv_sub hl [6] rfl, hP, hD, hS⟩ hf
      · skip
        rw [if_pos c_12] at hf
        refine lv_aload_n hx hb dX17_reckon_78 rfl (lv_at hl 0 rfl) ?_
        refine lv_iload hx hb dX17_reckon_79 (lv_at hl 6 rfl) ?_
        obtain ⟨z_21, r_22, hfc, hf⟩ := cal_some hf
        have hFc := de_free hD hS hA
        refine va_calli (va_runV (As := [.int x5]) (rest := []) ⟨hx, hb, hml, hown, hts⟩ (de_X17_multiply l dC dI cy a sh n H_9.size F z_8 h0 x5 hfc) (cwV 1 hts gX17_reckon_X17_multiply rfl rfl rfl (by decide +kernel) ⟨Nat.le_of_ble_eq_true rfl, Nat.le_of_ble_eq_true rfl⟩) ⟨fun a U g mk q => by obtain ⟨q0, q1, qP, qK, qD, qN⟩ := q; exact ⟨q0, q1, qP, va_K.moved (u := U) (U := U.calling g mk a) (Vm.Alike.refl U.vm) qK, qD, qN.same rfl⟩, va_recv hK hP (ci := 17) (q0 := h0) rfl (Wd_ob kg_1 sg_1 (by decide)), fun U hU hW => ⟨rfl, by rw [hU], by rw [hU]; exact hP, va_K.moved hW.alike hK, hD.weaken (fun _ _ _ _ => trivial), hN.warm hW⟩⟩ rfl rfl hl.1 rfl (lv_room (Nat.le_of_ble_eq_true rfl)) dX17_reckon_81 ⟨Nat.le_of_ble_eq_true rfl, Nat.le_of_ble_eq_true rfl⟩) hS (fun q _ h => hFc q h) hFc (fun rr u t H_23 locs ht hvm hw hB hz1 hk1 hS2 => ?_)
        rw [hw]
        clear hw
        obtain ⟨hP1, -, hD1⟩ := hB
        rw [ht] at hP1
        replace hD := hD1.weaken (fun _ _ _ h => hFc _ h)
        replace hP := hP1
        replace hS := hS2
        clear hP1 hD1 hS2 hFc hfc hz1 hk1 hvm ht
        obtain ⟨g_24, hf⟩ := grd_some hf
        obtain ⟨h8, h9⟩ := ret_some hf
        rw [h8, h9]
        exact W.zret (v := r_22) hx hb hr (nar_z g_24) (fun t ht hW => ⟨⟨r_22, (), rfl, rfl, by rw [ht]; exact hP, va_K.moved hW.alike hK, hD⟩, hS.F ht⟩) hS.2.2 dX17_reckon_84
    · skip
      rw [if_pos c_11] at hf
      refine lv_lload_n hx hb dX17_reckon_44 rfl (lv_at hl 2 rfl) ?_
      refine lv_lload hx hb dX17_reckon_45 (lv_at hl 3 rfl) ?_
      refine lv_lload hx hb dX17_reckon_47 (lv_at hl 4 rfl) ?_
      refine lv_lload hx hb dX17_reckon_49 (lv_at hl 5 rfl) ?_
      obtain ⟨z_25, r_26, hfc, hf⟩ := cal_some hf
      have hFc := de_free hD hS hA
      refine va_calli (va_runS (As := [.long x1, .long x2, .long x3, .long x4]) (rest := []) ⟨hx, hb, hml, hown, hts⟩ (de_X17_compare l dC dI cy a sh n H_9.size F z_8 x1 x2 x3 x4 hfc) (va_cwS 4 hts gX17_reckon_X17_compare rfl rfl rfl (by decide +kernel) ⟨Nat.le_of_ble_eq_true rfl, Nat.le_of_ble_eq_true rfl⟩) ⟨fun a U g mk q => by obtain ⟨q0, q1, qP, qK, qD, qN⟩ := q; exact ⟨q0, q1, qP, va_K.moved (u := U) (U := U.calling g mk a) (Vm.Alike.refl U.vm) qK, qD, qN.same rfl⟩, fun U hU hW => ⟨rfl, by rw [hU], by rw [hU]; exact hP, va_K.moved hW.alike hK, hD.weaken (fun _ _ _ _ => trivial), hN.warm hW⟩⟩ rfl rfl hl.1 rfl (lv_room (Nat.le_of_ble_eq_true rfl)) dX17_reckon_51 ⟨Nat.le_of_ble_eq_true rfl, Nat.le_of_ble_eq_true rfl⟩) hS (fun q _ h => hFc q h) hFc (fun rr u t H_27 locs ht hvm hw hB hz1 hk1 hS2 => ?_)
      rw [hw]
      clear hw
      obtain ⟨hP1, -, hD1⟩ := hB
      rw [ht] at hP1
      replace hD := hD1.weaken (fun _ _ _ h => hFc _ h)
      replace hP := hP1
      replace hS := hS2
      clear hP1 hD1 hS2 hFc hfc hz1 hk1 hvm ht
      refine lv_if_lt (tgt := 70) hx hb dX17_reckon_54 (by decide) (fun c_28 => ?_) (fun c_28 => ?_)
      · skip
        rw [if_pos c_28] at hf
        refine lv_iconst (v := 0) hx hb dX17_reckon_70 (by decide) ?_
        obtain ⟨h8, h9⟩ := ret_some hf
        rw [h8, h9]
        exact W.zret (v := 0) hx hb hr rfl (fun t ht hW => ⟨⟨0, (), rfl, rfl, by rw [ht]; exact hP, va_K.moved hW.alike hK, hD⟩, hS.F ht⟩) hS.2.2 dX17_reckon_71
      · skip
        rw [if_neg c_28] at hf
        refine lv_aload_n hx hb dX17_reckon_57 rfl (lv_at hl 0 rfl) ?_
        refine lv_iload hx hb dX17_reckon_58 (lv_at hl 6 rfl) ?_
        obtain ⟨z_29, r_30, hfc, hf⟩ := cal_some hf
        have hFc := de_free hD hS hA
        refine va_calli (va_runV (As := [.int x5]) (rest := []) ⟨hx, hb, hml, hown, hts⟩ (de_X17_subtract l dC dI cy a sh n H_27.size F z_25 h0 x5 hfc) (cwV 1 hts gX17_reckon_X17_subtract rfl rfl rfl (by decide +kernel) ⟨Nat.le_of_ble_eq_true rfl, Nat.le_of_ble_eq_true rfl⟩) ⟨fun a U g mk q => by obtain ⟨q0, q1, qP, qK, qD, qN⟩ := q; exact ⟨q0, q1, qP, va_K.moved (u := U) (U := U.calling g mk a) (Vm.Alike.refl U.vm) qK, qD, qN.same rfl⟩, va_recv hK hP (ci := 17) (q0 := h0) rfl (Wd_ob kg_1 sg_1 (by decide)), fun U hU hW => ⟨rfl, by rw [hU], by rw [hU]; exact hP, va_K.moved hW.alike hK, hD.weaken (fun _ _ _ _ => trivial), hN.warm hW⟩⟩ rfl rfl hl.1 rfl (lv_room (Nat.le_of_ble_eq_true rfl)) dX17_reckon_60 ⟨Nat.le_of_ble_eq_true rfl, Nat.le_of_ble_eq_true rfl⟩) hS (fun q _ h => hFc q h) hFc (fun rr u t H_31 locs ht hvm hw hB hz1 hk1 hS2 => ?_)
        rw [hw]
        clear hw
        obtain ⟨hP1, -, hD1⟩ := hB
        rw [ht] at hP1
        replace hD := hD1.weaken (fun _ _ _ h => hFc _ h)
        replace hP := hP1
        replace hS := hS2
        clear hP1 hD1 hS2 hFc hfc hz1 hk1 hvm ht
        refine lv_if_eq (tgt := 70) hx hb dX17_reckon_63 (by decide) (fun c_32 => ?_) (fun c_32 => ?_)
        · skip
          rw [if_pos c_32] at hf
          refine lv_iconst (v := 0) hx hb dX17_reckon_70 (by decide) ?_
          obtain ⟨h8, h9⟩ := ret_some hf
          rw [h8, h9]
          exact W.zret (v := 0) hx hb hr rfl (fun t ht hW => ⟨⟨0, (), rfl, rfl, by rw [ht]; exact hP, va_K.moved hW.alike hK, hD⟩, hS.F ht⟩) hS.2.2 dX17_reckon_71
        · skip
          rw [if_neg c_32] at hf
          refine lv_iconst (v := 1) hx hb dX17_reckon_66 (by decide) ?_
          refine lv_goto (tgt := 71) hx hb dX17_reckon_67 (by decide) ?_
          obtain ⟨h8, h9⟩ := ret_some hf
          rw [h8, h9]
          exact W.zret (v := 1) hx hb hr rfl (fun t ht hW => ⟨⟨1, (), rfl, rfl, by rw [ht]; exact hP, va_K.moved hW.alike hK, hD⟩, hS.F ht⟩) hS.2.2 dX17_reckon_71
  · skip
    rw [if_pos c_10] at hf
    refine lv_aload_n hx hb dX17_reckon_31 rfl (lv_at hl 0 rfl) ?_
    refine lv_iload hx hb dX17_reckon_32 (lv_at hl 6 rfl) ?_
    obtain ⟨z_33, r_34, hfc, hf⟩ := cal_some hf
    have hFc := de_free hD hS hA
    refine va_calli (va_runV (As := [.int x5]) (rest := []) ⟨hx, hb, hml, hown, hts⟩ (de_X17_add l dC dI cy a sh n H_9.size F z_8 h0 x5 hfc) (cwV 1 hts gX17_reckon_X17_add rfl rfl rfl (by decide +kernel) ⟨Nat.le_of_ble_eq_true rfl, Nat.le_of_ble_eq_true rfl⟩) ⟨fun a U g mk q => by obtain ⟨q0, q1, qP, qK, qD, qN⟩ := q; exact ⟨q0, q1, qP, va_K.moved (u := U) (U := U.calling g mk a) (Vm.Alike.refl U.vm) qK, qD, qN.same rfl⟩, va_recv hK hP (ci := 17) (q0 := h0) rfl (Wd_ob kg_1 sg_1 (by decide)), fun U hU hW => ⟨rfl, by rw [hU], by rw [hU]; exact hP, va_K.moved hW.alike hK, hD.weaken (fun _ _ _ _ => trivial), hN.warm hW⟩⟩ rfl rfl hl.1 rfl (lv_room (Nat.le_of_ble_eq_true rfl)) dX17_reckon_34 ⟨Nat.le_of_ble_eq_true rfl, Nat.le_of_ble_eq_true rfl⟩) hS (fun q _ h => hFc q h) hFc (fun rr u t H_35 locs ht hvm hw hB hz1 hk1 hS2 => ?_)
    rw [hw]
    clear hw
    obtain ⟨hP1, -, hD1⟩ := hB
    rw [ht] at hP1
    replace hD := hD1.weaken (fun _ _ _ h => hFc _ h)
    replace hP := hP1
    replace hS := hS2
    clear hP1 hD1 hS2 hFc hfc hz1 hk1 hvm ht
    obtain ⟨g_36, hf⟩ := grd_some hf
    obtain ⟨h8, h9⟩ := ret_some hf
    rw [h8, h9]
    exact W.zret (v := r_34) hx hb hr (nar_z g_36) (fun t ht hW => ⟨⟨r_34, (), rfl, rfl, by rw [ht]; exact hP, va_K.moved hW.alike hK, hD⟩, hS.F ht⟩) hS.2.2 dX17_reckon_37

theorem tbd_24_30 {x : Int32} (h24 : ¬ x = 24) (h25 : ¬ x = 25) (h26 : ¬ x = 26) (h27 : ¬ x = 27) (h28 : ¬ x = 28) (h29 : ¬ x = 29) (h30 : ¬ x = 30) : x.toInt < 24 ∨ 30 < x.toInt := by
  have a24 : x.toInt ≠ 24 := tbd_ne h24
  have a25 : x.toInt ≠ 25 := tbd_ne h25
  have a26 : x.toInt ≠ 26 := tbd_ne h26
  have a27 : x.toInt ≠ 27 := tbd_ne h27
  have a28 : x.toInt ≠ 28 := tbd_ne h28
  have a29 : x.toInt ≠ 29 := tbd_ne h29
  have a30 : x.toInt ≠ 30 := tbd_ne h30
  omega
theorem md_X4_combine_1 : (.fieldLink RX4 21 "ResourceLedger$Machine" "wide" "LResourceLedger$Wide;" : Cond) ∈ wsX4_combine := List.mem_of_getElem? (i := 1) rfl
theorem iwd_X4_combine_X4 : ∀ w ∈ wsX40, w ∈ wsX4_combine := fun _ h => List.mem_cons_of_mem _ (List.mem_append_left _ (List.mem_append_right _ h))
theorem md_X4_combine_2 : (.fieldLink RX4 359 "ResourceLedger$Wide" "high" "J" : Cond) ∈ wsX4_combine := List.mem_of_getElem? (i := 2) rfl
theorem iwd_X4_combine_X10 : ∀ w ∈ wsX100, w ∈ wsX4_combine := fun _ h => List.mem_cons_of_mem _ (List.mem_append_right _ h)
theorem md_X4_combine_3 : (.fieldLink RX4 361 "ResourceLedger$Wide" "low" "J" : Cond) ∈ wsX4_combine := List.mem_of_getElem? (i := 3) rfl
set_option maxHeartbeats 4000000 in
set_option maxRecDepth 100000 in
theorem de_X4_combine (l : Launch) (dC : Nat → ClassId) (dI : Nat → Nat → Nat) (cy : Nat → ClassId) (a : Nat → Nat) (sh : Nat → Nat × Nat) (n sz : Nat) (F : Nat) (z : St) (h0 : Nat) (x0 : Int32) (x1 : Int64) (x2 : Int64) {z8 : St} {r8 : Unit} (hf : fn_X4_combine F sh n z h0 x0 x1 x2 = some (z8, r8)) : Met l yX4_combine wsX4_combine ({ frames := 3, cells := 0, slots := 0, locals := 77 }) (va_Pc [.ref (a h0), .int x0, .long x1, .long x2] (fun U => U.heap.size = sz ∧ va_P (dC, dI) vwCl (Wd cy a sh n z) U.heap ∧ va_K (dC, dI) vwCl (TYS cy) U ∧ va_D (fun _ => True) (Wd cy a sh n z) ∧ NK U)) (va_Qv (fun u : Unit => True) (fun u t => va_P (dC, dI) vwCl (Wd cy a sh n z8) t.heap ∧ va_K (dC, dI) vwCl (TYS cy) t ∧ va_D (va_A (Wd cy a sh n z) sz) (Wd cy a sh n z8)) (va_A (Wd cy a sh n z) sz)) 0 0 (va_A (Wd cy a sh n z) sz) := by
  refine Met.ofW (cc := cX4_combine) (maxL := 6) (ret := none) (by decide) rfl ?_
  intro p e s m args below meth c s₁ B hml hv
  obtain ⟨rfl, hsz, hP, hK, hD0, hN⟩ := hv
  have hx := B.exec
  have hb := B.bytes
  have hr := B.returns
  have hts := atoms_spec (ws := wsX4_combine) B.pre
  have hown : s.vm.findClass RX4 = some m.cls := findClass_of_methodNamed B.named
  have hlocks := B.notSynchronized
  subst hsz
  have hD := hD0.self (sz := s.heap.size)
  clear hD0
  generalize hAe : va_A (Wd cy a sh n z) s.heap.size = A at hD ⊢
  have hA : ∀ q : Nat, s.heap.size ≤ q → A q := fun q h => by rw [← hAe]; exact Or.inr h
  clear hAe
  have hS : va_S A s.heap s.heap [] := va_S.rf
  have hl := lv_entry ([.ref (a h0), .int x0, .long x1, .long x2]) (n := 6) (Nat.le_of_ble_eq_true rfl)
  rw [lg_entry_eq]
  generalize (lg_sl ([.ref (a h0), .int x0, .long x1, .long x2]) ++ List.replicate (6 - (lg_sl ([.ref (a h0), .int x0, .long x1, .long x2])).length) Slot.unset).toArray = ls at hl ⊢
  replace hl : lv_has ls 6 [(0, .ref (a h0)), (1, .int x0), (2, .long x1), (4, .long x2)] := hl
  unfold fn_X4_combine at hf
  refine de_start hS hP (fun H locs hS hP => ?_)
  refine lv_iload_n hx hb dX4_combine_0 rfl (lv_at hl 1 rfl) ?_
  by_cases c_1 : x0 = 24
  · skip
    rw [if_pos c_1] at hf
    refine lv_tableIn (tgt := 44) hx hb dX4_combine_1 (by rw [c_1]; decide) (by rw [c_1]; decide) (by rw [c_1]; rfl) (by decide) ?_
    refine lv_aload_n hx hb dX4_combine_44 rfl (lv_at hl 0 rfl) ?_
    obtain ⟨g_2, hf⟩ := grd_some hf
    obtain ⟨kg_2, sg_2⟩ := okO_at g_2
    obtain ⟨k_3, ek_3, hf⟩ := lnk_some hf
    refine va_get (D := (dC, dI)) (ci := 4) (v := .ref (a k_3)) (C := RX4) (T := TX4) (N := 18) hx hb hts iwd_X4_combine_X4 hown hK hP h0 (Wd_ob kg_2 sg_2 (by decide)) rfl 3 (by decide) (hts _ md_X4_combine_1) (fun _ h9 => h9) (fl_q rfl ek_3) dX4_combine_45 ?_
    refine lv_lload_n hx hb dX4_combine_48 rfl (lv_at hl 2 rfl) ?_
    refine lv_lload hx hb dX4_combine_49 (lv_at hl 3 rfl) ?_
    obtain ⟨g_5, hf⟩ := grd_some hf
    obtain ⟨kg_5, sg_5⟩ := okO_at g_5
    obtain ⟨z_4, _u, hfc, hf⟩ := cal_some hf
    have hFc := de_free hD hS hA
    refine va_callv (va_runV (As := [.long x1, .long x2]) (rest := []) ⟨hx, hb, hml, hown, hts⟩ (de_X10_add l dC dI cy a sh n H.size F z k_3 x1 x2 hfc) (cwV 2 hts gX4_combine_X10_add rfl rfl rfl (by decide +kernel) ⟨Nat.le_of_ble_eq_true rfl, Nat.le_of_ble_eq_true rfl⟩) ⟨fun a U g mk q => by obtain ⟨q0, q1, qP, qK, qD, qN⟩ := q; exact ⟨q0, q1, qP, va_K.moved (u := U) (U := U.calling g mk a) (Vm.Alike.refl U.vm) qK, qD, qN.same rfl⟩, va_recv hK hP (ci := 10) (q0 := k_3) rfl (Wd_ob kg_5 sg_5 (by decide)), fun U hU hW => ⟨rfl, by rw [hU], by rw [hU]; exact hP, va_K.moved hW.alike hK, hD.weaken (fun _ _ _ _ => trivial), hN.warm hW⟩⟩ rfl rfl hl.1 rfl (lv_room (Nat.le_of_ble_eq_true rfl)) dX4_combine_51 ⟨Nat.le_of_ble_eq_true rfl, Nat.le_of_ble_eq_true rfl⟩) hS (fun q _ h => hFc q h) hFc (fun u t H_6 locs ht hvm hw hB hz1 hk1 hS2 => ?_)
    obtain ⟨hP1, -, hD1⟩ := hB
    rw [ht] at hP1
    replace hD := hD1.weaken (fun _ _ _ h => hFc _ h)
    replace hP := hP1
    replace hS := hS2
    clear hP1 hD1 hS2 hFc hfc hz1 hk1 hvm ht
    refine lv_goto (tgt := 191) hx hb dX4_combine_54 (by decide) ?_
    obtain ⟨h8, h9⟩ := ret_some hf
    rw [h8]
    exact W.vret hx hb hr (fun t ht hW => ⟨⟨(), rfl, trivial, by rw [ht]; exact hP, va_K.moved hW.alike hK, hD⟩, hS.F ht⟩) hS.2.2 dX4_combine_191
  rw [if_neg c_1] at hf
  by_cases c_7 : x0 = 25
  · skip
    rw [if_pos c_7] at hf
    refine lv_tableIn (tgt := 57) hx hb dX4_combine_1 (by rw [c_7]; decide) (by rw [c_7]; decide) (by rw [c_7]; rfl) (by decide) ?_
    refine lv_aload_n hx hb dX4_combine_57 rfl (lv_at hl 0 rfl) ?_
    obtain ⟨g_8, hf⟩ := grd_some hf
    obtain ⟨kg_8, sg_8⟩ := okO_at g_8
    obtain ⟨k_9, ek_9, hf⟩ := lnk_some hf
    refine va_get (D := (dC, dI)) (ci := 4) (v := .ref (a k_9)) (C := RX4) (T := TX4) (N := 18) hx hb hts iwd_X4_combine_X4 hown hK hP h0 (Wd_ob kg_8 sg_8 (by decide)) rfl 3 (by decide) (hts _ md_X4_combine_1) (fun _ h9 => h9) (fl_q rfl ek_9) dX4_combine_58 ?_
    refine lv_lload_n hx hb dX4_combine_61 rfl (lv_at hl 2 rfl) ?_
    refine lv_lload hx hb dX4_combine_62 (lv_at hl 3 rfl) ?_
    obtain ⟨g_11, hf⟩ := grd_some hf
    obtain ⟨kg_11, sg_11⟩ := okO_at g_11
    obtain ⟨z_10, _u, hfc, hf⟩ := cal_some hf
    have hFc := de_free hD hS hA
    refine va_callv (va_runV (As := [.long x1, .long x2]) (rest := []) ⟨hx, hb, hml, hown, hts⟩ (de_X10_subtract l dC dI cy a sh n H.size F z k_9 x1 x2 hfc) (cwV 2 hts gX4_combine_X10_subtract rfl rfl rfl (by decide +kernel) ⟨Nat.le_of_ble_eq_true rfl, Nat.le_of_ble_eq_true rfl⟩) ⟨fun a U g mk q => by obtain ⟨q0, q1, qP, qK, qD, qN⟩ := q; exact ⟨q0, q1, qP, va_K.moved (u := U) (U := U.calling g mk a) (Vm.Alike.refl U.vm) qK, qD, qN.same rfl⟩, va_recv hK hP (ci := 10) (q0 := k_9) rfl (Wd_ob kg_11 sg_11 (by decide)), fun U hU hW => ⟨rfl, by rw [hU], by rw [hU]; exact hP, va_K.moved hW.alike hK, hD.weaken (fun _ _ _ _ => trivial), hN.warm hW⟩⟩ rfl rfl hl.1 rfl (lv_room (Nat.le_of_ble_eq_true rfl)) dX4_combine_64 ⟨Nat.le_of_ble_eq_true rfl, Nat.le_of_ble_eq_true rfl⟩) hS (fun q _ h => hFc q h) hFc (fun u t H_12 locs ht hvm hw hB hz1 hk1 hS2 => ?_)
    obtain ⟨hP1, -, hD1⟩ := hB
    rw [ht] at hP1
    replace hD := hD1.weaken (fun _ _ _ h => hFc _ h)
    replace hP := hP1
    replace hS := hS2
    clear hP1 hD1 hS2 hFc hfc hz1 hk1 hvm ht
    refine lv_goto (tgt := 191) hx hb dX4_combine_67 (by decide) ?_
    obtain ⟨h8, h9⟩ := ret_some hf
    rw [h8]
    exact W.vret hx hb hr (fun t ht hW => ⟨⟨(), rfl, trivial, by rw [ht]; exact hP, va_K.moved hW.alike hK, hD⟩, hS.F ht⟩) hS.2.2 dX4_combine_191
  rw [if_neg c_7] at hf
  by_cases c_13 : x0 = 26
  · skip
    rw [if_pos c_13] at hf
    refine lv_tableIn (tgt := 70) hx hb dX4_combine_1 (by rw [c_13]; decide) (by rw [c_13]; decide) (by rw [c_13]; rfl) (by decide) ?_
    refine lv_aload_n hx hb dX4_combine_70 rfl (lv_at hl 0 rfl) ?_
    obtain ⟨g_14, hf⟩ := grd_some hf
    obtain ⟨kg_14, sg_14⟩ := okO_at g_14
    obtain ⟨k_15, ek_15, hf⟩ := lnk_some hf
    refine va_get (D := (dC, dI)) (ci := 4) (v := .ref (a k_15)) (C := RX4) (T := TX4) (N := 18) hx hb hts iwd_X4_combine_X4 hown hK hP h0 (Wd_ob kg_14 sg_14 (by decide)) rfl 3 (by decide) (hts _ md_X4_combine_1) (fun _ h9 => h9) (fl_q rfl ek_15) dX4_combine_71 ?_
    refine lv_lload_n hx hb dX4_combine_74 rfl (lv_at hl 2 rfl) ?_
    refine lv_lload hx hb dX4_combine_75 (lv_at hl 3 rfl) ?_
    obtain ⟨g_17, hf⟩ := grd_some hf
    obtain ⟨kg_17, sg_17⟩ := okO_at g_17
    obtain ⟨z_16, _u, hfc, hf⟩ := cal_some hf
    have hFc := de_free hD hS hA
    refine va_callv (va_runV (As := [.long x1, .long x2]) (rest := []) ⟨hx, hb, hml, hown, hts⟩ (de_X10_multiply l dC dI cy a sh n H.size F z k_15 x1 x2 hfc) (cwV 2 hts gX4_combine_X10_multiply rfl rfl rfl (by decide +kernel) ⟨Nat.le_of_ble_eq_true rfl, Nat.le_of_ble_eq_true rfl⟩) ⟨fun a U g mk q => by obtain ⟨q0, q1, qP, qK, qD, qN⟩ := q; exact ⟨q0, q1, qP, va_K.moved (u := U) (U := U.calling g mk a) (Vm.Alike.refl U.vm) qK, qD, qN.same rfl⟩, va_recv hK hP (ci := 10) (q0 := k_15) rfl (Wd_ob kg_17 sg_17 (by decide)), fun U hU hW => ⟨rfl, by rw [hU], by rw [hU]; exact hP, va_K.moved hW.alike hK, hD.weaken (fun _ _ _ _ => trivial), hN.warm hW⟩⟩ rfl rfl hl.1 rfl (lv_room (Nat.le_of_ble_eq_true rfl)) dX4_combine_77 ⟨Nat.le_of_ble_eq_true rfl, Nat.le_of_ble_eq_true rfl⟩) hS (fun q _ h => hFc q h) hFc (fun u t H_18 locs ht hvm hw hB hz1 hk1 hS2 => ?_)
    obtain ⟨hP1, -, hD1⟩ := hB
    rw [ht] at hP1
    replace hD := hD1.weaken (fun _ _ _ h => hFc _ h)
    replace hP := hP1
    replace hS := hS2
    clear hP1 hD1 hS2 hFc hfc hz1 hk1 hvm ht
    refine lv_goto (tgt := 191) hx hb dX4_combine_80 (by decide) ?_
    obtain ⟨h8, h9⟩ := ret_some hf
    rw [h8]
    exact W.vret hx hb hr (fun t ht hW => ⟨⟨(), rfl, trivial, by rw [ht]; exact hP, va_K.moved hW.alike hK, hD⟩, hS.F ht⟩) hS.2.2 dX4_combine_191
  rw [if_neg c_13] at hf
  by_cases c_19 : x0 = 27
  · skip
    rw [if_pos c_19] at hf
    refine lv_tableIn (tgt := 83) hx hb dX4_combine_1 (by rw [c_19]; decide) (by rw [c_19]; decide) (by rw [c_19]; rfl) (by decide) ?_
    refine lv_aload_n hx hb dX4_combine_83 rfl (lv_at hl 0 rfl) ?_
    obtain ⟨g_20, hf⟩ := grd_some hf
    obtain ⟨kg_20, sg_20⟩ := okO_at g_20
    obtain ⟨k_21, ek_21, hf⟩ := lnk_some hf
    refine va_get (D := (dC, dI)) (ci := 4) (v := .ref (a k_21)) (C := RX4) (T := TX4) (N := 18) hx hb hts iwd_X4_combine_X4 hown hK hP h0 (Wd_ob kg_20 sg_20 (by decide)) rfl 3 (by decide) (hts _ md_X4_combine_1) (fun _ h9 => h9) (fl_q rfl ek_21) dX4_combine_84 ?_
    refine lv_lload_n hx hb dX4_combine_87 rfl (lv_at hl 2 rfl) ?_
    refine lv_lload hx hb dX4_combine_88 (lv_at hl 3 rfl) ?_
    refine lv_iload_n hx hb dX4_combine_90 rfl (lv_at hl 1 rfl) ?_
    refine lv_bipush (v := 28) hx hb dX4_combine_91 (by decide) ?_
    refine lv_icmp_ne (tgt := 100) hx hb dX4_combine_93 (by decide) (fun c_22 => ?_) (fun c_22 => ?_)
    · skip
      rw [if_neg c_22] at hf
      refine lv_iconst (v := 0) hx hb dX4_combine_100 (by decide) ?_
      obtain ⟨g_24, hf⟩ := grd_some hf
      obtain ⟨kg_24, sg_24⟩ := okO_at g_24
      obtain ⟨z_23, _u, hfc, hf⟩ := cal_some hf
      have hFc := de_free hD hS hA
      refine va_callv (va_runV (As := [.long x1, .long x2, .int 0]) (rest := []) ⟨hx, hb, hml, hown, hts⟩ (de_X10_divide l dC dI cy a sh n H.size F z k_21 x1 x2 0 hfc) (cwV 3 hts gX4_combine_X10_divide rfl rfl rfl (by decide +kernel) ⟨Nat.le_of_ble_eq_true rfl, Nat.le_of_ble_eq_true rfl⟩) ⟨fun a U g mk q => by obtain ⟨q0, q1, qP, qK, qD, qN⟩ := q; exact ⟨q0, q1, qP, va_K.moved (u := U) (U := U.calling g mk a) (Vm.Alike.refl U.vm) qK, qD, qN.same rfl⟩, va_recv hK hP (ci := 10) (q0 := k_21) rfl (Wd_ob kg_24 sg_24 (by decide)), fun U hU hW => ⟨rfl, by rw [hU], by rw [hU]; exact hP, va_K.moved hW.alike hK, hD.weaken (fun _ _ _ _ => trivial), hN.warm hW⟩⟩ rfl rfl hl.1 rfl (lv_room (Nat.le_of_ble_eq_true rfl)) dX4_combine_101 ⟨Nat.le_of_ble_eq_true rfl, Nat.le_of_ble_eq_true rfl⟩) hS (fun q _ h => hFc q h) hFc (fun u t H_25 locs ht hvm hw hB hz1 hk1 hS2 => ?_)
      obtain ⟨hP1, -, hD1⟩ := hB
      rw [ht] at hP1
      replace hD := hD1.weaken (fun _ _ _ h => hFc _ h)
      replace hP := hP1
      replace hS := hS2
      clear hP1 hD1 hS2 hFc hfc hz1 hk1 hvm ht
      refine lv_goto (tgt := 191) hx hb dX4_combine_104 (by decide) ?_
      obtain ⟨h8, h9⟩ := ret_some hf
      rw [h8]
      exact W.vret hx hb hr (fun t ht hW => ⟨⟨(), rfl, trivial, by rw [ht]; exact hP, va_K.moved hW.alike hK, hD⟩, hS.F ht⟩) hS.2.2 dX4_combine_191
    · skip
      rw [if_pos c_22] at hf
      refine lv_iconst (v := 1) hx hb dX4_combine_96 (by decide) ?_
      refine lv_goto (tgt := 101) hx hb dX4_combine_97 (by decide) ?_
      obtain ⟨g_27, hf⟩ := grd_some hf
      obtain ⟨kg_27, sg_27⟩ := okO_at g_27
      obtain ⟨z_26, _u, hfc, hf⟩ := cal_some hf
      have hFc := de_free hD hS hA
      refine va_callv (va_runV (As := [.long x1, .long x2, .int 1]) (rest := []) ⟨hx, hb, hml, hown, hts⟩ (de_X10_divide l dC dI cy a sh n H.size F z k_21 x1 x2 1 hfc) (cwV 3 hts gX4_combine_X10_divide rfl rfl rfl (by decide +kernel) ⟨Nat.le_of_ble_eq_true rfl, Nat.le_of_ble_eq_true rfl⟩) ⟨fun a U g mk q => by obtain ⟨q0, q1, qP, qK, qD, qN⟩ := q; exact ⟨q0, q1, qP, va_K.moved (u := U) (U := U.calling g mk a) (Vm.Alike.refl U.vm) qK, qD, qN.same rfl⟩, va_recv hK hP (ci := 10) (q0 := k_21) rfl (Wd_ob kg_27 sg_27 (by decide)), fun U hU hW => ⟨rfl, by rw [hU], by rw [hU]; exact hP, va_K.moved hW.alike hK, hD.weaken (fun _ _ _ _ => trivial), hN.warm hW⟩⟩ rfl rfl hl.1 rfl (lv_room (Nat.le_of_ble_eq_true rfl)) dX4_combine_101 ⟨Nat.le_of_ble_eq_true rfl, Nat.le_of_ble_eq_true rfl⟩) hS (fun q _ h => hFc q h) hFc (fun u t H_28 locs ht hvm hw hB hz1 hk1 hS2 => ?_)
      obtain ⟨hP1, -, hD1⟩ := hB
      rw [ht] at hP1
      replace hD := hD1.weaken (fun _ _ _ h => hFc _ h)
      replace hP := hP1
      replace hS := hS2
      clear hP1 hD1 hS2 hFc hfc hz1 hk1 hvm ht
      refine lv_goto (tgt := 191) hx hb dX4_combine_104 (by decide) ?_
      obtain ⟨h8, h9⟩ := ret_some hf
      rw [h8]
      exact W.vret hx hb hr (fun t ht hW => ⟨⟨(), rfl, trivial, by rw [ht]; exact hP, va_K.moved hW.alike hK, hD⟩, hS.F ht⟩) hS.2.2 dX4_combine_191
  rw [if_neg c_19] at hf
  by_cases c_29 : x0 = 28
  · skip
    rw [if_pos c_29] at hf
    refine lv_tableIn (tgt := 83) hx hb dX4_combine_1 (by rw [c_29]; decide) (by rw [c_29]; decide) (by rw [c_29]; rfl) (by decide) ?_
    refine lv_aload_n hx hb dX4_combine_83 rfl (lv_at hl 0 rfl) ?_
    obtain ⟨g_30, hf⟩ := grd_some hf
    obtain ⟨kg_30, sg_30⟩ := okO_at g_30
    obtain ⟨k_31, ek_31, hf⟩ := lnk_some hf
    refine va_get (D := (dC, dI)) (ci := 4) (v := .ref (a k_31)) (C := RX4) (T := TX4) (N := 18) hx hb hts iwd_X4_combine_X4 hown hK hP h0 (Wd_ob kg_30 sg_30 (by decide)) rfl 3 (by decide) (hts _ md_X4_combine_1) (fun _ h9 => h9) (fl_q rfl ek_31) dX4_combine_84 ?_
    refine lv_lload_n hx hb dX4_combine_87 rfl (lv_at hl 2 rfl) ?_
    refine lv_lload hx hb dX4_combine_88 (lv_at hl 3 rfl) ?_
    refine lv_iload_n hx hb dX4_combine_90 rfl (lv_at hl 1 rfl) ?_
    refine lv_bipush (v := 28) hx hb dX4_combine_91 (by decide) ?_
    refine lv_icmp_ne (tgt := 100) hx hb dX4_combine_93 (by decide) (fun c_32 => ?_) (fun c_32 => ?_)
    · skip
      rw [if_neg c_32] at hf
      refine lv_iconst (v := 0) hx hb dX4_combine_100 (by decide) ?_
      obtain ⟨g_34, hf⟩ := grd_some hf
      obtain ⟨kg_34, sg_34⟩ := okO_at g_34
      obtain ⟨z_33, _u, hfc, hf⟩ := cal_some hf
      have hFc := de_free hD hS hA
      refine va_callv (va_runV (As := [.long x1, .long x2, .int 0]) (rest := []) ⟨hx, hb, hml, hown, hts⟩ (de_X10_divide l dC dI cy a sh n H.size F z k_31 x1 x2 0 hfc) (cwV 3 hts gX4_combine_X10_divide rfl rfl rfl (by decide +kernel) ⟨Nat.le_of_ble_eq_true rfl, Nat.le_of_ble_eq_true rfl⟩) ⟨fun a U g mk q => by obtain ⟨q0, q1, qP, qK, qD, qN⟩ := q; exact ⟨q0, q1, qP, va_K.moved (u := U) (U := U.calling g mk a) (Vm.Alike.refl U.vm) qK, qD, qN.same rfl⟩, va_recv hK hP (ci := 10) (q0 := k_31) rfl (Wd_ob kg_34 sg_34 (by decide)), fun U hU hW => ⟨rfl, by rw [hU], by rw [hU]; exact hP, va_K.moved hW.alike hK, hD.weaken (fun _ _ _ _ => trivial), hN.warm hW⟩⟩ rfl rfl hl.1 rfl (lv_room (Nat.le_of_ble_eq_true rfl)) dX4_combine_101 ⟨Nat.le_of_ble_eq_true rfl, Nat.le_of_ble_eq_true rfl⟩) hS (fun q _ h => hFc q h) hFc (fun u t H_35 locs ht hvm hw hB hz1 hk1 hS2 => ?_)
      obtain ⟨hP1, -, hD1⟩ := hB
      rw [ht] at hP1
      replace hD := hD1.weaken (fun _ _ _ h => hFc _ h)
      replace hP := hP1
      replace hS := hS2
      clear hP1 hD1 hS2 hFc hfc hz1 hk1 hvm ht
      refine lv_goto (tgt := 191) hx hb dX4_combine_104 (by decide) ?_
      obtain ⟨h8, h9⟩ := ret_some hf
      rw [h8]
      exact W.vret hx hb hr (fun t ht hW => ⟨⟨(), rfl, trivial, by rw [ht]; exact hP, va_K.moved hW.alike hK, hD⟩, hS.F ht⟩) hS.2.2 dX4_combine_191
    · skip
      rw [if_pos c_32] at hf
      refine lv_iconst (v := 1) hx hb dX4_combine_96 (by decide) ?_
      refine lv_goto (tgt := 101) hx hb dX4_combine_97 (by decide) ?_
      obtain ⟨g_37, hf⟩ := grd_some hf
      obtain ⟨kg_37, sg_37⟩ := okO_at g_37
      obtain ⟨z_36, _u, hfc, hf⟩ := cal_some hf
      have hFc := de_free hD hS hA
      refine va_callv (va_runV (As := [.long x1, .long x2, .int 1]) (rest := []) ⟨hx, hb, hml, hown, hts⟩ (de_X10_divide l dC dI cy a sh n H.size F z k_31 x1 x2 1 hfc) (cwV 3 hts gX4_combine_X10_divide rfl rfl rfl (by decide +kernel) ⟨Nat.le_of_ble_eq_true rfl, Nat.le_of_ble_eq_true rfl⟩) ⟨fun a U g mk q => by obtain ⟨q0, q1, qP, qK, qD, qN⟩ := q; exact ⟨q0, q1, qP, va_K.moved (u := U) (U := U.calling g mk a) (Vm.Alike.refl U.vm) qK, qD, qN.same rfl⟩, va_recv hK hP (ci := 10) (q0 := k_31) rfl (Wd_ob kg_37 sg_37 (by decide)), fun U hU hW => ⟨rfl, by rw [hU], by rw [hU]; exact hP, va_K.moved hW.alike hK, hD.weaken (fun _ _ _ _ => trivial), hN.warm hW⟩⟩ rfl rfl hl.1 rfl (lv_room (Nat.le_of_ble_eq_true rfl)) dX4_combine_101 ⟨Nat.le_of_ble_eq_true rfl, Nat.le_of_ble_eq_true rfl⟩) hS (fun q _ h => hFc q h) hFc (fun u t H_38 locs ht hvm hw hB hz1 hk1 hS2 => ?_)
      obtain ⟨hP1, -, hD1⟩ := hB
      rw [ht] at hP1
      replace hD := hD1.weaken (fun _ _ _ h => hFc _ h)
      replace hP := hP1
      replace hS := hS2
      clear hP1 hD1 hS2 hFc hfc hz1 hk1 hvm ht
      refine lv_goto (tgt := 191) hx hb dX4_combine_104 (by decide) ?_
      obtain ⟨h8, h9⟩ := ret_some hf
      rw [h8]
      exact W.vret hx hb hr (fun t ht hW => ⟨⟨(), rfl, trivial, by rw [ht]; exact hP, va_K.moved hW.alike hK, hD⟩, hS.F ht⟩) hS.2.2 dX4_combine_191
  rw [if_neg c_29] at hf
  by_cases c_39 : x0 = 29
  · skip
    rw [if_pos c_39] at hf
    refine lv_tableIn (tgt := 107) hx hb dX4_combine_1 (by rw [c_39]; decide) (by rw [c_39]; decide) (by rw [c_39]; rfl) (by decide) ?_
    refine lv_aload_n hx hb dX4_combine_107 rfl (lv_at hl 0 rfl) ?_
    obtain ⟨g_40, hf⟩ := grd_some hf
    obtain ⟨kg_40, sg_40⟩ := okO_at g_40
    obtain ⟨k_41, ek_41, hf⟩ := lnk_some hf
    refine va_get (D := (dC, dI)) (ci := 4) (v := .ref (a k_41)) (C := RX4) (T := TX4) (N := 18) hx hb hts iwd_X4_combine_X4 hown hK hP h0 (Wd_ob kg_40 sg_40 (by decide)) rfl 3 (by decide) (hts _ md_X4_combine_1) (fun _ h9 => h9) (fl_q rfl ek_41) dX4_combine_108 ?_
    refine lv_aload_n hx hb dX4_combine_111 rfl (lv_at hl 0 rfl) ?_
    obtain ⟨k_42, ek_42, hf⟩ := lnk_some hf
    refine va_get (D := (dC, dI)) (ci := 4) (v := .ref (a k_42)) (C := RX4) (T := TX4) (N := 18) hx hb hts iwd_X4_combine_X4 hown hK hP h0 (Wd_ob kg_40 sg_40 (by decide)) rfl 3 (by decide) (hts _ md_X4_combine_1) (fun _ h9 => h9) (fl_q rfl ek_42) dX4_combine_112 ?_
    obtain ⟨g_43, hf⟩ := grd_some hf
    obtain ⟨kg_43, sg_43⟩ := okO_at g_43
    refine va_get (D := (dC, dI)) (ci := 10) (v := .long (z.2.1 k_42 0)) (C := RX10) (T := TX10) (N := 5) hx hb hts iwd_X4_combine_X10 hown hK hP k_42 (Wd_ob kg_43 sg_43 (by decide)) rfl 0 (by decide) (hts _ md_X4_combine_2) (fun _ h9 => h9) (fl_at (t := 1) rfl) dX4_combine_115 ?_
    refine lv_lload_n hx hb dX4_combine_118 rfl (lv_at hl 2 rfl) ?_
    refine lv_land hx hb dX4_combine_119 ?_
    refine lv_aload_n hx hb dX4_combine_120 rfl (lv_at hl 0 rfl) ?_
    obtain ⟨k_44, ek_44, hf⟩ := lnk_some hf
    refine va_get (D := (dC, dI)) (ci := 4) (v := .ref (a k_44)) (C := RX4) (T := TX4) (N := 18) hx hb hts iwd_X4_combine_X4 hown hK hP h0 (Wd_ob kg_40 sg_40 (by decide)) rfl 3 (by decide) (hts _ md_X4_combine_1) (fun _ h9 => h9) (fl_q rfl ek_44) dX4_combine_121 ?_
    obtain ⟨g_45, hf⟩ := grd_some hf
    obtain ⟨kg_45, sg_45⟩ := okO_at g_45
    refine va_get (D := (dC, dI)) (ci := 10) (v := .long (z.2.1 k_44 1)) (C := RX10) (T := TX10) (N := 5) hx hb hts iwd_X4_combine_X10 hown hK hP k_44 (Wd_ob kg_45 sg_45 (by decide)) rfl 1 (by decide) (hts _ md_X4_combine_3) (fun _ h9 => h9) (fl_at (t := 1) rfl) dX4_combine_124 ?_
    refine lv_lload hx hb dX4_combine_127 (lv_at hl 3 rfl) ?_
    refine lv_land hx hb dX4_combine_129 ?_
    obtain ⟨g_47, hf⟩ := grd_some hf
    obtain ⟨kg_47, sg_47⟩ := okO_at g_47
    obtain ⟨z_46, _u, hfc, hf⟩ := cal_some hf
    have hFc := de_free hD hS hA
    refine va_callv (va_runV (As := [.long ((z.2.1 k_42 0) &&& x1), .long ((z.2.1 k_44 1) &&& x2)]) (rest := []) ⟨hx, hb, hml, hown, hts⟩ (de_X10_set l dC dI cy a sh n H.size F z k_41 ((z.2.1 k_42 0) &&& x1) ((z.2.1 k_44 1) &&& x2) hfc) (cwV 2 hts gX4_combine_X10_set rfl rfl rfl (by decide +kernel) ⟨Nat.le_of_ble_eq_true rfl, Nat.le_of_ble_eq_true rfl⟩) ⟨fun a U g mk q => by obtain ⟨q0, q1, qP, qK, qD, qN⟩ := q; exact ⟨q0, q1, qP, va_K.moved (u := U) (U := U.calling g mk a) (Vm.Alike.refl U.vm) qK, qD, qN.same rfl⟩, va_recv hK hP (ci := 10) (q0 := k_41) rfl (Wd_ob kg_47 sg_47 (by decide)), fun U hU hW => ⟨rfl, by rw [hU], by rw [hU]; exact hP, va_K.moved hW.alike hK, hD.weaken (fun _ _ _ _ => trivial), hN.warm hW⟩⟩ rfl rfl hl.1 rfl (lv_room (Nat.le_of_ble_eq_true rfl)) dX4_combine_130 ⟨Nat.le_of_ble_eq_true rfl, Nat.le_of_ble_eq_true rfl⟩) hS (fun q _ h => hFc q h) hFc (fun u t H_48 locs ht hvm hw hB hz1 hk1 hS2 => ?_)
    obtain ⟨hP1, -, hD1⟩ := hB
    rw [ht] at hP1
    replace hD := hD1.weaken (fun _ _ _ h => hFc _ h)
    replace hP := hP1
    replace hS := hS2
    clear hP1 hD1 hS2 hFc hfc hz1 hk1 hvm ht
    refine lv_goto (tgt := 191) hx hb dX4_combine_133 (by decide) ?_
    obtain ⟨h8, h9⟩ := ret_some hf
    rw [h8]
    exact W.vret hx hb hr (fun t ht hW => ⟨⟨(), rfl, trivial, by rw [ht]; exact hP, va_K.moved hW.alike hK, hD⟩, hS.F ht⟩) hS.2.2 dX4_combine_191
  rw [if_neg c_39] at hf
  by_cases c_49 : x0 = 30
  · skip
    rw [if_pos c_49] at hf
    refine lv_tableIn (tgt := 136) hx hb dX4_combine_1 (by rw [c_49]; decide) (by rw [c_49]; decide) (by rw [c_49]; rfl) (by decide) ?_
    refine lv_aload_n hx hb dX4_combine_136 rfl (lv_at hl 0 rfl) ?_
    obtain ⟨g_50, hf⟩ := grd_some hf
    obtain ⟨kg_50, sg_50⟩ := okO_at g_50
    obtain ⟨k_51, ek_51, hf⟩ := lnk_some hf
    refine va_get (D := (dC, dI)) (ci := 4) (v := .ref (a k_51)) (C := RX4) (T := TX4) (N := 18) hx hb hts iwd_X4_combine_X4 hown hK hP h0 (Wd_ob kg_50 sg_50 (by decide)) rfl 3 (by decide) (hts _ md_X4_combine_1) (fun _ h9 => h9) (fl_q rfl ek_51) dX4_combine_137 ?_
    refine lv_aload_n hx hb dX4_combine_140 rfl (lv_at hl 0 rfl) ?_
    obtain ⟨k_52, ek_52, hf⟩ := lnk_some hf
    refine va_get (D := (dC, dI)) (ci := 4) (v := .ref (a k_52)) (C := RX4) (T := TX4) (N := 18) hx hb hts iwd_X4_combine_X4 hown hK hP h0 (Wd_ob kg_50 sg_50 (by decide)) rfl 3 (by decide) (hts _ md_X4_combine_1) (fun _ h9 => h9) (fl_q rfl ek_52) dX4_combine_141 ?_
    obtain ⟨g_53, hf⟩ := grd_some hf
    obtain ⟨kg_53, sg_53⟩ := okO_at g_53
    refine va_get (D := (dC, dI)) (ci := 10) (v := .long (z.2.1 k_52 0)) (C := RX10) (T := TX10) (N := 5) hx hb hts iwd_X4_combine_X10 hown hK hP k_52 (Wd_ob kg_53 sg_53 (by decide)) rfl 0 (by decide) (hts _ md_X4_combine_2) (fun _ h9 => h9) (fl_at (t := 1) rfl) dX4_combine_144 ?_
    refine lv_lload_n hx hb dX4_combine_147 rfl (lv_at hl 2 rfl) ?_
    refine lv_lor hx hb dX4_combine_148 ?_
    refine lv_aload_n hx hb dX4_combine_149 rfl (lv_at hl 0 rfl) ?_
    obtain ⟨k_54, ek_54, hf⟩ := lnk_some hf
    refine va_get (D := (dC, dI)) (ci := 4) (v := .ref (a k_54)) (C := RX4) (T := TX4) (N := 18) hx hb hts iwd_X4_combine_X4 hown hK hP h0 (Wd_ob kg_50 sg_50 (by decide)) rfl 3 (by decide) (hts _ md_X4_combine_1) (fun _ h9 => h9) (fl_q rfl ek_54) dX4_combine_150 ?_
    obtain ⟨g_55, hf⟩ := grd_some hf
    obtain ⟨kg_55, sg_55⟩ := okO_at g_55
    refine va_get (D := (dC, dI)) (ci := 10) (v := .long (z.2.1 k_54 1)) (C := RX10) (T := TX10) (N := 5) hx hb hts iwd_X4_combine_X10 hown hK hP k_54 (Wd_ob kg_55 sg_55 (by decide)) rfl 1 (by decide) (hts _ md_X4_combine_3) (fun _ h9 => h9) (fl_at (t := 1) rfl) dX4_combine_153 ?_
    refine lv_lload hx hb dX4_combine_156 (lv_at hl 3 rfl) ?_
    refine lv_lor hx hb dX4_combine_158 ?_
    obtain ⟨g_57, hf⟩ := grd_some hf
    obtain ⟨kg_57, sg_57⟩ := okO_at g_57
    obtain ⟨z_56, _u, hfc, hf⟩ := cal_some hf
    have hFc := de_free hD hS hA
    refine va_callv (va_runV (As := [.long ((z.2.1 k_52 0) ||| x1), .long ((z.2.1 k_54 1) ||| x2)]) (rest := []) ⟨hx, hb, hml, hown, hts⟩ (de_X10_set l dC dI cy a sh n H.size F z k_51 ((z.2.1 k_52 0) ||| x1) ((z.2.1 k_54 1) ||| x2) hfc) (cwV 2 hts gX4_combine_X10_set rfl rfl rfl (by decide +kernel) ⟨Nat.le_of_ble_eq_true rfl, Nat.le_of_ble_eq_true rfl⟩) ⟨fun a U g mk q => by obtain ⟨q0, q1, qP, qK, qD, qN⟩ := q; exact ⟨q0, q1, qP, va_K.moved (u := U) (U := U.calling g mk a) (Vm.Alike.refl U.vm) qK, qD, qN.same rfl⟩, va_recv hK hP (ci := 10) (q0 := k_51) rfl (Wd_ob kg_57 sg_57 (by decide)), fun U hU hW => ⟨rfl, by rw [hU], by rw [hU]; exact hP, va_K.moved hW.alike hK, hD.weaken (fun _ _ _ _ => trivial), hN.warm hW⟩⟩ rfl rfl hl.1 rfl (lv_room (Nat.le_of_ble_eq_true rfl)) dX4_combine_159 ⟨Nat.le_of_ble_eq_true rfl, Nat.le_of_ble_eq_true rfl⟩) hS (fun q _ h => hFc q h) hFc (fun u t H_58 locs ht hvm hw hB hz1 hk1 hS2 => ?_)
    obtain ⟨hP1, -, hD1⟩ := hB
    rw [ht] at hP1
    replace hD := hD1.weaken (fun _ _ _ h => hFc _ h)
    replace hP := hP1
    replace hS := hS2
    clear hP1 hD1 hS2 hFc hfc hz1 hk1 hvm ht
    refine lv_goto (tgt := 191) hx hb dX4_combine_162 (by decide) ?_
    obtain ⟨h8, h9⟩ := ret_some hf
    rw [h8]
    exact W.vret hx hb hr (fun t ht hW => ⟨⟨(), rfl, trivial, by rw [ht]; exact hP, va_K.moved hW.alike hK, hD⟩, hS.F ht⟩) hS.2.2 dX4_combine_191
  rw [if_neg c_49] at hf
  refine lv_tableOut (tgt := 165) hx hb dX4_combine_1 (tbd_24_30 c_1 c_7 c_13 c_19 c_29 c_39 c_49) (by decide) ?_
  refine lv_aload_n hx hb dX4_combine_165 rfl (lv_at hl 0 rfl) ?_
  obtain ⟨g_59, hf⟩ := grd_some hf
  obtain ⟨kg_59, sg_59⟩ := okO_at g_59
  obtain ⟨k_60, ek_60, hf⟩ := lnk_some hf
  refine va_get (D := (dC, dI)) (ci := 4) (v := .ref (a k_60)) (C := RX4) (T := TX4) (N := 18) hx hb hts iwd_X4_combine_X4 hown hK hP h0 (Wd_ob kg_59 sg_59 (by decide)) rfl 3 (by decide) (hts _ md_X4_combine_1) (fun _ h9 => h9) (fl_q rfl ek_60) dX4_combine_166 ?_
  refine lv_aload_n hx hb dX4_combine_169 rfl (lv_at hl 0 rfl) ?_
  obtain ⟨k_61, ek_61, hf⟩ := lnk_some hf
  refine va_get (D := (dC, dI)) (ci := 4) (v := .ref (a k_61)) (C := RX4) (T := TX4) (N := 18) hx hb hts iwd_X4_combine_X4 hown hK hP h0 (Wd_ob kg_59 sg_59 (by decide)) rfl 3 (by decide) (hts _ md_X4_combine_1) (fun _ h9 => h9) (fl_q rfl ek_61) dX4_combine_170 ?_
  obtain ⟨g_62, hf⟩ := grd_some hf
  obtain ⟨kg_62, sg_62⟩ := okO_at g_62
  refine va_get (D := (dC, dI)) (ci := 10) (v := .long (z.2.1 k_61 0)) (C := RX10) (T := TX10) (N := 5) hx hb hts iwd_X4_combine_X10 hown hK hP k_61 (Wd_ob kg_62 sg_62 (by decide)) rfl 0 (by decide) (hts _ md_X4_combine_2) (fun _ h9 => h9) (fl_at (t := 1) rfl) dX4_combine_173 ?_
  refine lv_lload_n hx hb dX4_combine_176 rfl (lv_at hl 2 rfl) ?_
  refine lv_lxor hx hb dX4_combine_177 ?_
  refine lv_aload_n hx hb dX4_combine_178 rfl (lv_at hl 0 rfl) ?_
  obtain ⟨k_63, ek_63, hf⟩ := lnk_some hf
  refine va_get (D := (dC, dI)) (ci := 4) (v := .ref (a k_63)) (C := RX4) (T := TX4) (N := 18) hx hb hts iwd_X4_combine_X4 hown hK hP h0 (Wd_ob kg_59 sg_59 (by decide)) rfl 3 (by decide) (hts _ md_X4_combine_1) (fun _ h9 => h9) (fl_q rfl ek_63) dX4_combine_179 ?_
  obtain ⟨g_64, hf⟩ := grd_some hf
  obtain ⟨kg_64, sg_64⟩ := okO_at g_64
  refine va_get (D := (dC, dI)) (ci := 10) (v := .long (z.2.1 k_63 1)) (C := RX10) (T := TX10) (N := 5) hx hb hts iwd_X4_combine_X10 hown hK hP k_63 (Wd_ob kg_64 sg_64 (by decide)) rfl 1 (by decide) (hts _ md_X4_combine_3) (fun _ h9 => h9) (fl_at (t := 1) rfl) dX4_combine_182 ?_
  refine lv_lload hx hb dX4_combine_185 (lv_at hl 3 rfl) ?_
  refine lv_lxor hx hb dX4_combine_187 ?_
  obtain ⟨g_66, hf⟩ := grd_some hf
  obtain ⟨kg_66, sg_66⟩ := okO_at g_66
  obtain ⟨z_65, _u, hfc, hf⟩ := cal_some hf
  have hFc := de_free hD hS hA
  refine va_callv (va_runV (As := [.long ((z.2.1 k_61 0) ^^^ x1), .long ((z.2.1 k_63 1) ^^^ x2)]) (rest := []) ⟨hx, hb, hml, hown, hts⟩ (de_X10_set l dC dI cy a sh n H.size F z k_60 ((z.2.1 k_61 0) ^^^ x1) ((z.2.1 k_63 1) ^^^ x2) hfc) (cwV 2 hts gX4_combine_X10_set rfl rfl rfl (by decide +kernel) ⟨Nat.le_of_ble_eq_true rfl, Nat.le_of_ble_eq_true rfl⟩) ⟨fun a U g mk q => by obtain ⟨q0, q1, qP, qK, qD, qN⟩ := q; exact ⟨q0, q1, qP, va_K.moved (u := U) (U := U.calling g mk a) (Vm.Alike.refl U.vm) qK, qD, qN.same rfl⟩, va_recv hK hP (ci := 10) (q0 := k_60) rfl (Wd_ob kg_66 sg_66 (by decide)), fun U hU hW => ⟨rfl, by rw [hU], by rw [hU]; exact hP, va_K.moved hW.alike hK, hD.weaken (fun _ _ _ _ => trivial), hN.warm hW⟩⟩ rfl rfl hl.1 rfl (lv_room (Nat.le_of_ble_eq_true rfl)) dX4_combine_188 ⟨Nat.le_of_ble_eq_true rfl, Nat.le_of_ble_eq_true rfl⟩) hS (fun q _ h => hFc q h) hFc (fun u t H_67 locs ht hvm hw hB hz1 hk1 hS2 => ?_)
  obtain ⟨hP1, -, hD1⟩ := hB
  rw [ht] at hP1
  replace hD := hD1.weaken (fun _ _ _ h => hFc _ h)
  replace hP := hP1
  replace hS := hS2
  clear hP1 hD1 hS2 hFc hfc hz1 hk1 hvm ht
  obtain ⟨h8, h9⟩ := ret_some hf
  rw [h8]
  exact W.vret hx hb hr (fun t ht hW => ⟨⟨(), rfl, trivial, by rw [ht]; exact hP, va_K.moved hW.alike hK, hD⟩, hS.F ht⟩) hS.2.2 dX4_combine_191

theorem md_X3_giveBack_1 : (.fieldLink RX3 95 "ResourceLedger$Looker" "depth" "I" : Cond) ∈ wsX3_giveBack := List.mem_of_getElem? (i := 1) rfl
theorem iwd_X3_giveBack_X3 : ∀ w ∈ wsX30, w ∈ wsX3_giveBack := fun _ h => List.mem_cons_of_mem _ (List.mem_append_left _ (List.mem_append_right _ h))
theorem md_X3_giveBack_2 : (.fieldLink RX3 44 "ResourceLedger$Looker" "p" "LResourceLedger$Program;" : Cond) ∈ wsX3_giveBack := List.mem_of_getElem? (i := 2) rfl
theorem md_X3_giveBack_3 : (.fieldLink RX3 77 "ResourceLedger$Looker" "function" "I" : Cond) ∈ wsX3_giveBack := List.mem_of_getElem? (i := 3) rfl
theorem md_X3_giveBack_7 : (.fieldLink RX3 105 "ResourceLedger$Looker" "there" "J" : Cond) ∈ wsX3_giveBack := List.mem_of_getElem? (i := 7) rfl
theorem md_X3_giveBack_8 : (.fieldLink RX3 108 "ResourceLedger$Looker" "droppable" "J" : Cond) ∈ wsX3_giveBack := List.mem_of_getElem? (i := 8) rfl
theorem md_X3_giveBack_9 : (.constantLong RX3 185 (-1) : Cond) ∈ wsX3_giveBack := List.mem_of_getElem? (i := 9) rfl
theorem md_X3_giveBack_4 : (.fieldLink RX3 11 "ResourceLedger$Looker" "stackType" "[J" : Cond) ∈ wsX3_giveBack := List.mem_of_getElem? (i := 4) rfl
theorem md_X3_giveBack_5 : (.fieldLink RX3 15 "ResourceLedger$Looker" "stackOrigins" "[J" : Cond) ∈ wsX3_giveBack := List.mem_of_getElem? (i := 5) rfl
theorem md_X3_giveBack_6 : (.constantLong RX3 231 (-280375465082881) : Cond) ∈ wsX3_giveBack := List.mem_of_getElem? (i := 6) rfl
set_option maxHeartbeats 4000000 in
set_option maxRecDepth 100000 in
theorem de_X3_giveBack (l : Launch) (dC : Nat → ClassId) (dI : Nat → Nat → Nat) (cy : Nat → ClassId) (a : Nat → Nat) (sh : Nat → Nat × Nat) (n sz : Nat) (F : Nat) (z : St) (h0 : Nat) {z8 : St} {r8 : Unit} (hf : fn_X3_giveBack F sh n z h0 = some (z8, r8)) : Met l yX3_giveBack wsX3_giveBack ({ frames := 3, cells := 0, slots := 0, locals := 66 }) (va_Pc [.ref (a h0)] (fun U => U.heap.size = sz ∧ va_P (dC, dI) vwCl (Wd cy a sh n z) U.heap ∧ va_K (dC, dI) vwCl (TYS cy) U ∧ va_D (fun _ => True) (Wd cy a sh n z) ∧ NK U)) (va_Qv (fun u : Unit => True) (fun u t => va_P (dC, dI) vwCl (Wd cy a sh n z8) t.heap ∧ va_K (dC, dI) vwCl (TYS cy) t ∧ va_D (va_A (Wd cy a sh n z) sz) (Wd cy a sh n z8)) (va_A (Wd cy a sh n z) sz)) 0 0 (va_A (Wd cy a sh n z) sz) := by
  refine Met.ofW (cc := cX3_giveBack) (maxL := 4) (ret := none) (by decide) rfl ?_
  intro p e s m args below meth c s₁ B hml hv
  obtain ⟨rfl, hsz, hP, hK, hD0, hN⟩ := hv
  have hx := B.exec
  have hb := B.bytes
  have hr := B.returns
  have hts := atoms_spec (ws := wsX3_giveBack) B.pre
  have hown : s.vm.findClass RX3 = some m.cls := findClass_of_methodNamed B.named
  have hlocks := B.notSynchronized
  subst hsz
  have hD := hD0.self (sz := s.heap.size)
  clear hD0
  generalize hAe : va_A (Wd cy a sh n z) s.heap.size = A at hD ⊢
  have hA : ∀ q : Nat, s.heap.size ≤ q → A q := fun q h => by rw [← hAe]; exact Or.inr h
  clear hAe
  have hS : va_S A s.heap s.heap [] := va_S.rf
  have hl := lv_entry ([.ref (a h0)]) (n := 4) (Nat.le_of_ble_eq_true rfl)
  rw [lg_entry_eq]
  generalize (lg_sl ([.ref (a h0)]) ++ List.replicate (4 - (lg_sl ([.ref (a h0)])).length) Slot.unset).toArray = ls at hl ⊢
  replace hl : lv_has ls 4 [(0, .ref (a h0))] := hl
  unfold fn_X3_giveBack at hf
  refine de_start hS hP (fun H locs hS hP => ?_)
  refine lv_aload_n hx hb dX3_giveBack_0 rfl (lv_at hl 0 rfl) ?_
  obtain ⟨g_1, hf⟩ := grd_some hf
  obtain ⟨kg_1, sg_1⟩ := okO_at g_1
  refine va_get (D := (dC, dI)) (ci := 3) (v := .int (z.1 h0 8)) (C := RX3) (T := TX3) (N := 22) hx hb hts iwd_X3_giveBack_X3 hown hK hP h0 (Wd_ob kg_1 sg_1 (by decide)) rfl 8 (by decide) (hts _ md_X3_giveBack_1) (fun _ h9 => h9) (fl_at (t := 0) rfl) dX3_giveBack_1 ?_
  refine lv_aload_n hx hb dX3_giveBack_4 rfl (lv_at hl 0 rfl) ?_
  obtain ⟨k_2, ek_2, hf⟩ := lnk_some hf
  refine va_get (D := (dC, dI)) (ci := 3) (v := .ref (a k_2)) (C := RX3) (T := TX3) (N := 22) hx hb hts iwd_X3_giveBack_X3 hown hK hP h0 (Wd_ob kg_1 sg_1 (by decide)) rfl 2 (by decide) (hts _ md_X3_giveBack_2) (fun _ h9 => h9) (fl_q rfl ek_2) dX3_giveBack_5 ?_
  refine lv_aload_n hx hb dX3_giveBack_8 rfl (lv_at hl 0 rfl) ?_
  refine va_get (D := (dC, dI)) (ci := 3) (v := .int (z.1 h0 3)) (C := RX3) (T := TX3) (N := 22) hx hb hts iwd_X3_giveBack_X3 hown hK hP h0 (Wd_ob kg_1 sg_1 (by decide)) rfl 3 (by decide) (hts _ md_X3_giveBack_3) (fun _ h9 => h9) (fl_at (t := 0) rfl) dX3_giveBack_9 ?_
  obtain ⟨g_5, hf⟩ := grd_some hf
  obtain ⟨kg_5, sg_5⟩ := okO_at g_5
  obtain ⟨z_3, r_4, hfc, hf⟩ := cal_some hf
  have hFc := de_free hD hS hA
  refine va_calli (va_runV (As := [.int (z.1 h0 3)]) (rest := [.int (z.1 h0 8)]) ⟨hx, hb, hml, hown, hts⟩ (de_X5_gives l dC dI cy a sh n H.size F z k_2 (z.1 h0 3) hfc) (cwV 1 hts gX3_giveBack_X5_gives rfl rfl rfl (by decide +kernel) ⟨Nat.le_of_ble_eq_true rfl, Nat.le_of_ble_eq_true rfl⟩) ⟨fun a U g mk q => by obtain ⟨q0, q1, qP, qK, qD, qN⟩ := q; exact ⟨q0, q1, qP, va_K.moved (u := U) (U := U.calling g mk a) (Vm.Alike.refl U.vm) qK, qD, qN.same rfl⟩, va_recv hK hP (ci := 5) (q0 := k_2) rfl (Wd_ob kg_5 sg_5 (by decide)), fun U hU hW => ⟨rfl, by rw [hU], by rw [hU]; exact hP, va_K.moved hW.alike hK, hD.weaken (fun _ _ _ _ => trivial), hN.warm hW⟩⟩ rfl rfl hl.1 rfl (lv_room (Nat.le_of_ble_eq_true rfl)) dX3_giveBack_12 ⟨Nat.le_of_ble_eq_true rfl, Nat.le_of_ble_eq_true rfl⟩) hS (fun q _ h => hFc q h) hFc (fun rr u t H_6 locs ht hvm hw hB hz1 hk1 hS2 => ?_)
  rw [hw]
  clear hw
  obtain ⟨hP1, -, hD1⟩ := hB
  rw [ht] at hP1
  replace hD := hD1.weaken (fun _ _ _ h => hFc _ h)
  replace hP := hP1
  replace hS := hS2
  clear hP1 hD1 hS2 hFc hfc hz1 hk1 hvm ht
  refine de_cut (h := 23) (fun (x : St × Int32) => [.int x.2]) (fun x ls H locs => lv_has ls 4 [(0, .ref (a h0))] ∧ va_P (dC, dI) vwCl (Wd cy a sh n x.1) H ∧ va_D A (Wd cy a sh n x.1) ∧ va_S A s.heap H locs) (fun x => fn_X3_giveBack_B23 F sh n h0 x.1 x.2) (z8, r8) ?_ (fun B23 => ?_)
  · intro x ls H locs hI hf
    obtain ⟨z_8, p_7⟩ := x
    obtain ⟨hl2, hP2, hD2, hS2⟩ := hI
    replace hl : lv_has ls 4 [(0, .ref (a h0))] := hl2
    replace hP := hP2
    replace hD := hD2
    replace hS := hS2
    clear hl2 hP2 hD2 hS2
    replace hf := fn_X3_giveBack_B23_s hf
    refine W.eq (g2 := F0 m 23 ls [.int p_7]) rfl ?_
    refine lv_istore_n (lv' := [(1, .int p_7), (0, .ref (a h0))]) hx hb dX3_giveBack_23 rfl hl (by decide) rfl (fun ls hl2 => ?_)
    replace hl := hl2
    clear hl2
    refine lv_iconst (v := 1) hx hb dX3_giveBack_24 (by decide) ?_
    refine lv_istore_n (lv' := [(2, .int 1), (1, .int p_7), (0, .ref (a h0))]) hx hb dX3_giveBack_25 rfl hl (by decide) rfl (fun ls hl2 => ?_)
    replace hl := hl2
    clear hl2
    refine lv_iconst (v := 0) hx hb dX3_giveBack_26 (by decide) ?_
    refine lv_istore_n (lv' := [(3, .int 0), (2, .int 1), (1, .int p_7), (0, .ref (a h0))]) hx hb dX3_giveBack_27 rfl hl (by decide) rfl (fun ls hl2 => ?_)
    replace hl := hl2
    clear hl2
    have hl0 : lv_has ls 4 [(3, .int 0), (2, .int 1), (1, .int p_7), (0, .ref (a h0))] := lv_sub hl [0, 1, 2, 3] rfl
    refine de_loop (h := 28) (fun (x : St × Int32 × Int32 × Int32) ls H locs => lv_has ls 4 [(3, .int x.2.2.2), (2, .int x.2.2.1), (1, .int x.2.1), (0, .ref (a h0))] ∧ va_P (dC, dI) vwCl (Wd cy a sh n x.1) H ∧ va_D A (Wd cy a sh n x.1) ∧ va_S A s.heap H locs) (fun f x => fn_X3_giveBack_L28 F sh n h0 f x.1 x.2.1 x.2.2.1 x.2.2.2) (z8, r8) ?_ (fun _ => rfl) F (z_8, p_7, 1, 0) ls H locs ⟨hl0, hP, hD, hS⟩ hf
    intro f_13 x ls H locs ih28 hI hf
    obtain ⟨z_12, p_9, p_10, p_11⟩ := x
    obtain ⟨hl2, hP2, hD2, hS2⟩ := hI
    replace hl : lv_has ls 4 [(3, .int p_11), (2, .int p_10), (1, .int p_9), (0, .ref (a h0))] := hl2
    replace hP := hP2
    replace hD := hD2
    replace hS := hS2
    clear hl2 hP2 hD2 hS2 hl0
    replace hf := fn_X3_giveBack_L28_s hf
    refine lv_iload_n hx hb dX3_giveBack_28 rfl (lv_at hl 0 rfl) ?_
    refine lv_aload_n hx hb dX3_giveBack_29 rfl (lv_at hl 3 rfl) ?_
    refine va_get (D := (dC, dI)) (ci := 3) (v := .int (z_12.1 h0 8)) (C := RX3) (T := TX3) (N := 22) hx hb hts iwd_X3_giveBack_X3 hown hK hP h0 (Wd_ob kg_1 sg_1 (by decide)) rfl 8 (by decide) (hts _ md_X3_giveBack_1) (fun _ h9 => h9) (fl_at (t := 0) rfl) dX3_giveBack_30 ?_
    refine de_cut (h := 99) (fun (x : St × Int32 × Int32) => []) (fun x ls H locs => lv_has ls 4 [(1, .int x.2.1), (2, .int x.2.2), (0, .ref (a h0))] ∧ va_P (dC, dI) vwCl (Wd cy a sh n x.1) H ∧ va_D A (Wd cy a sh n x.1) ∧ va_S A s.heap H locs) (fun x => fn_X3_giveBack_B99 F sh n h0 x.1 x.2.1 x.2.2) (z8, r8) ?_ (fun B99 => ?_)
    · intro x ls H locs hI hf
      obtain ⟨z_16, p_14, p_15⟩ := x
      obtain ⟨hl2, hP2, hD2, hS2⟩ := hI
      replace hl : lv_has ls 4 [(1, .int p_14), (2, .int p_15), (0, .ref (a h0))] := hl2
      replace hP := hP2
      replace hD := hD2
      replace hS := hS2
      clear hl2 hP2 hD2 hS2
      replace hf := fn_X3_giveBack_B99_s hf
      refine W.eq (g2 := F0 m 99 ls []) rfl ?_
      refine lv_iload_n hx hb dX3_giveBack_99 rfl (lv_at hl 0 rfl) ?_
      refine de_cut (h := 109) (fun (x : St) => []) (fun x ls H locs => lv_has ls 4 [(2, .int p_15), (0, .ref (a h0))] ∧ va_P (dC, dI) vwCl (Wd cy a sh n x) H ∧ va_D A (Wd cy a sh n x) ∧ va_S A s.heap H locs) (fun x => fn_X3_giveBack_B109 F sh n p_15 h0 x) (z8, r8) ?_ (fun B109 => ?_)
      · intro x ls H locs hI hf
        obtain ⟨z_17, ez⟩ : ∃ w, w = x := ⟨_, rfl⟩
        subst ez
        obtain ⟨hl2, hP2, hD2, hS2⟩ := hI
        replace hl : lv_has ls 4 [(2, .int p_15), (0, .ref (a h0))] := hl2
        replace hP := hP2
        replace hD := hD2
        replace hS := hS2
        clear hl2 hP2 hD2 hS2
        replace hf := fn_X3_giveBack_B109_s hf
        refine W.eq (g2 := F0 m 109 ls []) rfl ?_
        refine lv_iload_n hx hb dX3_giveBack_109 rfl (lv_at hl 0 rfl) ?_
        refine de_cut (h := 119) (fun (x : St) => []) (fun x ls H locs => lv_has ls 4 [(0, .ref (a h0))] ∧ va_P (dC, dI) vwCl (Wd cy a sh n x) H ∧ va_D A (Wd cy a sh n x) ∧ va_S A s.heap H locs) (fun x => fn_X3_giveBack_B119 F sh n h0 x) (z8, r8) ?_ (fun B119 => ?_)
        · intro x ls H locs hI hf
          obtain ⟨z_18, ez⟩ : ∃ w, w = x := ⟨_, rfl⟩
          subst ez
          obtain ⟨hl2, hP2, hD2, hS2⟩ := hI
          replace hl : lv_has ls 4 [(0, .ref (a h0))] := hl2
          replace hP := hP2
          replace hD := hD2
          replace hS := hS2
          clear hl2 hP2 hD2 hS2
          replace hf := fn_X3_giveBack_B119_s hf
          refine W.eq (g2 := F0 m 119 ls []) rfl ?_
          refine lv_aload_n hx hb dX3_giveBack_119 rfl (lv_at hl 0 rfl) ?_
          refine va_get (D := (dC, dI)) (ci := 3) (v := .long (z_18.2.1 h0 12)) (C := RX3) (T := TX3) (N := 22) hx hb hts iwd_X3_giveBack_X3 hown hK hP h0 (Wd_ob kg_1 sg_1 (by decide)) rfl 12 (by decide) (hts _ md_X3_giveBack_7) (fun _ h9 => h9) (fl_at (t := 1) rfl) dX3_giveBack_120 ?_
          refine lv_aload_n hx hb dX3_giveBack_123 rfl (lv_at hl 0 rfl) ?_
          refine va_get (D := (dC, dI)) (ci := 3) (v := .long (z_18.2.1 h0 11)) (C := RX3) (T := TX3) (N := 22) hx hb hts iwd_X3_giveBack_X3 hown hK hP h0 (Wd_ob kg_1 sg_1 (by decide)) rfl 11 (by decide) (hts _ md_X3_giveBack_8) (fun _ h9 => h9) (fl_at (t := 1) rfl) dX3_giveBack_124 ?_
          refine lv_ldc2 hx hb hown (hts _ md_X3_giveBack_9) dX3_giveBack_127 ?_
          refine lv_lxor hx hb dX3_giveBack_130 ?_
          refine lv_land hx hb dX3_giveBack_131 ?_
          refine lv_lconst (v := 0) hx hb dX3_giveBack_132 (by decide) ?_
          refine W.lcmp hx hb dX3_giveBack_133 ?_
          refine lv_if_eq (tgt := 143) hx hb dX3_giveBack_134 (by decide) (fun c_19 => ?_) (fun c_19 => ?_)
          · skip
            rw [lg_cmp_eq] at c_19
            rw [if_pos c_19] at hf
            obtain ⟨h8, h9⟩ := ret_some hf
            rw [h8]
            exact W.vret hx hb hr (fun t ht hW => ⟨⟨(), rfl, trivial, by rw [ht]; exact hP, va_K.moved hW.alike hK, hD⟩, hS.F ht⟩) hS.2.2 dX3_giveBack_143
          · skip
            rw [lg_cmp_eq] at c_19
            rw [if_neg c_19] at hf
            refine lv_aload_n hx hb dX3_giveBack_137 rfl (lv_at hl 0 rfl) ?_
            refine lv_bipush (v := 13) hx hb dX3_giveBack_138 (by decide) ?_
            obtain ⟨z_20, _u, hfc, hf⟩ := cal_some hf
            have hFc := de_free hD hS hA
            refine va_callv (va_runV (As := [.int 13]) (rest := []) ⟨hx, hb, hml, hown, hts⟩ (de_X3_fail l dC dI cy a sh n H.size F z_18 h0 13 hfc) (cwV 1 hts gX3_giveBack_X3_fail rfl rfl rfl (by decide +kernel) ⟨Nat.le_of_ble_eq_true rfl, Nat.le_of_ble_eq_true rfl⟩) ⟨fun a U g mk q => by obtain ⟨q0, q1, qP, qK, qD, qN⟩ := q; exact ⟨q0, q1, qP, va_K.moved (u := U) (U := U.calling g mk a) (Vm.Alike.refl U.vm) qK, qD, qN.same rfl⟩, va_recv hK hP (ci := 3) (q0 := h0) rfl (Wd_ob kg_1 sg_1 (by decide)), fun U hU hW => ⟨rfl, by rw [hU], by rw [hU]; exact hP, va_K.moved hW.alike hK, hD.weaken (fun _ _ _ _ => trivial), hN.warm hW⟩⟩ rfl rfl hl.1 rfl (lv_room (Nat.le_of_ble_eq_true rfl)) dX3_giveBack_140 ⟨Nat.le_of_ble_eq_true rfl, Nat.le_of_ble_eq_true rfl⟩) hS (fun q _ h => hFc q h) hFc (fun u t H_21 locs ht hvm hw hB hz1 hk1 hS2 => ?_)
            obtain ⟨hP1, -, hD1⟩ := hB
            rw [ht] at hP1
            replace hD := hD1.weaken (fun _ _ _ h => hFc _ h)
            replace hP := hP1
            replace hS := hS2
            clear hP1 hD1 hS2 hFc hfc hz1 hk1 hvm ht
            obtain ⟨h8, h9⟩ := ret_some hf
            rw [h8]
            exact W.vret hx hb hr (fun t ht hW => ⟨⟨(), rfl, trivial, by rw [ht]; exact hP, va_K.moved hW.alike hK, hD⟩, hS.F ht⟩) hS.2.2 dX3_giveBack_143
        refine lv_if_ne (tgt := 119) hx hb dX3_giveBack_110 (by decide) (fun c_22 => ?_) (fun c_22 => ?_)
        · skip
          rw [if_neg c_22] at hf
          exact B119 (z_17) ls H locs ⟨lv_sub hl [1] rfl, hP, hD, hS⟩ hf
        · skip
          rw [if_pos c_22] at hf
          refine lv_aload_n hx hb dX3_giveBack_113 rfl (lv_at hl 1 rfl) ?_
          refine lv_bipush (v := 14) hx hb dX3_giveBack_114 (by decide) ?_
          obtain ⟨z_23, _u, hfc, hf⟩ := cal_some hf
          have hFc := de_free hD hS hA
          refine va_callv (va_runV (As := [.int 14]) (rest := []) ⟨hx, hb, hml, hown, hts⟩ (de_X3_fail l dC dI cy a sh n H.size F z_17 h0 14 hfc) (cwV 1 hts gX3_giveBack_X3_fail rfl rfl rfl (by decide +kernel) ⟨Nat.le_of_ble_eq_true rfl, Nat.le_of_ble_eq_true rfl⟩) ⟨fun a U g mk q => by obtain ⟨q0, q1, qP, qK, qD, qN⟩ := q; exact ⟨q0, q1, qP, va_K.moved (u := U) (U := U.calling g mk a) (Vm.Alike.refl U.vm) qK, qD, qN.same rfl⟩, va_recv hK hP (ci := 3) (q0 := h0) rfl (Wd_ob kg_1 sg_1 (by decide)), fun U hU hW => ⟨rfl, by rw [hU], by rw [hU]; exact hP, va_K.moved hW.alike hK, hD.weaken (fun _ _ _ _ => trivial), hN.warm hW⟩⟩ rfl rfl hl.1 rfl (lv_room (Nat.le_of_ble_eq_true rfl)) dX3_giveBack_116 ⟨Nat.le_of_ble_eq_true rfl, Nat.le_of_ble_eq_true rfl⟩) hS (fun q _ h => hFc q h) hFc (fun u t H_24 locs ht hvm hw hB hz1 hk1 hS2 => ?_)
          obtain ⟨hP1, -, hD1⟩ := hB
          rw [ht] at hP1
          replace hD := hD1.weaken (fun _ _ _ h => hFc _ h)
          replace hP := hP1
          replace hS := hS2
          clear hP1 hD1 hS2 hFc hfc hz1 hk1 hvm ht
          exact B119 (z_23) ls H_24 locs ⟨lv_sub hl [1] rfl, hP, hD, hS⟩ hf
      refine lv_if_ne (tgt := 109) hx hb dX3_giveBack_100 (by decide) (fun c_25 => ?_) (fun c_25 => ?_)
      · skip
        rw [if_neg c_25] at hf
        exact B109 (z_16) ls H locs ⟨lv_sub hl [1, 2] rfl, hP, hD, hS⟩ hf
      · skip
        rw [if_pos c_25] at hf
        refine lv_aload_n hx hb dX3_giveBack_103 rfl (lv_at hl 2 rfl) ?_
        refine lv_bipush (v := 12) hx hb dX3_giveBack_104 (by decide) ?_
        obtain ⟨z_26, _u, hfc, hf⟩ := cal_some hf
        have hFc := de_free hD hS hA
        refine va_callv (va_runV (As := [.int 12]) (rest := []) ⟨hx, hb, hml, hown, hts⟩ (de_X3_fail l dC dI cy a sh n H.size F z_16 h0 12 hfc) (cwV 1 hts gX3_giveBack_X3_fail rfl rfl rfl (by decide +kernel) ⟨Nat.le_of_ble_eq_true rfl, Nat.le_of_ble_eq_true rfl⟩) ⟨fun a U g mk q => by obtain ⟨q0, q1, qP, qK, qD, qN⟩ := q; exact ⟨q0, q1, qP, va_K.moved (u := U) (U := U.calling g mk a) (Vm.Alike.refl U.vm) qK, qD, qN.same rfl⟩, va_recv hK hP (ci := 3) (q0 := h0) rfl (Wd_ob kg_1 sg_1 (by decide)), fun U hU hW => ⟨rfl, by rw [hU], by rw [hU]; exact hP, va_K.moved hW.alike hK, hD.weaken (fun _ _ _ _ => trivial), hN.warm hW⟩⟩ rfl rfl hl.1 rfl (lv_room (Nat.le_of_ble_eq_true rfl)) dX3_giveBack_106 ⟨Nat.le_of_ble_eq_true rfl, Nat.le_of_ble_eq_true rfl⟩) hS (fun q _ h => hFc q h) hFc (fun u t H_27 locs ht hvm hw hB hz1 hk1 hS2 => ?_)
        obtain ⟨hP1, -, hD1⟩ := hB
        rw [ht] at hP1
        replace hD := hD1.weaken (fun _ _ _ h => hFc _ h)
        replace hP := hP1
        replace hS := hS2
        clear hP1 hD1 hS2 hFc hfc hz1 hk1 hvm ht
        exact B109 (z_26) ls H_27 locs ⟨lv_sub hl [1, 2] rfl, hP, hD, hS⟩ hf
    refine lv_icmp_ge (tgt := 99) hx hb dX3_giveBack_33 (by decide) (fun c_28 => ?_) (fun c_28 => ?_)
    · skip
      rw [if_pos c_28] at hf
      exact B99 (z_12, p_9, p_10) ls H locs ⟨lv_sub hl [2, 1, 3] rfl, hP, hD, hS⟩ hf
    · skip
      rw [if_neg c_28] at hf
      refine lv_iload_n hx hb dX3_giveBack_36 rfl (lv_at hl 2 rfl) ?_
      refine lv_if_eq (tgt := 99) hx hb dX3_giveBack_37 (by decide) (fun c_29 => ?_) (fun c_29 => ?_)
      · skip
        rw [if_pos c_29] at hf
        exact B99 (z_12, p_9, p_10) ls H locs ⟨lv_sub hl [2, 1, 3] rfl, hP, hD, hS⟩ hf
      · skip
        rw [if_neg c_29] at hf
        refine lv_aload_n hx hb dX3_giveBack_40 rfl (lv_at hl 3 rfl) ?_
        obtain ⟨k_30, ek_30, hf⟩ := lnk_some hf
        refine va_get (D := (dC, dI)) (ci := 3) (v := .ref (a k_30)) (C := RX3) (T := TX3) (N := 22) hx hb hts iwd_X3_giveBack_X3 hown hK hP h0 (Wd_ob kg_1 sg_1 (by decide)) rfl 5 (by decide) (hts _ md_X3_giveBack_4) (fun _ h9 => h9) (fl_q rfl ek_30) dX3_giveBack_41 ?_
        refine lv_iload_n hx hb dX3_giveBack_44 rfl (lv_at hl 0 rfl) ?_
        obtain ⟨g_31, hf⟩ := grd_some hf
        obtain ⟨kg_31, sg_31, ig_31⟩ := okA_at g_31
        refine va_lald hx hb hK hP k_30 2 (Wd_al kg_31 sg_31) rfl ig_31 dX3_giveBack_45 ?_
        refine lv_aload_n hx hb dX3_giveBack_46 rfl (lv_at hl 3 rfl) ?_
        obtain ⟨k_32, ek_32, hf⟩ := lnk_some hf
        refine va_get (D := (dC, dI)) (ci := 3) (v := .ref (a k_32)) (C := RX3) (T := TX3) (N := 22) hx hb hts iwd_X3_giveBack_X3 hown hK hP h0 (Wd_ob kg_1 sg_1 (by decide)) rfl 2 (by decide) (hts _ md_X3_giveBack_2) (fun _ h9 => h9) (fl_q rfl ek_32) dX3_giveBack_47 ?_
        refine lv_aload_n hx hb dX3_giveBack_50 rfl (lv_at hl 3 rfl) ?_
        refine va_get (D := (dC, dI)) (ci := 3) (v := .int (z_12.1 h0 3)) (C := RX3) (T := TX3) (N := 22) hx hb hts iwd_X3_giveBack_X3 hown hK hP h0 (Wd_ob kg_1 sg_1 (by decide)) rfl 3 (by decide) (hts _ md_X3_giveBack_3) (fun _ h9 => h9) (fl_at (t := 0) rfl) dX3_giveBack_51 ?_
        refine lv_iload_n hx hb dX3_giveBack_54 rfl (lv_at hl 0 rfl) ?_
        obtain ⟨g_35, hf⟩ := grd_some hf
        obtain ⟨kg_35, sg_35⟩ := okO_at g_35
        obtain ⟨z_33, r_34, hfc, hf⟩ := cal_some hf
        have hFc := de_free hD hS hA
        refine va_calll (va_runV (As := [.int (z_12.1 h0 3), .int p_11]) (rest := [.long (z_12.2.1 k_30 p_11.toNatClampNeg)]) ⟨hx, hb, hml, hown, hts⟩ (de_X5_givenType l dC dI cy a sh n H.size F z_12 k_32 (z_12.1 h0 3) p_11 hfc) (cwV 2 hts gX3_giveBack_X5_givenType rfl rfl rfl (by decide +kernel) ⟨Nat.le_of_ble_eq_true rfl, Nat.le_of_ble_eq_true rfl⟩) ⟨fun a U g mk q => by obtain ⟨q0, q1, qP, qK, qD, qN⟩ := q; exact ⟨q0, q1, qP, va_K.moved (u := U) (U := U.calling g mk a) (Vm.Alike.refl U.vm) qK, qD, qN.same rfl⟩, va_recv hK hP (ci := 5) (q0 := k_32) rfl (Wd_ob kg_35 sg_35 (by decide)), fun U hU hW => ⟨rfl, by rw [hU], by rw [hU]; exact hP, va_K.moved hW.alike hK, hD.weaken (fun _ _ _ _ => trivial), hN.warm hW⟩⟩ rfl rfl hl.1 rfl (lv_room (Nat.le_of_ble_eq_true rfl)) dX3_giveBack_55 ⟨Nat.le_of_ble_eq_true rfl, Nat.le_of_ble_eq_true rfl⟩) hS (fun q _ h => hFc q h) hFc (fun rr u t H_36 locs ht hvm hw hB hz1 hk1 hS2 => ?_)
        rw [hw]
        clear hw
        obtain ⟨hP1, -, hD1⟩ := hB
        rw [ht] at hP1
        replace hD := hD1.weaken (fun _ _ _ h => hFc _ h)
        replace hP := hP1
        replace hS := hS2
        clear hP1 hD1 hS2 hFc hfc hz1 hk1 hvm ht
        refine W.lcmp hx hb dX3_giveBack_58 ?_
        refine de_cut (h := 67) (fun (x : St × Int32) => [.int x.2]) (fun x ls H locs => lv_has ls 4 [(3, .int p_11), (2, .int p_10), (0, .ref (a h0))] ∧ va_P (dC, dI) vwCl (Wd cy a sh n x.1) H ∧ va_D A (Wd cy a sh n x.1) ∧ va_S A s.heap H locs) (fun x => fn_X3_giveBack_B67 F sh n p_10 p_11 h0 (fun z9 q1 q2 q3 => fn_X3_giveBack_L28 F sh n h0 f_13 z9 q1 q2 q3) x.1 x.2) (z8, r8) ?_ (fun B67 => ?_)
        · intro x ls H locs hI hf
          obtain ⟨z_38, p_37⟩ := x
          obtain ⟨hl2, hP2, hD2, hS2⟩ := hI
          replace hl : lv_has ls 4 [(3, .int p_11), (2, .int p_10), (0, .ref (a h0))] := hl2
          replace hP := hP2
          replace hD := hD2
          replace hS := hS2
          clear hl2 hP2 hD2 hS2
          replace hf := fn_X3_giveBack_B67_s hf
          refine W.eq (g2 := F0 m 67 ls [.int p_37]) rfl ?_
          refine lv_istore_n (lv' := [(1, .int p_37), (3, .int p_11), (2, .int p_10), (0, .ref (a h0))]) hx hb dX3_giveBack_67 rfl hl (by decide) rfl (fun ls hl2 => ?_)
          replace hl := hl2
          clear hl2
          refine lv_iload_n hx hb dX3_giveBack_68 rfl (lv_at hl 2 rfl) ?_
          refine de_cut (h := 92) (fun (x : St × Int32) => [.int x.2]) (fun x ls H locs => lv_has ls 4 [(1, .int p_37), (3, .int p_11), (0, .ref (a h0))] ∧ va_P (dC, dI) vwCl (Wd cy a sh n x.1) H ∧ va_D A (Wd cy a sh n x.1) ∧ va_S A s.heap H locs) (fun x => fn_X3_giveBack_B92 F sh n p_37 p_11 (fun z9 q1 q2 q3 => fn_X3_giveBack_L28 F sh n h0 f_13 z9 q1 q2 q3) x.1 x.2) (z8, r8) ?_ (fun B92 => ?_)
          · intro x ls H locs hI hf
            obtain ⟨z_40, p_39⟩ := x
            obtain ⟨hl2, hP2, hD2, hS2⟩ := hI
            replace hl : lv_has ls 4 [(1, .int p_37), (3, .int p_11), (0, .ref (a h0))] := hl2
            replace hP := hP2
            replace hD := hD2
            replace hS := hS2
            clear hl2 hP2 hD2 hS2
            replace hf := fn_X3_giveBack_B92_s hf
            refine W.eq (g2 := F0 m 92 ls [.int p_39]) rfl ?_
            refine lv_istore_n (lv' := [(2, .int p_39), (1, .int p_37), (3, .int p_11), (0, .ref (a h0))]) hx hb dX3_giveBack_92 rfl hl (by decide) rfl (fun ls hl2 => ?_)
            replace hl := hl2
            clear hl2
            refine lv_iinc (v := (p_11 + 1)) (lv' := [(3, .int (p_11 + 1)), (2, .int p_39), (1, .int p_37), (0, .ref (a h0))]) hx hb dX3_giveBack_93 hl (k := 2) rfl rfl (by decide) rfl (fun ls hl2 => ?_)
            replace hl := hl2
            clear hl2
            refine lv_goto (tgt := 28) hx hb dX3_giveBack_96 (by decide) ?_
            exact ih28 (z_40, p_37, p_39, (p_11 + 1)) ls H locs ⟨lv_sub hl [0, 1, 2, 3] rfl, hP, hD, hS⟩ hf
          refine de_cut (h := 91) (fun (x : St) => []) (fun x ls H locs => lv_has ls 4 [(1, .int p_37), (3, .int p_11), (0, .ref (a h0))] ∧ va_P (dC, dI) vwCl (Wd cy a sh n x) H ∧ va_D A (Wd cy a sh n x) ∧ va_S A s.heap H locs) (fun x => fn_X3_giveBack_B91 F sh n p_37 p_11 (fun z9 q1 q2 q3 => fn_X3_giveBack_L28 F sh n h0 f_13 z9 q1 q2 q3) x) (z8, r8) ?_ (fun B91 => ?_)
          · intro x ls H locs hI hf
            obtain ⟨z_41, ez⟩ : ∃ w, w = x := ⟨_, rfl⟩
            subst ez
            obtain ⟨hl2, hP2, hD2, hS2⟩ := hI
            replace hl : lv_has ls 4 [(1, .int p_37), (3, .int p_11), (0, .ref (a h0))] := hl2
            replace hP := hP2
            replace hD := hD2
            replace hS := hS2
            clear hl2 hP2 hD2 hS2
            replace hf := fn_X3_giveBack_B91_s hf
            refine W.eq (g2 := F0 m 91 ls []) rfl ?_
            refine lv_iconst (v := 0) hx hb dX3_giveBack_91 (by decide) ?_
            exact B92 (z_41, 0) ls H locs ⟨lv_sub hl [0, 1, 2] rfl, hP, hD, hS⟩ hf
          refine lv_if_eq (tgt := 91) hx hb dX3_giveBack_69 (by decide) (fun c_42 => ?_) (fun c_42 => ?_)
          · skip
            rw [if_pos c_42] at hf
            exact B91 (z_38) ls H locs ⟨lv_sub hl [0, 1, 3] rfl, hP, hD, hS⟩ hf
          · skip
            rw [if_neg c_42] at hf
            refine lv_aload_n hx hb dX3_giveBack_72 rfl (lv_at hl 3 rfl) ?_
            obtain ⟨k_43, ek_43, hf⟩ := lnk_some hf
            refine va_get (D := (dC, dI)) (ci := 3) (v := .ref (a k_43)) (C := RX3) (T := TX3) (N := 22) hx hb hts iwd_X3_giveBack_X3 hown hK hP h0 (Wd_ob kg_1 sg_1 (by decide)) rfl 6 (by decide) (hts _ md_X3_giveBack_5) (fun _ h9 => h9) (fl_q rfl ek_43) dX3_giveBack_73 ?_
            refine lv_iload_n hx hb dX3_giveBack_76 rfl (lv_at hl 1 rfl) ?_
            obtain ⟨g_44, hf⟩ := grd_some hf
            obtain ⟨kg_44, sg_44, ig_44⟩ := okA_at g_44
            refine va_lald hx hb hK hP k_43 2 (Wd_al kg_44 sg_44) rfl ig_44 dX3_giveBack_77 ?_
            refine lv_ldc2 hx hb hown (hts _ md_X3_giveBack_6) dX3_giveBack_78 ?_
            refine lv_land hx hb dX3_giveBack_81 ?_
            refine lv_lconst (v := 0) hx hb dX3_giveBack_82 (by decide) ?_
            refine W.lcmp hx hb dX3_giveBack_83 ?_
            refine lv_if_ne (tgt := 91) hx hb dX3_giveBack_84 (by decide) (fun c_45 => ?_) (fun c_45 => ?_)
            · skip
              rw [lg_cmp_eq] at c_45
              rw [if_neg c_45] at hf
              exact B91 (z_38) ls H locs ⟨lv_sub hl [0, 1, 3] rfl, hP, hD, hS⟩ hf
            · skip
              rw [lg_cmp_eq] at c_45
              rw [if_pos c_45] at hf
              refine lv_iconst (v := 1) hx hb dX3_giveBack_87 (by decide) ?_
              refine lv_goto (tgt := 92) hx hb dX3_giveBack_88 (by decide) ?_
              exact B92 (z_38, 1) ls H locs ⟨lv_sub hl [0, 1, 3] rfl, hP, hD, hS⟩ hf
        refine lv_if_ne (tgt := 66) hx hb dX3_giveBack_59 (by decide) (fun c_46 => ?_) (fun c_46 => ?_)
        · skip
          rw [lg_cmp_eq] at c_46
          rw [if_neg c_46] at hf
          refine lv_iconst (v := 0) hx hb dX3_giveBack_66 (by decide) ?_
          exact B67 (z_33, 0) ls H_36 locs ⟨lv_sub hl [0, 1, 3] rfl, hP, hD, hS⟩ hf
        · skip
          rw [lg_cmp_eq] at c_46
          rw [if_pos c_46] at hf
          refine lv_iconst (v := 1) hx hb dX3_giveBack_62 (by decide) ?_
          refine lv_goto (tgt := 67) hx hb dX3_giveBack_63 (by decide) ?_
          exact B67 (z_33, 1) ls H_36 locs ⟨lv_sub hl [0, 1, 3] rfl, hP, hD, hS⟩ hf
  refine lv_icmp_ne (tgt := 22) hx hb dX3_giveBack_15 (by decide) (fun c_47 => ?_) (fun c_47 => ?_)
  · skip
    rw [if_neg c_47] at hf
    refine lv_iconst (v := 0) hx hb dX3_giveBack_22 (by decide) ?_
    exact B23 (z_3, 0) ls H_6 locs ⟨lv_sub hl [0] rfl, hP, hD, hS⟩ hf
  · skip
    rw [if_pos c_47] at hf
    refine lv_iconst (v := 1) hx hb dX3_giveBack_18 (by decide) ?_
    refine lv_goto (tgt := 23) hx hb dX3_giveBack_19 (by decide) ?_
    exact B23 (z_3, 1) ls H_6 locs ⟨lv_sub hl [0] rfl, hP, hD, hS⟩ hf

theorem md_X6_readStructures_1 : (.fieldLink RX6 17 "ResourceLedger$Reader" "p" "LResourceLedger$Program;" : Cond) ∈ wsX6_readStructures := List.mem_of_getElem? (i := 1) rfl
theorem iwd_X6_readStructures_X6 : ∀ w ∈ wsX60, w ∈ wsX6_readStructures := fun _ h => List.mem_cons_of_mem _ (List.mem_append_left _ (List.mem_append_right _ h))
theorem md_X6_readStructures_2 : (.fieldLink RX6 100 "ResourceLedger$Program" "ownStructures" "I" : Cond) ∈ wsX6_readStructures := List.mem_of_getElem? (i := 2) rfl
theorem iwd_X6_readStructures_X5 : ∀ w ∈ wsX50, w ∈ wsX6_readStructures := fun _ h => List.mem_cons_of_mem _ (List.mem_append_right _ h)
theorem md_X6_readStructures_3 : (.fieldLink RX6 28 "ResourceLedger$Reader" "judging" "Z" : Cond) ∈ wsX6_readStructures := List.mem_of_getElem? (i := 3) rfl
theorem md_X6_readStructures_5 : (.fieldLink RX6 21 "ResourceLedger$Reader" "fault" "I" : Cond) ∈ wsX6_readStructures := List.mem_of_getElem? (i := 5) rfl
theorem md_X6_readStructures_6 : (.fieldLink RX6 32 "ResourceLedger$Reader" "at" "I" : Cond) ∈ wsX6_readStructures := List.mem_of_getElem? (i := 6) rfl
theorem md_X6_readStructures_7 : (.fieldLink RX6 53 "ResourceLedger$Program" "typeCount" "I" : Cond) ∈ wsX6_readStructures := List.mem_of_getElem? (i := 7) rfl
theorem md_X6_readStructures_8 : (.fieldLink RX6 97 "ResourceLedger$Program" "number" "I" : Cond) ∈ wsX6_readStructures := List.mem_of_getElem? (i := 8) rfl
theorem md_X6_readStructures_4 : (.fieldLink RX6 103 "ResourceLedger$Program" "allStructures" "I" : Cond) ∈ wsX6_readStructures := List.mem_of_getElem? (i := 4) rfl
set_option maxHeartbeats 4000000 in
set_option maxRecDepth 100000 in
theorem de_X6_readStructures (l : Launch) (dC : Nat → ClassId) (dI : Nat → Nat → Nat) (cy : Nat → ClassId) (a : Nat → Nat) (sh : Nat → Nat × Nat) (n sz : Nat) (F : Nat) (sk : Nat → Nat) (z : St) (h0 : Nat) {z8 : St} {r8 : Unit} (hf : fn_X6_readStructures F sh n z h0 = some (z8, r8)) : Met l yX6_readStructures wsX6_readStructures ({ frames := 3, cells := 0, slots := 0, locals := 71 }) (va_Pc [.ref (a h0)] (fun U => U.heap.size = sz ∧ va_P (dC, dI) vwCl (Wd cy a sh n z) U.heap ∧ va_K (dC, dI) vwCl (TYS cy) U ∧ va_D (fun _ => True) (Wd cy a sh n z) ∧ NK U ∧ SKs sk (a CBK) (va_A (Wd cy a sh n z) sz) U U.heap)) (va_Qv (fun u : Unit => True) (fun u t => va_P (dC, dI) vwCl (Wd cy a sh n z8) t.heap ∧ va_K (dC, dI) vwCl (TYS cy) t ∧ va_D (va_A (Wd cy a sh n z) sz) (Wd cy a sh n z8)) (va_A (Wd cy a sh n z) sz)) 0 0 (va_A (Wd cy a sh n z) sz) := by
  refine Met.ofW (cc := cX6_readStructures) (maxL := 3) (ret := none) (by decide) rfl ?_
  intro p e s m args below meth c s₁ B hml hv
  obtain ⟨rfl, hsz, hP, hK, hD0, hN, hSK⟩ := hv
  have hx := B.exec
  have hb := B.bytes
  have hr := B.returns
  have hts := atoms_spec (ws := wsX6_readStructures) B.pre
  have hown : s.vm.findClass RX6 = some m.cls := findClass_of_methodNamed B.named
  have hlocks := B.notSynchronized
  subst hsz
  have hD := hD0.self (sz := s.heap.size)
  clear hD0
  generalize hAe : va_A (Wd cy a sh n z) s.heap.size = A at hD hSK ⊢
  have hA : ∀ q : Nat, s.heap.size ≤ q → A q := fun q h => by rw [← hAe]; exact Or.inr h
  clear hAe
  have hS : va_S A s.heap s.heap [] := va_S.rf
  have hl := lv_entry ([.ref (a h0)]) (n := 3) (Nat.le_of_ble_eq_true rfl)
  rw [lg_entry_eq]
  generalize (lg_sl ([.ref (a h0)]) ++ List.replicate (3 - (lg_sl ([.ref (a h0)])).length) Slot.unset).toArray = ls at hl ⊢
  replace hl : lv_has ls 3 [(0, .ref (a h0))] := hl
  unfold fn_X6_readStructures at hf
  refine de_start hS hP (fun H locs hS hP => ?_)
  refine lv_aload_n hx hb dX6_readStructures_0 rfl (lv_at hl 0 rfl) ?_
  obtain ⟨g_1, hf⟩ := grd_some hf
  obtain ⟨kg_1, sg_1⟩ := okO_at g_1
  obtain ⟨k_2, ek_2, hf⟩ := lnk_some hf
  refine va_get (D := (dC, dI)) (ci := 6) (v := .ref (a k_2)) (C := RX6) (T := TX6) (N := 9) hx hb hts iwd_X6_readStructures_X6 hown hK hP h0 (Wd_ob kg_1 sg_1 (by decide)) rfl 2 (by decide) (hts _ md_X6_readStructures_1) (fun _ h9 => h9) (fl_q rfl ek_2) dX6_readStructures_1 ?_
  refine lv_aload_n hx hb dX6_readStructures_4 rfl (lv_at hl 0 rfl) ?_
  refine lv_iconst (v := 0) hx hb dX6_readStructures_5 (by decide) ?_
  refine lv_bipush (v := 32) hx hb dX6_readStructures_6 (by decide) ?_
  obtain ⟨z_3, r_4, hfc, hf⟩ := cal_some hf
  have hFc := de_free hD hS hA
  refine va_calli (va_runV (As := [.int 0, .int 32]) (rest := [.ref (a k_2)]) ⟨hx, hb, hml, hown, hts⟩ (de_X6_readNumber l dC dI cy a sh n H.size F sk z h0 0 32 hfc) (cwV 2 hts gX6_readStructures_X6_readNumber rfl rfl rfl (by decide +kernel) ⟨Nat.le_of_ble_eq_true rfl, Nat.le_of_ble_eq_true rfl⟩) ⟨fun a U g mk q => by obtain ⟨q0, q1, qP, qK, qD, qN, qS⟩ := q; exact ⟨q0, q1, qP, va_K.moved (u := U) (U := U.calling g mk a) (Vm.Alike.refl U.vm) qK, qD, qN.same rfl, SKs.moved (u := U) (U := U.calling g mk a) (Vm.Alike.refl U.vm) qS⟩, va_recv hK hP (ci := 6) (q0 := h0) rfl (Wd_ob kg_1 sg_1 (by decide)), fun U hU hW => ⟨rfl, by rw [hU], by rw [hU]; exact hP, va_K.moved hW.alike hK, hD.weaken (fun _ _ _ _ => trivial), hN.warm hW, by rw [hU]; exact ((hSK.kept hS.2.1).narrow hFc).moved hW.alike⟩⟩ rfl rfl hl.1 rfl (lv_room (Nat.le_of_ble_eq_true rfl)) dX6_readStructures_8 ⟨Nat.le_of_ble_eq_true rfl, Nat.le_of_ble_eq_true rfl⟩) hS (fun q _ h => hFc q h) hFc (fun rr u t H_5 locs ht hvm hw hB hz1 hk1 hS2 => ?_)
  rw [hw]
  clear hw
  obtain ⟨hP1, -, hD1⟩ := hB
  rw [ht] at hP1
  replace hD := hD1.weaken (fun _ _ _ h => hFc _ h)
  replace hP := hP1
  replace hS := hS2
  clear hP1 hD1 hS2 hFc hfc hz1 hk1 hvm ht
  obtain ⟨g_6, hf⟩ := grd_some hf
  obtain ⟨kg_6, sg_6⟩ := okO_at g_6
  refine va_put (D := (dC, dI)) (ci := 5) (v := .int r_4) (ty := .int) (C := RX5) (T := TX5) (N := 15) hx hb hts iwd_X6_readStructures_X5 tyX5 tyX5_ok nmX5 hown hK hP hD hS k_2 (Wd_ob kg_6 sg_6 (by decide)) rfl 8 (by decide) (hts _ md_X6_readStructures_2) (fun _ h9 => h9) rfl (by decide +kernel) rfl rfl (by rw [fl_len]; decide) dX6_readStructures_11 (fun H_7 locs hP2 hD2 hS2 => ?_)
  rw [Wd_si sg_6 (by decide) rfl] at hP2 hD2
  obtain ⟨z_8, ez_8⟩ : ∃ w, w = si z_3 k_2 8 r_4 := ⟨_, rfl⟩
  rw [← ez_8] at hP2 hD2
  replace hf := lt_at ez_8 hf
  clear ez_8
  replace hP := hP2
  replace hD := hD2
  replace hS := hS2
  clear hP2 hD2 hS2
  refine lv_aload_n hx hb dX6_readStructures_14 rfl (lv_at hl 0 rfl) ?_
  refine va_get (D := (dC, dI)) (ci := 6) (v := .int (z_8.1 h0 4)) (C := RX6) (T := TX6) (N := 9) hx hb hts iwd_X6_readStructures_X6 hown hK hP h0 (Wd_ob kg_1 sg_1 (by decide)) rfl 4 (by decide) (hts _ md_X6_readStructures_3) (fun _ h9 => h9) (fl_at (t := 0) rfl) dX6_readStructures_15 ?_
  refine de_cut (h := 35) (fun (x : St) => []) (fun x ls H locs => lv_has ls 3 [(0, .ref (a h0))] ∧ va_P (dC, dI) vwCl (Wd cy a sh n x) H ∧ va_D A (Wd cy a sh n x) ∧ va_S A s.heap H locs) (fun x => fn_X6_readStructures_B35 F sh n h0 x) (z8, r8) ?_ (fun B35 => ?_)
  · intro x ls H locs hI hf
    obtain ⟨z_9, ez⟩ : ∃ w, w = x := ⟨_, rfl⟩
    subst ez
    obtain ⟨hl2, hP2, hD2, hS2⟩ := hI
    replace hl : lv_has ls 3 [(0, .ref (a h0))] := hl2
    replace hP := hP2
    replace hD := hD2
    replace hS := hS2
    clear hl2 hP2 hD2 hS2
    replace hf := fn_X6_readStructures_B35_s hf
    refine W.eq (g2 := F0 m 35 ls []) rfl ?_
    refine lv_iconst (v := 0) hx hb dX6_readStructures_35 (by decide) ?_
    refine lv_istore_n (lv' := [(1, .int 0), (0, .ref (a h0))]) hx hb dX6_readStructures_36 rfl hl (by decide) rfl (fun ls hl2 => ?_)
    replace hl := hl2
    clear hl2
    have hl0 : lv_has ls 3 [(1, .int 0), (0, .ref (a h0))] := lv_sub hl [0, 1] rfl
    refine de_loop (h := 37) (fun (x : St × Int32) ls H locs => lv_has ls 3 [(1, .int x.2), (0, .ref (a h0))] ∧ va_P (dC, dI) vwCl (Wd cy a sh n x.1) H ∧ va_D A (Wd cy a sh n x.1) ∧ va_S A s.heap H locs) (fun f x => fn_X6_readStructures_L37 F sh n h0 f x.1 x.2) (z8, r8) ?_ (fun _ => rfl) F (z_9, 0) ls H locs ⟨hl0, hP, hD, hS⟩ hf
    intro f_12 x ls H locs ih37 hI hf
    obtain ⟨z_11, p_10⟩ := x
    obtain ⟨hl2, hP2, hD2, hS2⟩ := hI
    replace hl : lv_has ls 3 [(1, .int p_10), (0, .ref (a h0))] := hl2
    replace hP := hP2
    replace hD := hD2
    replace hS := hS2
    clear hl2 hP2 hD2 hS2 hl0
    replace hf := fn_X6_readStructures_L37_s hf
    refine lv_iload_n hx hb dX6_readStructures_37 rfl (lv_at hl 0 rfl) ?_
    refine lv_aload_n hx hb dX6_readStructures_38 rfl (lv_at hl 1 rfl) ?_
    obtain ⟨k_13, ek_13, hf⟩ := lnk_some hf
    refine va_get (D := (dC, dI)) (ci := 6) (v := .ref (a k_13)) (C := RX6) (T := TX6) (N := 9) hx hb hts iwd_X6_readStructures_X6 hown hK hP h0 (Wd_ob kg_1 sg_1 (by decide)) rfl 2 (by decide) (hts _ md_X6_readStructures_1) (fun _ h9 => h9) (fl_q rfl ek_13) dX6_readStructures_39 ?_
    obtain ⟨g_14, hf⟩ := grd_some hf
    obtain ⟨kg_14, sg_14⟩ := okO_at g_14
    refine va_get (D := (dC, dI)) (ci := 5) (v := .int (z_11.1 k_13 8)) (C := RX5) (T := TX5) (N := 15) hx hb hts iwd_X6_readStructures_X5 hown hK hP k_13 (Wd_ob kg_14 sg_14 (by decide)) rfl 8 (by decide) (hts _ md_X6_readStructures_2) (fun _ h9 => h9) (fl_at (t := 0) rfl) dX6_readStructures_42 ?_
    refine lv_icmp_ge (tgt := 156) hx hb dX6_readStructures_45 (by decide) (fun c_15 => ?_) (fun c_15 => ?_)
    · skip
      rw [if_pos c_15] at hf
      obtain ⟨h8, h9⟩ := ret_some hf
      rw [h8]
      exact W.vret hx hb hr (fun t ht hW => ⟨⟨(), rfl, trivial, by rw [ht]; exact hP, va_K.moved hW.alike hK, hD⟩, hS.F ht⟩) hS.2.2 dX6_readStructures_156
    · skip
      rw [if_neg c_15] at hf
      refine lv_aload_n hx hb dX6_readStructures_48 rfl (lv_at hl 1 rfl) ?_
      refine va_get (D := (dC, dI)) (ci := 6) (v := .int (z_11.1 h0 1)) (C := RX6) (T := TX6) (N := 9) hx hb hts iwd_X6_readStructures_X6 hown hK hP h0 (Wd_ob kg_1 sg_1 (by decide)) rfl 1 (by decide) (hts _ md_X6_readStructures_5) (fun _ h9 => h9) (fl_at (t := 0) rfl) dX6_readStructures_49 ?_
      refine lv_if_ne (tgt := 156) hx hb dX6_readStructures_52 (by decide) (fun c_16 => ?_) (fun c_16 => ?_)
      · skip
        rw [if_neg c_16] at hf
        obtain ⟨h8, h9⟩ := ret_some hf
        rw [h8]
        exact W.vret hx hb hr (fun t ht hW => ⟨⟨(), rfl, trivial, by rw [ht]; exact hP, va_K.moved hW.alike hK, hD⟩, hS.F ht⟩) hS.2.2 dX6_readStructures_156
      · skip
        rw [if_pos c_16] at hf
        refine lv_aload_n hx hb dX6_readStructures_55 rfl (lv_at hl 1 rfl) ?_
        obtain ⟨k_17, ek_17, hf⟩ := lnk_some hf
        refine va_get (D := (dC, dI)) (ci := 6) (v := .ref (a k_17)) (C := RX6) (T := TX6) (N := 9) hx hb hts iwd_X6_readStructures_X6 hown hK hP h0 (Wd_ob kg_1 sg_1 (by decide)) rfl 2 (by decide) (hts _ md_X6_readStructures_1) (fun _ h9 => h9) (fl_q rfl ek_17) dX6_readStructures_56 ?_
        refine lv_iload_n hx hb dX6_readStructures_59 rfl (lv_at hl 0 rfl) ?_
        refine lv_iconst (v := 1) hx hb dX6_readStructures_60 (by decide) ?_
        refine lv_aload_n hx hb dX6_readStructures_61 rfl (lv_at hl 1 rfl) ?_
        refine va_get (D := (dC, dI)) (ci := 6) (v := .int (z_11.1 h0 3)) (C := RX6) (T := TX6) (N := 9) hx hb hts iwd_X6_readStructures_X6 hown hK hP h0 (Wd_ob kg_1 sg_1 (by decide)) rfl 3 (by decide) (hts _ md_X6_readStructures_6) (fun _ h9 => h9) (fl_at (t := 0) rfl) dX6_readStructures_62 ?_
        obtain ⟨g_19, hf⟩ := grd_some hf
        obtain ⟨kg_19, sg_19⟩ := okO_at g_19
        obtain ⟨z_18, _u, hfc, hf⟩ := cal_some hf
        have hFc := de_free hD hS hA
        refine va_callv (va_runV (As := [.int p_10, .int 1, .int (z_11.1 h0 3)]) (rest := []) ⟨hx, hb, hml, hown, hts⟩ (de_X5_setStructure l dC dI cy a sh n H.size F z_11 k_17 p_10 1 (z_11.1 h0 3) hfc) (cwV 3 hts gX6_readStructures_X5_setStructure rfl rfl rfl (by decide +kernel) ⟨Nat.le_of_ble_eq_true rfl, Nat.le_of_ble_eq_true rfl⟩) ⟨fun a U g mk q => by obtain ⟨q0, q1, qP, qK, qD, qN⟩ := q; exact ⟨q0, q1, qP, va_K.moved (u := U) (U := U.calling g mk a) (Vm.Alike.refl U.vm) qK, qD, qN.same rfl⟩, va_recv hK hP (ci := 5) (q0 := k_17) rfl (Wd_ob kg_19 sg_19 (by decide)), fun U hU hW => ⟨rfl, by rw [hU], by rw [hU]; exact hP, va_K.moved hW.alike hK, hD.weaken (fun _ _ _ _ => trivial), hN.warm hW⟩⟩ rfl rfl hl.1 rfl (lv_room (Nat.le_of_ble_eq_true rfl)) dX6_readStructures_65 ⟨Nat.le_of_ble_eq_true rfl, Nat.le_of_ble_eq_true rfl⟩) hS (fun q _ h => hFc q h) hFc (fun u t H_20 locs ht hvm hw hB hz1 hk1 hS2 => ?_)
        obtain ⟨hP1, -, hD1⟩ := hB
        rw [ht] at hP1
        replace hD := hD1.weaken (fun _ _ _ h => hFc _ h)
        replace hP := hP1
        replace hS := hS2
        clear hP1 hD1 hS2 hFc hfc hz1 hk1 hvm ht
        refine lv_aload_n hx hb dX6_readStructures_68 rfl (lv_at hl 1 rfl) ?_
        obtain ⟨k_21, ek_21, hf⟩ := lnk_some hf
        refine va_get (D := (dC, dI)) (ci := 6) (v := .ref (a k_21)) (C := RX6) (T := TX6) (N := 9) hx hb hts iwd_X6_readStructures_X6 hown hK hP h0 (Wd_ob kg_1 sg_1 (by decide)) rfl 2 (by decide) (hts _ md_X6_readStructures_1) (fun _ h9 => h9) (fl_q rfl ek_21) dX6_readStructures_69 ?_
        refine lv_iload_n hx hb dX6_readStructures_72 rfl (lv_at hl 0 rfl) ?_
        refine lv_iconst (v := 0) hx hb dX6_readStructures_73 (by decide) ?_
        refine lv_aload_n hx hb dX6_readStructures_74 rfl (lv_at hl 1 rfl) ?_
        refine lv_iconst (v := 0) hx hb dX6_readStructures_75 (by decide) ?_
        refine lv_bipush (v := 15) hx hb dX6_readStructures_76 (by decide) ?_
        obtain ⟨z_22, r_23, hfc, hf⟩ := cal_some hf
        have hFc := de_free hD hS hA
        refine va_calli (va_runV (As := [.int 0, .int 15]) (rest := [.int 0, .int p_10, .ref (a k_21)]) ⟨hx, hb, hml, hown, hts⟩ (de_X6_readNumber l dC dI cy a sh n H_20.size F sk z_18 h0 0 15 hfc) (cwV 2 hts gX6_readStructures_X6_readNumber rfl rfl rfl (by decide +kernel) ⟨Nat.le_of_ble_eq_true rfl, Nat.le_of_ble_eq_true rfl⟩) ⟨fun a U g mk q => by obtain ⟨q0, q1, qP, qK, qD, qN, qS⟩ := q; exact ⟨q0, q1, qP, va_K.moved (u := U) (U := U.calling g mk a) (Vm.Alike.refl U.vm) qK, qD, qN.same rfl, SKs.moved (u := U) (U := U.calling g mk a) (Vm.Alike.refl U.vm) qS⟩, va_recv hK hP (ci := 6) (q0 := h0) rfl (Wd_ob kg_1 sg_1 (by decide)), fun U hU hW => ⟨rfl, by rw [hU], by rw [hU]; exact hP, va_K.moved hW.alike hK, hD.weaken (fun _ _ _ _ => trivial), hN.warm hW, by rw [hU]; exact ((hSK.kept hS.2.1).narrow hFc).moved hW.alike⟩⟩ rfl rfl hl.1 rfl (lv_room (Nat.le_of_ble_eq_true rfl)) dX6_readStructures_78 ⟨Nat.le_of_ble_eq_true rfl, Nat.le_of_ble_eq_true rfl⟩) hS (fun q _ h => hFc q h) hFc (fun rr u t H_24 locs ht hvm hw hB hz1 hk1 hS2 => ?_)
        rw [hw]
        clear hw
        obtain ⟨hP1, -, hD1⟩ := hB
        rw [ht] at hP1
        replace hD := hD1.weaken (fun _ _ _ h => hFc _ h)
        replace hP := hP1
        replace hS := hS2
        clear hP1 hD1 hS2 hFc hfc hz1 hk1 hvm ht
        obtain ⟨g_26, hf⟩ := grd_some hf
        obtain ⟨kg_26, sg_26⟩ := okO_at g_26
        obtain ⟨z_25, _u, hfc, hf⟩ := cal_some hf
        have hFc := de_free hD hS hA
        refine va_callv (va_runV (As := [.int p_10, .int 0, .int r_23]) (rest := []) ⟨hx, hb, hml, hown, hts⟩ (de_X5_setStructure l dC dI cy a sh n H_24.size F z_22 k_21 p_10 0 r_23 hfc) (cwV 3 hts gX6_readStructures_X5_setStructure rfl rfl rfl (by decide +kernel) ⟨Nat.le_of_ble_eq_true rfl, Nat.le_of_ble_eq_true rfl⟩) ⟨fun a U g mk q => by obtain ⟨q0, q1, qP, qK, qD, qN⟩ := q; exact ⟨q0, q1, qP, va_K.moved (u := U) (U := U.calling g mk a) (Vm.Alike.refl U.vm) qK, qD, qN.same rfl⟩, va_recv hK hP (ci := 5) (q0 := k_21) rfl (Wd_ob kg_26 sg_26 (by decide)), fun U hU hW => ⟨rfl, by rw [hU], by rw [hU]; exact hP, va_K.moved hW.alike hK, hD.weaken (fun _ _ _ _ => trivial), hN.warm hW⟩⟩ rfl rfl hl.1 rfl (lv_room (Nat.le_of_ble_eq_true rfl)) dX6_readStructures_81 ⟨Nat.le_of_ble_eq_true rfl, Nat.le_of_ble_eq_true rfl⟩) hS (fun q _ h => hFc q h) hFc (fun u t H_27 locs ht hvm hw hB hz1 hk1 hS2 => ?_)
        obtain ⟨hP1, -, hD1⟩ := hB
        rw [ht] at hP1
        replace hD := hD1.weaken (fun _ _ _ h => hFc _ h)
        replace hP := hP1
        replace hS := hS2
        clear hP1 hD1 hS2 hFc hfc hz1 hk1 hvm ht
        refine lv_aload_n hx hb dX6_readStructures_84 rfl (lv_at hl 1 rfl) ?_
        refine lv_iconst (v := 1) hx hb dX6_readStructures_85 (by decide) ?_
        refine lv_bipush (v := 16) hx hb dX6_readStructures_86 (by decide) ?_
        obtain ⟨z_28, r_29, hfc, hf⟩ := cal_some hf
        have hFc := de_free hD hS hA
        refine va_calli (va_runV (As := [.int 1, .int 16]) (rest := []) ⟨hx, hb, hml, hown, hts⟩ (de_X6_readNumber l dC dI cy a sh n H_27.size F sk z_25 h0 1 16 hfc) (cwV 2 hts gX6_readStructures_X6_readNumber rfl rfl rfl (by decide +kernel) ⟨Nat.le_of_ble_eq_true rfl, Nat.le_of_ble_eq_true rfl⟩) ⟨fun a U g mk q => by obtain ⟨q0, q1, qP, qK, qD, qN, qS⟩ := q; exact ⟨q0, q1, qP, va_K.moved (u := U) (U := U.calling g mk a) (Vm.Alike.refl U.vm) qK, qD, qN.same rfl, SKs.moved (u := U) (U := U.calling g mk a) (Vm.Alike.refl U.vm) qS⟩, va_recv hK hP (ci := 6) (q0 := h0) rfl (Wd_ob kg_1 sg_1 (by decide)), fun U hU hW => ⟨rfl, by rw [hU], by rw [hU]; exact hP, va_K.moved hW.alike hK, hD.weaken (fun _ _ _ _ => trivial), hN.warm hW, by rw [hU]; exact ((hSK.kept hS.2.1).narrow hFc).moved hW.alike⟩⟩ rfl rfl hl.1 rfl (lv_room (Nat.le_of_ble_eq_true rfl)) dX6_readStructures_88 ⟨Nat.le_of_ble_eq_true rfl, Nat.le_of_ble_eq_true rfl⟩) hS (fun q _ h => hFc q h) hFc (fun rr u t H_30 locs ht hvm hw hB hz1 hk1 hS2 => ?_)
        rw [hw]
        clear hw
        obtain ⟨hP1, -, hD1⟩ := hB
        rw [ht] at hP1
        replace hD := hD1.weaken (fun _ _ _ h => hFc _ h)
        replace hP := hP1
        replace hS := hS2
        clear hP1 hD1 hS2 hFc hfc hz1 hk1 hvm ht
        refine lv_istore_n (lv' := [(2, .int r_29), (1, .int p_10), (0, .ref (a h0))]) hx hb dX6_readStructures_91 rfl hl (by decide) rfl (fun ls hl2 => ?_)
        replace hl := hl2
        clear hl2
        refine lv_aload_n hx hb dX6_readStructures_92 rfl (lv_at hl 2 rfl) ?_
        obtain ⟨k_31, ek_31, hf⟩ := lnk_some hf
        refine va_get (D := (dC, dI)) (ci := 6) (v := .ref (a k_31)) (C := RX6) (T := TX6) (N := 9) hx hb hts iwd_X6_readStructures_X6 hown hK hP h0 (Wd_ob kg_1 sg_1 (by decide)) rfl 2 (by decide) (hts _ md_X6_readStructures_1) (fun _ h9 => h9) (fl_q rfl ek_31) dX6_readStructures_93 ?_
        refine lv_iload_n hx hb dX6_readStructures_96 rfl (lv_at hl 1 rfl) ?_
        refine lv_iconst (v := 2) hx hb dX6_readStructures_97 (by decide) ?_
        refine lv_aload_n hx hb dX6_readStructures_98 rfl (lv_at hl 2 rfl) ?_
        obtain ⟨k_32, ek_32, hf⟩ := lnk_some hf
        refine va_get (D := (dC, dI)) (ci := 6) (v := .ref (a k_32)) (C := RX6) (T := TX6) (N := 9) hx hb hts iwd_X6_readStructures_X6 hown hK hP h0 (Wd_ob kg_1 sg_1 (by decide)) rfl 2 (by decide) (hts _ md_X6_readStructures_1) (fun _ h9 => h9) (fl_q rfl ek_32) dX6_readStructures_99 ?_
        obtain ⟨g_33, hf⟩ := grd_some hf
        obtain ⟨kg_33, sg_33⟩ := okO_at g_33
        refine va_get (D := (dC, dI)) (ci := 5) (v := .int (z_28.1 k_32 4)) (C := RX5) (T := TX5) (N := 15) hx hb hts iwd_X6_readStructures_X5 hown hK hP k_32 (Wd_ob kg_33 sg_33 (by decide)) rfl 4 (by decide) (hts _ md_X6_readStructures_7) (fun _ h9 => h9) (fl_at (t := 0) rfl) dX6_readStructures_102 ?_
        obtain ⟨g_35, hf⟩ := grd_some hf
        obtain ⟨kg_35, sg_35⟩ := okO_at g_35
        obtain ⟨z_34, _u, hfc, hf⟩ := cal_some hf
        have hFc := de_free hD hS hA
        refine va_callv (va_runV (As := [.int p_10, .int 2, .int (z_28.1 k_32 4)]) (rest := []) ⟨hx, hb, hml, hown, hts⟩ (de_X5_setStructure l dC dI cy a sh n H_30.size F z_28 k_31 p_10 2 (z_28.1 k_32 4) hfc) (cwV 3 hts gX6_readStructures_X5_setStructure rfl rfl rfl (by decide +kernel) ⟨Nat.le_of_ble_eq_true rfl, Nat.le_of_ble_eq_true rfl⟩) ⟨fun a U g mk q => by obtain ⟨q0, q1, qP, qK, qD, qN⟩ := q; exact ⟨q0, q1, qP, va_K.moved (u := U) (U := U.calling g mk a) (Vm.Alike.refl U.vm) qK, qD, qN.same rfl⟩, va_recv hK hP (ci := 5) (q0 := k_31) rfl (Wd_ob kg_35 sg_35 (by decide)), fun U hU hW => ⟨rfl, by rw [hU], by rw [hU]; exact hP, va_K.moved hW.alike hK, hD.weaken (fun _ _ _ _ => trivial), hN.warm hW⟩⟩ rfl rfl hl.1 rfl (lv_room (Nat.le_of_ble_eq_true rfl)) dX6_readStructures_105 ⟨Nat.le_of_ble_eq_true rfl, Nat.le_of_ble_eq_true rfl⟩) hS (fun q _ h => hFc q h) hFc (fun u t H_36 locs ht hvm hw hB hz1 hk1 hS2 => ?_)
        obtain ⟨hP1, -, hD1⟩ := hB
        rw [ht] at hP1
        replace hD := hD1.weaken (fun _ _ _ h => hFc _ h)
        replace hP := hP1
        replace hS := hS2
        clear hP1 hD1 hS2 hFc hfc hz1 hk1 hvm ht
        refine lv_aload_n hx hb dX6_readStructures_108 rfl (lv_at hl 2 rfl) ?_
        obtain ⟨k_37, ek_37, hf⟩ := lnk_some hf
        refine va_get (D := (dC, dI)) (ci := 6) (v := .ref (a k_37)) (C := RX6) (T := TX6) (N := 9) hx hb hts iwd_X6_readStructures_X6 hown hK hP h0 (Wd_ob kg_1 sg_1 (by decide)) rfl 2 (by decide) (hts _ md_X6_readStructures_1) (fun _ h9 => h9) (fl_q rfl ek_37) dX6_readStructures_109 ?_
        refine lv_iload_n hx hb dX6_readStructures_112 rfl (lv_at hl 1 rfl) ?_
        refine lv_iconst (v := 3) hx hb dX6_readStructures_113 (by decide) ?_
        refine lv_iload_n hx hb dX6_readStructures_114 rfl (lv_at hl 0 rfl) ?_
        obtain ⟨g_39, hf⟩ := grd_some hf
        obtain ⟨kg_39, sg_39⟩ := okO_at g_39
        obtain ⟨z_38, _u, hfc, hf⟩ := cal_some hf
        have hFc := de_free hD hS hA
        refine va_callv (va_runV (As := [.int p_10, .int 3, .int r_29]) (rest := []) ⟨hx, hb, hml, hown, hts⟩ (de_X5_setStructure l dC dI cy a sh n H_36.size F z_34 k_37 p_10 3 r_29 hfc) (cwV 3 hts gX6_readStructures_X5_setStructure rfl rfl rfl (by decide +kernel) ⟨Nat.le_of_ble_eq_true rfl, Nat.le_of_ble_eq_true rfl⟩) ⟨fun a U g mk q => by obtain ⟨q0, q1, qP, qK, qD, qN⟩ := q; exact ⟨q0, q1, qP, va_K.moved (u := U) (U := U.calling g mk a) (Vm.Alike.refl U.vm) qK, qD, qN.same rfl⟩, va_recv hK hP (ci := 5) (q0 := k_37) rfl (Wd_ob kg_39 sg_39 (by decide)), fun U hU hW => ⟨rfl, by rw [hU], by rw [hU]; exact hP, va_K.moved hW.alike hK, hD.weaken (fun _ _ _ _ => trivial), hN.warm hW⟩⟩ rfl rfl hl.1 rfl (lv_room (Nat.le_of_ble_eq_true rfl)) dX6_readStructures_115 ⟨Nat.le_of_ble_eq_true rfl, Nat.le_of_ble_eq_true rfl⟩) hS (fun q _ h => hFc q h) hFc (fun u t H_40 locs ht hvm hw hB hz1 hk1 hS2 => ?_)
        obtain ⟨hP1, -, hD1⟩ := hB
        rw [ht] at hP1
        replace hD := hD1.weaken (fun _ _ _ h => hFc _ h)
        replace hP := hP1
        replace hS := hS2
        clear hP1 hD1 hS2 hFc hfc hz1 hk1 hvm ht
        refine lv_aload_n hx hb dX6_readStructures_118 rfl (lv_at hl 2 rfl) ?_
        obtain ⟨k_41, ek_41, hf⟩ := lnk_some hf
        refine va_get (D := (dC, dI)) (ci := 6) (v := .ref (a k_41)) (C := RX6) (T := TX6) (N := 9) hx hb hts iwd_X6_readStructures_X6 hown hK hP h0 (Wd_ob kg_1 sg_1 (by decide)) rfl 2 (by decide) (hts _ md_X6_readStructures_1) (fun _ h9 => h9) (fl_q rfl ek_41) dX6_readStructures_119 ?_
        refine lv_iload_n hx hb dX6_readStructures_122 rfl (lv_at hl 1 rfl) ?_
        refine lv_iconst (v := 4) hx hb dX6_readStructures_123 (by decide) ?_
        refine lv_aload_n hx hb dX6_readStructures_124 rfl (lv_at hl 2 rfl) ?_
        obtain ⟨k_42, ek_42, hf⟩ := lnk_some hf
        refine va_get (D := (dC, dI)) (ci := 6) (v := .ref (a k_42)) (C := RX6) (T := TX6) (N := 9) hx hb hts iwd_X6_readStructures_X6 hown hK hP h0 (Wd_ob kg_1 sg_1 (by decide)) rfl 2 (by decide) (hts _ md_X6_readStructures_1) (fun _ h9 => h9) (fl_q rfl ek_42) dX6_readStructures_125 ?_
        obtain ⟨g_43, hf⟩ := grd_some hf
        obtain ⟨kg_43, sg_43⟩ := okO_at g_43
        refine va_get (D := (dC, dI)) (ci := 5) (v := .int (z_38.1 k_42 2)) (C := RX5) (T := TX5) (N := 15) hx hb hts iwd_X6_readStructures_X5 hown hK hP k_42 (Wd_ob kg_43 sg_43 (by decide)) rfl 2 (by decide) (hts _ md_X6_readStructures_8) (fun _ h9 => h9) (fl_at (t := 0) rfl) dX6_readStructures_128 ?_
        obtain ⟨g_45, hf⟩ := grd_some hf
        obtain ⟨kg_45, sg_45⟩ := okO_at g_45
        obtain ⟨z_44, _u, hfc, hf⟩ := cal_some hf
        have hFc := de_free hD hS hA
        refine va_callv (va_runV (As := [.int p_10, .int 4, .int (z_38.1 k_42 2)]) (rest := []) ⟨hx, hb, hml, hown, hts⟩ (de_X5_setStructure l dC dI cy a sh n H_40.size F z_38 k_41 p_10 4 (z_38.1 k_42 2) hfc) (cwV 3 hts gX6_readStructures_X5_setStructure rfl rfl rfl (by decide +kernel) ⟨Nat.le_of_ble_eq_true rfl, Nat.le_of_ble_eq_true rfl⟩) ⟨fun a U g mk q => by obtain ⟨q0, q1, qP, qK, qD, qN⟩ := q; exact ⟨q0, q1, qP, va_K.moved (u := U) (U := U.calling g mk a) (Vm.Alike.refl U.vm) qK, qD, qN.same rfl⟩, va_recv hK hP (ci := 5) (q0 := k_41) rfl (Wd_ob kg_45 sg_45 (by decide)), fun U hU hW => ⟨rfl, by rw [hU], by rw [hU]; exact hP, va_K.moved hW.alike hK, hD.weaken (fun _ _ _ _ => trivial), hN.warm hW⟩⟩ rfl rfl hl.1 rfl (lv_room (Nat.le_of_ble_eq_true rfl)) dX6_readStructures_131 ⟨Nat.le_of_ble_eq_true rfl, Nat.le_of_ble_eq_true rfl⟩) hS (fun q _ h => hFc q h) hFc (fun u t H_46 locs ht hvm hw hB hz1 hk1 hS2 => ?_)
        obtain ⟨hP1, -, hD1⟩ := hB
        rw [ht] at hP1
        replace hD := hD1.weaken (fun _ _ _ h => hFc _ h)
        replace hP := hP1
        replace hS := hS2
        clear hP1 hD1 hS2 hFc hfc hz1 hk1 hvm ht
        refine lv_aload_n hx hb dX6_readStructures_134 rfl (lv_at hl 2 rfl) ?_
        obtain ⟨k_47, ek_47, hf⟩ := lnk_some hf
        refine va_get (D := (dC, dI)) (ci := 6) (v := .ref (a k_47)) (C := RX6) (T := TX6) (N := 9) hx hb hts iwd_X6_readStructures_X6 hown hK hP h0 (Wd_ob kg_1 sg_1 (by decide)) rfl 2 (by decide) (hts _ md_X6_readStructures_1) (fun _ h9 => h9) (fl_q rfl ek_47) dX6_readStructures_135 ?_
        refine lv_iload_n hx hb dX6_readStructures_138 rfl (lv_at hl 1 rfl) ?_
        refine lv_iconst (v := 5) hx hb dX6_readStructures_139 (by decide) ?_
        refine lv_iload_n hx hb dX6_readStructures_140 rfl (lv_at hl 1 rfl) ?_
        obtain ⟨g_49, hf⟩ := grd_some hf
        obtain ⟨kg_49, sg_49⟩ := okO_at g_49
        obtain ⟨z_48, _u, hfc, hf⟩ := cal_some hf
        have hFc := de_free hD hS hA
        refine va_callv (va_runV (As := [.int p_10, .int 5, .int p_10]) (rest := []) ⟨hx, hb, hml, hown, hts⟩ (de_X5_setStructure l dC dI cy a sh n H_46.size F z_44 k_47 p_10 5 p_10 hfc) (cwV 3 hts gX6_readStructures_X5_setStructure rfl rfl rfl (by decide +kernel) ⟨Nat.le_of_ble_eq_true rfl, Nat.le_of_ble_eq_true rfl⟩) ⟨fun a U g mk q => by obtain ⟨q0, q1, qP, qK, qD, qN⟩ := q; exact ⟨q0, q1, qP, va_K.moved (u := U) (U := U.calling g mk a) (Vm.Alike.refl U.vm) qK, qD, qN.same rfl⟩, va_recv hK hP (ci := 5) (q0 := k_47) rfl (Wd_ob kg_49 sg_49 (by decide)), fun U hU hW => ⟨rfl, by rw [hU], by rw [hU]; exact hP, va_K.moved hW.alike hK, hD.weaken (fun _ _ _ _ => trivial), hN.warm hW⟩⟩ rfl rfl hl.1 rfl (lv_room (Nat.le_of_ble_eq_true rfl)) dX6_readStructures_141 ⟨Nat.le_of_ble_eq_true rfl, Nat.le_of_ble_eq_true rfl⟩) hS (fun q _ h => hFc q h) hFc (fun u t H_50 locs ht hvm hw hB hz1 hk1 hS2 => ?_)
        obtain ⟨hP1, -, hD1⟩ := hB
        rw [ht] at hP1
        replace hD := hD1.weaken (fun _ _ _ h => hFc _ h)
        replace hP := hP1
        replace hS := hS2
        clear hP1 hD1 hS2 hFc hfc hz1 hk1 hvm ht
        refine lv_aload_n hx hb dX6_readStructures_144 rfl (lv_at hl 2 rfl) ?_
        refine lv_iload_n hx hb dX6_readStructures_145 rfl (lv_at hl 0 rfl) ?_
        refine lv_iconst (v := 0) hx hb dX6_readStructures_146 (by decide) ?_
        obtain ⟨z_51, _u, hfc, hf⟩ := cal_some hf
        have hFc := de_free hD hS hA
        refine va_callv (va_runV (As := [.int r_29, .int 0]) (rest := []) ⟨hx, hb, hml, hown, hts⟩ (de_X6_readTypes l dC dI cy a sh n H_50.size F sk z_48 h0 r_29 0 hfc) (cwV 2 hts gX6_readStructures_X6_readTypes rfl rfl rfl (by decide +kernel) ⟨Nat.le_of_ble_eq_true rfl, Nat.le_of_ble_eq_true rfl⟩) ⟨fun a U g mk q => by obtain ⟨q0, q1, qP, qK, qD, qN, qS⟩ := q; exact ⟨q0, q1, qP, va_K.moved (u := U) (U := U.calling g mk a) (Vm.Alike.refl U.vm) qK, qD, qN.same rfl, SKs.moved (u := U) (U := U.calling g mk a) (Vm.Alike.refl U.vm) qS⟩, va_recv hK hP (ci := 6) (q0 := h0) rfl (Wd_ob kg_1 sg_1 (by decide)), fun U hU hW => ⟨rfl, by rw [hU], by rw [hU]; exact hP, va_K.moved hW.alike hK, hD.weaken (fun _ _ _ _ => trivial), hN.warm hW, by rw [hU]; exact ((hSK.kept hS.2.1).narrow hFc).moved hW.alike⟩⟩ rfl rfl hl.1 rfl (lv_room (Nat.le_of_ble_eq_true rfl)) dX6_readStructures_147 ⟨Nat.le_of_ble_eq_true rfl, Nat.le_of_ble_eq_true rfl⟩) hS (fun q _ h => hFc q h) hFc (fun u t H_52 locs ht hvm hw hB hz1 hk1 hS2 => ?_)
        obtain ⟨hP1, -, hD1⟩ := hB
        rw [ht] at hP1
        replace hD := hD1.weaken (fun _ _ _ h => hFc _ h)
        replace hP := hP1
        replace hS := hS2
        clear hP1 hD1 hS2 hFc hfc hz1 hk1 hvm ht
        refine lv_iinc (v := (p_10 + 1)) (lv' := [(1, .int (p_10 + 1)), (2, .int r_29), (0, .ref (a h0))]) hx hb dX6_readStructures_150 hl (k := 1) rfl rfl (by decide) rfl (fun ls hl2 => ?_)
        replace hl := hl2
        clear hl2
        refine lv_goto (tgt := 37) hx hb dX6_readStructures_153 (by decide) ?_
        exact ih37 (z_51, (p_10 + 1)) ls H_52 locs ⟨lv_sub hl [0, 2] rfl, hP, hD, hS⟩ hf
  refine lv_if_ne (tgt := 35) hx hb dX6_readStructures_18 (by decide) (fun c_53 => ?_) (fun c_53 => ?_)
  · skip
    rw [if_neg c_53] at hf
    exact B35 (z_8) ls H_7 locs ⟨lv_sub hl [0] rfl, hP, hD, hS⟩ hf
  · skip
    rw [if_pos c_53] at hf
    refine lv_aload_n hx hb dX6_readStructures_21 rfl (lv_at hl 0 rfl) ?_
    obtain ⟨k_54, ek_54, hf⟩ := lnk_some hf
    refine va_get (D := (dC, dI)) (ci := 6) (v := .ref (a k_54)) (C := RX6) (T := TX6) (N := 9) hx hb hts iwd_X6_readStructures_X6 hown hK hP h0 (Wd_ob kg_1 sg_1 (by decide)) rfl 2 (by decide) (hts _ md_X6_readStructures_1) (fun _ h9 => h9) (fl_q rfl ek_54) dX6_readStructures_22 ?_
    refine lv_aload_n hx hb dX6_readStructures_25 rfl (lv_at hl 0 rfl) ?_
    obtain ⟨k_55, ek_55, hf⟩ := lnk_some hf
    refine va_get (D := (dC, dI)) (ci := 6) (v := .ref (a k_55)) (C := RX6) (T := TX6) (N := 9) hx hb hts iwd_X6_readStructures_X6 hown hK hP h0 (Wd_ob kg_1 sg_1 (by decide)) rfl 2 (by decide) (hts _ md_X6_readStructures_1) (fun _ h9 => h9) (fl_q rfl ek_55) dX6_readStructures_26 ?_
    obtain ⟨g_56, hf⟩ := grd_some hf
    obtain ⟨kg_56, sg_56⟩ := okO_at g_56
    refine va_get (D := (dC, dI)) (ci := 5) (v := .int (z_8.1 k_55 8)) (C := RX5) (T := TX5) (N := 15) hx hb hts iwd_X6_readStructures_X5 hown hK hP k_55 (Wd_ob kg_56 sg_56 (by decide)) rfl 8 (by decide) (hts _ md_X6_readStructures_2) (fun _ h9 => h9) (fl_at (t := 0) rfl) dX6_readStructures_29 ?_
    obtain ⟨g_57, hf⟩ := grd_some hf
    obtain ⟨kg_57, sg_57⟩ := okO_at g_57
    refine va_put (D := (dC, dI)) (ci := 5) (v := .int (z_8.1 k_55 8)) (ty := .int) (C := RX5) (T := TX5) (N := 15) hx hb hts iwd_X6_readStructures_X5 tyX5 tyX5_ok nmX5 hown hK hP hD hS k_54 (Wd_ob kg_57 sg_57 (by decide)) rfl 9 (by decide) (hts _ md_X6_readStructures_4) (fun _ h9 => h9) rfl (by decide +kernel) rfl rfl (by rw [fl_len]; decide) dX6_readStructures_32 (fun H_58 locs hP2 hD2 hS2 => ?_)
    rw [Wd_si sg_57 (by decide) rfl] at hP2 hD2
    obtain ⟨z_59, ez_59⟩ : ∃ w, w = si z_8 k_54 9 (z_8.1 k_55 8) := ⟨_, rfl⟩
    rw [← ez_59] at hP2 hD2
    replace hf := lt_at ez_59 hf
    clear ez_59
    replace hP := hP2
    replace hD := hD2
    replace hS := hS2
    clear hP2 hD2 hS2
    exact B35 (z_59) ls H_58 locs ⟨lv_sub hl [0] rfl, hP, hD, hS⟩ hf

theorem md_X18_onReference_1 : (.fieldLink RX18 40 "ResourceLedgerModel" "trees" "LResourceLedgerModel$Trees;" : Cond) ∈ wsX18_onReference := List.mem_of_getElem? (i := 1) rfl
theorem iwd_X18_onReference_X18 : ∀ w ∈ wsX180, w ∈ wsX18_onReference := fun _ h => List.mem_cons_of_mem _ (List.mem_append_left _ (List.mem_append_right _ h))
theorem iwd_X18_onReference_X15 : ∀ w ∈ wsX150, w ∈ wsX18_onReference := fun _ h => List.mem_cons_of_mem _ (List.mem_append_right _ h)
set_option maxHeartbeats 4000000 in
set_option maxRecDepth 100000 in
theorem de_X18_onReference (l : Launch) (dC : Nat → ClassId) (dI : Nat → Nat → Nat) (cy : Nat → ClassId) (a : Nat → Nat) (sh : Nat → Nat × Nat) (n sz : Nat) (F : Nat) (z : St) (h0 : Nat) (x0 : Int32) (x1 : Int32) {z8 : St} {r8 : Unit} (hf : fn_X18_onReference F sh n z h0 x0 x1 = some (z8, r8)) : Met l yX18_onReference wsX18_onReference ({ frames := 50, cells := 0, slots := 0, locals := 1153 }) (va_Pc [.ref (a h0), .int x0, .int x1] (fun U => U.heap.size = sz ∧ va_P (dC, dI) vwCl (Wd cy a sh n z) U.heap ∧ va_K (dC, dI) vwCl (TYS cy) U ∧ va_D (fun _ => True) (Wd cy a sh n z) ∧ NK U)) (va_Qv (fun u : Unit => True) (fun u t => va_P (dC, dI) vwCl (Wd cy a sh n z8) t.heap ∧ va_K (dC, dI) vwCl (TYS cy) t ∧ va_D (va_A (Wd cy a sh n z) sz) (Wd cy a sh n z8)) (va_A (Wd cy a sh n z) sz)) 0 0 (va_A (Wd cy a sh n z) sz) := by
  refine Met.ofW (cc := cX18_onReference) (maxL := 5) (ret := none) (by decide) rfl ?_
  intro p e s m args below meth c s₁ B hml hv
  obtain ⟨rfl, hsz, hP, hK, hD0, hN⟩ := hv
  have hx := B.exec
  have hb := B.bytes
  have hr := B.returns
  have hts := atoms_spec (ws := wsX18_onReference) B.pre
  have hown : s.vm.findClass RX18 = some m.cls := findClass_of_methodNamed B.named
  have hlocks := B.notSynchronized
  subst hsz
  have hD := hD0.self (sz := s.heap.size)
  clear hD0
  generalize hAe : va_A (Wd cy a sh n z) s.heap.size = A at hD ⊢
  have hA : ∀ q : Nat, s.heap.size ≤ q → A q := fun q h => by rw [← hAe]; exact Or.inr h
  clear hAe
  have hS : va_S A s.heap s.heap [] := va_S.rf
  have hl := lv_entry ([.ref (a h0), .int x0, .int x1]) (n := 5) (Nat.le_of_ble_eq_true rfl)
  rw [lg_entry_eq]
  generalize (lg_sl ([.ref (a h0), .int x0, .int x1]) ++ List.replicate (5 - (lg_sl ([.ref (a h0), .int x0, .int x1])).length) Slot.unset).toArray = ls at hl ⊢
  replace hl : lv_has ls 5 [(0, .ref (a h0)), (1, .int x0), (2, .int x1)] := hl
  unfold fn_X18_onReference at hf
  refine de_start hS hP (fun H locs hS hP => ?_)
  refine lv_aload_n hx hb dX18_onReference_0 rfl (lv_at hl 0 rfl) ?_
  refine lv_iconst (v := 1) hx hb dX18_onReference_1 (by decide) ?_
  obtain ⟨g_3, hf⟩ := grd_some hf
  obtain ⟨kg_3, sg_3⟩ := okO_at g_3
  obtain ⟨z_1, r_2, hfc, hf⟩ := cal_some hf
  have hFc := de_free hD hS hA
  refine va_calli (va_runV (As := [.int 1]) (rest := []) ⟨hx, hb, hml, hown, hts⟩ (de_X18_takeAny l dC dI cy a sh n H.size F z h0 1 hfc) (cwV 1 hts gX18_onReference_X18_takeAny rfl rfl rfl (by decide +kernel) ⟨Nat.le_of_ble_eq_true rfl, Nat.le_of_ble_eq_true rfl⟩) ⟨fun a U g mk q => by obtain ⟨q0, q1, qP, qK, qD, qN⟩ := q; exact ⟨q0, q1, qP, va_K.moved (u := U) (U := U.calling g mk a) (Vm.Alike.refl U.vm) qK, qD, qN.same rfl⟩, va_recv hK hP (ci := 18) (q0 := h0) rfl (Wd_ob kg_3 sg_3 (by decide)), fun U hU hW => ⟨rfl, by rw [hU], by rw [hU]; exact hP, va_K.moved hW.alike hK, hD.weaken (fun _ _ _ _ => trivial), hN.warm hW⟩⟩ rfl rfl hl.1 rfl (lv_room (Nat.le_of_ble_eq_true rfl)) dX18_onReference_2 ⟨Nat.le_of_ble_eq_true rfl, Nat.le_of_ble_eq_true rfl⟩) hS (fun q _ h => hFc q h) hFc (fun rr u t H_4 locs ht hvm hw hB hz1 hk1 hS2 => ?_)
  rw [hw]
  clear hw
  obtain ⟨hP1, -, hD1⟩ := hB
  rw [ht] at hP1
  replace hD := hD1.weaken (fun _ _ _ h => hFc _ h)
  replace hP := hP1
  replace hS := hS2
  clear hP1 hD1 hS2 hFc hfc hz1 hk1 hvm ht
  refine lv_istore_n (lv' := [(3, .int r_2), (0, .ref (a h0)), (1, .int x0), (2, .int x1)]) hx hb dX18_onReference_5 rfl hl (by decide) rfl (fun ls hl2 => ?_)
  replace hl := hl2
  clear hl2
  refine lv_aload_n hx hb dX18_onReference_6 rfl (lv_at hl 1 rfl) ?_
  obtain ⟨z_5, r_6, hfc, hf⟩ := cal_some hf
  have hFc := de_free hD hS hA
  refine va_calli (va_runV (As := []) (rest := []) ⟨hx, hb, hml, hown, hts⟩ (de_X18_goesOn l dC dI cy a sh n H_4.size F z_1 h0 hfc) (cwV 0 hts gX18_onReference_X18_goesOn rfl rfl rfl (by decide +kernel) ⟨Nat.le_of_ble_eq_true rfl, Nat.le_of_ble_eq_true rfl⟩) ⟨fun a U g mk q => by obtain ⟨q0, q1, qP, qK, qD, qN⟩ := q; exact ⟨q0, q1, qP, va_K.moved (u := U) (U := U.calling g mk a) (Vm.Alike.refl U.vm) qK, qD, qN.same rfl⟩, va_recv hK hP (ci := 18) (q0 := h0) rfl (Wd_ob kg_3 sg_3 (by decide)), fun U hU hW => ⟨rfl, by rw [hU], by rw [hU]; exact hP, va_K.moved hW.alike hK, hD.weaken (fun _ _ _ _ => trivial), hN.warm hW⟩⟩ rfl rfl hl.1 rfl (lv_room (Nat.le_of_ble_eq_true rfl)) dX18_onReference_7 ⟨Nat.le_of_ble_eq_true rfl, Nat.le_of_ble_eq_true rfl⟩) hS (fun q _ h => hFc q h) hFc (fun rr u t H_7 locs ht hvm hw hB hz1 hk1 hS2 => ?_)
  rw [hw]
  clear hw
  obtain ⟨hP1, -, hD1⟩ := hB
  rw [ht] at hP1
  replace hD := hD1.weaken (fun _ _ _ h => hFc _ h)
  replace hP := hP1
  replace hS := hS2
  clear hP1 hD1 hS2 hFc hfc hz1 hk1 hvm ht
  refine lv_if_ne (tgt := 14) hx hb dX18_onReference_10 (by decide) (fun c_8 => ?_) (fun c_8 => ?_)
  · skip
    rw [if_neg c_8] at hf
    refine lv_iload_n hx hb dX18_onReference_14 rfl (lv_at hl 2 rfl) ?_
    refine lv_bipush (v := 20) hx hb dX18_onReference_15 (by decide) ?_
    refine lv_icmp_ne (tgt := 29) hx hb dX18_onReference_17 (by decide) (fun c_9 => ?_) (fun c_9 => ?_)
    · skip
      rw [if_neg c_9] at hf
      refine lv_iload_n hx hb dX18_onReference_29 rfl (lv_at hl 2 rfl) ?_
      refine lv_bipush (v := 18) hx hb dX18_onReference_30 (by decide) ?_
      refine lv_icmp_ne (tgt := 66) hx hb dX18_onReference_32 (by decide) (fun c_10 => ?_) (fun c_10 => ?_)
      · skip
        rw [if_neg c_10] at hf
        refine lv_iload_n hx hb dX18_onReference_66 rfl (lv_at hl 2 rfl) ?_
        refine lv_bipush (v := 19) hx hb dX18_onReference_67 (by decide) ?_
        refine lv_icmp_ne (tgt := 129) hx hb dX18_onReference_69 (by decide) (fun c_11 => ?_) (fun c_11 => ?_)
        · skip
          rw [if_neg c_11] at hf
          refine lv_aload_n hx hb dX18_onReference_129 rfl (lv_at hl 1 rfl) ?_
          obtain ⟨k_12, ek_12, hf⟩ := lnk_some hf
          refine va_get (D := (dC, dI)) (ci := 18) (v := .ref (a k_12)) (C := RX18) (T := TX18) (N := 78) hx hb hts iwd_X18_onReference_X18 hown hK hP h0 (Wd_ob kg_3 sg_3 (by decide)) rfl 15 (by decide) (hts _ md_X18_onReference_1) (fun _ h9 => h9) (fl_q rfl ek_12) dX18_onReference_130 ?_
          refine lv_iload_n hx hb dX18_onReference_133 rfl (lv_at hl 0 rfl) ?_
          refine lv_iload_n hx hb dX18_onReference_134 rfl (lv_at hl 3 rfl) ?_
          refine lv_i2l (v := (x1 : Int32).toInt64) hx hb dX18_onReference_135 rfl ?_
          obtain ⟨g_15, hf⟩ := grd_some hf
          obtain ⟨kg_15, sg_15⟩ := okO_at g_15
          obtain ⟨z_13, r_14, hfc, hf⟩ := cal_some hf
          have hFc := de_free hD hS hA
          refine va_calli (va_runV (As := [.int r_2, .long ((x1 : Int32).toInt64)]) (rest := []) ⟨hx, hb, hml, hown, hts⟩ (de_X15_part l dC dI cy a sh n H_7.size F z_5 k_12 r_2 ((x1 : Int32).toInt64) hfc) (cwV 2 hts gX18_onReference_X15_part rfl rfl rfl (by decide +kernel) ⟨Nat.le_of_ble_eq_true rfl, Nat.le_of_ble_eq_true rfl⟩) ⟨fun a U g mk q => by obtain ⟨q0, q1, qP, qK, qD, qN⟩ := q; exact ⟨q0, q1, qP, va_K.moved (u := U) (U := U.calling g mk a) (Vm.Alike.refl U.vm) qK, qD, qN.same rfl⟩, va_recv hK hP (ci := 15) (q0 := k_12) rfl (Wd_ob kg_15 sg_15 (by decide)), fun U hU hW => ⟨rfl, by rw [hU], by rw [hU]; exact hP, va_K.moved hW.alike hK, hD.weaken (fun _ _ _ _ => trivial), hN.warm hW⟩⟩ rfl rfl hl.1 rfl (lv_room (Nat.le_of_ble_eq_true rfl)) dX18_onReference_136 ⟨Nat.le_of_ble_eq_true rfl, Nat.le_of_ble_eq_true rfl⟩) hS (fun q _ h => hFc q h) hFc (fun rr u t H_16 locs ht hvm hw hB hz1 hk1 hS2 => ?_)
          rw [hw]
          clear hw
          obtain ⟨hP1, -, hD1⟩ := hB
          rw [ht] at hP1
          replace hD := hD1.weaken (fun _ _ _ h => hFc _ h)
          replace hP := hP1
          replace hS := hS2
          clear hP1 hD1 hS2 hFc hfc hz1 hk1 hvm ht
          refine lv_istore (lv' := [(4, .int r_14), (3, .int r_2), (0, .ref (a h0)), (1, .int x0), (2, .int x1)]) hx hb dX18_onReference_139 hl (by decide) rfl (fun ls hl2 => ?_)
          replace hl := hl2
          clear hl2
          refine lv_iload hx hb dX18_onReference_141 (lv_at hl 0 rfl) ?_
          refine lv_iconst (v := (-1)) hx hb dX18_onReference_143 (by decide) ?_
          refine lv_icmp_ne (tgt := 154) hx hb dX18_onReference_144 (by decide) (fun c_17 => ?_) (fun c_17 => ?_)
          · skip
            rw [if_neg c_17] at hf
            refine lv_aload_n hx hb dX18_onReference_154 rfl (lv_at hl 2 rfl) ?_
            refine lv_iload hx hb dX18_onReference_155 (lv_at hl 0 rfl) ?_
            refine lv_iconst (v := 1) hx hb dX18_onReference_157 (by decide) ?_
            obtain ⟨z_18, _u, hfc, hf⟩ := cal_some hf
            have hFc := de_free hD hS hA
            refine va_callv (va_runV (As := [.int r_14, .int 1]) (rest := []) ⟨hx, hb, hml, hown, hts⟩ (de_X18_push l dC dI cy a sh n H_16.size F z_13 h0 r_14 1 hfc) (cwV 2 hts gX18_onReference_X18_push rfl rfl rfl (by decide +kernel) ⟨Nat.le_of_ble_eq_true rfl, Nat.le_of_ble_eq_true rfl⟩) ⟨fun a U g mk q => by obtain ⟨q0, q1, qP, qK, qD, qN⟩ := q; exact ⟨q0, q1, qP, va_K.moved (u := U) (U := U.calling g mk a) (Vm.Alike.refl U.vm) qK, qD, qN.same rfl⟩, va_recv hK hP (ci := 18) (q0 := h0) rfl (Wd_ob kg_3 sg_3 (by decide)), fun U hU hW => ⟨rfl, by rw [hU], by rw [hU]; exact hP, va_K.moved hW.alike hK, hD.weaken (fun _ _ _ _ => trivial), hN.warm hW⟩⟩ rfl rfl hl.1 rfl (lv_room (Nat.le_of_ble_eq_true rfl)) dX18_onReference_158 ⟨Nat.le_of_ble_eq_true rfl, Nat.le_of_ble_eq_true rfl⟩) hS (fun q _ h => hFc q h) hFc (fun u t H_19 locs ht hvm hw hB hz1 hk1 hS2 => ?_)
            obtain ⟨hP1, -, hD1⟩ := hB
            rw [ht] at hP1
            replace hD := hD1.weaken (fun _ _ _ h => hFc _ h)
            replace hP := hP1
            replace hS := hS2
            clear hP1 hD1 hS2 hFc hfc hz1 hk1 hvm ht
            obtain ⟨h8, h9⟩ := ret_some hf
            rw [h8]
            exact W.vret hx hb hr (fun t ht hW => ⟨⟨(), rfl, trivial, by rw [ht]; exact hP, va_K.moved hW.alike hK, hD⟩, hS.F ht⟩) hS.2.2 dX18_onReference_161
          · skip
            rw [if_pos c_17] at hf
            refine lv_aload_n hx hb dX18_onReference_147 rfl (lv_at hl 2 rfl) ?_
            obtain ⟨z_20, _u, hfc, hf⟩ := cal_some hf
            have hFc := de_free hD hS hA
            refine va_callv (va_runV (As := []) (rest := []) ⟨hx, hb, hml, hown, hts⟩ (de_X18_slip l dC dI cy a sh n H_16.size F z_13 h0 hfc) (cwV 0 hts gX18_onReference_X18_slip rfl rfl rfl (by decide +kernel) ⟨Nat.le_of_ble_eq_true rfl, Nat.le_of_ble_eq_true rfl⟩) ⟨fun a U g mk q => by obtain ⟨q0, q1, qP, qK, qD, qN⟩ := q; exact ⟨q0, q1, qP, va_K.moved (u := U) (U := U.calling g mk a) (Vm.Alike.refl U.vm) qK, qD, qN.same rfl⟩, va_recv hK hP (ci := 18) (q0 := h0) rfl (Wd_ob kg_3 sg_3 (by decide)), fun U hU hW => ⟨rfl, by rw [hU], by rw [hU]; exact hP, va_K.moved hW.alike hK, hD.weaken (fun _ _ _ _ => trivial), hN.warm hW⟩⟩ rfl rfl hl.1 rfl (lv_room (Nat.le_of_ble_eq_true rfl)) dX18_onReference_148 ⟨Nat.le_of_ble_eq_true rfl, Nat.le_of_ble_eq_true rfl⟩) hS (fun q _ h => hFc q h) hFc (fun u t H_21 locs ht hvm hw hB hz1 hk1 hS2 => ?_)
            obtain ⟨hP1, -, hD1⟩ := hB
            rw [ht] at hP1
            replace hD := hD1.weaken (fun _ _ _ h => hFc _ h)
            replace hP := hP1
            replace hS := hS2
            clear hP1 hD1 hS2 hFc hfc hz1 hk1 hvm ht
            refine lv_goto (tgt := 161) hx hb dX18_onReference_151 (by decide) ?_
            obtain ⟨h8, h9⟩ := ret_some hf
            rw [h8]
            exact W.vret hx hb hr (fun t ht hW => ⟨⟨(), rfl, trivial, by rw [ht]; exact hP, va_K.moved hW.alike hK, hD⟩, hS.F ht⟩) hS.2.2 dX18_onReference_161
        · skip
          rw [if_pos c_11] at hf
          refine lv_aload_n hx hb dX18_onReference_72 rfl (lv_at hl 1 rfl) ?_
          refine lv_iconst (v := 0) hx hb dX18_onReference_73 (by decide) ?_
          obtain ⟨z_22, r_23, hfc, hf⟩ := cal_some hf
          have hFc := de_free hD hS hA
          refine va_calli (va_runV (As := [.int 0]) (rest := []) ⟨hx, hb, hml, hown, hts⟩ (de_X18_takeAny l dC dI cy a sh n H_7.size F z_5 h0 0 hfc) (cwV 1 hts gX18_onReference_X18_takeAny rfl rfl rfl (by decide +kernel) ⟨Nat.le_of_ble_eq_true rfl, Nat.le_of_ble_eq_true rfl⟩) ⟨fun a U g mk q => by obtain ⟨q0, q1, qP, qK, qD, qN⟩ := q; exact ⟨q0, q1, qP, va_K.moved (u := U) (U := U.calling g mk a) (Vm.Alike.refl U.vm) qK, qD, qN.same rfl⟩, va_recv hK hP (ci := 18) (q0 := h0) rfl (Wd_ob kg_3 sg_3 (by decide)), fun U hU hW => ⟨rfl, by rw [hU], by rw [hU]; exact hP, va_K.moved hW.alike hK, hD.weaken (fun _ _ _ _ => trivial), hN.warm hW⟩⟩ rfl rfl hl.1 rfl (lv_room (Nat.le_of_ble_eq_true rfl)) dX18_onReference_74 ⟨Nat.le_of_ble_eq_true rfl, Nat.le_of_ble_eq_true rfl⟩) hS (fun q _ h => hFc q h) hFc (fun rr u t H_24 locs ht hvm hw hB hz1 hk1 hS2 => ?_)
          rw [hw]
          clear hw
          obtain ⟨hP1, -, hD1⟩ := hB
          rw [ht] at hP1
          replace hD := hD1.weaken (fun _ _ _ h => hFc _ h)
          replace hP := hP1
          replace hS := hS2
          clear hP1 hD1 hS2 hFc hfc hz1 hk1 hvm ht
          refine lv_istore (lv' := [(4, .int r_23), (3, .int r_2), (0, .ref (a h0)), (1, .int x0), (2, .int x1)]) hx hb dX18_onReference_77 hl (by decide) rfl (fun ls hl2 => ?_)
          replace hl := hl2
          clear hl2
          refine lv_aload_n hx hb dX18_onReference_79 rfl (lv_at hl 2 rfl) ?_
          obtain ⟨z_25, r_26, hfc, hf⟩ := cal_some hf
          have hFc := de_free hD hS hA
          refine va_calli (va_runV (As := []) (rest := []) ⟨hx, hb, hml, hown, hts⟩ (de_X18_goesOn l dC dI cy a sh n H_24.size F z_22 h0 hfc) (cwV 0 hts gX18_onReference_X18_goesOn rfl rfl rfl (by decide +kernel) ⟨Nat.le_of_ble_eq_true rfl, Nat.le_of_ble_eq_true rfl⟩) ⟨fun a U g mk q => by obtain ⟨q0, q1, qP, qK, qD, qN⟩ := q; exact ⟨q0, q1, qP, va_K.moved (u := U) (U := U.calling g mk a) (Vm.Alike.refl U.vm) qK, qD, qN.same rfl⟩, va_recv hK hP (ci := 18) (q0 := h0) rfl (Wd_ob kg_3 sg_3 (by decide)), fun U hU hW => ⟨rfl, by rw [hU], by rw [hU]; exact hP, va_K.moved hW.alike hK, hD.weaken (fun _ _ _ _ => trivial), hN.warm hW⟩⟩ rfl rfl hl.1 rfl (lv_room (Nat.le_of_ble_eq_true rfl)) dX18_onReference_80 ⟨Nat.le_of_ble_eq_true rfl, Nat.le_of_ble_eq_true rfl⟩) hS (fun q _ h => hFc q h) hFc (fun rr u t H_27 locs ht hvm hw hB hz1 hk1 hS2 => ?_)
          rw [hw]
          clear hw
          obtain ⟨hP1, -, hD1⟩ := hB
          rw [ht] at hP1
          replace hD := hD1.weaken (fun _ _ _ h => hFc _ h)
          replace hP := hP1
          replace hS := hS2
          clear hP1 hD1 hS2 hFc hfc hz1 hk1 hvm ht
          refine lv_if_ne (tgt := 87) hx hb dX18_onReference_83 (by decide) (fun c_28 => ?_) (fun c_28 => ?_)
          · skip
            rw [if_neg c_28] at hf
            refine lv_aload_n hx hb dX18_onReference_87 rfl (lv_at hl 2 rfl) ?_
            obtain ⟨k_29, ek_29, hf⟩ := lnk_some hf
            refine va_get (D := (dC, dI)) (ci := 18) (v := .ref (a k_29)) (C := RX18) (T := TX18) (N := 78) hx hb hts iwd_X18_onReference_X18 hown hK hP h0 (Wd_ob kg_3 sg_3 (by decide)) rfl 15 (by decide) (hts _ md_X18_onReference_1) (fun _ h9 => h9) (fl_q rfl ek_29) dX18_onReference_88 ?_
            obtain ⟨g_30, hf⟩ := grd_some hf
            obtain ⟨kg_30, sg_30⟩ := okO_at g_30
            obtain ⟨k_31, ek_31, hf⟩ := lnk_some hf
            refine va_getN (D := (dC, dI)) (ci := 15) (v := .ref (a k_31)) (C := RX15) (T := TX15) (N := 6) hx hb hts iwd_X18_onReference_X15 hown hK hP k_29 (Wd_ob kg_30 sg_30 (by decide)) rfl 0 (by decide) (va_Nw.use rfl (NK_f_X18_71 hN)) (fun _ h9 => h9) (fl_q rfl ek_31) dX18_onReference_91 ?_
            refine lv_iload hx hb dX18_onReference_94 (lv_at hl 0 rfl) ?_
            obtain ⟨g_32, hf⟩ := grd_some hf
            obtain ⟨kg_32, sg_32, ig_32⟩ := okA_at g_32
            refine va_bald hx hb hK hP k_31 0 (Wd_ab kg_32 sg_32) rfl ig_32 dX18_onReference_96 ?_
            refine lv_aload_n hx hb dX18_onReference_97 rfl (lv_at hl 2 rfl) ?_
            obtain ⟨k_33, ek_33, hf⟩ := lnk_some hf
            refine va_get (D := (dC, dI)) (ci := 18) (v := .ref (a k_33)) (C := RX18) (T := TX18) (N := 78) hx hb hts iwd_X18_onReference_X18 hown hK hP h0 (Wd_ob kg_3 sg_3 (by decide)) rfl 15 (by decide) (hts _ md_X18_onReference_1) (fun _ h9 => h9) (fl_q rfl ek_33) dX18_onReference_98 ?_
            obtain ⟨g_34, hf⟩ := grd_some hf
            obtain ⟨kg_34, sg_34⟩ := okO_at g_34
            obtain ⟨k_35, ek_35, hf⟩ := lnk_some hf
            refine va_getN (D := (dC, dI)) (ci := 15) (v := .ref (a k_35)) (C := RX15) (T := TX15) (N := 6) hx hb hts iwd_X18_onReference_X15 hown hK hP k_33 (Wd_ob kg_34 sg_34 (by decide)) rfl 0 (by decide) (va_Nw.use rfl (NK_f_X18_71 hN)) (fun _ h9 => h9) (fl_q rfl ek_35) dX18_onReference_101 ?_
            refine lv_iload_n hx hb dX18_onReference_104 rfl (lv_at hl 1 rfl) ?_
            obtain ⟨g_36, hf⟩ := grd_some hf
            obtain ⟨kg_36, sg_36, ig_36⟩ := okA_at g_36
            refine va_bald hx hb hK hP k_35 0 (Wd_ab kg_36 sg_36) rfl ig_36 dX18_onReference_105 ?_
            refine lv_icmp_eq (tgt := 116) hx hb dX18_onReference_106 (by decide) (fun c_37 => ?_) (fun c_37 => ?_)
            · skip
              rw [if_pos c_37] at hf
              refine lv_aload_n hx hb dX18_onReference_116 rfl (lv_at hl 2 rfl) ?_
              obtain ⟨k_38, ek_38, hf⟩ := lnk_some hf
              refine va_get (D := (dC, dI)) (ci := 18) (v := .ref (a k_38)) (C := RX18) (T := TX18) (N := 78) hx hb hts iwd_X18_onReference_X18 hown hK hP h0 (Wd_ob kg_3 sg_3 (by decide)) rfl 15 (by decide) (hts _ md_X18_onReference_1) (fun _ h9 => h9) (fl_q rfl ek_38) dX18_onReference_117 ?_
              refine lv_iload_n hx hb dX18_onReference_120 rfl (lv_at hl 1 rfl) ?_
              refine lv_iload hx hb dX18_onReference_121 (lv_at hl 0 rfl) ?_
              obtain ⟨g_40, hf⟩ := grd_some hf
              obtain ⟨kg_40, sg_40⟩ := okO_at g_40
              obtain ⟨z_39, _u, hfc, hf⟩ := cal_some hf
              have hFc := de_free hD hS hA
              refine va_callv (va_runV (As := [.int r_2, .int r_23]) (rest := []) ⟨hx, hb, hml, hown, hts⟩ (de_X15_become l dC dI cy a sh n H_27.size F z_25 k_38 r_2 r_23 hfc) (cwV 2 hts gX18_onReference_X15_become rfl rfl rfl (by decide +kernel) ⟨Nat.le_of_ble_eq_true rfl, Nat.le_of_ble_eq_true rfl⟩) ⟨fun a U g mk q => by obtain ⟨q0, q1, qP, qK, qD, qN⟩ := q; exact ⟨q0, q1, qP, va_K.moved (u := U) (U := U.calling g mk a) (Vm.Alike.refl U.vm) qK, qD, qN.same rfl⟩, va_recv hK hP (ci := 15) (q0 := k_38) rfl (Wd_ob kg_40 sg_40 (by decide)), fun U hU hW => ⟨rfl, by rw [hU], by rw [hU]; exact hP, va_K.moved hW.alike hK, hD.weaken (fun _ _ _ _ => trivial), hN.warm hW⟩⟩ rfl rfl hl.1 rfl (lv_room (Nat.le_of_ble_eq_true rfl)) dX18_onReference_123 ⟨Nat.le_of_ble_eq_true rfl, Nat.le_of_ble_eq_true rfl⟩) hS (fun q _ h => hFc q h) hFc (fun u t H_41 locs ht hvm hw hB hz1 hk1 hS2 => ?_)
              obtain ⟨hP1, -, hD1⟩ := hB
              rw [ht] at hP1
              replace hD := hD1.weaken (fun _ _ _ h => hFc _ h)
              replace hP := hP1
              replace hS := hS2
              clear hP1 hD1 hS2 hFc hfc hz1 hk1 hvm ht
              refine lv_goto (tgt := 161) hx hb dX18_onReference_126 (by decide) ?_
              obtain ⟨h8, h9⟩ := ret_some hf
              rw [h8]
              exact W.vret hx hb hr (fun t ht hW => ⟨⟨(), rfl, trivial, by rw [ht]; exact hP, va_K.moved hW.alike hK, hD⟩, hS.F ht⟩) hS.2.2 dX18_onReference_161
            · skip
              rw [if_neg c_37] at hf
              refine lv_aload_n hx hb dX18_onReference_109 rfl (lv_at hl 2 rfl) ?_
              obtain ⟨z_42, _u, hfc, hf⟩ := cal_some hf
              have hFc := de_free hD hS hA
              refine va_callv (va_runV (As := []) (rest := []) ⟨hx, hb, hml, hown, hts⟩ (de_X18_slip l dC dI cy a sh n H_27.size F z_25 h0 hfc) (cwV 0 hts gX18_onReference_X18_slip rfl rfl rfl (by decide +kernel) ⟨Nat.le_of_ble_eq_true rfl, Nat.le_of_ble_eq_true rfl⟩) ⟨fun a U g mk q => by obtain ⟨q0, q1, qP, qK, qD, qN⟩ := q; exact ⟨q0, q1, qP, va_K.moved (u := U) (U := U.calling g mk a) (Vm.Alike.refl U.vm) qK, qD, qN.same rfl⟩, va_recv hK hP (ci := 18) (q0 := h0) rfl (Wd_ob kg_3 sg_3 (by decide)), fun U hU hW => ⟨rfl, by rw [hU], by rw [hU]; exact hP, va_K.moved hW.alike hK, hD.weaken (fun _ _ _ _ => trivial), hN.warm hW⟩⟩ rfl rfl hl.1 rfl (lv_room (Nat.le_of_ble_eq_true rfl)) dX18_onReference_110 ⟨Nat.le_of_ble_eq_true rfl, Nat.le_of_ble_eq_true rfl⟩) hS (fun q _ h => hFc q h) hFc (fun u t H_43 locs ht hvm hw hB hz1 hk1 hS2 => ?_)
              obtain ⟨hP1, -, hD1⟩ := hB
              rw [ht] at hP1
              replace hD := hD1.weaken (fun _ _ _ h => hFc _ h)
              replace hP := hP1
              replace hS := hS2
              clear hP1 hD1 hS2 hFc hfc hz1 hk1 hvm ht
              refine lv_goto (tgt := 126) hx hb dX18_onReference_113 (by decide) ?_
              refine lv_goto (tgt := 161) hx hb dX18_onReference_126 (by decide) ?_
              obtain ⟨h8, h9⟩ := ret_some hf
              rw [h8]
              exact W.vret hx hb hr (fun t ht hW => ⟨⟨(), rfl, trivial, by rw [ht]; exact hP, va_K.moved hW.alike hK, hD⟩, hS.F ht⟩) hS.2.2 dX18_onReference_161
          · skip
            rw [if_pos c_28] at hf
            obtain ⟨h8, h9⟩ := ret_some hf
            rw [h8]
            exact W.vret hx hb hr (fun t ht hW => ⟨⟨(), rfl, trivial, by rw [ht]; exact hP, va_K.moved hW.alike hK, hD⟩, hS.F ht⟩) hS.2.2 dX18_onReference_86
      · skip
        rw [if_pos c_10] at hf
        refine lv_aload_n hx hb dX18_onReference_35 rfl (lv_at hl 1 rfl) ?_
        refine lv_aload_n hx hb dX18_onReference_36 rfl (lv_at hl 1 rfl) ?_
        obtain ⟨k_44, ek_44, hf⟩ := lnk_some hf
        refine va_get (D := (dC, dI)) (ci := 18) (v := .ref (a k_44)) (C := RX18) (T := TX18) (N := 78) hx hb hts iwd_X18_onReference_X18 hown hK hP h0 (Wd_ob kg_3 sg_3 (by decide)) rfl 15 (by decide) (hts _ md_X18_onReference_1) (fun _ h9 => h9) (fl_q rfl ek_44) dX18_onReference_37 ?_
        refine lv_iload_n hx hb dX18_onReference_40 rfl (lv_at hl 0 rfl) ?_
        obtain ⟨g_47, hf⟩ := grd_some hf
        obtain ⟨kg_47, sg_47⟩ := okO_at g_47
        obtain ⟨z_45, r_46, hfc, hf⟩ := cal_some hf
        have hFc := de_free hD hS hA
        refine va_calli (va_runV (As := [.int r_2]) (rest := [.ref (a h0)]) ⟨hx, hb, hml, hown, hts⟩ (de_X15_sizeOf l dC dI cy a sh n F 48 H_7.size z_5 k_44 r_2 hfc) (cwV 1 hts gX18_onReference_X15_sizeOf rfl rfl rfl (by decide +kernel) ⟨Nat.le_of_ble_eq_true rfl, Nat.le_of_ble_eq_true rfl⟩) ⟨fun a U g mk q => by obtain ⟨q0, q1, qP, qK, qD, qN⟩ := q; exact ⟨q0, q1, qP, va_K.moved (u := U) (U := U.calling g mk a) (Vm.Alike.refl U.vm) qK, qD, qN.same rfl⟩, va_recv hK hP (ci := 15) (q0 := k_44) rfl (Wd_ob kg_47 sg_47 (by decide)), fun U hU hW => ⟨rfl, by rw [hU], by rw [hU]; exact hP, va_K.moved hW.alike hK, hD.weaken (fun _ _ _ _ => trivial), hN.warm hW⟩⟩ rfl rfl hl.1 rfl (lv_room (Nat.le_of_ble_eq_true rfl)) dX18_onReference_41 ⟨Nat.le_of_ble_eq_true rfl, Nat.le_of_ble_eq_true rfl⟩) hS (fun q _ h => hFc q h) hFc (fun rr u t H_48 locs ht hvm hw hB hz1 hk1 hS2 => ?_)
        rw [hw]
        clear hw
        obtain ⟨hP1, -, hD1⟩ := hB
        rw [ht] at hP1
        replace hD := hD1.weaken (fun _ _ _ h => hFc _ h)
        replace hP := hP1
        replace hS := hS2
        clear hP1 hD1 hS2 hFc hfc hz1 hk1 hvm ht
        obtain ⟨z_49, r_50, hfc, hf⟩ := cal_some hf
        have hFc := de_free hD hS hA
        refine va_calli (va_runV (As := [.int r_46]) (rest := []) ⟨hx, hb, hml, hown, hts⟩ (de_X18_spend l dC dI cy a sh n H_48.size F z_45 h0 r_46 hfc) (cwV 1 hts gX18_onReference_X18_spend rfl rfl rfl (by decide +kernel) ⟨Nat.le_of_ble_eq_true rfl, Nat.le_of_ble_eq_true rfl⟩) ⟨fun a U g mk q => by obtain ⟨q0, q1, qP, qK, qD, qN⟩ := q; exact ⟨q0, q1, qP, va_K.moved (u := U) (U := U.calling g mk a) (Vm.Alike.refl U.vm) qK, qD, qN.same rfl⟩, va_recv hK hP (ci := 18) (q0 := h0) rfl (Wd_ob kg_3 sg_3 (by decide)), fun U hU hW => ⟨rfl, by rw [hU], by rw [hU]; exact hP, va_K.moved hW.alike hK, hD.weaken (fun _ _ _ _ => trivial), hN.warm hW⟩⟩ rfl rfl hl.1 rfl (lv_room (Nat.le_of_ble_eq_true rfl)) dX18_onReference_44 ⟨Nat.le_of_ble_eq_true rfl, Nat.le_of_ble_eq_true rfl⟩) hS (fun q _ h => hFc q h) hFc (fun rr u t H_51 locs ht hvm hw hB hz1 hk1 hS2 => ?_)
        rw [hw]
        clear hw
        obtain ⟨hP1, -, hD1⟩ := hB
        rw [ht] at hP1
        replace hD := hD1.weaken (fun _ _ _ h => hFc _ h)
        replace hP := hP1
        replace hS := hS2
        clear hP1 hD1 hS2 hFc hfc hz1 hk1 hvm ht
        refine lv_if_eq (tgt := 161) hx hb dX18_onReference_47 (by decide) (fun c_52 => ?_) (fun c_52 => ?_)
        · skip
          rw [if_pos c_52] at hf
          obtain ⟨h8, h9⟩ := ret_some hf
          rw [h8]
          exact W.vret hx hb hr (fun t ht hW => ⟨⟨(), rfl, trivial, by rw [ht]; exact hP, va_K.moved hW.alike hK, hD⟩, hS.F ht⟩) hS.2.2 dX18_onReference_161
        · skip
          rw [if_neg c_52] at hf
          refine lv_aload_n hx hb dX18_onReference_50 rfl (lv_at hl 1 rfl) ?_
          refine lv_aload_n hx hb dX18_onReference_51 rfl (lv_at hl 1 rfl) ?_
          obtain ⟨k_53, ek_53, hf⟩ := lnk_some hf
          refine va_get (D := (dC, dI)) (ci := 18) (v := .ref (a k_53)) (C := RX18) (T := TX18) (N := 78) hx hb hts iwd_X18_onReference_X18 hown hK hP h0 (Wd_ob kg_3 sg_3 (by decide)) rfl 15 (by decide) (hts _ md_X18_onReference_1) (fun _ h9 => h9) (fl_q rfl ek_53) dX18_onReference_52 ?_
          refine lv_iload_n hx hb dX18_onReference_55 rfl (lv_at hl 0 rfl) ?_
          obtain ⟨g_56, hf⟩ := grd_some hf
          obtain ⟨kg_56, sg_56⟩ := okO_at g_56
          obtain ⟨z_54, r_55, hfc, hf⟩ := cal_some hf
          have hFc := de_free hD hS hA
          refine va_calli (va_runV (As := [.int r_2]) (rest := [.ref (a h0)]) ⟨hx, hb, hml, hown, hts⟩ (de_X15_copy l dC dI cy a sh n F 48 H_51.size z_49 k_53 r_2 hfc) (cwV 1 hts gX18_onReference_X15_copy rfl rfl rfl (by decide +kernel) ⟨Nat.le_of_ble_eq_true rfl, Nat.le_of_ble_eq_true rfl⟩) ⟨fun a U g mk q => by obtain ⟨q0, q1, qP, qK, qD, qN⟩ := q; exact ⟨q0, q1, qP, va_K.moved (u := U) (U := U.calling g mk a) (Vm.Alike.refl U.vm) qK, qD, qN.same rfl⟩, va_recv hK hP (ci := 15) (q0 := k_53) rfl (Wd_ob kg_56 sg_56 (by decide)), fun U hU hW => ⟨rfl, by rw [hU], by rw [hU]; exact hP, va_K.moved hW.alike hK, hD.weaken (fun _ _ _ _ => trivial), hN.warm hW⟩⟩ rfl rfl hl.1 rfl (lv_room (Nat.le_of_ble_eq_true rfl)) dX18_onReference_56 ⟨Nat.le_of_ble_eq_true rfl, Nat.le_of_ble_eq_true rfl⟩) hS (fun q _ h => hFc q h) hFc (fun rr u t H_57 locs ht hvm hw hB hz1 hk1 hS2 => ?_)
          rw [hw]
          clear hw
          obtain ⟨hP1, -, hD1⟩ := hB
          rw [ht] at hP1
          replace hD := hD1.weaken (fun _ _ _ h => hFc _ h)
          replace hP := hP1
          replace hS := hS2
          clear hP1 hD1 hS2 hFc hfc hz1 hk1 hvm ht
          refine lv_iconst (v := 0) hx hb dX18_onReference_59 (by decide) ?_
          obtain ⟨z_58, _u, hfc, hf⟩ := cal_some hf
          have hFc := de_free hD hS hA
          refine va_callv (va_runV (As := [.int r_55, .int 0]) (rest := []) ⟨hx, hb, hml, hown, hts⟩ (de_X18_push l dC dI cy a sh n H_57.size F z_54 h0 r_55 0 hfc) (cwV 2 hts gX18_onReference_X18_push rfl rfl rfl (by decide +kernel) ⟨Nat.le_of_ble_eq_true rfl, Nat.le_of_ble_eq_true rfl⟩) ⟨fun a U g mk q => by obtain ⟨q0, q1, qP, qK, qD, qN⟩ := q; exact ⟨q0, q1, qP, va_K.moved (u := U) (U := U.calling g mk a) (Vm.Alike.refl U.vm) qK, qD, qN.same rfl⟩, va_recv hK hP (ci := 18) (q0 := h0) rfl (Wd_ob kg_3 sg_3 (by decide)), fun U hU hW => ⟨rfl, by rw [hU], by rw [hU]; exact hP, va_K.moved hW.alike hK, hD.weaken (fun _ _ _ _ => trivial), hN.warm hW⟩⟩ rfl rfl hl.1 rfl (lv_room (Nat.le_of_ble_eq_true rfl)) dX18_onReference_60 ⟨Nat.le_of_ble_eq_true rfl, Nat.le_of_ble_eq_true rfl⟩) hS (fun q _ h => hFc q h) hFc (fun u t H_59 locs ht hvm hw hB hz1 hk1 hS2 => ?_)
          obtain ⟨hP1, -, hD1⟩ := hB
          rw [ht] at hP1
          replace hD := hD1.weaken (fun _ _ _ h => hFc _ h)
          replace hP := hP1
          replace hS := hS2
          clear hP1 hD1 hS2 hFc hfc hz1 hk1 hvm ht
          refine lv_goto (tgt := 161) hx hb dX18_onReference_63 (by decide) ?_
          obtain ⟨h8, h9⟩ := ret_some hf
          rw [h8]
          exact W.vret hx hb hr (fun t ht hW => ⟨⟨(), rfl, trivial, by rw [ht]; exact hP, va_K.moved hW.alike hK, hD⟩, hS.F ht⟩) hS.2.2 dX18_onReference_161
    · skip
      rw [if_pos c_9] at hf
      refine lv_aload_n hx hb dX18_onReference_20 rfl (lv_at hl 1 rfl) ?_
      refine lv_iload_n hx hb dX18_onReference_21 rfl (lv_at hl 0 rfl) ?_
      refine lv_iconst (v := 1) hx hb dX18_onReference_22 (by decide) ?_
      obtain ⟨z_60, _u, hfc, hf⟩ := cal_some hf
      have hFc := de_free hD hS hA
      refine va_callv (va_runV (As := [.int r_2, .int 1]) (rest := []) ⟨hx, hb, hml, hown, hts⟩ (de_X18_push l dC dI cy a sh n H_7.size F z_5 h0 r_2 1 hfc) (cwV 2 hts gX18_onReference_X18_push rfl rfl rfl (by decide +kernel) ⟨Nat.le_of_ble_eq_true rfl, Nat.le_of_ble_eq_true rfl⟩) ⟨fun a U g mk q => by obtain ⟨q0, q1, qP, qK, qD, qN⟩ := q; exact ⟨q0, q1, qP, va_K.moved (u := U) (U := U.calling g mk a) (Vm.Alike.refl U.vm) qK, qD, qN.same rfl⟩, va_recv hK hP (ci := 18) (q0 := h0) rfl (Wd_ob kg_3 sg_3 (by decide)), fun U hU hW => ⟨rfl, by rw [hU], by rw [hU]; exact hP, va_K.moved hW.alike hK, hD.weaken (fun _ _ _ _ => trivial), hN.warm hW⟩⟩ rfl rfl hl.1 rfl (lv_room (Nat.le_of_ble_eq_true rfl)) dX18_onReference_23 ⟨Nat.le_of_ble_eq_true rfl, Nat.le_of_ble_eq_true rfl⟩) hS (fun q _ h => hFc q h) hFc (fun u t H_61 locs ht hvm hw hB hz1 hk1 hS2 => ?_)
      obtain ⟨hP1, -, hD1⟩ := hB
      rw [ht] at hP1
      replace hD := hD1.weaken (fun _ _ _ h => hFc _ h)
      replace hP := hP1
      replace hS := hS2
      clear hP1 hD1 hS2 hFc hfc hz1 hk1 hvm ht
      refine lv_goto (tgt := 161) hx hb dX18_onReference_26 (by decide) ?_
      obtain ⟨h8, h9⟩ := ret_some hf
      rw [h8]
      exact W.vret hx hb hr (fun t ht hW => ⟨⟨(), rfl, trivial, by rw [ht]; exact hP, va_K.moved hW.alike hK, hD⟩, hS.F ht⟩) hS.2.2 dX18_onReference_161
  · skip
    rw [if_pos c_8] at hf
    obtain ⟨h8, h9⟩ := ret_some hf
    rw [h8]
    exact W.vret hx hb hr (fun t ht hW => ⟨⟨(), rfl, trivial, by rw [ht]; exact hP, va_K.moved hW.alike hK, hD⟩, hS.F ht⟩) hS.2.2 dX18_onReference_13

theorem md_X3_keep_2 : (.fieldLink RX3 44 "ResourceLedger$Looker" "p" "LResourceLedger$Program;" : Cond) ∈ wsX3_keep := List.mem_of_getElem? (i := 2) rfl
theorem iwd_X3_keep_X3 : ∀ w ∈ wsX30, w ∈ wsX3_keep := fun _ h => List.mem_cons_of_mem _ (List.mem_append_left _ (List.mem_append_right _ h))
theorem md_X3_keep_3 : (.fieldLink RX3 77 "ResourceLedger$Looker" "function" "I" : Cond) ∈ wsX3_keep := List.mem_of_getElem? (i := 3) rfl
theorem md_X3_keep_1 : (.constantLong RX3 236 (5) : Cond) ∈ wsX3_keep := List.mem_of_getElem? (i := 1) rfl
set_option maxHeartbeats 4000000 in
set_option maxRecDepth 100000 in
theorem de_X3_keep (l : Launch) (dC : Nat → ClassId) (dI : Nat → Nat → Nat) (cy : Nat → ClassId) (a : Nat → Nat) (sh : Nat → Nat × Nat) (n sz : Nat) (F : Nat) (z : St) (h0 : Nat) (x0 : Int32) (x1 : Int32) {z8 : St} {r8 : Unit} (hf : fn_X3_keep F sh n z h0 x0 x1 = some (z8, r8)) : Met l yX3_keep wsX3_keep ({ frames := 3, cells := 0, slots := 0, locals := 69 }) (va_Pc [.ref (a h0), .int x0, .int x1] (fun U => U.heap.size = sz ∧ va_P (dC, dI) vwCl (Wd cy a sh n z) U.heap ∧ va_K (dC, dI) vwCl (TYS cy) U ∧ va_D (fun _ => True) (Wd cy a sh n z) ∧ NK U)) (va_Qv (fun u : Unit => True) (fun u t => va_P (dC, dI) vwCl (Wd cy a sh n z8) t.heap ∧ va_K (dC, dI) vwCl (TYS cy) t ∧ va_D (va_A (Wd cy a sh n z) sz) (Wd cy a sh n z8)) (va_A (Wd cy a sh n z) sz)) 0 0 (va_A (Wd cy a sh n z) sz) := by
  refine Met.ofW (cc := cX3_keep) (maxL := 7) (ret := none) (by decide) rfl ?_
  intro p e s m args below meth c s₁ B hml hv
  obtain ⟨rfl, hsz, hP, hK, hD0, hN⟩ := hv
  have hx := B.exec
  have hb := B.bytes
  have hr := B.returns
  have hts := atoms_spec (ws := wsX3_keep) B.pre
  have hown : s.vm.findClass RX3 = some m.cls := findClass_of_methodNamed B.named
  have hlocks := B.notSynchronized
  subst hsz
  have hD := hD0.self (sz := s.heap.size)
  clear hD0
  generalize hAe : va_A (Wd cy a sh n z) s.heap.size = A at hD ⊢
  have hA : ∀ q : Nat, s.heap.size ≤ q → A q := fun q h => by rw [← hAe]; exact Or.inr h
  clear hAe
  have hS : va_S A s.heap s.heap [] := va_S.rf
  have hl := lv_entry ([.ref (a h0), .int x0, .int x1]) (n := 7) (Nat.le_of_ble_eq_true rfl)
  rw [lg_entry_eq]
  generalize (lg_sl ([.ref (a h0), .int x0, .int x1]) ++ List.replicate (7 - (lg_sl ([.ref (a h0), .int x0, .int x1])).length) Slot.unset).toArray = ls at hl ⊢
  replace hl : lv_has ls 7 [(0, .ref (a h0)), (1, .int x0), (2, .int x1)] := hl
  unfold fn_X3_keep at hf
  refine de_start hS hP (fun H locs hS hP => ?_)
  refine lv_iload_n hx hb dX3_keep_0 rfl (lv_at hl 2 rfl) ?_
  obtain ⟨z_1, r_2, hfc, hf⟩ := cal_some hf
  have hFc := de_free hD hS hA
  refine va_calll (va_runS (As := [.int x1]) (rest := []) ⟨hx, hb, hml, hown, hts⟩ (de_X5_structureType l dC dI cy a sh n H.size F z x1 hfc) (va_cwS 1 hts gX3_keep_X5_structureType rfl rfl rfl (by decide +kernel) ⟨Nat.le_of_ble_eq_true rfl, Nat.le_of_ble_eq_true rfl⟩) ⟨fun a U g mk q => by obtain ⟨q0, q1, qP, qK, qD, qN⟩ := q; exact ⟨q0, q1, qP, va_K.moved (u := U) (U := U.calling g mk a) (Vm.Alike.refl U.vm) qK, qD, qN.same rfl⟩, fun U hU hW => ⟨rfl, by rw [hU], by rw [hU]; exact hP, va_K.moved hW.alike hK, hD.weaken (fun _ _ _ _ => trivial), hN.warm hW⟩⟩ rfl rfl hl.1 rfl (lv_room (Nat.le_of_ble_eq_true rfl)) dX3_keep_1 ⟨Nat.le_of_ble_eq_true rfl, Nat.le_of_ble_eq_true rfl⟩) hS (fun q _ h => hFc q h) hFc (fun rr u t H_3 locs ht hvm hw hB hz1 hk1 hS2 => ?_)
  rw [hw]
  clear hw
  obtain ⟨hP1, -, hD1⟩ := hB
  rw [ht] at hP1
  replace hD := hD1.weaken (fun _ _ _ h => hFc _ h)
  replace hP := hP1
  replace hS := hS2
  clear hP1 hD1 hS2 hFc hfc hz1 hk1 hvm ht
  refine lv_lstore_n (lv' := [(3, .long r_2), (0, .ref (a h0)), (1, .int x0), (2, .int x1)]) hx hb dX3_keep_4 rfl hl (by decide) rfl (fun ls hl2 => ?_)
  replace hl := hl2
  clear hl2
  refine lv_lconst (v := 1) hx hb dX3_keep_5 (by decide) ?_
  refine lv_bipush (v := 48) hx hb dX3_keep_6 (by decide) ?_
  refine lv_iload_n hx hb dX3_keep_8 rfl (lv_at hl 3 rfl) ?_
  refine lv_bipush (v := 15) hx hb dX3_keep_9 (by decide) ?_
  refine lv_irem hx hb dX3_keep_11 (by decide) ?_
  refine lv_iadd hx hb dX3_keep_12 ?_
  refine lv_lshl (v := (1 <<< (((48 + (x1 - x1 / 15 * 15)) : Int32).toInt64 &&& 63))) hx hb dX3_keep_13 rfl ?_
  refine lv_topl (fun v_4 ev_4 => ?_)
  replace hf := lt_at ev_4 hf
  clear ev_4
  refine lv_lstore (lv' := [(5, .long v_4), (3, .long r_2), (0, .ref (a h0)), (1, .int x0), (2, .int x1)]) hx hb dX3_keep_14 hl (by decide) rfl (fun ls hl2 => ?_)
  replace hl := hl2
  clear hl2
  refine lv_aload_n hx hb dX3_keep_16 rfl (lv_at hl 2 rfl) ?_
  refine lv_iload_n hx hb dX3_keep_17 rfl (lv_at hl 3 rfl) ?_
  refine lv_bipush (v := 47) hx hb dX3_keep_18 (by decide) ?_
  refine de_cut (h := 30) (fun (x : St × Int64) => [.long x.2, .ref (a h0)]) (fun x ls H locs => lv_has ls 7 [(5, .long v_4), (3, .long r_2), (0, .ref (a h0)), (1, .int x0)] ∧ va_P (dC, dI) vwCl (Wd cy a sh n x.1) H ∧ va_D A (Wd cy a sh n x.1) ∧ va_S A s.heap H locs) (fun x => fn_X3_keep_B30 F sh n h0 r_2 x0 v_4 x.1 x.2) (z8, r8) ?_ (fun B30 => ?_)
  · intro x ls H locs hI hf
    obtain ⟨z_6, p_5⟩ := x
    obtain ⟨hl2, hP2, hD2, hS2⟩ := hI
    replace hl : lv_has ls 7 [(5, .long v_4), (3, .long r_2), (0, .ref (a h0)), (1, .int x0)] := hl2
    replace hP := hP2
    replace hD := hD2
    replace hS := hS2
    clear hl2 hP2 hD2 hS2
    replace hf := fn_X3_keep_B30_s hf
    refine W.eq (g2 := F0 m 30 ls [.long p_5, .ref (a h0)]) rfl ?_
    obtain ⟨g_8, hf⟩ := grd_some hf
    obtain ⟨kg_8, sg_8⟩ := okO_at g_8
    obtain ⟨z_7, _u, hfc, hf⟩ := cal_some hf
    have hFc := de_free hD hS hA
    refine va_callv (va_runV (As := [.long p_5]) (rest := []) ⟨hx, hb, hml, hown, hts⟩ (de_X3_takeOnly l dC dI cy a sh n H.size F z_6 h0 p_5 hfc) (cwV 1 hts gX3_keep_X3_takeOnly rfl rfl rfl (by decide +kernel) ⟨Nat.le_of_ble_eq_true rfl, Nat.le_of_ble_eq_true rfl⟩) ⟨fun a U g mk q => by obtain ⟨q0, q1, qP, qK, qD, qN⟩ := q; exact ⟨q0, q1, qP, va_K.moved (u := U) (U := U.calling g mk a) (Vm.Alike.refl U.vm) qK, qD, qN.same rfl⟩, va_recv hK hP (ci := 3) (q0 := h0) rfl (Wd_ob kg_8 sg_8 (by decide)), fun U hU hW => ⟨rfl, by rw [hU], by rw [hU]; exact hP, va_K.moved hW.alike hK, hD.weaken (fun _ _ _ _ => trivial), hN.warm hW⟩⟩ rfl rfl hl.1 rfl (lv_room (Nat.le_of_ble_eq_true rfl)) dX3_keep_30 ⟨Nat.le_of_ble_eq_true rfl, Nat.le_of_ble_eq_true rfl⟩) hS (fun q _ h => hFc q h) hFc (fun u t H_9 locs ht hvm hw hB hz1 hk1 hS2 => ?_)
    obtain ⟨hP1, -, hD1⟩ := hB
    rw [ht] at hP1
    replace hD := hD1.weaken (fun _ _ _ h => hFc _ h)
    replace hP := hP1
    replace hS := hS2
    clear hP1 hD1 hS2 hFc hfc hz1 hk1 hvm ht
    refine lv_aload_n hx hb dX3_keep_33 rfl (lv_at hl 2 rfl) ?_
    obtain ⟨k_10, ek_10, hf⟩ := lnk_some hf
    refine va_get (D := (dC, dI)) (ci := 3) (v := .ref (a k_10)) (C := RX3) (T := TX3) (N := 22) hx hb hts iwd_X3_keep_X3 hown hK hP h0 (Wd_ob kg_8 sg_8 (by decide)) rfl 2 (by decide) (hts _ md_X3_keep_2) (fun _ h9 => h9) (fl_q rfl ek_10) dX3_keep_34 ?_
    refine lv_aload_n hx hb dX3_keep_37 rfl (lv_at hl 2 rfl) ?_
    refine va_get (D := (dC, dI)) (ci := 3) (v := .int (z_7.1 h0 3)) (C := RX3) (T := TX3) (N := 22) hx hb hts iwd_X3_keep_X3 hown hK hP h0 (Wd_ob kg_8 sg_8 (by decide)) rfl 3 (by decide) (hts _ md_X3_keep_3) (fun _ h9 => h9) (fl_at (t := 0) rfl) dX3_keep_38 ?_
    obtain ⟨g_13, hf⟩ := grd_some hf
    obtain ⟨kg_13, sg_13⟩ := okO_at g_13
    obtain ⟨z_11, r_12, hfc, hf⟩ := cal_some hf
    have hFc := de_free hD hS hA
    refine va_calli (va_runV (As := [.int (z_7.1 h0 3)]) (rest := []) ⟨hx, hb, hml, hown, hts⟩ (de_X5_flags l dC dI cy a sh n H_9.size F z_7 k_10 (z_7.1 h0 3) hfc) (cwV 1 hts gX3_keep_X5_flags rfl rfl rfl (by decide +kernel) ⟨Nat.le_of_ble_eq_true rfl, Nat.le_of_ble_eq_true rfl⟩) ⟨fun a U g mk q => by obtain ⟨q0, q1, qP, qK, qD, qN⟩ := q; exact ⟨q0, q1, qP, va_K.moved (u := U) (U := U.calling g mk a) (Vm.Alike.refl U.vm) qK, qD, qN.same rfl⟩, va_recv hK hP (ci := 5) (q0 := k_10) rfl (Wd_ob kg_13 sg_13 (by decide)), fun U hU hW => ⟨rfl, by rw [hU], by rw [hU]; exact hP, va_K.moved hW.alike hK, hD.weaken (fun _ _ _ _ => trivial), hN.warm hW⟩⟩ rfl rfl hl.1 rfl (lv_room (Nat.le_of_ble_eq_true rfl)) dX3_keep_41 ⟨Nat.le_of_ble_eq_true rfl, Nat.le_of_ble_eq_true rfl⟩) hS (fun q _ h => hFc q h) hFc (fun rr u t H_14 locs ht hvm hw hB hz1 hk1 hS2 => ?_)
    rw [hw]
    clear hw
    obtain ⟨hP1, -, hD1⟩ := hB
    rw [ht] at hP1
    replace hD := hD1.weaken (fun _ _ _ h => hFc _ h)
    replace hP := hP1
    replace hS := hS2
    clear hP1 hD1 hS2 hFc hfc hz1 hk1 hvm ht
    refine lv_iconst (v := 4) hx hb dX3_keep_44 (by decide) ?_
    refine lv_iand hx hb dX3_keep_45 ?_
    refine de_cut (h := 55) (fun (x : St) => []) (fun x ls H locs => lv_has ls 7 [(5, .long v_4), (3, .long r_2), (0, .ref (a h0)), (1, .int x0)] ∧ va_P (dC, dI) vwCl (Wd cy a sh n x) H ∧ va_D A (Wd cy a sh n x) ∧ va_S A s.heap H locs) (fun x => fn_X3_keep_B55 F sh n h0 r_2 x0 v_4 x) (z8, r8) ?_ (fun B55 => ?_)
    · intro x ls H locs hI hf
      obtain ⟨z_15, ez⟩ : ∃ w, w = x := ⟨_, rfl⟩
      subst ez
      obtain ⟨hl2, hP2, hD2, hS2⟩ := hI
      replace hl : lv_has ls 7 [(5, .long v_4), (3, .long r_2), (0, .ref (a h0)), (1, .int x0)] := hl2
      replace hP := hP2
      replace hD := hD2
      replace hS := hS2
      clear hl2 hP2 hD2 hS2
      replace hf := fn_X3_keep_B55_s hf
      refine W.eq (g2 := F0 m 55 ls []) rfl ?_
      refine lv_aload_n hx hb dX3_keep_55 rfl (lv_at hl 2 rfl) ?_
      refine lv_lload_n hx hb dX3_keep_56 rfl (lv_at hl 1 rfl) ?_
      refine lv_bipush (v := 8) hx hb dX3_keep_57 (by decide) ?_
      obtain ⟨z_16, r_17, hfc, hf⟩ := cal_some hf
      have hFc := de_free hD hS hA
      refine va_calli (va_runV (As := [.long r_2, .int 8]) (rest := []) ⟨hx, hb, hml, hown, hts⟩ (de_X3_has l dC dI cy a sh n H.size F z_15 h0 r_2 8 hfc) (cwV 2 hts gX3_keep_X3_has rfl rfl rfl (by decide +kernel) ⟨Nat.le_of_ble_eq_true rfl, Nat.le_of_ble_eq_true rfl⟩) ⟨fun a U g mk q => by obtain ⟨q0, q1, qP, qK, qD, qN⟩ := q; exact ⟨q0, q1, qP, va_K.moved (u := U) (U := U.calling g mk a) (Vm.Alike.refl U.vm) qK, qD, qN.same rfl⟩, va_recv hK hP (ci := 3) (q0 := h0) rfl (Wd_ob kg_8 sg_8 (by decide)), fun U hU hW => ⟨rfl, by rw [hU], by rw [hU]; exact hP, va_K.moved hW.alike hK, hD.weaken (fun _ _ _ _ => trivial), hN.warm hW⟩⟩ rfl rfl hl.1 rfl (lv_room (Nat.le_of_ble_eq_true rfl)) dX3_keep_59 ⟨Nat.le_of_ble_eq_true rfl, Nat.le_of_ble_eq_true rfl⟩) hS (fun q _ h => hFc q h) hFc (fun rr u t H_18 locs ht hvm hw hB hz1 hk1 hS2 => ?_)
      rw [hw]
      clear hw
      obtain ⟨hP1, -, hD1⟩ := hB
      rw [ht] at hP1
      replace hD := hD1.weaken (fun _ _ _ h => hFc _ h)
      replace hP := hP1
      replace hS := hS2
      clear hP1 hD1 hS2 hFc hfc hz1 hk1 hvm ht
      refine de_cut (h := 70) (fun (x : St) => []) (fun x ls H locs => lv_has ls 7 [(5, .long v_4), (3, .long r_2), (0, .ref (a h0)), (1, .int x0)] ∧ va_P (dC, dI) vwCl (Wd cy a sh n x) H ∧ va_D A (Wd cy a sh n x) ∧ va_S A s.heap H locs) (fun x => fn_X3_keep_B70 F sh n x0 h0 v_4 r_2 x) (z8, r8) ?_ (fun B70 => ?_)
      · intro x ls H locs hI hf
        obtain ⟨z_19, ez⟩ : ∃ w, w = x := ⟨_, rfl⟩
        subst ez
        obtain ⟨hl2, hP2, hD2, hS2⟩ := hI
        replace hl : lv_has ls 7 [(5, .long v_4), (3, .long r_2), (0, .ref (a h0)), (1, .int x0)] := hl2
        replace hP := hP2
        replace hD := hD2
        replace hS := hS2
        clear hl2 hP2 hD2 hS2
        replace hf := fn_X3_keep_B70_s hf
        refine W.eq (g2 := F0 m 70 ls []) rfl ?_
        refine lv_iload_n hx hb dX3_keep_70 rfl (lv_at hl 3 rfl) ?_
        refine lv_bipush (v := 48) hx hb dX3_keep_71 (by decide) ?_
        refine de_cut (h := 108) (fun (x : St) => []) (fun x ls H locs => lv_has ls 7 [(5, .long v_4), (3, .long r_2), (0, .ref (a h0)), (1, .int x0)] ∧ va_P (dC, dI) vwCl (Wd cy a sh n x) H ∧ va_D A (Wd cy a sh n x) ∧ va_S A s.heap H locs) (fun x => fn_X3_keep_B108 F sh n x0 h0 r_2 v_4 x) (z8, r8) ?_ (fun B108 => ?_)
        · intro x ls H locs hI hf
          obtain ⟨z_20, ez⟩ : ∃ w, w = x := ⟨_, rfl⟩
          subst ez
          obtain ⟨hl2, hP2, hD2, hS2⟩ := hI
          replace hl : lv_has ls 7 [(5, .long v_4), (3, .long r_2), (0, .ref (a h0)), (1, .int x0)] := hl2
          replace hP := hP2
          replace hD := hD2
          replace hS := hS2
          clear hl2 hP2 hD2 hS2
          replace hf := fn_X3_keep_B108_s hf
          refine W.eq (g2 := F0 m 108 ls []) rfl ?_
          refine lv_iload_n hx hb dX3_keep_108 rfl (lv_at hl 3 rfl) ?_
          refine lv_bipush (v := 48) hx hb dX3_keep_109 (by decide) ?_
          refine lv_icmp_ne (tgt := 122) hx hb dX3_keep_111 (by decide) (fun c_21 => ?_) (fun c_21 => ?_)
          · skip
            rw [if_neg c_21] at hf
            refine lv_iload_n hx hb dX3_keep_122 rfl (lv_at hl 3 rfl) ?_
            refine lv_bipush (v := 49) hx hb dX3_keep_123 (by decide) ?_
            refine lv_icmp_ne (tgt := 136) hx hb dX3_keep_125 (by decide) (fun c_22 => ?_) (fun c_22 => ?_)
            · skip
              rw [if_neg c_22] at hf
              refine lv_iload_n hx hb dX3_keep_136 rfl (lv_at hl 3 rfl) ?_
              refine lv_bipush (v := 50) hx hb dX3_keep_137 (by decide) ?_
              refine lv_icmp_lt (tgt := 166) hx hb dX3_keep_139 (by decide) (fun c_23 => ?_) (fun c_23 => ?_)
              · skip
                rw [if_pos c_23] at hf
                obtain ⟨h8, h9⟩ := ret_some hf
                rw [h8]
                exact W.vret hx hb hr (fun t ht hW => ⟨⟨(), rfl, trivial, by rw [ht]; exact hP, va_K.moved hW.alike hK, hD⟩, hS.F ht⟩) hS.2.2 dX3_keep_166
              · skip
                rw [if_neg c_23] at hf
                refine lv_aload_n hx hb dX3_keep_142 rfl (lv_at hl 2 rfl) ?_
                refine lv_iload_n hx hb dX3_keep_143 rfl (lv_at hl 3 rfl) ?_
                refine lv_bipush (v := 51) hx hb dX3_keep_144 (by decide) ?_
                refine lv_icmp_ne (tgt := 154) hx hb dX3_keep_146 (by decide) (fun c_24 => ?_) (fun c_24 => ?_)
                · skip
                  rw [if_neg c_24] at hf
                  refine lv_bipush (v := 8) hx hb dX3_keep_154 (by decide) ?_
                  refine lv_lload_n hx hb dX3_keep_156 rfl (lv_at hl 1 rfl) ?_
                  obtain ⟨z_25, r_26, hfc, hf⟩ := cal_some hf
                  have hFc := de_free hD hS hA
                  refine va_calll (va_runS (As := [.int 8, .long r_2]) (rest := [.ref (a h0)]) ⟨hx, hb, hml, hown, hts⟩ (de_X5_prefixed l dC dI cy a sh n H.size F z_20 8 r_2 hfc) (va_cwS 2 hts gX3_keep_X5_prefixed rfl rfl rfl (by decide +kernel) ⟨Nat.le_of_ble_eq_true rfl, Nat.le_of_ble_eq_true rfl⟩) ⟨fun a U g mk q => by obtain ⟨q0, q1, qP, qK, qD, qN⟩ := q; exact ⟨q0, q1, qP, va_K.moved (u := U) (U := U.calling g mk a) (Vm.Alike.refl U.vm) qK, qD, qN.same rfl⟩, fun U hU hW => ⟨rfl, by rw [hU], by rw [hU]; exact hP, va_K.moved hW.alike hK, hD.weaken (fun _ _ _ _ => trivial), hN.warm hW⟩⟩ rfl rfl hl.1 rfl (lv_room (Nat.le_of_ble_eq_true rfl)) dX3_keep_157 ⟨Nat.le_of_ble_eq_true rfl, Nat.le_of_ble_eq_true rfl⟩) hS (fun q _ h => hFc q h) hFc (fun rr u t H_27 locs ht hvm hw hB hz1 hk1 hS2 => ?_)
                  rw [hw]
                  clear hw
                  obtain ⟨hP1, -, hD1⟩ := hB
                  rw [ht] at hP1
                  replace hD := hD1.weaken (fun _ _ _ h => hFc _ h)
                  replace hP := hP1
                  replace hS := hS2
                  clear hP1 hD1 hS2 hFc hfc hz1 hk1 hvm ht
                  refine lv_lload hx hb dX3_keep_160 (lv_at hl 0 rfl) ?_
                  refine lv_iconst (v := 0) hx hb dX3_keep_162 (by decide) ?_
                  obtain ⟨z_28, _u, hfc, hf⟩ := cal_some hf
                  have hFc := de_free hD hS hA
                  refine va_callv (va_runV (As := [.long r_26, .long v_4, .int 0]) (rest := []) ⟨hx, hb, hml, hown, hts⟩ (de_X3_putReference l dC dI cy a sh n H_27.size F z_25 h0 r_26 v_4 0 hfc) (cwV 3 hts gX3_keep_X3_putReference rfl rfl rfl (by decide +kernel) ⟨Nat.le_of_ble_eq_true rfl, Nat.le_of_ble_eq_true rfl⟩) ⟨fun a U g mk q => by obtain ⟨q0, q1, qP, qK, qD, qN⟩ := q; exact ⟨q0, q1, qP, va_K.moved (u := U) (U := U.calling g mk a) (Vm.Alike.refl U.vm) qK, qD, qN.same rfl⟩, va_recv hK hP (ci := 3) (q0 := h0) rfl (Wd_ob kg_8 sg_8 (by decide)), fun U hU hW => ⟨rfl, by rw [hU], by rw [hU]; exact hP, va_K.moved hW.alike hK, hD.weaken (fun _ _ _ _ => trivial), hN.warm hW⟩⟩ rfl rfl hl.1 rfl (lv_room (Nat.le_of_ble_eq_true rfl)) dX3_keep_163 ⟨Nat.le_of_ble_eq_true rfl, Nat.le_of_ble_eq_true rfl⟩) hS (fun q _ h => hFc q h) hFc (fun u t H_29 locs ht hvm hw hB hz1 hk1 hS2 => ?_)
                  obtain ⟨hP1, -, hD1⟩ := hB
                  rw [ht] at hP1
                  replace hD := hD1.weaken (fun _ _ _ h => hFc _ h)
                  replace hP := hP1
                  replace hS := hS2
                  clear hP1 hD1 hS2 hFc hfc hz1 hk1 hvm ht
                  obtain ⟨h8, h9⟩ := ret_some hf
                  rw [h8]
                  exact W.vret hx hb hr (fun t ht hW => ⟨⟨(), rfl, trivial, by rw [ht]; exact hP, va_K.moved hW.alike hK, hD⟩, hS.F ht⟩) hS.2.2 dX3_keep_166
                · skip
                  rw [if_pos c_24] at hf
                  refine lv_bipush (v := 9) hx hb dX3_keep_149 (by decide) ?_
                  refine lv_goto (tgt := 156) hx hb dX3_keep_151 (by decide) ?_
                  refine lv_lload_n hx hb dX3_keep_156 rfl (lv_at hl 1 rfl) ?_
                  obtain ⟨z_30, r_31, hfc, hf⟩ := cal_some hf
                  have hFc := de_free hD hS hA
                  refine va_calll (va_runS (As := [.int 9, .long r_2]) (rest := [.ref (a h0)]) ⟨hx, hb, hml, hown, hts⟩ (de_X5_prefixed l dC dI cy a sh n H.size F z_20 9 r_2 hfc) (va_cwS 2 hts gX3_keep_X5_prefixed rfl rfl rfl (by decide +kernel) ⟨Nat.le_of_ble_eq_true rfl, Nat.le_of_ble_eq_true rfl⟩) ⟨fun a U g mk q => by obtain ⟨q0, q1, qP, qK, qD, qN⟩ := q; exact ⟨q0, q1, qP, va_K.moved (u := U) (U := U.calling g mk a) (Vm.Alike.refl U.vm) qK, qD, qN.same rfl⟩, fun U hU hW => ⟨rfl, by rw [hU], by rw [hU]; exact hP, va_K.moved hW.alike hK, hD.weaken (fun _ _ _ _ => trivial), hN.warm hW⟩⟩ rfl rfl hl.1 rfl (lv_room (Nat.le_of_ble_eq_true rfl)) dX3_keep_157 ⟨Nat.le_of_ble_eq_true rfl, Nat.le_of_ble_eq_true rfl⟩) hS (fun q _ h => hFc q h) hFc (fun rr u t H_32 locs ht hvm hw hB hz1 hk1 hS2 => ?_)
                  rw [hw]
                  clear hw
                  obtain ⟨hP1, -, hD1⟩ := hB
                  rw [ht] at hP1
                  replace hD := hD1.weaken (fun _ _ _ h => hFc _ h)
                  replace hP := hP1
                  replace hS := hS2
                  clear hP1 hD1 hS2 hFc hfc hz1 hk1 hvm ht
                  refine lv_lload hx hb dX3_keep_160 (lv_at hl 0 rfl) ?_
                  refine lv_iconst (v := 0) hx hb dX3_keep_162 (by decide) ?_
                  obtain ⟨z_33, _u, hfc, hf⟩ := cal_some hf
                  have hFc := de_free hD hS hA
                  refine va_callv (va_runV (As := [.long r_31, .long v_4, .int 0]) (rest := []) ⟨hx, hb, hml, hown, hts⟩ (de_X3_putReference l dC dI cy a sh n H_32.size F z_30 h0 r_31 v_4 0 hfc) (cwV 3 hts gX3_keep_X3_putReference rfl rfl rfl (by decide +kernel) ⟨Nat.le_of_ble_eq_true rfl, Nat.le_of_ble_eq_true rfl⟩) ⟨fun a U g mk q => by obtain ⟨q0, q1, qP, qK, qD, qN⟩ := q; exact ⟨q0, q1, qP, va_K.moved (u := U) (U := U.calling g mk a) (Vm.Alike.refl U.vm) qK, qD, qN.same rfl⟩, va_recv hK hP (ci := 3) (q0 := h0) rfl (Wd_ob kg_8 sg_8 (by decide)), fun U hU hW => ⟨rfl, by rw [hU], by rw [hU]; exact hP, va_K.moved hW.alike hK, hD.weaken (fun _ _ _ _ => trivial), hN.warm hW⟩⟩ rfl rfl hl.1 rfl (lv_room (Nat.le_of_ble_eq_true rfl)) dX3_keep_163 ⟨Nat.le_of_ble_eq_true rfl, Nat.le_of_ble_eq_true rfl⟩) hS (fun q _ h => hFc q h) hFc (fun u t H_34 locs ht hvm hw hB hz1 hk1 hS2 => ?_)
                  obtain ⟨hP1, -, hD1⟩ := hB
                  rw [ht] at hP1
                  replace hD := hD1.weaken (fun _ _ _ h => hFc _ h)
                  replace hP := hP1
                  replace hS := hS2
                  clear hP1 hD1 hS2 hFc hfc hz1 hk1 hvm ht
                  obtain ⟨h8, h9⟩ := ret_some hf
                  rw [h8]
                  exact W.vret hx hb hr (fun t ht hW => ⟨⟨(), rfl, trivial, by rw [ht]; exact hP, va_K.moved hW.alike hK, hD⟩, hS.F ht⟩) hS.2.2 dX3_keep_166
            · skip
              rw [if_pos c_22] at hf
              refine lv_aload_n hx hb dX3_keep_128 rfl (lv_at hl 2 rfl) ?_
              refine lv_lconst (v := 1) hx hb dX3_keep_129 (by decide) ?_
              obtain ⟨z_35, _u, hfc, hf⟩ := cal_some hf
              have hFc := de_free hD hS hA
              refine va_callv (va_runV (As := [.long 1]) (rest := []) ⟨hx, hb, hml, hown, hts⟩ (de_X3_put l dC dI cy a sh n H.size F z_20 h0 1 hfc) (cwV 1 hts gX3_keep_X3_put rfl rfl rfl (by decide +kernel) ⟨Nat.le_of_ble_eq_true rfl, Nat.le_of_ble_eq_true rfl⟩) ⟨fun a U g mk q => by obtain ⟨q0, q1, qP, qK, qD, qN⟩ := q; exact ⟨q0, q1, qP, va_K.moved (u := U) (U := U.calling g mk a) (Vm.Alike.refl U.vm) qK, qD, qN.same rfl⟩, va_recv hK hP (ci := 3) (q0 := h0) rfl (Wd_ob kg_8 sg_8 (by decide)), fun U hU hW => ⟨rfl, by rw [hU], by rw [hU]; exact hP, va_K.moved hW.alike hK, hD.weaken (fun _ _ _ _ => trivial), hN.warm hW⟩⟩ rfl rfl hl.1 rfl (lv_room (Nat.le_of_ble_eq_true rfl)) dX3_keep_130 ⟨Nat.le_of_ble_eq_true rfl, Nat.le_of_ble_eq_true rfl⟩) hS (fun q _ h => hFc q h) hFc (fun u t H_36 locs ht hvm hw hB hz1 hk1 hS2 => ?_)
              obtain ⟨hP1, -, hD1⟩ := hB
              rw [ht] at hP1
              replace hD := hD1.weaken (fun _ _ _ h => hFc _ h)
              replace hP := hP1
              replace hS := hS2
              clear hP1 hD1 hS2 hFc hfc hz1 hk1 hvm ht
              refine lv_goto (tgt := 166) hx hb dX3_keep_133 (by decide) ?_
              obtain ⟨h8, h9⟩ := ret_some hf
              rw [h8]
              exact W.vret hx hb hr (fun t ht hW => ⟨⟨(), rfl, trivial, by rw [ht]; exact hP, va_K.moved hW.alike hK, hD⟩, hS.F ht⟩) hS.2.2 dX3_keep_166
          · skip
            rw [if_pos c_21] at hf
            refine lv_aload_n hx hb dX3_keep_114 rfl (lv_at hl 2 rfl) ?_
            refine lv_lload_n hx hb dX3_keep_115 rfl (lv_at hl 1 rfl) ?_
            obtain ⟨z_37, _u, hfc, hf⟩ := cal_some hf
            have hFc := de_free hD hS hA
            refine va_callv (va_runV (As := [.long r_2]) (rest := []) ⟨hx, hb, hml, hown, hts⟩ (de_X3_put l dC dI cy a sh n H.size F z_20 h0 r_2 hfc) (cwV 1 hts gX3_keep_X3_put rfl rfl rfl (by decide +kernel) ⟨Nat.le_of_ble_eq_true rfl, Nat.le_of_ble_eq_true rfl⟩) ⟨fun a U g mk q => by obtain ⟨q0, q1, qP, qK, qD, qN⟩ := q; exact ⟨q0, q1, qP, va_K.moved (u := U) (U := U.calling g mk a) (Vm.Alike.refl U.vm) qK, qD, qN.same rfl⟩, va_recv hK hP (ci := 3) (q0 := h0) rfl (Wd_ob kg_8 sg_8 (by decide)), fun U hU hW => ⟨rfl, by rw [hU], by rw [hU]; exact hP, va_K.moved hW.alike hK, hD.weaken (fun _ _ _ _ => trivial), hN.warm hW⟩⟩ rfl rfl hl.1 rfl (lv_room (Nat.le_of_ble_eq_true rfl)) dX3_keep_116 ⟨Nat.le_of_ble_eq_true rfl, Nat.le_of_ble_eq_true rfl⟩) hS (fun q _ h => hFc q h) hFc (fun u t H_38 locs ht hvm hw hB hz1 hk1 hS2 => ?_)
            obtain ⟨hP1, -, hD1⟩ := hB
            rw [ht] at hP1
            replace hD := hD1.weaken (fun _ _ _ h => hFc _ h)
            replace hP := hP1
            replace hS := hS2
            clear hP1 hD1 hS2 hFc hfc hz1 hk1 hvm ht
            refine lv_goto (tgt := 166) hx hb dX3_keep_119 (by decide) ?_
            obtain ⟨h8, h9⟩ := ret_some hf
            rw [h8]
            exact W.vret hx hb hr (fun t ht hW => ⟨⟨(), rfl, trivial, by rw [ht]; exact hP, va_K.moved hW.alike hK, hD⟩, hS.F ht⟩) hS.2.2 dX3_keep_166
        refine de_cut (h := 82) (fun (x : St) => []) (fun x ls H locs => lv_has ls 7 [(5, .long v_4), (3, .long r_2), (0, .ref (a h0)), (1, .int x0)] ∧ va_P (dC, dI) vwCl (Wd cy a sh n x) H ∧ va_D A (Wd cy a sh n x) ∧ va_S A s.heap H locs) (fun x => fn_X3_keep_B82 F sh n x0 h0 v_4 r_2 x) (z8, r8) ?_ (fun B82 => ?_)
        · intro x ls H locs hI hf
          obtain ⟨z_39, ez⟩ : ∃ w, w = x := ⟨_, rfl⟩
          subst ez
          obtain ⟨hl2, hP2, hD2, hS2⟩ := hI
          replace hl : lv_has ls 7 [(5, .long v_4), (3, .long r_2), (0, .ref (a h0)), (1, .int x0)] := hl2
          replace hP := hP2
          replace hD := hD2
          replace hS := hS2
          clear hl2 hP2 hD2 hS2
          replace hf := fn_X3_keep_B82_s hf
          refine W.eq (g2 := F0 m 82 ls []) rfl ?_
          refine lv_aload_n hx hb dX3_keep_82 rfl (lv_at hl 2 rfl) ?_
          refine lv_lload hx hb dX3_keep_83 (lv_at hl 0 rfl) ?_
          refine lv_iload_n hx hb dX3_keep_85 rfl (lv_at hl 3 rfl) ?_
          refine lv_bipush (v := 50) hx hb dX3_keep_86 (by decide) ?_
          refine de_cut (h := 96) (fun (x : St × Int32) => [.int x.2, .long v_4, .ref (a h0)]) (fun x ls H locs => lv_has ls 7 [(5, .long v_4), (3, .long r_2), (0, .ref (a h0)), (1, .int x0)] ∧ va_P (dC, dI) vwCl (Wd cy a sh n x.1) H ∧ va_D A (Wd cy a sh n x.1) ∧ va_S A s.heap H locs) (fun x => fn_X3_keep_B96 F sh n h0 v_4 x0 r_2 x.1 x.2) (z8, r8) ?_ (fun B96 => ?_)
          · intro x ls H locs hI hf
            obtain ⟨z_41, p_40⟩ := x
            obtain ⟨hl2, hP2, hD2, hS2⟩ := hI
            replace hl : lv_has ls 7 [(5, .long v_4), (3, .long r_2), (0, .ref (a h0)), (1, .int x0)] := hl2
            replace hP := hP2
            replace hD := hD2
            replace hS := hS2
            clear hl2 hP2 hD2 hS2
            replace hf := fn_X3_keep_B96_s hf
            refine W.eq (g2 := F0 m 96 ls [.int p_40, .long v_4, .ref (a h0)]) rfl ?_
            obtain ⟨z_42, r_43, hfc, hf⟩ := cal_some hf
            have hFc := de_free hD hS hA
            refine va_calli (va_runV (As := [.long v_4, .int p_40]) (rest := []) ⟨hx, hb, hml, hown, hts⟩ (de_X3_isLive l dC dI cy a sh n H.size F z_41 h0 v_4 p_40 hfc) (cwV 2 hts gX3_keep_X3_isLive rfl rfl rfl (by decide +kernel) ⟨Nat.le_of_ble_eq_true rfl, Nat.le_of_ble_eq_true rfl⟩) ⟨fun a U g mk q => by obtain ⟨q0, q1, qP, qK, qD, qN⟩ := q; exact ⟨q0, q1, qP, va_K.moved (u := U) (U := U.calling g mk a) (Vm.Alike.refl U.vm) qK, qD, qN.same rfl⟩, va_recv hK hP (ci := 3) (q0 := h0) rfl (Wd_ob kg_8 sg_8 (by decide)), fun U hU hW => ⟨rfl, by rw [hU], by rw [hU]; exact hP, va_K.moved hW.alike hK, hD.weaken (fun _ _ _ _ => trivial), hN.warm hW⟩⟩ rfl rfl hl.1 rfl (lv_room (Nat.le_of_ble_eq_true rfl)) dX3_keep_96 ⟨Nat.le_of_ble_eq_true rfl, Nat.le_of_ble_eq_true rfl⟩) hS (fun q _ h => hFc q h) hFc (fun rr u t H_44 locs ht hvm hw hB hz1 hk1 hS2 => ?_)
            rw [hw]
            clear hw
            obtain ⟨hP1, -, hD1⟩ := hB
            rw [ht] at hP1
            replace hD := hD1.weaken (fun _ _ _ h => hFc _ h)
            replace hP := hP1
            replace hS := hS2
            clear hP1 hD1 hS2 hFc hfc hz1 hk1 hvm ht
            refine lv_if_eq (tgt := 108) hx hb dX3_keep_99 (by decide) (fun c_45 => ?_) (fun c_45 => ?_)
            · skip
              rw [if_pos c_45] at hf
              exact B108 (z_42) ls H_44 locs ⟨lv_sub hl [0, 1, 2, 3] rfl, hP, hD, hS⟩ hf
            · skip
              rw [if_neg c_45] at hf
              refine lv_aload_n hx hb dX3_keep_102 rfl (lv_at hl 2 rfl) ?_
              refine lv_bipush (v := 6) hx hb dX3_keep_103 (by decide) ?_
              obtain ⟨z_46, _u, hfc, hf⟩ := cal_some hf
              have hFc := de_free hD hS hA
              refine va_callv (va_runV (As := [.int 6]) (rest := []) ⟨hx, hb, hml, hown, hts⟩ (de_X3_fail l dC dI cy a sh n H_44.size F z_42 h0 6 hfc) (cwV 1 hts gX3_keep_X3_fail rfl rfl rfl (by decide +kernel) ⟨Nat.le_of_ble_eq_true rfl, Nat.le_of_ble_eq_true rfl⟩) ⟨fun a U g mk q => by obtain ⟨q0, q1, qP, qK, qD, qN⟩ := q; exact ⟨q0, q1, qP, va_K.moved (u := U) (U := U.calling g mk a) (Vm.Alike.refl U.vm) qK, qD, qN.same rfl⟩, va_recv hK hP (ci := 3) (q0 := h0) rfl (Wd_ob kg_8 sg_8 (by decide)), fun U hU hW => ⟨rfl, by rw [hU], by rw [hU]; exact hP, va_K.moved hW.alike hK, hD.weaken (fun _ _ _ _ => trivial), hN.warm hW⟩⟩ rfl rfl hl.1 rfl (lv_room (Nat.le_of_ble_eq_true rfl)) dX3_keep_105 ⟨Nat.le_of_ble_eq_true rfl, Nat.le_of_ble_eq_true rfl⟩) hS (fun q _ h => hFc q h) hFc (fun u t H_47 locs ht hvm hw hB hz1 hk1 hS2 => ?_)
              obtain ⟨hP1, -, hD1⟩ := hB
              rw [ht] at hP1
              replace hD := hD1.weaken (fun _ _ _ h => hFc _ h)
              replace hP := hP1
              replace hS := hS2
              clear hP1 hD1 hS2 hFc hfc hz1 hk1 hvm ht
              exact B108 (z_46) ls H_47 locs ⟨lv_sub hl [0, 1, 2, 3] rfl, hP, hD, hS⟩ hf
          refine lv_icmp_ne (tgt := 95) hx hb dX3_keep_88 (by decide) (fun c_48 => ?_) (fun c_48 => ?_)
          · skip
            rw [if_neg c_48] at hf
            refine lv_iconst (v := 0) hx hb dX3_keep_95 (by decide) ?_
            exact B96 (z_39, 0) ls H locs ⟨lv_sub hl [0, 1, 2, 3] rfl, hP, hD, hS⟩ hf
          · skip
            rw [if_pos c_48] at hf
            refine lv_iconst (v := 1) hx hb dX3_keep_91 (by decide) ?_
            refine lv_goto (tgt := 96) hx hb dX3_keep_92 (by decide) ?_
            exact B96 (z_39, 1) ls H locs ⟨lv_sub hl [0, 1, 2, 3] rfl, hP, hD, hS⟩ hf
        refine lv_icmp_eq (tgt := 82) hx hb dX3_keep_73 (by decide) (fun c_49 => ?_) (fun c_49 => ?_)
        · skip
          rw [if_pos c_49] at hf
          exact B82 (z_19) ls H locs ⟨lv_sub hl [0, 1, 2, 3] rfl, hP, hD, hS⟩ hf
        · skip
          rw [if_neg c_49] at hf
          refine lv_iload_n hx hb dX3_keep_76 rfl (lv_at hl 3 rfl) ?_
          refine lv_bipush (v := 50) hx hb dX3_keep_77 (by decide) ?_
          refine lv_icmp_lt (tgt := 108) hx hb dX3_keep_79 (by decide) (fun c_50 => ?_) (fun c_50 => ?_)
          · skip
            rw [if_pos c_50] at hf
            exact B108 (z_19) ls H locs ⟨lv_sub hl [0, 1, 2, 3] rfl, hP, hD, hS⟩ hf
          · skip
            rw [if_neg c_50] at hf
            exact B82 (z_19) ls H locs ⟨lv_sub hl [0, 1, 2, 3] rfl, hP, hD, hS⟩ hf
      refine lv_if_ne (tgt := 70) hx hb dX3_keep_62 (by decide) (fun c_51 => ?_) (fun c_51 => ?_)
      · skip
        rw [if_neg c_51] at hf
        exact B70 (z_16) ls H_18 locs ⟨lv_sub hl [0, 1, 2, 3] rfl, hP, hD, hS⟩ hf
      · skip
        rw [if_pos c_51] at hf
        refine lv_aload_n hx hb dX3_keep_65 rfl (lv_at hl 2 rfl) ?_
        refine lv_iconst (v := 4) hx hb dX3_keep_66 (by decide) ?_
        obtain ⟨z_52, _u, hfc, hf⟩ := cal_some hf
        have hFc := de_free hD hS hA
        refine va_callv (va_runV (As := [.int 4]) (rest := []) ⟨hx, hb, hml, hown, hts⟩ (de_X3_fail l dC dI cy a sh n H_18.size F z_16 h0 4 hfc) (cwV 1 hts gX3_keep_X3_fail rfl rfl rfl (by decide +kernel) ⟨Nat.le_of_ble_eq_true rfl, Nat.le_of_ble_eq_true rfl⟩) ⟨fun a U g mk q => by obtain ⟨q0, q1, qP, qK, qD, qN⟩ := q; exact ⟨q0, q1, qP, va_K.moved (u := U) (U := U.calling g mk a) (Vm.Alike.refl U.vm) qK, qD, qN.same rfl⟩, va_recv hK hP (ci := 3) (q0 := h0) rfl (Wd_ob kg_8 sg_8 (by decide)), fun U hU hW => ⟨rfl, by rw [hU], by rw [hU]; exact hP, va_K.moved hW.alike hK, hD.weaken (fun _ _ _ _ => trivial), hN.warm hW⟩⟩ rfl rfl hl.1 rfl (lv_room (Nat.le_of_ble_eq_true rfl)) dX3_keep_67 ⟨Nat.le_of_ble_eq_true rfl, Nat.le_of_ble_eq_true rfl⟩) hS (fun q _ h => hFc q h) hFc (fun u t H_53 locs ht hvm hw hB hz1 hk1 hS2 => ?_)
        obtain ⟨hP1, -, hD1⟩ := hB
        rw [ht] at hP1
        replace hD := hD1.weaken (fun _ _ _ h => hFc _ h)
        replace hP := hP1
        replace hS := hS2
        clear hP1 hD1 hS2 hFc hfc hz1 hk1 hvm ht
        exact B70 (z_52) ls H_53 locs ⟨lv_sub hl [0, 1, 2, 3] rfl, hP, hD, hS⟩ hf
    refine lv_if_ne (tgt := 55) hx hb dX3_keep_46 (by decide) (fun c_54 => ?_) (fun c_54 => ?_)
    · skip
      rw [if_neg c_54] at hf
      exact B55 (z_11) ls H_14 locs ⟨lv_sub hl [0, 1, 2, 3] rfl, hP, hD, hS⟩ hf
    · skip
      rw [if_pos c_54] at hf
      refine lv_aload_n hx hb dX3_keep_49 rfl (lv_at hl 2 rfl) ?_
      refine lv_bipush (v := 15) hx hb dX3_keep_50 (by decide) ?_
      obtain ⟨z_55, _u, hfc, hf⟩ := cal_some hf
      have hFc := de_free hD hS hA
      refine va_callv (va_runV (As := [.int 15]) (rest := []) ⟨hx, hb, hml, hown, hts⟩ (de_X3_fail l dC dI cy a sh n H_14.size F z_11 h0 15 hfc) (cwV 1 hts gX3_keep_X3_fail rfl rfl rfl (by decide +kernel) ⟨Nat.le_of_ble_eq_true rfl, Nat.le_of_ble_eq_true rfl⟩) ⟨fun a U g mk q => by obtain ⟨q0, q1, qP, qK, qD, qN⟩ := q; exact ⟨q0, q1, qP, va_K.moved (u := U) (U := U.calling g mk a) (Vm.Alike.refl U.vm) qK, qD, qN.same rfl⟩, va_recv hK hP (ci := 3) (q0 := h0) rfl (Wd_ob kg_8 sg_8 (by decide)), fun U hU hW => ⟨rfl, by rw [hU], by rw [hU]; exact hP, va_K.moved hW.alike hK, hD.weaken (fun _ _ _ _ => trivial), hN.warm hW⟩⟩ rfl rfl hl.1 rfl (lv_room (Nat.le_of_ble_eq_true rfl)) dX3_keep_52 ⟨Nat.le_of_ble_eq_true rfl, Nat.le_of_ble_eq_true rfl⟩) hS (fun q _ h => hFc q h) hFc (fun u t H_56 locs ht hvm hw hB hz1 hk1 hS2 => ?_)
      obtain ⟨hP1, -, hD1⟩ := hB
      rw [ht] at hP1
      replace hD := hD1.weaken (fun _ _ _ h => hFc _ h)
      replace hP := hP1
      replace hS := hS2
      clear hP1 hD1 hS2 hFc hfc hz1 hk1 hvm ht
      exact B55 (z_55) ls H_56 locs ⟨lv_sub hl [0, 1, 2, 3] rfl, hP, hD, hS⟩ hf
  refine lv_icmp_ne (tgt := 27) hx hb dX3_keep_20 (by decide) (fun c_57 => ?_) (fun c_57 => ?_)
  · skip
    rw [if_neg c_57] at hf
    refine lv_ldc2 hx hb hown (hts _ md_X3_keep_1) dX3_keep_27 ?_
    exact B30 (z_1, 5) ls H_3 locs ⟨lv_sub hl [0, 1, 2, 3] rfl, hP, hD, hS⟩ hf
  · skip
    rw [if_pos c_57] at hf
    refine lv_lload_n hx hb dX3_keep_23 rfl (lv_at hl 1 rfl) ?_
    refine lv_goto (tgt := 30) hx hb dX3_keep_24 (by decide) ?_
    exact B30 (z_1, r_2) ls H_3 locs ⟨lv_sub hl [0, 1, 2, 3] rfl, hP, hD, hS⟩ hf

theorem md_X4_lineUp_1 : (.fieldLink RX4 12 "ResourceLedger$Machine" "heap" "LResourceLedger$Heap;" : Cond) ∈ wsX4_lineUp := List.mem_of_getElem? (i := 1) rfl
theorem iwd_X4_lineUp_X4 : ∀ w ∈ wsX40, w ∈ wsX4_lineUp := fun _ h => List.mem_cons_of_mem _ (List.mem_append_left _ (List.mem_append_left _ (List.mem_append_right _ h)))
theorem md_X4_lineUp_2 : (.fieldLink RX4 157 "ResourceLedger$Heap" "kind" "[B" : Cond) ∈ wsX4_lineUp := List.mem_of_getElem? (i := 2) rfl
theorem iwd_X4_lineUp_X1 : ∀ w ∈ wsX10, w ∈ wsX4_lineUp := fun _ h => List.mem_cons_of_mem _ (List.mem_append_left _ (List.mem_append_right _ h))
theorem md_X4_lineUp_4 : (.fieldLink RX4 160 "ResourceLedger$Heap" "high" "[J" : Cond) ∈ wsX4_lineUp := List.mem_of_getElem? (i := 4) rfl
theorem md_X4_lineUp_3 : (.fieldLink RX4 71 "ResourceLedger$Heap" "slips" "I" : Cond) ∈ wsX4_lineUp := List.mem_of_getElem? (i := 3) rfl
set_option maxHeartbeats 4000000 in
set_option maxRecDepth 100000 in
theorem de_X4_lineUp (l : Launch) (dC : Nat → ClassId) (dI : Nat → Nat → Nat) (cy : Nat → ClassId) (a : Nat → Nat) (sh : Nat → Nat × Nat) (n sz : Nat) (F : Nat) (z : St) (h0 : Nat) (x0 : Int32) (x1 : Int32) {z8 : St} {r8 : Unit} (hf : fn_X4_lineUp F sh n z h0 x0 x1 = some (z8, r8)) : Met l yX4_lineUp wsX4_lineUp ({ frames := 3, cells := 0, slots := 0, locals := 76 }) (va_Pc [.ref (a h0), .int x0, .int x1] (fun U => U.heap.size = sz ∧ va_P (dC, dI) vwCl (Wd cy a sh n z) U.heap ∧ va_K (dC, dI) vwCl (TYS cy) U ∧ va_D (fun _ => True) (Wd cy a sh n z) ∧ NK U)) (va_Qv (fun u : Unit => True) (fun u t => va_P (dC, dI) vwCl (Wd cy a sh n z8) t.heap ∧ va_K (dC, dI) vwCl (TYS cy) t ∧ va_D (va_A (Wd cy a sh n z) sz) (Wd cy a sh n z8)) (va_A (Wd cy a sh n z) sz)) 0 0 (va_A (Wd cy a sh n z) sz) := by
  refine Met.ofW (cc := cX4_lineUp) (maxL := 8) (ret := none) (by decide) rfl ?_
  intro p e s m args below meth c s₁ B hml hv
  obtain ⟨rfl, hsz, hP, hK, hD0, hN⟩ := hv
  have hx := B.exec
  have hb := B.bytes
  have hr := B.returns
  have hts := atoms_spec (ws := wsX4_lineUp) B.pre
  have hown : s.vm.findClass RX4 = some m.cls := findClass_of_methodNamed B.named
  have hlocks := B.notSynchronized
  subst hsz
  have hD := hD0.self (sz := s.heap.size)
  clear hD0
  generalize hAe : va_A (Wd cy a sh n z) s.heap.size = A at hD ⊢
  have hA : ∀ q : Nat, s.heap.size ≤ q → A q := fun q h => by rw [← hAe]; exact Or.inr h
  clear hAe
  have hS : va_S A s.heap s.heap [] := va_S.rf
  have hl := lv_entry ([.ref (a h0), .int x0, .int x1]) (n := 8) (Nat.le_of_ble_eq_true rfl)
  rw [lg_entry_eq]
  generalize (lg_sl ([.ref (a h0), .int x0, .int x1]) ++ List.replicate (8 - (lg_sl ([.ref (a h0), .int x0, .int x1])).length) Slot.unset).toArray = ls at hl ⊢
  replace hl : lv_has ls 8 [(0, .ref (a h0)), (1, .int x0), (2, .int x1)] := hl
  unfold fn_X4_lineUp at hf
  refine de_start hS hP (fun H locs hS hP => ?_)
  refine lv_iload_n hx hb dX4_lineUp_0 rfl (lv_at hl 1 rfl) ?_
  refine lv_bipush (v := 52) hx hb dX4_lineUp_1 (by decide) ?_
  refine lv_icmp_ne (tgt := 22) hx hb dX4_lineUp_3 (by decide) (fun c_1 => ?_) (fun c_1 => ?_)
  · skip
    rw [if_neg c_1] at hf
    refine lv_iload_n hx hb dX4_lineUp_22 rfl (lv_at hl 1 rfl) ?_
    refine lv_bipush (v := 53) hx hb dX4_lineUp_23 (by decide) ?_
    refine de_cut (h := 49) (fun (x : St × Int32) => [.int x.2]) (fun x ls H locs => lv_has ls 8 [(0, .ref (a h0)), (1, .int x0)] ∧ va_P (dC, dI) vwCl (Wd cy a sh n x.1) H ∧ va_D A (Wd cy a sh n x.1) ∧ va_S A s.heap H locs) (fun x => fn_X4_lineUp_B49 F sh n h0 x0 x.1 x.2) (z8, r8) ?_ (fun B49 => ?_)
    · intro x ls H locs hI hf
      obtain ⟨z_3, p_2⟩ := x
      obtain ⟨hl2, hP2, hD2, hS2⟩ := hI
      replace hl : lv_has ls 8 [(0, .ref (a h0)), (1, .int x0)] := hl2
      replace hP := hP2
      replace hD := hD2
      replace hS := hS2
      clear hl2 hP2 hD2 hS2
      replace hf := fn_X4_lineUp_B49_s hf
      refine W.eq (g2 := F0 m 49 ls [.int p_2]) rfl ?_
      refine lv_istore_n (lv' := [(3, .int p_2), (0, .ref (a h0)), (1, .int x0)]) hx hb dX4_lineUp_49 rfl hl (by decide) rfl (fun ls hl2 => ?_)
      replace hl := hl2
      clear hl2
      refine lv_aload_n hx hb dX4_lineUp_50 rfl (lv_at hl 1 rfl) ?_
      refine lv_iload_n hx hb dX4_lineUp_51 rfl (lv_at hl 0 rfl) ?_
      obtain ⟨g_6, hf⟩ := grd_some hf
      obtain ⟨kg_6, sg_6⟩ := okO_at g_6
      obtain ⟨z_4, r_5, hfc, hf⟩ := cal_some hf
      have hFc := de_free hD hS hA
      refine va_calli (va_runV (As := [.int p_2]) (rest := []) ⟨hx, hb, hml, hown, hts⟩ (de_X4_peek l dC dI cy a sh n H.size F z_3 h0 p_2 hfc) (cwV 1 hts gX4_lineUp_X4_peek rfl rfl rfl (by decide +kernel) ⟨Nat.le_of_ble_eq_true rfl, Nat.le_of_ble_eq_true rfl⟩) ⟨fun a U g mk q => by obtain ⟨q0, q1, qP, qK, qD, qN⟩ := q; exact ⟨q0, q1, qP, va_K.moved (u := U) (U := U.calling g mk a) (Vm.Alike.refl U.vm) qK, qD, qN.same rfl⟩, va_recv hK hP (ci := 4) (q0 := h0) rfl (Wd_ob kg_6 sg_6 (by decide)), fun U hU hW => ⟨rfl, by rw [hU], by rw [hU]; exact hP, va_K.moved hW.alike hK, hD.weaken (fun _ _ _ _ => trivial), hN.warm hW⟩⟩ rfl rfl hl.1 rfl (lv_room (Nat.le_of_ble_eq_true rfl)) dX4_lineUp_52 ⟨Nat.le_of_ble_eq_true rfl, Nat.le_of_ble_eq_true rfl⟩) hS (fun q _ h => hFc q h) hFc (fun rr u t H_7 locs ht hvm hw hB hz1 hk1 hS2 => ?_)
      rw [hw]
      clear hw
      obtain ⟨hP1, -, hD1⟩ := hB
      rw [ht] at hP1
      replace hD := hD1.weaken (fun _ _ _ h => hFc _ h)
      replace hP := hP1
      replace hS := hS2
      clear hP1 hD1 hS2 hFc hfc hz1 hk1 hvm ht
      refine lv_istore (lv' := [(4, .int r_5), (3, .int p_2), (0, .ref (a h0)), (1, .int x0)]) hx hb dX4_lineUp_55 hl (by decide) rfl (fun ls hl2 => ?_)
      replace hl := hl2
      clear hl2
      refine lv_aload_n hx hb dX4_lineUp_57 rfl (lv_at hl 2 rfl) ?_
      refine lv_iload hx hb dX4_lineUp_58 (lv_at hl 0 rfl) ?_
      obtain ⟨z_8, r_9, hfc, hf⟩ := cal_some hf
      have hFc := de_free hD hS hA
      refine va_calli (va_runV (As := [.int r_5]) (rest := []) ⟨hx, hb, hml, hown, hts⟩ (de_X4_target l dC dI cy a sh n H_7.size F z_4 h0 r_5 hfc) (cwV 1 hts gX4_lineUp_X4_target rfl rfl rfl (by decide +kernel) ⟨Nat.le_of_ble_eq_true rfl, Nat.le_of_ble_eq_true rfl⟩) ⟨fun a U g mk q => by obtain ⟨q0, q1, qP, qK, qD, qN⟩ := q; exact ⟨q0, q1, qP, va_K.moved (u := U) (U := U.calling g mk a) (Vm.Alike.refl U.vm) qK, qD, qN.same rfl⟩, va_recv hK hP (ci := 4) (q0 := h0) rfl (Wd_ob kg_6 sg_6 (by decide)), fun U hU hW => ⟨rfl, by rw [hU], by rw [hU]; exact hP, va_K.moved hW.alike hK, hD.weaken (fun _ _ _ _ => trivial), hN.warm hW⟩⟩ rfl rfl hl.1 rfl (lv_room (Nat.le_of_ble_eq_true rfl)) dX4_lineUp_60 ⟨Nat.le_of_ble_eq_true rfl, Nat.le_of_ble_eq_true rfl⟩) hS (fun q _ h => hFc q h) hFc (fun rr u t H_10 locs ht hvm hw hB hz1 hk1 hS2 => ?_)
      rw [hw]
      clear hw
      obtain ⟨hP1, -, hD1⟩ := hB
      rw [ht] at hP1
      replace hD := hD1.weaken (fun _ _ _ h => hFc _ h)
      replace hP := hP1
      replace hS := hS2
      clear hP1 hD1 hS2 hFc hfc hz1 hk1 hvm ht
      refine lv_istore (lv' := [(5, .int r_9), (4, .int r_5), (3, .int p_2), (0, .ref (a h0)), (1, .int x0)]) hx hb dX4_lineUp_63 hl (by decide) rfl (fun ls hl2 => ?_)
      replace hl := hl2
      clear hl2
      refine lv_aload_n hx hb dX4_lineUp_65 rfl (lv_at hl 3 rfl) ?_
      obtain ⟨k_11, ek_11, hf⟩ := lnk_some hf
      refine va_get (D := (dC, dI)) (ci := 4) (v := .ref (a k_11)) (C := RX4) (T := TX4) (N := 18) hx hb hts iwd_X4_lineUp_X4 hown hK hP h0 (Wd_ob kg_6 sg_6 (by decide)) rfl 1 (by decide) (hts _ md_X4_lineUp_1) (fun _ h9 => h9) (fl_q rfl ek_11) dX4_lineUp_66 ?_
      obtain ⟨g_12, hf⟩ := grd_some hf
      obtain ⟨kg_12, sg_12⟩ := okO_at g_12
      obtain ⟨k_13, ek_13, hf⟩ := lnk_some hf
      refine va_get (D := (dC, dI)) (ci := 1) (v := .ref (a k_13)) (C := RX1) (T := TX1) (N := 7) hx hb hts iwd_X4_lineUp_X1 hown hK hP k_11 (Wd_ob kg_12 sg_12 (by decide)) rfl 0 (by decide) (hts _ md_X4_lineUp_2) (fun _ h9 => h9) (fl_q rfl ek_13) dX4_lineUp_69 ?_
      refine lv_iload hx hb dX4_lineUp_72 (lv_at hl 0 rfl) ?_
      obtain ⟨g_14, hf⟩ := grd_some hf
      obtain ⟨kg_14, sg_14, ig_14⟩ := okA_at g_14
      refine va_bald hx hb hK hP k_13 0 (Wd_ab kg_14 sg_14) rfl ig_14 dX4_lineUp_74 ?_
      refine lv_bipush (v := 7) hx hb dX4_lineUp_75 (by decide) ?_
      refine de_cut (h := 93) (fun (x : St) => []) (fun x ls H locs => lv_has ls 8 [(5, .int r_9), (0, .ref (a h0)), (1, .int x0)] ∧ va_P (dC, dI) vwCl (Wd cy a sh n x) H ∧ va_D A (Wd cy a sh n x) ∧ va_S A s.heap H locs) (fun x => fn_X4_lineUp_B93 F sh n h0 r_9 x0 x) (z8, r8) ?_ (fun B93 => ?_)
      · intro x ls H locs hI hf
        obtain ⟨z_15, ez⟩ : ∃ w, w = x := ⟨_, rfl⟩
        subst ez
        obtain ⟨hl2, hP2, hD2, hS2⟩ := hI
        replace hl : lv_has ls 8 [(5, .int r_9), (0, .ref (a h0)), (1, .int x0)] := hl2
        replace hP := hP2
        replace hD := hD2
        replace hS := hS2
        clear hl2 hP2 hD2 hS2
        replace hf := fn_X4_lineUp_B93_s hf
        refine W.eq (g2 := F0 m 93 ls []) rfl ?_
        refine lv_aload_n hx hb dX4_lineUp_93 rfl (lv_at hl 1 rfl) ?_
        obtain ⟨k_16, ek_16, hf⟩ := lnk_some hf
        refine va_get (D := (dC, dI)) (ci := 4) (v := .ref (a k_16)) (C := RX4) (T := TX4) (N := 18) hx hb hts iwd_X4_lineUp_X4 hown hK hP h0 (Wd_ob kg_6 sg_6 (by decide)) rfl 1 (by decide) (hts _ md_X4_lineUp_1) (fun _ h9 => h9) (fl_q rfl ek_16) dX4_lineUp_94 ?_
        obtain ⟨g_17, hf⟩ := grd_some hf
        obtain ⟨kg_17, sg_17⟩ := okO_at g_17
        obtain ⟨k_18, ek_18, hf⟩ := lnk_some hf
        refine va_get (D := (dC, dI)) (ci := 1) (v := .ref (a k_18)) (C := RX1) (T := TX1) (N := 7) hx hb hts iwd_X4_lineUp_X1 hown hK hP k_16 (Wd_ob kg_17 sg_17 (by decide)) rfl 2 (by decide) (hts _ md_X4_lineUp_4) (fun _ h9 => h9) (fl_q rfl ek_18) dX4_lineUp_97 ?_
        refine lv_iload hx hb dX4_lineUp_100 (lv_at hl 0 rfl) ?_
        obtain ⟨g_19, hf⟩ := grd_some hf
        obtain ⟨kg_19, sg_19, ig_19⟩ := okA_at g_19
        refine va_lald hx hb hK hP k_18 2 (Wd_al kg_19 sg_19) rfl ig_19 dX4_lineUp_102 ?_
        refine lv_topl (fun v_20 ev_20 => ?_)
        replace hf := lt_at ev_20 hf
        clear ev_20
        refine lv_lstore (lv' := [(6, .long v_20), (5, .int r_9), (0, .ref (a h0)), (1, .int x0)]) hx hb dX4_lineUp_103 hl (by decide) rfl (fun ls hl2 => ?_)
        replace hl := hl2
        clear hl2
        refine lv_iload_n hx hb dX4_lineUp_105 rfl (lv_at hl 3 rfl) ?_
        refine lv_bipush (v := 53) hx hb dX4_lineUp_106 (by decide) ?_
        refine lv_icmp_ne (tgt := 127) hx hb dX4_lineUp_108 (by decide) (fun c_21 => ?_) (fun c_21 => ?_)
        · skip
          rw [if_neg c_21] at hf
          refine lv_iload_n hx hb dX4_lineUp_127 rfl (lv_at hl 3 rfl) ?_
          refine lv_bipush (v := 56) hx hb dX4_lineUp_128 (by decide) ?_
          refine lv_icmp_ne (tgt := 144) hx hb dX4_lineUp_130 (by decide) (fun c_22 => ?_) (fun c_22 => ?_)
          · skip
            rw [if_neg c_22] at hf
            refine lv_iload_n hx hb dX4_lineUp_144 rfl (lv_at hl 3 rfl) ?_
            refine lv_bipush (v := 57) hx hb dX4_lineUp_145 (by decide) ?_
            refine lv_icmp_ne (tgt := 161) hx hb dX4_lineUp_147 (by decide) (fun c_23 => ?_) (fun c_23 => ?_)
            · skip
              rw [if_neg c_23] at hf
              refine lv_iload_n hx hb dX4_lineUp_161 rfl (lv_at hl 3 rfl) ?_
              refine lv_bipush (v := 58) hx hb dX4_lineUp_162 (by decide) ?_
              refine lv_icmp_ne (tgt := 178) hx hb dX4_lineUp_164 (by decide) (fun c_24 => ?_) (fun c_24 => ?_)
              · skip
                rw [if_neg c_24] at hf
                refine lv_aload_n hx hb dX4_lineUp_178 rfl (lv_at hl 2 rfl) ?_
                refine lv_iload hx hb dX4_lineUp_179 (lv_at hl 1 rfl) ?_
                refine lv_lload hx hb dX4_lineUp_181 (lv_at hl 0 rfl) ?_
                obtain ⟨z_25, _u, hfc, hf⟩ := cal_some hf
                have hFc := de_free hD hS hA
                refine va_callv (va_runV (As := [.int r_9, .long v_20]) (rest := []) ⟨hx, hb, hml, hown, hts⟩ (de_X4_borrowElement l dC dI cy a sh n H.size F z_15 h0 r_9 v_20 hfc) (cwV 2 hts gX4_lineUp_X4_borrowElement rfl rfl rfl (by decide +kernel) ⟨Nat.le_of_ble_eq_true rfl, Nat.le_of_ble_eq_true rfl⟩) ⟨fun a U g mk q => by obtain ⟨q0, q1, qP, qK, qD, qN⟩ := q; exact ⟨q0, q1, qP, va_K.moved (u := U) (U := U.calling g mk a) (Vm.Alike.refl U.vm) qK, qD, qN.same rfl⟩, va_recv hK hP (ci := 4) (q0 := h0) rfl (Wd_ob kg_6 sg_6 (by decide)), fun U hU hW => ⟨rfl, by rw [hU], by rw [hU]; exact hP, va_K.moved hW.alike hK, hD.weaken (fun _ _ _ _ => trivial), hN.warm hW⟩⟩ rfl rfl hl.1 rfl (lv_room (Nat.le_of_ble_eq_true rfl)) dX4_lineUp_183 ⟨Nat.le_of_ble_eq_true rfl, Nat.le_of_ble_eq_true rfl⟩) hS (fun q _ h => hFc q h) hFc (fun u t H_26 locs ht hvm hw hB hz1 hk1 hS2 => ?_)
                obtain ⟨hP1, -, hD1⟩ := hB
                rw [ht] at hP1
                replace hD := hD1.weaken (fun _ _ _ h => hFc _ h)
                replace hP := hP1
                replace hS := hS2
                clear hP1 hD1 hS2 hFc hfc hz1 hk1 hvm ht
                obtain ⟨h8, h9⟩ := ret_some hf
                rw [h8]
                exact W.vret hx hb hr (fun t ht hW => ⟨⟨(), rfl, trivial, by rw [ht]; exact hP, va_K.moved hW.alike hK, hD⟩, hS.F ht⟩) hS.2.2 dX4_lineUp_186
              · skip
                rw [if_pos c_24] at hf
                refine lv_aload_n hx hb dX4_lineUp_167 rfl (lv_at hl 2 rfl) ?_
                refine lv_iload hx hb dX4_lineUp_168 (lv_at hl 1 rfl) ?_
                refine lv_lload hx hb dX4_lineUp_170 (lv_at hl 0 rfl) ?_
                obtain ⟨z_27, _u, hfc, hf⟩ := cal_some hf
                have hFc := de_free hD hS hA
                refine va_callv (va_runV (As := [.int r_9, .long v_20]) (rest := []) ⟨hx, hb, hml, hown, hts⟩ (de_X4_exchange l dC dI cy a sh n H.size F z_15 h0 r_9 v_20 hfc) (cwV 2 hts gX4_lineUp_X4_exchange rfl rfl rfl (by decide +kernel) ⟨Nat.le_of_ble_eq_true rfl, Nat.le_of_ble_eq_true rfl⟩) ⟨fun a U g mk q => by obtain ⟨q0, q1, qP, qK, qD, qN⟩ := q; exact ⟨q0, q1, qP, va_K.moved (u := U) (U := U.calling g mk a) (Vm.Alike.refl U.vm) qK, qD, qN.same rfl⟩, va_recv hK hP (ci := 4) (q0 := h0) rfl (Wd_ob kg_6 sg_6 (by decide)), fun U hU hW => ⟨rfl, by rw [hU], by rw [hU]; exact hP, va_K.moved hW.alike hK, hD.weaken (fun _ _ _ _ => trivial), hN.warm hW⟩⟩ rfl rfl hl.1 rfl (lv_room (Nat.le_of_ble_eq_true rfl)) dX4_lineUp_172 ⟨Nat.le_of_ble_eq_true rfl, Nat.le_of_ble_eq_true rfl⟩) hS (fun q _ h => hFc q h) hFc (fun u t H_28 locs ht hvm hw hB hz1 hk1 hS2 => ?_)
                obtain ⟨hP1, -, hD1⟩ := hB
                rw [ht] at hP1
                replace hD := hD1.weaken (fun _ _ _ h => hFc _ h)
                replace hP := hP1
                replace hS := hS2
                clear hP1 hD1 hS2 hFc hfc hz1 hk1 hvm ht
                refine lv_goto (tgt := 186) hx hb dX4_lineUp_175 (by decide) ?_
                obtain ⟨h8, h9⟩ := ret_some hf
                rw [h8]
                exact W.vret hx hb hr (fun t ht hW => ⟨⟨(), rfl, trivial, by rw [ht]; exact hP, va_K.moved hW.alike hK, hD⟩, hS.F ht⟩) hS.2.2 dX4_lineUp_186
            · skip
              rw [if_pos c_23] at hf
              refine lv_aload_n hx hb dX4_lineUp_150 rfl (lv_at hl 2 rfl) ?_
              refine lv_iload hx hb dX4_lineUp_151 (lv_at hl 1 rfl) ?_
              refine lv_lload hx hb dX4_lineUp_153 (lv_at hl 0 rfl) ?_
              obtain ⟨z_29, _u, hfc, hf⟩ := cal_some hf
              have hFc := de_free hD hS hA
              refine va_callv (va_runV (As := [.int r_9, .long v_20]) (rest := []) ⟨hx, hb, hml, hown, hts⟩ (de_X4_removeLast l dC dI cy a sh n H.size F z_15 h0 r_9 v_20 hfc) (cwV 2 hts gX4_lineUp_X4_removeLast rfl rfl rfl (by decide +kernel) ⟨Nat.le_of_ble_eq_true rfl, Nat.le_of_ble_eq_true rfl⟩) ⟨fun a U g mk q => by obtain ⟨q0, q1, qP, qK, qD, qN⟩ := q; exact ⟨q0, q1, qP, va_K.moved (u := U) (U := U.calling g mk a) (Vm.Alike.refl U.vm) qK, qD, qN.same rfl⟩, va_recv hK hP (ci := 4) (q0 := h0) rfl (Wd_ob kg_6 sg_6 (by decide)), fun U hU hW => ⟨rfl, by rw [hU], by rw [hU]; exact hP, va_K.moved hW.alike hK, hD.weaken (fun _ _ _ _ => trivial), hN.warm hW⟩⟩ rfl rfl hl.1 rfl (lv_room (Nat.le_of_ble_eq_true rfl)) dX4_lineUp_155 ⟨Nat.le_of_ble_eq_true rfl, Nat.le_of_ble_eq_true rfl⟩) hS (fun q _ h => hFc q h) hFc (fun u t H_30 locs ht hvm hw hB hz1 hk1 hS2 => ?_)
              obtain ⟨hP1, -, hD1⟩ := hB
              rw [ht] at hP1
              replace hD := hD1.weaken (fun _ _ _ h => hFc _ h)
              replace hP := hP1
              replace hS := hS2
              clear hP1 hD1 hS2 hFc hfc hz1 hk1 hvm ht
              refine lv_goto (tgt := 186) hx hb dX4_lineUp_158 (by decide) ?_
              obtain ⟨h8, h9⟩ := ret_some hf
              rw [h8]
              exact W.vret hx hb hr (fun t ht hW => ⟨⟨(), rfl, trivial, by rw [ht]; exact hP, va_K.moved hW.alike hK, hD⟩, hS.F ht⟩) hS.2.2 dX4_lineUp_186
          · skip
            rw [if_pos c_22] at hf
            refine lv_aload_n hx hb dX4_lineUp_133 rfl (lv_at hl 2 rfl) ?_
            refine lv_iload hx hb dX4_lineUp_134 (lv_at hl 1 rfl) ?_
            refine lv_lload hx hb dX4_lineUp_136 (lv_at hl 0 rfl) ?_
            obtain ⟨z_31, _u, hfc, hf⟩ := cal_some hf
            have hFc := de_free hD hS hA
            refine va_callv (va_runV (As := [.int r_9, .long v_20]) (rest := []) ⟨hx, hb, hml, hown, hts⟩ (de_X4_append l dC dI cy a sh n H.size F z_15 h0 r_9 v_20 hfc) (cwV 2 hts gX4_lineUp_X4_append rfl rfl rfl (by decide +kernel) ⟨Nat.le_of_ble_eq_true rfl, Nat.le_of_ble_eq_true rfl⟩) ⟨fun a U g mk q => by obtain ⟨q0, q1, qP, qK, qD, qN⟩ := q; exact ⟨q0, q1, qP, va_K.moved (u := U) (U := U.calling g mk a) (Vm.Alike.refl U.vm) qK, qD, qN.same rfl⟩, va_recv hK hP (ci := 4) (q0 := h0) rfl (Wd_ob kg_6 sg_6 (by decide)), fun U hU hW => ⟨rfl, by rw [hU], by rw [hU]; exact hP, va_K.moved hW.alike hK, hD.weaken (fun _ _ _ _ => trivial), hN.warm hW⟩⟩ rfl rfl hl.1 rfl (lv_room (Nat.le_of_ble_eq_true rfl)) dX4_lineUp_138 ⟨Nat.le_of_ble_eq_true rfl, Nat.le_of_ble_eq_true rfl⟩) hS (fun q _ h => hFc q h) hFc (fun u t H_32 locs ht hvm hw hB hz1 hk1 hS2 => ?_)
            obtain ⟨hP1, -, hD1⟩ := hB
            rw [ht] at hP1
            replace hD := hD1.weaken (fun _ _ _ h => hFc _ h)
            replace hP := hP1
            replace hS := hS2
            clear hP1 hD1 hS2 hFc hfc hz1 hk1 hvm ht
            refine lv_goto (tgt := 186) hx hb dX4_lineUp_141 (by decide) ?_
            obtain ⟨h8, h9⟩ := ret_some hf
            rw [h8]
            exact W.vret hx hb hr (fun t ht hW => ⟨⟨(), rfl, trivial, by rw [ht]; exact hP, va_K.moved hW.alike hK, hD⟩, hS.F ht⟩) hS.2.2 dX4_lineUp_186
        · skip
          rw [if_pos c_21] at hf
          refine lv_aload_n hx hb dX4_lineUp_111 rfl (lv_at hl 2 rfl) ?_
          obtain ⟨z_33, r_34, hfc, hf⟩ := cal_some hf
          have hFc := de_free hD hS hA
          refine va_calli (va_runV (As := []) (rest := []) ⟨hx, hb, hml, hown, hts⟩ (de_X4_pop l dC dI cy a sh n H.size F z_15 h0 hfc) (cwV 0 hts gX4_lineUp_X4_pop rfl rfl rfl (by decide +kernel) ⟨Nat.le_of_ble_eq_true rfl, Nat.le_of_ble_eq_true rfl⟩) ⟨fun a U g mk q => by obtain ⟨q0, q1, qP, qK, qD, qN⟩ := q; exact ⟨q0, q1, qP, va_K.moved (u := U) (U := U.calling g mk a) (Vm.Alike.refl U.vm) qK, qD, qN.same rfl⟩, va_recv hK hP (ci := 4) (q0 := h0) rfl (Wd_ob kg_6 sg_6 (by decide)), fun U hU hW => ⟨rfl, by rw [hU], by rw [hU]; exact hP, va_K.moved hW.alike hK, hD.weaken (fun _ _ _ _ => trivial), hN.warm hW⟩⟩ rfl rfl hl.1 rfl (lv_room (Nat.le_of_ble_eq_true rfl)) dX4_lineUp_112 ⟨Nat.le_of_ble_eq_true rfl, Nat.le_of_ble_eq_true rfl⟩) hS (fun q _ h => hFc q h) hFc (fun rr u t H_35 locs ht hvm hw hB hz1 hk1 hS2 => ?_)
          rw [hw]
          clear hw
          obtain ⟨hP1, -, hD1⟩ := hB
          rw [ht] at hP1
          replace hD := hD1.weaken (fun _ _ _ h => hFc _ h)
          replace hP := hP1
          replace hS := hS2
          clear hP1 hD1 hS2 hFc hfc hz1 hk1 hvm ht
          refine lv_pop hx hb dX4_lineUp_115 rfl ?_
          refine lv_aload_n hx hb dX4_lineUp_116 rfl (lv_at hl 2 rfl) ?_
          refine lv_iconst (v := 3) hx hb dX4_lineUp_117 (by decide) ?_
          refine lv_lconst (v := 0) hx hb dX4_lineUp_118 (by decide) ?_
          refine lv_lload hx hb dX4_lineUp_119 (lv_at hl 0 rfl) ?_
          obtain ⟨z_36, _u, hfc, hf⟩ := cal_some hf
          have hFc := de_free hD hS hA
          refine va_callv (va_runV (As := [.int 3, .long 0, .long v_20]) (rest := []) ⟨hx, hb, hml, hown, hts⟩ (de_X4_pushNumber l dC dI cy a sh n H_35.size F z_33 h0 3 0 v_20 hfc) (cwV 3 hts gX4_lineUp_X4_pushNumber rfl rfl rfl (by decide +kernel) ⟨Nat.le_of_ble_eq_true rfl, Nat.le_of_ble_eq_true rfl⟩) ⟨fun a U g mk q => by obtain ⟨q0, q1, qP, qK, qD, qN⟩ := q; exact ⟨q0, q1, qP, va_K.moved (u := U) (U := U.calling g mk a) (Vm.Alike.refl U.vm) qK, qD, qN.same rfl⟩, va_recv hK hP (ci := 4) (q0 := h0) rfl (Wd_ob kg_6 sg_6 (by decide)), fun U hU hW => ⟨rfl, by rw [hU], by rw [hU]; exact hP, va_K.moved hW.alike hK, hD.weaken (fun _ _ _ _ => trivial), hN.warm hW⟩⟩ rfl rfl hl.1 rfl (lv_room (Nat.le_of_ble_eq_true rfl)) dX4_lineUp_121 ⟨Nat.le_of_ble_eq_true rfl, Nat.le_of_ble_eq_true rfl⟩) hS (fun q _ h => hFc q h) hFc (fun u t H_37 locs ht hvm hw hB hz1 hk1 hS2 => ?_)
          obtain ⟨hP1, -, hD1⟩ := hB
          rw [ht] at hP1
          replace hD := hD1.weaken (fun _ _ _ h => hFc _ h)
          replace hP := hP1
          replace hS := hS2
          clear hP1 hD1 hS2 hFc hfc hz1 hk1 hvm ht
          refine lv_goto (tgt := 186) hx hb dX4_lineUp_124 (by decide) ?_
          obtain ⟨h8, h9⟩ := ret_some hf
          rw [h8]
          exact W.vret hx hb hr (fun t ht hW => ⟨⟨(), rfl, trivial, by rw [ht]; exact hP, va_K.moved hW.alike hK, hD⟩, hS.F ht⟩) hS.2.2 dX4_lineUp_186
      refine lv_icmp_eq (tgt := 93) hx hb dX4_lineUp_77 (by decide) (fun c_38 => ?_) (fun c_38 => ?_)
      · skip
        rw [if_pos c_38] at hf
        exact B93 (z_8) ls H_10 locs ⟨lv_sub hl [0, 3, 4] rfl, hP, hD, hS⟩ hf
      · skip
        rw [if_neg c_38] at hf
        refine lv_aload_n hx hb dX4_lineUp_80 rfl (lv_at hl 3 rfl) ?_
        obtain ⟨k_39, ek_39, hf⟩ := lnk_some hf
        refine va_get (D := (dC, dI)) (ci := 4) (v := .ref (a k_39)) (C := RX4) (T := TX4) (N := 18) hx hb hts iwd_X4_lineUp_X4 hown hK hP h0 (Wd_ob kg_6 sg_6 (by decide)) rfl 1 (by decide) (hts _ md_X4_lineUp_1) (fun _ h9 => h9) (fl_q rfl ek_39) dX4_lineUp_81 ?_
        refine lv_dup hx hb dX4_lineUp_84 rfl ?_
        obtain ⟨g_40, hf⟩ := grd_some hf
        obtain ⟨kg_40, sg_40⟩ := okO_at g_40
        refine va_get (D := (dC, dI)) (ci := 1) (v := .int (z_8.1 k_39 6)) (C := RX1) (T := TX1) (N := 7) hx hb hts iwd_X4_lineUp_X1 hown hK hP k_39 (Wd_ob kg_40 sg_40 (by decide)) rfl 6 (by decide) (hts _ md_X4_lineUp_3) (fun _ h9 => h9) (fl_at (t := 0) rfl) dX4_lineUp_85 ?_
        refine lv_iconst (v := 1) hx hb dX4_lineUp_88 (by decide) ?_
        refine lv_iadd hx hb dX4_lineUp_89 ?_
        refine va_put (D := (dC, dI)) (ci := 1) (v := .int ((z_8.1 k_39 6) + 1)) (ty := .int) (C := RX1) (T := TX1) (N := 7) hx hb hts iwd_X4_lineUp_X1 tyX1 tyX1_ok nmX1 hown hK hP hD hS k_39 (Wd_ob kg_40 sg_40 (by decide)) rfl 6 (by decide) (hts _ md_X4_lineUp_3) (fun _ h9 => h9) rfl (by decide +kernel) rfl rfl (by rw [fl_len]; decide) dX4_lineUp_90 (fun H_41 locs hP2 hD2 hS2 => ?_)
        rw [Wd_si sg_40 (by decide) rfl] at hP2 hD2
        obtain ⟨z_42, ez_42⟩ : ∃ w, w = si z_8 k_39 6 ((z_8.1 k_39 6) + 1) := ⟨_, rfl⟩
        rw [← ez_42] at hP2 hD2
        replace hf := lt_at ez_42 hf
        clear ez_42
        replace hP := hP2
        replace hD := hD2
        replace hS := hS2
        clear hP2 hD2 hS2
        exact B93 (z_42) ls H_41 locs ⟨lv_sub hl [0, 3, 4] rfl, hP, hD, hS⟩ hf
    refine de_cut (h := 34) (fun (x : St) => []) (fun x ls H locs => lv_has ls 8 [(0, .ref (a h0)), (1, .int x0)] ∧ va_P (dC, dI) vwCl (Wd cy a sh n x) H ∧ va_D A (Wd cy a sh n x) ∧ va_S A s.heap H locs) (fun x => fn_X4_lineUp_B34 F sh n h0 x0 x) (z8, r8) ?_ (fun B34 => ?_)
    · intro x ls H locs hI hf
      obtain ⟨z_43, ez⟩ : ∃ w, w = x := ⟨_, rfl⟩
      subst ez
      obtain ⟨hl2, hP2, hD2, hS2⟩ := hI
      replace hl : lv_has ls 8 [(0, .ref (a h0)), (1, .int x0)] := hl2
      replace hP := hP2
      replace hD := hD2
      replace hS := hS2
      clear hl2 hP2 hD2 hS2
      replace hf := fn_X4_lineUp_B34_s hf
      refine W.eq (g2 := F0 m 34 ls []) rfl ?_
      refine lv_iconst (v := 0) hx hb dX4_lineUp_34 (by decide) ?_
      refine lv_goto (tgt := 49) hx hb dX4_lineUp_35 (by decide) ?_
      exact B49 (z_43, 0) ls H locs ⟨lv_sub hl [0, 1] rfl, hP, hD, hS⟩ hf
    refine lv_icmp_eq (tgt := 34) hx hb dX4_lineUp_25 (by decide) (fun c_44 => ?_) (fun c_44 => ?_)
    · skip
      rw [if_pos c_44] at hf
      exact B34 (z) ls H locs ⟨lv_sub hl [0, 1] rfl, hP, hD, hS⟩ hf
    · skip
      rw [if_neg c_44] at hf
      refine lv_iload_n hx hb dX4_lineUp_28 rfl (lv_at hl 1 rfl) ?_
      refine lv_bipush (v := 57) hx hb dX4_lineUp_29 (by decide) ?_
      refine lv_icmp_ne (tgt := 38) hx hb dX4_lineUp_31 (by decide) (fun c_45 => ?_) (fun c_45 => ?_)
      · skip
        rw [if_neg c_45] at hf
        refine lv_iload_n hx hb dX4_lineUp_38 rfl (lv_at hl 1 rfl) ?_
        refine lv_bipush (v := 58) hx hb dX4_lineUp_39 (by decide) ?_
        refine lv_icmp_ne (tgt := 48) hx hb dX4_lineUp_41 (by decide) (fun c_46 => ?_) (fun c_46 => ?_)
        · skip
          rw [if_neg c_46] at hf
          refine lv_iconst (v := 1) hx hb dX4_lineUp_48 (by decide) ?_
          exact B49 (z, 1) ls H locs ⟨lv_sub hl [0, 1] rfl, hP, hD, hS⟩ hf
        · skip
          rw [if_pos c_46] at hf
          refine lv_iconst (v := 2) hx hb dX4_lineUp_44 (by decide) ?_
          refine lv_goto (tgt := 49) hx hb dX4_lineUp_45 (by decide) ?_
          exact B49 (z, 2) ls H locs ⟨lv_sub hl [0, 1] rfl, hP, hD, hS⟩ hf
      · skip
        rw [if_pos c_45] at hf
        exact B34 (z) ls H locs ⟨lv_sub hl [0, 1] rfl, hP, hD, hS⟩ hf
  · skip
    rw [if_pos c_1] at hf
    refine lv_aload_n hx hb dX4_lineUp_6 rfl (lv_at hl 0 rfl) ?_
    refine lv_iload_n hx hb dX4_lineUp_7 rfl (lv_at hl 2 rfl) ?_
    obtain ⟨g_49, hf⟩ := grd_some hf
    obtain ⟨kg_49, sg_49⟩ := okO_at g_49
    obtain ⟨z_47, r_48, hfc, hf⟩ := cal_some hf
    have hFc := de_free hD hS hA
    refine va_calli (va_runV (As := [.int x1]) (rest := []) ⟨hx, hb, hml, hown, hts⟩ (de_X4_pay l dC dI cy a sh n H.size F z h0 x1 hfc) (cwV 1 hts gX4_lineUp_X4_pay rfl rfl rfl (by decide +kernel) ⟨Nat.le_of_ble_eq_true rfl, Nat.le_of_ble_eq_true rfl⟩) ⟨fun a U g mk q => by obtain ⟨q0, q1, qP, qK, qD, qN⟩ := q; exact ⟨q0, q1, qP, va_K.moved (u := U) (U := U.calling g mk a) (Vm.Alike.refl U.vm) qK, qD, qN.same rfl⟩, va_recv hK hP (ci := 4) (q0 := h0) rfl (Wd_ob kg_49 sg_49 (by decide)), fun U hU hW => ⟨rfl, by rw [hU], by rw [hU]; exact hP, va_K.moved hW.alike hK, hD.weaken (fun _ _ _ _ => trivial), hN.warm hW⟩⟩ rfl rfl hl.1 rfl (lv_room (Nat.le_of_ble_eq_true rfl)) dX4_lineUp_8 ⟨Nat.le_of_ble_eq_true rfl, Nat.le_of_ble_eq_true rfl⟩) hS (fun q _ h => hFc q h) hFc (fun rr u t H_50 locs ht hvm hw hB hz1 hk1 hS2 => ?_)
    rw [hw]
    clear hw
    obtain ⟨hP1, -, hD1⟩ := hB
    rw [ht] at hP1
    replace hD := hD1.weaken (fun _ _ _ h => hFc _ h)
    replace hP := hP1
    replace hS := hS2
    clear hP1 hD1 hS2 hFc hfc hz1 hk1 hvm ht
    refine lv_if_eq (tgt := 21) hx hb dX4_lineUp_11 (by decide) (fun c_51 => ?_) (fun c_51 => ?_)
    · skip
      rw [if_pos c_51] at hf
      obtain ⟨h8, h9⟩ := ret_some hf
      rw [h8]
      exact W.vret hx hb hr (fun t ht hW => ⟨⟨(), rfl, trivial, by rw [ht]; exact hP, va_K.moved hW.alike hK, hD⟩, hS.F ht⟩) hS.2.2 dX4_lineUp_21
    · skip
      rw [if_neg c_51] at hf
      refine lv_aload_n hx hb dX4_lineUp_14 rfl (lv_at hl 0 rfl) ?_
      refine lv_bipush (v := 7) hx hb dX4_lineUp_15 (by decide) ?_
      refine lv_iload_n hx hb dX4_lineUp_17 rfl (lv_at hl 2 rfl) ?_
      obtain ⟨z_52, _u, hfc, hf⟩ := cal_some hf
      have hFc := de_free hD hS hA
      refine va_callv (va_runV (As := [.int 7, .int x1]) (rest := []) ⟨hx, hb, hml, hown, hts⟩ (de_X4_gather l dC dI cy a sh n H_50.size F z_47 h0 7 x1 hfc) (cwV 2 hts gX4_lineUp_X4_gather rfl rfl rfl (by decide +kernel) ⟨Nat.le_of_ble_eq_true rfl, Nat.le_of_ble_eq_true rfl⟩) ⟨fun a U g mk q => by obtain ⟨q0, q1, qP, qK, qD, qN⟩ := q; exact ⟨q0, q1, qP, va_K.moved (u := U) (U := U.calling g mk a) (Vm.Alike.refl U.vm) qK, qD, qN.same rfl⟩, va_recv hK hP (ci := 4) (q0 := h0) rfl (Wd_ob kg_49 sg_49 (by decide)), fun U hU hW => ⟨rfl, by rw [hU], by rw [hU]; exact hP, va_K.moved hW.alike hK, hD.weaken (fun _ _ _ _ => trivial), hN.warm hW⟩⟩ rfl rfl hl.1 rfl (lv_room (Nat.le_of_ble_eq_true rfl)) dX4_lineUp_18 ⟨Nat.le_of_ble_eq_true rfl, Nat.le_of_ble_eq_true rfl⟩) hS (fun q _ h => hFc q h) hFc (fun u t H_53 locs ht hvm hw hB hz1 hk1 hS2 => ?_)
      obtain ⟨hP1, -, hD1⟩ := hB
      rw [ht] at hP1
      replace hD := hD1.weaken (fun _ _ _ h => hFc _ h)
      replace hP := hP1
      replace hS := hS2
      clear hP1 hD1 hS2 hFc hfc hz1 hk1 hvm ht
      obtain ⟨h8, h9⟩ := ret_some hf
      rw [h8]
      exact W.vret hx hb hr (fun t ht hW => ⟨⟨(), rfl, trivial, by rw [ht]; exact hP, va_K.moved hW.alike hK, hD⟩, hS.F ht⟩) hS.2.2 dX4_lineUp_21

theorem md_X3_refer_2 : (.fieldLink RX3 194 "ResourceLedger$Looker" "takenOrigins" "J" : Cond) ∈ wsX3_refer := List.mem_of_getElem? (i := 2) rfl
theorem iwd_X3_refer_X3 : ∀ w ∈ wsX30, w ∈ wsX3_refer := fun _ h => List.mem_cons_of_mem _ (List.mem_append_left _ (List.mem_append_right _ h))
theorem md_X3_refer_3 : (.fieldLink RX3 197 "ResourceLedger$Looker" "takenInside" "Z" : Cond) ∈ wsX3_refer := List.mem_of_getElem? (i := 3) rfl
theorem md_X3_refer_1 : (.fieldLink RX3 44 "ResourceLedger$Looker" "p" "LResourceLedger$Program;" : Cond) ∈ wsX3_refer := List.mem_of_getElem? (i := 1) rfl
set_option maxHeartbeats 4000000 in
set_option maxRecDepth 100000 in
theorem de_X3_refer (l : Launch) (dC : Nat → ClassId) (dI : Nat → Nat → Nat) (cy : Nat → ClassId) (a : Nat → Nat) (sh : Nat → Nat × Nat) (n sz : Nat) (F : Nat) (z : St) (h0 : Nat) (x0 : Int32) (x1 : Int32) (x2 : Int32) {z8 : St} {r8 : Unit} (hf : fn_X3_refer F sh n z h0 x0 x1 x2 = some (z8, r8)) : Met l yX3_refer wsX3_refer ({ frames := 3, cells := 0, slots := 0, locals := 69 }) (va_Pc [.ref (a h0), .int x0, .int x1, .int x2] (fun U => U.heap.size = sz ∧ va_P (dC, dI) vwCl (Wd cy a sh n z) U.heap ∧ va_K (dC, dI) vwCl (TYS cy) U ∧ va_D (fun _ => True) (Wd cy a sh n z) ∧ NK U)) (va_Qv (fun u : Unit => True) (fun u t => va_P (dC, dI) vwCl (Wd cy a sh n z8) t.heap ∧ va_K (dC, dI) vwCl (TYS cy) t ∧ va_D (va_A (Wd cy a sh n z) sz) (Wd cy a sh n z8)) (va_A (Wd cy a sh n z) sz)) 0 0 (va_A (Wd cy a sh n z) sz) := by
  refine Met.ofW (cc := cX3_refer) (maxL := 8) (ret := none) (by decide) rfl ?_
  intro p e s m args below meth c s₁ B hml hv
  obtain ⟨rfl, hsz, hP, hK, hD0, hN⟩ := hv
  have hx := B.exec
  have hb := B.bytes
  have hr := B.returns
  have hts := atoms_spec (ws := wsX3_refer) B.pre
  have hown : s.vm.findClass RX3 = some m.cls := findClass_of_methodNamed B.named
  have hlocks := B.notSynchronized
  subst hsz
  have hD := hD0.self (sz := s.heap.size)
  clear hD0
  generalize hAe : va_A (Wd cy a sh n z) s.heap.size = A at hD ⊢
  have hA : ∀ q : Nat, s.heap.size ≤ q → A q := fun q h => by rw [← hAe]; exact Or.inr h
  clear hAe
  have hS : va_S A s.heap s.heap [] := va_S.rf
  have hl := lv_entry ([.ref (a h0), .int x0, .int x1, .int x2]) (n := 8) (Nat.le_of_ble_eq_true rfl)
  rw [lg_entry_eq]
  generalize (lg_sl ([.ref (a h0), .int x0, .int x1, .int x2]) ++ List.replicate (8 - (lg_sl ([.ref (a h0), .int x0, .int x1, .int x2])).length) Slot.unset).toArray = ls at hl ⊢
  replace hl : lv_has ls 8 [(0, .ref (a h0)), (1, .int x0), (2, .int x1), (3, .int x2)] := hl
  unfold fn_X3_refer at hf
  refine de_start hS hP (fun H locs hS hP => ?_)
  refine lv_iload_n hx hb dX3_refer_0 rfl (lv_at hl 1 rfl) ?_
  refine lv_bipush (v := 17) hx hb dX3_refer_1 (by decide) ?_
  refine lv_icmp_gt (tgt := 66) hx hb dX3_refer_3 (by decide) (fun c_1 => ?_) (fun c_1 => ?_)
  · skip
    rw [if_pos c_1] at hf
    refine lv_iload_n hx hb dX3_refer_66 rfl (lv_at hl 1 rfl) ?_
    refine lv_bipush (v := 18) hx hb dX3_refer_67 (by decide) ?_
    refine lv_icmp_ne (tgt := 103) hx hb dX3_refer_69 (by decide) (fun c_2 => ?_) (fun c_2 => ?_)
    · skip
      rw [if_neg c_2] at hf
      refine lv_iload_n hx hb dX3_refer_103 rfl (lv_at hl 1 rfl) ?_
      refine lv_bipush (v := 19) hx hb dX3_refer_104 (by decide) ?_
      refine lv_icmp_ne (tgt := 165) hx hb dX3_refer_106 (by decide) (fun c_3 => ?_) (fun c_3 => ?_)
      · skip
        rw [if_neg c_3] at hf
        refine lv_aload_n hx hb dX3_refer_165 rfl (lv_at hl 0 rfl) ?_
        refine lv_iconst (v := 1) hx hb dX3_refer_166 (by decide) ?_
        obtain ⟨g_6, hf⟩ := grd_some hf
        obtain ⟨kg_6, sg_6⟩ := okO_at g_6
        obtain ⟨z_4, r_5, hfc, hf⟩ := cal_some hf
        have hFc := de_free hD hS hA
        refine va_calll (va_runV (As := [.int 1]) (rest := []) ⟨hx, hb, hml, hown, hts⟩ (de_X3_takeReference l dC dI cy a sh n H.size F z h0 1 hfc) (cwV 1 hts gX3_refer_X3_takeReference rfl rfl rfl (by decide +kernel) ⟨Nat.le_of_ble_eq_true rfl, Nat.le_of_ble_eq_true rfl⟩) ⟨fun a U g mk q => by obtain ⟨q0, q1, qP, qK, qD, qN⟩ := q; exact ⟨q0, q1, qP, va_K.moved (u := U) (U := U.calling g mk a) (Vm.Alike.refl U.vm) qK, qD, qN.same rfl⟩, va_recv hK hP (ci := 3) (q0 := h0) rfl (Wd_ob kg_6 sg_6 (by decide)), fun U hU hW => ⟨rfl, by rw [hU], by rw [hU]; exact hP, va_K.moved hW.alike hK, hD.weaken (fun _ _ _ _ => trivial), hN.warm hW⟩⟩ rfl rfl hl.1 rfl (lv_room (Nat.le_of_ble_eq_true rfl)) dX3_refer_167 ⟨Nat.le_of_ble_eq_true rfl, Nat.le_of_ble_eq_true rfl⟩) hS (fun q _ h => hFc q h) hFc (fun rr u t H_7 locs ht hvm hw hB hz1 hk1 hS2 => ?_)
        rw [hw]
        clear hw
        obtain ⟨hP1, -, hD1⟩ := hB
        rw [ht] at hP1
        replace hD := hD1.weaken (fun _ _ _ h => hFc _ h)
        replace hP := hP1
        replace hS := hS2
        clear hP1 hD1 hS2 hFc hfc hz1 hk1 hvm ht
        refine lv_lstore (lv' := [(4, .long r_5), (0, .ref (a h0)), (1, .int x0), (2, .int x1), (3, .int x2)]) hx hb dX3_refer_170 hl (by decide) rfl (fun ls hl2 => ?_)
        replace hl := hl2
        clear hl2
        refine lv_aload_n hx hb dX3_refer_172 rfl (lv_at hl 1 rfl) ?_
        refine lv_bipush (v := 8) hx hb dX3_refer_173 (by decide) ?_
        refine lv_lload hx hb dX3_refer_175 (lv_at hl 0 rfl) ?_
        obtain ⟨z_8, r_9, hfc, hf⟩ := cal_some hf
        have hFc := de_free hD hS hA
        refine va_calll (va_runS (As := [.int 8, .long r_5]) (rest := [.ref (a h0)]) ⟨hx, hb, hml, hown, hts⟩ (de_X5_prefixed l dC dI cy a sh n H_7.size F z_4 8 r_5 hfc) (va_cwS 2 hts gX3_refer_X5_prefixed rfl rfl rfl (by decide +kernel) ⟨Nat.le_of_ble_eq_true rfl, Nat.le_of_ble_eq_true rfl⟩) ⟨fun a U g mk q => by obtain ⟨q0, q1, qP, qK, qD, qN⟩ := q; exact ⟨q0, q1, qP, va_K.moved (u := U) (U := U.calling g mk a) (Vm.Alike.refl U.vm) qK, qD, qN.same rfl⟩, fun U hU hW => ⟨rfl, by rw [hU], by rw [hU]; exact hP, va_K.moved hW.alike hK, hD.weaken (fun _ _ _ _ => trivial), hN.warm hW⟩⟩ rfl rfl hl.1 rfl (lv_room (Nat.le_of_ble_eq_true rfl)) dX3_refer_177 ⟨Nat.le_of_ble_eq_true rfl, Nat.le_of_ble_eq_true rfl⟩) hS (fun q _ h => hFc q h) hFc (fun rr u t H_10 locs ht hvm hw hB hz1 hk1 hS2 => ?_)
        rw [hw]
        clear hw
        obtain ⟨hP1, -, hD1⟩ := hB
        rw [ht] at hP1
        replace hD := hD1.weaken (fun _ _ _ h => hFc _ h)
        replace hP := hP1
        replace hS := hS2
        clear hP1 hD1 hS2 hFc hfc hz1 hk1 hvm ht
        refine lv_aload_n hx hb dX3_refer_180 rfl (lv_at hl 1 rfl) ?_
        refine va_get (D := (dC, dI)) (ci := 3) (v := .long (z_8.2.1 h0 14)) (C := RX3) (T := TX3) (N := 22) hx hb hts iwd_X3_refer_X3 hown hK hP h0 (Wd_ob kg_6 sg_6 (by decide)) rfl 14 (by decide) (hts _ md_X3_refer_2) (fun _ h9 => h9) (fl_at (t := 1) rfl) dX3_refer_181 ?_
        refine lv_aload_n hx hb dX3_refer_184 rfl (lv_at hl 1 rfl) ?_
        refine va_get (D := (dC, dI)) (ci := 3) (v := .int (z_8.1 h0 15)) (C := RX3) (T := TX3) (N := 22) hx hb hts iwd_X3_refer_X3 hown hK hP h0 (Wd_ob kg_6 sg_6 (by decide)) rfl 15 (by decide) (hts _ md_X3_refer_3) (fun _ h9 => h9) (fl_at (t := 0) rfl) dX3_refer_185 ?_
        obtain ⟨z_11, _u, hfc, hf⟩ := cal_some hf
        have hFc := de_free hD hS hA
        refine va_callv (va_runV (As := [.long r_9, .long (z_8.2.1 h0 14), .int (z_8.1 h0 15)]) (rest := []) ⟨hx, hb, hml, hown, hts⟩ (de_X3_putReference l dC dI cy a sh n H_10.size F z_8 h0 r_9 (z_8.2.1 h0 14) (z_8.1 h0 15) hfc) (cwV 3 hts gX3_refer_X3_putReference rfl rfl rfl (by decide +kernel) ⟨Nat.le_of_ble_eq_true rfl, Nat.le_of_ble_eq_true rfl⟩) ⟨fun a U g mk q => by obtain ⟨q0, q1, qP, qK, qD, qN⟩ := q; exact ⟨q0, q1, qP, va_K.moved (u := U) (U := U.calling g mk a) (Vm.Alike.refl U.vm) qK, qD, qN.same rfl⟩, va_recv hK hP (ci := 3) (q0 := h0) rfl (Wd_ob kg_6 sg_6 (by decide)), fun U hU hW => ⟨rfl, by rw [hU], by rw [hU]; exact hP, va_K.moved hW.alike hK, hD.weaken (fun _ _ _ _ => trivial), hN.warm hW⟩⟩ rfl rfl hl.1 rfl (lv_room (Nat.le_of_ble_eq_true rfl)) dX3_refer_188 ⟨Nat.le_of_ble_eq_true rfl, Nat.le_of_ble_eq_true rfl⟩) hS (fun q _ h => hFc q h) hFc (fun u t H_12 locs ht hvm hw hB hz1 hk1 hS2 => ?_)
        obtain ⟨hP1, -, hD1⟩ := hB
        rw [ht] at hP1
        replace hD := hD1.weaken (fun _ _ _ h => hFc _ h)
        replace hP := hP1
        replace hS := hS2
        clear hP1 hD1 hS2 hFc hfc hz1 hk1 hvm ht
        obtain ⟨h8, h9⟩ := ret_some hf
        rw [h8]
        exact W.vret hx hb hr (fun t ht hW => ⟨⟨(), rfl, trivial, by rw [ht]; exact hP, va_K.moved hW.alike hK, hD⟩, hS.F ht⟩) hS.2.2 dX3_refer_191
      · skip
        rw [if_pos c_3] at hf
        refine lv_aload_n hx hb dX3_refer_109 rfl (lv_at hl 0 rfl) ?_
        refine lv_iconst (v := 1) hx hb dX3_refer_110 (by decide) ?_
        obtain ⟨g_15, hf⟩ := grd_some hf
        obtain ⟨kg_15, sg_15⟩ := okO_at g_15
        obtain ⟨z_13, r_14, hfc, hf⟩ := cal_some hf
        have hFc := de_free hD hS hA
        refine va_calll (va_runV (As := [.int 1]) (rest := []) ⟨hx, hb, hml, hown, hts⟩ (de_X3_takeReference l dC dI cy a sh n H.size F z h0 1 hfc) (cwV 1 hts gX3_refer_X3_takeReference rfl rfl rfl (by decide +kernel) ⟨Nat.le_of_ble_eq_true rfl, Nat.le_of_ble_eq_true rfl⟩) ⟨fun a U g mk q => by obtain ⟨q0, q1, qP, qK, qD, qN⟩ := q; exact ⟨q0, q1, qP, va_K.moved (u := U) (U := U.calling g mk a) (Vm.Alike.refl U.vm) qK, qD, qN.same rfl⟩, va_recv hK hP (ci := 3) (q0 := h0) rfl (Wd_ob kg_15 sg_15 (by decide)), fun U hU hW => ⟨rfl, by rw [hU], by rw [hU]; exact hP, va_K.moved hW.alike hK, hD.weaken (fun _ _ _ _ => trivial), hN.warm hW⟩⟩ rfl rfl hl.1 rfl (lv_room (Nat.le_of_ble_eq_true rfl)) dX3_refer_111 ⟨Nat.le_of_ble_eq_true rfl, Nat.le_of_ble_eq_true rfl⟩) hS (fun q _ h => hFc q h) hFc (fun rr u t H_16 locs ht hvm hw hB hz1 hk1 hS2 => ?_)
        rw [hw]
        clear hw
        obtain ⟨hP1, -, hD1⟩ := hB
        rw [ht] at hP1
        replace hD := hD1.weaken (fun _ _ _ h => hFc _ h)
        replace hP := hP1
        replace hS := hS2
        clear hP1 hD1 hS2 hFc hfc hz1 hk1 hvm ht
        refine lv_lstore (lv' := [(4, .long r_14), (0, .ref (a h0)), (1, .int x0), (2, .int x1), (3, .int x2)]) hx hb dX3_refer_114 hl (by decide) rfl (fun ls hl2 => ?_)
        replace hl := hl2
        clear hl2
        refine lv_aload_n hx hb dX3_refer_116 rfl (lv_at hl 1 rfl) ?_
        refine va_get (D := (dC, dI)) (ci := 3) (v := .long (z_13.2.1 h0 14)) (C := RX3) (T := TX3) (N := 22) hx hb hts iwd_X3_refer_X3 hown hK hP h0 (Wd_ob kg_15 sg_15 (by decide)) rfl 14 (by decide) (hts _ md_X3_refer_2) (fun _ h9 => h9) (fl_at (t := 1) rfl) dX3_refer_117 ?_
        refine lv_topl (fun v_17 ev_17 => ?_)
        replace hf := lt_at ev_17 hf
        clear ev_17
        refine lv_lstore (lv' := [(6, .long v_17), (4, .long r_14), (0, .ref (a h0)), (1, .int x0), (2, .int x1), (3, .int x2)]) hx hb dX3_refer_120 hl (by decide) rfl (fun ls hl2 => ?_)
        replace hl := hl2
        clear hl2
        refine lv_aload_n hx hb dX3_refer_122 rfl (lv_at hl 2 rfl) ?_
        refine lv_lload hx hb dX3_refer_123 (lv_at hl 1 rfl) ?_
        obtain ⟨z_18, _u, hfc, hf⟩ := cal_some hf
        have hFc := de_free hD hS hA
        refine va_callv (va_runV (As := [.long r_14]) (rest := []) ⟨hx, hb, hml, hown, hts⟩ (de_X3_takeOnly l dC dI cy a sh n H_16.size F z_13 h0 r_14 hfc) (cwV 1 hts gX3_refer_X3_takeOnly rfl rfl rfl (by decide +kernel) ⟨Nat.le_of_ble_eq_true rfl, Nat.le_of_ble_eq_true rfl⟩) ⟨fun a U g mk q => by obtain ⟨q0, q1, qP, qK, qD, qN⟩ := q; exact ⟨q0, q1, qP, va_K.moved (u := U) (U := U.calling g mk a) (Vm.Alike.refl U.vm) qK, qD, qN.same rfl⟩, va_recv hK hP (ci := 3) (q0 := h0) rfl (Wd_ob kg_15 sg_15 (by decide)), fun U hU hW => ⟨rfl, by rw [hU], by rw [hU]; exact hP, va_K.moved hW.alike hK, hD.weaken (fun _ _ _ _ => trivial), hN.warm hW⟩⟩ rfl rfl hl.1 rfl (lv_room (Nat.le_of_ble_eq_true rfl)) dX3_refer_125 ⟨Nat.le_of_ble_eq_true rfl, Nat.le_of_ble_eq_true rfl⟩) hS (fun q _ h => hFc q h) hFc (fun u t H_19 locs ht hvm hw hB hz1 hk1 hS2 => ?_)
        obtain ⟨hP1, -, hD1⟩ := hB
        rw [ht] at hP1
        replace hD := hD1.weaken (fun _ _ _ h => hFc _ h)
        replace hP := hP1
        replace hS := hS2
        clear hP1 hD1 hS2 hFc hfc hz1 hk1 hvm ht
        refine lv_aload_n hx hb dX3_refer_128 rfl (lv_at hl 2 rfl) ?_
        obtain ⟨k_20, ek_20, hf⟩ := lnk_some hf
        refine va_get (D := (dC, dI)) (ci := 3) (v := .ref (a k_20)) (C := RX3) (T := TX3) (N := 22) hx hb hts iwd_X3_refer_X3 hown hK hP h0 (Wd_ob kg_15 sg_15 (by decide)) rfl 2 (by decide) (hts _ md_X3_refer_1) (fun _ h9 => h9) (fl_q rfl ek_20) dX3_refer_129 ?_
        refine lv_lload hx hb dX3_refer_132 (lv_at hl 1 rfl) ?_
        obtain ⟨g_23, hf⟩ := grd_some hf
        obtain ⟨kg_23, sg_23⟩ := okO_at g_23
        obtain ⟨z_21, r_22, hfc, hf⟩ := cal_some hf
        have hFc := de_free hD hS hA
        refine va_calli (va_runV (As := [.long r_14]) (rest := []) ⟨hx, hb, hml, hown, hts⟩ (de_X5_abilities l dC dI cy a sh n H_19.size F z_18 k_20 r_14 hfc) (cwV 1 hts gX3_refer_X5_abilities rfl rfl rfl (by decide +kernel) ⟨Nat.le_of_ble_eq_true rfl, Nat.le_of_ble_eq_true rfl⟩) ⟨fun a U g mk q => by obtain ⟨q0, q1, qP, qK, qD, qN⟩ := q; exact ⟨q0, q1, qP, va_K.moved (u := U) (U := U.calling g mk a) (Vm.Alike.refl U.vm) qK, qD, qN.same rfl⟩, va_recv hK hP (ci := 5) (q0 := k_20) rfl (Wd_ob kg_23 sg_23 (by decide)), fun U hU hW => ⟨rfl, by rw [hU], by rw [hU]; exact hP, va_K.moved hW.alike hK, hD.weaken (fun _ _ _ _ => trivial), hN.warm hW⟩⟩ rfl rfl hl.1 rfl (lv_room (Nat.le_of_ble_eq_true rfl)) dX3_refer_134 ⟨Nat.le_of_ble_eq_true rfl, Nat.le_of_ble_eq_true rfl⟩) hS (fun q _ h => hFc q h) hFc (fun rr u t H_24 locs ht hvm hw hB hz1 hk1 hS2 => ?_)
        rw [hw]
        clear hw
        obtain ⟨hP1, -, hD1⟩ := hB
        rw [ht] at hP1
        replace hD := hD1.weaken (fun _ _ _ h => hFc _ h)
        replace hP := hP1
        replace hS := hS2
        clear hP1 hD1 hS2 hFc hfc hz1 hk1 hvm ht
        refine lv_iconst (v := 2) hx hb dX3_refer_137 (by decide) ?_
        refine lv_iand hx hb dX3_refer_138 ?_
        refine de_cut (h := 147) (fun (x : St) => []) (fun x ls H locs => lv_has ls 8 [(6, .long v_17), (0, .ref (a h0))] ∧ va_P (dC, dI) vwCl (Wd cy a sh n x) H ∧ va_D A (Wd cy a sh n x) ∧ va_S A s.heap H locs) (fun x => fn_X3_refer_B147 F sh n h0 v_17 x) (z8, r8) ?_ (fun B147 => ?_)
        · intro x ls H locs hI hf
          obtain ⟨z_25, ez⟩ : ∃ w, w = x := ⟨_, rfl⟩
          subst ez
          obtain ⟨hl2, hP2, hD2, hS2⟩ := hI
          replace hl : lv_has ls 8 [(6, .long v_17), (0, .ref (a h0))] := hl2
          replace hP := hP2
          replace hD := hD2
          replace hS := hS2
          clear hl2 hP2 hD2 hS2
          replace hf := fn_X3_refer_B147_s hf
          refine W.eq (g2 := F0 m 147 ls []) rfl ?_
          refine lv_aload_n hx hb dX3_refer_147 rfl (lv_at hl 1 rfl) ?_
          refine lv_lload hx hb dX3_refer_148 (lv_at hl 0 rfl) ?_
          obtain ⟨z_26, r_27, hfc, hf⟩ := cal_some hf
          have hFc := de_free hD hS hA
          refine va_calli (va_runV (As := [.long v_17]) (rest := []) ⟨hx, hb, hml, hown, hts⟩ (de_X3_isSole l dC dI cy a sh n H.size F z_25 h0 v_17 hfc) (cwV 1 hts gX3_refer_X3_isSole rfl rfl rfl (by decide +kernel) ⟨Nat.le_of_ble_eq_true rfl, Nat.le_of_ble_eq_true rfl⟩) ⟨fun a U g mk q => by obtain ⟨q0, q1, qP, qK, qD, qN⟩ := q; exact ⟨q0, q1, qP, va_K.moved (u := U) (U := U.calling g mk a) (Vm.Alike.refl U.vm) qK, qD, qN.same rfl⟩, va_recv hK hP (ci := 3) (q0 := h0) rfl (Wd_ob kg_15 sg_15 (by decide)), fun U hU hW => ⟨rfl, by rw [hU], by rw [hU]; exact hP, va_K.moved hW.alike hK, hD.weaken (fun _ _ _ _ => trivial), hN.warm hW⟩⟩ rfl rfl hl.1 rfl (lv_room (Nat.le_of_ble_eq_true rfl)) dX3_refer_150 ⟨Nat.le_of_ble_eq_true rfl, Nat.le_of_ble_eq_true rfl⟩) hS (fun q _ h => hFc q h) hFc (fun rr u t H_28 locs ht hvm hw hB hz1 hk1 hS2 => ?_)
          rw [hw]
          clear hw
          obtain ⟨hP1, -, hD1⟩ := hB
          rw [ht] at hP1
          replace hD := hD1.weaken (fun _ _ _ h => hFc _ h)
          replace hP := hP1
          replace hS := hS2
          clear hP1 hD1 hS2 hFc hfc hz1 hk1 hvm ht
          refine lv_if_ne (tgt := 162) hx hb dX3_refer_153 (by decide) (fun c_29 => ?_) (fun c_29 => ?_)
          · skip
            rw [if_neg c_29] at hf
            refine lv_goto (tgt := 191) hx hb dX3_refer_162 (by decide) ?_
            obtain ⟨h8, h9⟩ := ret_some hf
            rw [h8]
            exact W.vret hx hb hr (fun t ht hW => ⟨⟨(), rfl, trivial, by rw [ht]; exact hP, va_K.moved hW.alike hK, hD⟩, hS.F ht⟩) hS.2.2 dX3_refer_191
          · skip
            rw [if_pos c_29] at hf
            refine lv_aload_n hx hb dX3_refer_156 rfl (lv_at hl 1 rfl) ?_
            refine lv_bipush (v := 6) hx hb dX3_refer_157 (by decide) ?_
            obtain ⟨z_30, _u, hfc, hf⟩ := cal_some hf
            have hFc := de_free hD hS hA
            refine va_callv (va_runV (As := [.int 6]) (rest := []) ⟨hx, hb, hml, hown, hts⟩ (de_X3_fail l dC dI cy a sh n H_28.size F z_26 h0 6 hfc) (cwV 1 hts gX3_refer_X3_fail rfl rfl rfl (by decide +kernel) ⟨Nat.le_of_ble_eq_true rfl, Nat.le_of_ble_eq_true rfl⟩) ⟨fun a U g mk q => by obtain ⟨q0, q1, qP, qK, qD, qN⟩ := q; exact ⟨q0, q1, qP, va_K.moved (u := U) (U := U.calling g mk a) (Vm.Alike.refl U.vm) qK, qD, qN.same rfl⟩, va_recv hK hP (ci := 3) (q0 := h0) rfl (Wd_ob kg_15 sg_15 (by decide)), fun U hU hW => ⟨rfl, by rw [hU], by rw [hU]; exact hP, va_K.moved hW.alike hK, hD.weaken (fun _ _ _ _ => trivial), hN.warm hW⟩⟩ rfl rfl hl.1 rfl (lv_room (Nat.le_of_ble_eq_true rfl)) dX3_refer_159 ⟨Nat.le_of_ble_eq_true rfl, Nat.le_of_ble_eq_true rfl⟩) hS (fun q _ h => hFc q h) hFc (fun u t H_31 locs ht hvm hw hB hz1 hk1 hS2 => ?_)
            obtain ⟨hP1, -, hD1⟩ := hB
            rw [ht] at hP1
            replace hD := hD1.weaken (fun _ _ _ h => hFc _ h)
            replace hP := hP1
            replace hS := hS2
            clear hP1 hD1 hS2 hFc hfc hz1 hk1 hvm ht
            refine lv_goto (tgt := 191) hx hb dX3_refer_162 (by decide) ?_
            obtain ⟨h8, h9⟩ := ret_some hf
            rw [h8]
            exact W.vret hx hb hr (fun t ht hW => ⟨⟨(), rfl, trivial, by rw [ht]; exact hP, va_K.moved hW.alike hK, hD⟩, hS.F ht⟩) hS.2.2 dX3_refer_191
        refine lv_if_ne (tgt := 147) hx hb dX3_refer_139 (by decide) (fun c_32 => ?_) (fun c_32 => ?_)
        · skip
          rw [if_neg c_32] at hf
          exact B147 (z_21) ls H_24 locs ⟨lv_sub hl [0, 2] rfl, hP, hD, hS⟩ hf
        · skip
          rw [if_pos c_32] at hf
          refine lv_aload_n hx hb dX3_refer_142 rfl (lv_at hl 2 rfl) ?_
          refine lv_iconst (v := 4) hx hb dX3_refer_143 (by decide) ?_
          obtain ⟨z_33, _u, hfc, hf⟩ := cal_some hf
          have hFc := de_free hD hS hA
          refine va_callv (va_runV (As := [.int 4]) (rest := []) ⟨hx, hb, hml, hown, hts⟩ (de_X3_fail l dC dI cy a sh n H_24.size F z_21 h0 4 hfc) (cwV 1 hts gX3_refer_X3_fail rfl rfl rfl (by decide +kernel) ⟨Nat.le_of_ble_eq_true rfl, Nat.le_of_ble_eq_true rfl⟩) ⟨fun a U g mk q => by obtain ⟨q0, q1, qP, qK, qD, qN⟩ := q; exact ⟨q0, q1, qP, va_K.moved (u := U) (U := U.calling g mk a) (Vm.Alike.refl U.vm) qK, qD, qN.same rfl⟩, va_recv hK hP (ci := 3) (q0 := h0) rfl (Wd_ob kg_15 sg_15 (by decide)), fun U hU hW => ⟨rfl, by rw [hU], by rw [hU]; exact hP, va_K.moved hW.alike hK, hD.weaken (fun _ _ _ _ => trivial), hN.warm hW⟩⟩ rfl rfl hl.1 rfl (lv_room (Nat.le_of_ble_eq_true rfl)) dX3_refer_144 ⟨Nat.le_of_ble_eq_true rfl, Nat.le_of_ble_eq_true rfl⟩) hS (fun q _ h => hFc q h) hFc (fun u t H_34 locs ht hvm hw hB hz1 hk1 hS2 => ?_)
          obtain ⟨hP1, -, hD1⟩ := hB
          rw [ht] at hP1
          replace hD := hD1.weaken (fun _ _ _ h => hFc _ h)
          replace hP := hP1
          replace hS := hS2
          clear hP1 hD1 hS2 hFc hfc hz1 hk1 hvm ht
          exact B147 (z_33) ls H_34 locs ⟨lv_sub hl [0, 2] rfl, hP, hD, hS⟩ hf
    · skip
      rw [if_pos c_2] at hf
      refine lv_aload_n hx hb dX3_refer_72 rfl (lv_at hl 0 rfl) ?_
      refine lv_iconst (v := 0) hx hb dX3_refer_73 (by decide) ?_
      obtain ⟨g_37, hf⟩ := grd_some hf
      obtain ⟨kg_37, sg_37⟩ := okO_at g_37
      obtain ⟨z_35, r_36, hfc, hf⟩ := cal_some hf
      have hFc := de_free hD hS hA
      refine va_calll (va_runV (As := [.int 0]) (rest := []) ⟨hx, hb, hml, hown, hts⟩ (de_X3_takeReference l dC dI cy a sh n H.size F z h0 0 hfc) (cwV 1 hts gX3_refer_X3_takeReference rfl rfl rfl (by decide +kernel) ⟨Nat.le_of_ble_eq_true rfl, Nat.le_of_ble_eq_true rfl⟩) ⟨fun a U g mk q => by obtain ⟨q0, q1, qP, qK, qD, qN⟩ := q; exact ⟨q0, q1, qP, va_K.moved (u := U) (U := U.calling g mk a) (Vm.Alike.refl U.vm) qK, qD, qN.same rfl⟩, va_recv hK hP (ci := 3) (q0 := h0) rfl (Wd_ob kg_37 sg_37 (by decide)), fun U hU hW => ⟨rfl, by rw [hU], by rw [hU]; exact hP, va_K.moved hW.alike hK, hD.weaken (fun _ _ _ _ => trivial), hN.warm hW⟩⟩ rfl rfl hl.1 rfl (lv_room (Nat.le_of_ble_eq_true rfl)) dX3_refer_74 ⟨Nat.le_of_ble_eq_true rfl, Nat.le_of_ble_eq_true rfl⟩) hS (fun q _ h => hFc q h) hFc (fun rr u t H_38 locs ht hvm hw hB hz1 hk1 hS2 => ?_)
      rw [hw]
      clear hw
      obtain ⟨hP1, -, hD1⟩ := hB
      rw [ht] at hP1
      replace hD := hD1.weaken (fun _ _ _ h => hFc _ h)
      replace hP := hP1
      replace hS := hS2
      clear hP1 hD1 hS2 hFc hfc hz1 hk1 hvm ht
      refine lv_lstore (lv' := [(4, .long r_36), (0, .ref (a h0)), (1, .int x0), (2, .int x1), (3, .int x2)]) hx hb dX3_refer_77 hl (by decide) rfl (fun ls hl2 => ?_)
      replace hl := hl2
      clear hl2
      refine lv_aload_n hx hb dX3_refer_79 rfl (lv_at hl 1 rfl) ?_
      refine lv_lload hx hb dX3_refer_80 (lv_at hl 0 rfl) ?_
      refine lv_iconst (v := 1) hx hb dX3_refer_82 (by decide) ?_
      obtain ⟨z_39, r_40, hfc, hf⟩ := cal_some hf
      have hFc := de_free hD hS hA
      refine va_calli (va_runV (As := [.long r_36, .int 1]) (rest := []) ⟨hx, hb, hml, hown, hts⟩ (de_X3_has l dC dI cy a sh n H_38.size F z_35 h0 r_36 1 hfc) (cwV 2 hts gX3_refer_X3_has rfl rfl rfl (by decide +kernel) ⟨Nat.le_of_ble_eq_true rfl, Nat.le_of_ble_eq_true rfl⟩) ⟨fun a U g mk q => by obtain ⟨q0, q1, qP, qK, qD, qN⟩ := q; exact ⟨q0, q1, qP, va_K.moved (u := U) (U := U.calling g mk a) (Vm.Alike.refl U.vm) qK, qD, qN.same rfl⟩, va_recv hK hP (ci := 3) (q0 := h0) rfl (Wd_ob kg_37 sg_37 (by decide)), fun U hU hW => ⟨rfl, by rw [hU], by rw [hU]; exact hP, va_K.moved hW.alike hK, hD.weaken (fun _ _ _ _ => trivial), hN.warm hW⟩⟩ rfl rfl hl.1 rfl (lv_room (Nat.le_of_ble_eq_true rfl)) dX3_refer_83 ⟨Nat.le_of_ble_eq_true rfl, Nat.le_of_ble_eq_true rfl⟩) hS (fun q _ h => hFc q h) hFc (fun rr u t H_41 locs ht hvm hw hB hz1 hk1 hS2 => ?_)
      rw [hw]
      clear hw
      obtain ⟨hP1, -, hD1⟩ := hB
      rw [ht] at hP1
      replace hD := hD1.weaken (fun _ _ _ h => hFc _ h)
      replace hP := hP1
      replace hS := hS2
      clear hP1 hD1 hS2 hFc hfc hz1 hk1 hvm ht
      refine lv_if_ne (tgt := 94) hx hb dX3_refer_86 (by decide) (fun c_42 => ?_) (fun c_42 => ?_)
      · skip
        rw [if_neg c_42] at hf
        refine lv_aload_n hx hb dX3_refer_94 rfl (lv_at hl 1 rfl) ?_
        refine lv_lload hx hb dX3_refer_95 (lv_at hl 0 rfl) ?_
        obtain ⟨z_43, _u, hfc, hf⟩ := cal_some hf
        have hFc := de_free hD hS hA
        refine va_callv (va_runV (As := [.long r_36]) (rest := []) ⟨hx, hb, hml, hown, hts⟩ (de_X3_put l dC dI cy a sh n H_41.size F z_39 h0 r_36 hfc) (cwV 1 hts gX3_refer_X3_put rfl rfl rfl (by decide +kernel) ⟨Nat.le_of_ble_eq_true rfl, Nat.le_of_ble_eq_true rfl⟩) ⟨fun a U g mk q => by obtain ⟨q0, q1, qP, qK, qD, qN⟩ := q; exact ⟨q0, q1, qP, va_K.moved (u := U) (U := U.calling g mk a) (Vm.Alike.refl U.vm) qK, qD, qN.same rfl⟩, va_recv hK hP (ci := 3) (q0 := h0) rfl (Wd_ob kg_37 sg_37 (by decide)), fun U hU hW => ⟨rfl, by rw [hU], by rw [hU]; exact hP, va_K.moved hW.alike hK, hD.weaken (fun _ _ _ _ => trivial), hN.warm hW⟩⟩ rfl rfl hl.1 rfl (lv_room (Nat.le_of_ble_eq_true rfl)) dX3_refer_97 ⟨Nat.le_of_ble_eq_true rfl, Nat.le_of_ble_eq_true rfl⟩) hS (fun q _ h => hFc q h) hFc (fun u t H_44 locs ht hvm hw hB hz1 hk1 hS2 => ?_)
        obtain ⟨hP1, -, hD1⟩ := hB
        rw [ht] at hP1
        replace hD := hD1.weaken (fun _ _ _ h => hFc _ h)
        replace hP := hP1
        replace hS := hS2
        clear hP1 hD1 hS2 hFc hfc hz1 hk1 hvm ht
        refine lv_goto (tgt := 191) hx hb dX3_refer_100 (by decide) ?_
        obtain ⟨h8, h9⟩ := ret_some hf
        rw [h8]
        exact W.vret hx hb hr (fun t ht hW => ⟨⟨(), rfl, trivial, by rw [ht]; exact hP, va_K.moved hW.alike hK, hD⟩, hS.F ht⟩) hS.2.2 dX3_refer_191
      · skip
        rw [if_pos c_42] at hf
        refine lv_aload_n hx hb dX3_refer_89 rfl (lv_at hl 1 rfl) ?_
        refine lv_iconst (v := 4) hx hb dX3_refer_90 (by decide) ?_
        obtain ⟨z_45, _u, hfc, hf⟩ := cal_some hf
        have hFc := de_free hD hS hA
        refine va_callv (va_runV (As := [.int 4]) (rest := []) ⟨hx, hb, hml, hown, hts⟩ (de_X3_fail l dC dI cy a sh n H_41.size F z_39 h0 4 hfc) (cwV 1 hts gX3_refer_X3_fail rfl rfl rfl (by decide +kernel) ⟨Nat.le_of_ble_eq_true rfl, Nat.le_of_ble_eq_true rfl⟩) ⟨fun a U g mk q => by obtain ⟨q0, q1, qP, qK, qD, qN⟩ := q; exact ⟨q0, q1, qP, va_K.moved (u := U) (U := U.calling g mk a) (Vm.Alike.refl U.vm) qK, qD, qN.same rfl⟩, va_recv hK hP (ci := 3) (q0 := h0) rfl (Wd_ob kg_37 sg_37 (by decide)), fun U hU hW => ⟨rfl, by rw [hU], by rw [hU]; exact hP, va_K.moved hW.alike hK, hD.weaken (fun _ _ _ _ => trivial), hN.warm hW⟩⟩ rfl rfl hl.1 rfl (lv_room (Nat.le_of_ble_eq_true rfl)) dX3_refer_91 ⟨Nat.le_of_ble_eq_true rfl, Nat.le_of_ble_eq_true rfl⟩) hS (fun q _ h => hFc q h) hFc (fun u t H_46 locs ht hvm hw hB hz1 hk1 hS2 => ?_)
        obtain ⟨hP1, -, hD1⟩ := hB
        rw [ht] at hP1
        replace hD := hD1.weaken (fun _ _ _ h => hFc _ h)
        replace hP := hP1
        replace hS := hS2
        clear hP1 hD1 hS2 hFc hfc hz1 hk1 hvm ht
        refine lv_aload_n hx hb dX3_refer_94 rfl (lv_at hl 1 rfl) ?_
        refine lv_lload hx hb dX3_refer_95 (lv_at hl 0 rfl) ?_
        obtain ⟨z_47, _u, hfc, hf⟩ := cal_some hf
        have hFc := de_free hD hS hA
        refine va_callv (va_runV (As := [.long r_36]) (rest := []) ⟨hx, hb, hml, hown, hts⟩ (de_X3_put l dC dI cy a sh n H_46.size F z_45 h0 r_36 hfc) (cwV 1 hts gX3_refer_X3_put rfl rfl rfl (by decide +kernel) ⟨Nat.le_of_ble_eq_true rfl, Nat.le_of_ble_eq_true rfl⟩) ⟨fun a U g mk q => by obtain ⟨q0, q1, qP, qK, qD, qN⟩ := q; exact ⟨q0, q1, qP, va_K.moved (u := U) (U := U.calling g mk a) (Vm.Alike.refl U.vm) qK, qD, qN.same rfl⟩, va_recv hK hP (ci := 3) (q0 := h0) rfl (Wd_ob kg_37 sg_37 (by decide)), fun U hU hW => ⟨rfl, by rw [hU], by rw [hU]; exact hP, va_K.moved hW.alike hK, hD.weaken (fun _ _ _ _ => trivial), hN.warm hW⟩⟩ rfl rfl hl.1 rfl (lv_room (Nat.le_of_ble_eq_true rfl)) dX3_refer_97 ⟨Nat.le_of_ble_eq_true rfl, Nat.le_of_ble_eq_true rfl⟩) hS (fun q _ h => hFc q h) hFc (fun u t H_48 locs ht hvm hw hB hz1 hk1 hS2 => ?_)
        obtain ⟨hP1, -, hD1⟩ := hB
        rw [ht] at hP1
        replace hD := hD1.weaken (fun _ _ _ h => hFc _ h)
        replace hP := hP1
        replace hS := hS2
        clear hP1 hD1 hS2 hFc hfc hz1 hk1 hvm ht
        refine lv_goto (tgt := 191) hx hb dX3_refer_100 (by decide) ?_
        obtain ⟨h8, h9⟩ := ret_some hf
        rw [h8]
        exact W.vret hx hb hr (fun t ht hW => ⟨⟨(), rfl, trivial, by rw [ht]; exact hP, va_K.moved hW.alike hK, hD⟩, hS.F ht⟩) hS.2.2 dX3_refer_191
  · skip
    rw [if_neg c_1] at hf
    refine lv_aload_n hx hb dX3_refer_6 rfl (lv_at hl 0 rfl) ?_
    refine lv_iload_n hx hb dX3_refer_7 rfl (lv_at hl 2 rfl) ?_
    obtain ⟨z_49, r_50, hfc, hf⟩ := cal_some hf
    have hFc := de_free hD hS hA
    refine va_calll (va_runS (As := [.int x1]) (rest := [.ref (a h0)]) ⟨hx, hb, hml, hown, hts⟩ (de_X5_structureType l dC dI cy a sh n H.size F z x1 hfc) (va_cwS 1 hts gX3_refer_X5_structureType rfl rfl rfl (by decide +kernel) ⟨Nat.le_of_ble_eq_true rfl, Nat.le_of_ble_eq_true rfl⟩) ⟨fun a U g mk q => by obtain ⟨q0, q1, qP, qK, qD, qN⟩ := q; exact ⟨q0, q1, qP, va_K.moved (u := U) (U := U.calling g mk a) (Vm.Alike.refl U.vm) qK, qD, qN.same rfl⟩, fun U hU hW => ⟨rfl, by rw [hU], by rw [hU]; exact hP, va_K.moved hW.alike hK, hD.weaken (fun _ _ _ _ => trivial), hN.warm hW⟩⟩ rfl rfl hl.1 rfl (lv_room (Nat.le_of_ble_eq_true rfl)) dX3_refer_8 ⟨Nat.le_of_ble_eq_true rfl, Nat.le_of_ble_eq_true rfl⟩) hS (fun q _ h => hFc q h) hFc (fun rr u t H_51 locs ht hvm hw hB hz1 hk1 hS2 => ?_)
    rw [hw]
    clear hw
    obtain ⟨hP1, -, hD1⟩ := hB
    rw [ht] at hP1
    replace hD := hD1.weaken (fun _ _ _ h => hFc _ h)
    replace hP := hP1
    replace hS := hS2
    clear hP1 hD1 hS2 hFc hfc hz1 hk1 hvm ht
    refine lv_iload_n hx hb dX3_refer_11 rfl (lv_at hl 1 rfl) ?_
    refine lv_bipush (v := 17) hx hb dX3_refer_12 (by decide) ?_
    refine de_cut (h := 22) (fun (x : St × Int32) => [.int x.2, .long r_50, .ref (a h0)]) (fun x ls H locs => lv_has ls 8 [(0, .ref (a h0)), (1, .int x0), (2, .int x1), (3, .int x2)] ∧ va_P (dC, dI) vwCl (Wd cy a sh n x.1) H ∧ va_D A (Wd cy a sh n x.1) ∧ va_S A s.heap H locs) (fun x => fn_X3_refer_B22 F sh n h0 r_50 x0 x1 x2 x.1 x.2) (z8, r8) ?_ (fun B22 => ?_)
    · intro x ls H locs hI hf
      obtain ⟨z_53, p_52⟩ := x
      obtain ⟨hl2, hP2, hD2, hS2⟩ := hI
      replace hl : lv_has ls 8 [(0, .ref (a h0)), (1, .int x0), (2, .int x1), (3, .int x2)] := hl2
      replace hP := hP2
      replace hD := hD2
      replace hS := hS2
      clear hl2 hP2 hD2 hS2
      replace hf := fn_X3_refer_B22_s hf
      refine W.eq (g2 := F0 m 22 ls [.int p_52, .long r_50, .ref (a h0)]) rfl ?_
      obtain ⟨g_55, hf⟩ := grd_some hf
      obtain ⟨kg_55, sg_55⟩ := okO_at g_55
      obtain ⟨z_54, _u, hfc, hf⟩ := cal_some hf
      have hFc := de_free hD hS hA
      refine va_callv (va_runV (As := [.long r_50, .int p_52]) (rest := []) ⟨hx, hb, hml, hown, hts⟩ (de_X3_takeReferenceTo l dC dI cy a sh n H.size F z_53 h0 r_50 p_52 hfc) (cwV 2 hts gX3_refer_X3_takeReferenceTo rfl rfl rfl (by decide +kernel) ⟨Nat.le_of_ble_eq_true rfl, Nat.le_of_ble_eq_true rfl⟩) ⟨fun a U g mk q => by obtain ⟨q0, q1, qP, qK, qD, qN⟩ := q; exact ⟨q0, q1, qP, va_K.moved (u := U) (U := U.calling g mk a) (Vm.Alike.refl U.vm) qK, qD, qN.same rfl⟩, va_recv hK hP (ci := 3) (q0 := h0) rfl (Wd_ob kg_55 sg_55 (by decide)), fun U hU hW => ⟨rfl, by rw [hU], by rw [hU]; exact hP, va_K.moved hW.alike hK, hD.weaken (fun _ _ _ _ => trivial), hN.warm hW⟩⟩ rfl rfl hl.1 rfl (lv_room (Nat.le_of_ble_eq_true rfl)) dX3_refer_22 ⟨Nat.le_of_ble_eq_true rfl, Nat.le_of_ble_eq_true rfl⟩) hS (fun q _ h => hFc q h) hFc (fun u t H_56 locs ht hvm hw hB hz1 hk1 hS2 => ?_)
      obtain ⟨hP1, -, hD1⟩ := hB
      rw [ht] at hP1
      replace hD := hD1.weaken (fun _ _ _ h => hFc _ h)
      replace hP := hP1
      replace hS := hS2
      clear hP1 hD1 hS2 hFc hfc hz1 hk1 hvm ht
      refine lv_iload_n hx hb dX3_refer_25 rfl (lv_at hl 1 rfl) ?_
      refine lv_bipush (v := 17) hx hb dX3_refer_26 (by decide) ?_
      refine de_cut (h := 38) (fun (x : St × Int32) => [.int x.2]) (fun x ls H locs => lv_has ls 8 [(0, .ref (a h0)), (2, .int x1), (3, .int x2)] ∧ va_P (dC, dI) vwCl (Wd cy a sh n x.1) H ∧ va_D A (Wd cy a sh n x.1) ∧ va_S A s.heap H locs) (fun x => fn_X3_refer_B38 F sh n h0 x1 x2 x.1 x.2) (z8, r8) ?_ (fun B38 => ?_)
      · intro x ls H locs hI hf
        obtain ⟨z_58, p_57⟩ := x
        obtain ⟨hl2, hP2, hD2, hS2⟩ := hI
        replace hl : lv_has ls 8 [(0, .ref (a h0)), (2, .int x1), (3, .int x2)] := hl2
        replace hP := hP2
        replace hD := hD2
        replace hS := hS2
        clear hl2 hP2 hD2 hS2
        replace hf := fn_X3_refer_B38_s hf
        refine W.eq (g2 := F0 m 38 ls [.int p_57]) rfl ?_
        refine lv_aload_n hx hb dX3_refer_38 rfl (lv_at hl 0 rfl) ?_
        obtain ⟨k_59, ek_59, hf⟩ := lnk_some hf
        refine va_get (D := (dC, dI)) (ci := 3) (v := .ref (a k_59)) (C := RX3) (T := TX3) (N := 22) hx hb hts iwd_X3_refer_X3 hown hK hP h0 (Wd_ob kg_55 sg_55 (by decide)) rfl 2 (by decide) (hts _ md_X3_refer_1) (fun _ h9 => h9) (fl_q rfl ek_59) dX3_refer_39 ?_
        refine lv_iload_n hx hb dX3_refer_42 rfl (lv_at hl 1 rfl) ?_
        refine lv_iload_n hx hb dX3_refer_43 rfl (lv_at hl 2 rfl) ?_
        obtain ⟨g_62, hf⟩ := grd_some hf
        obtain ⟨kg_62, sg_62⟩ := okO_at g_62
        obtain ⟨z_60, r_61, hfc, hf⟩ := cal_some hf
        have hFc := de_free hD hS hA
        refine va_calll (va_runV (As := [.int x1, .int x2]) (rest := [.int p_57]) ⟨hx, hb, hml, hown, hts⟩ (de_X5_fieldType l dC dI cy a sh n H.size F z_58 k_59 x1 x2 hfc) (cwV 2 hts gX3_refer_X5_fieldType rfl rfl rfl (by decide +kernel) ⟨Nat.le_of_ble_eq_true rfl, Nat.le_of_ble_eq_true rfl⟩) ⟨fun a U g mk q => by obtain ⟨q0, q1, qP, qK, qD, qN⟩ := q; exact ⟨q0, q1, qP, va_K.moved (u := U) (U := U.calling g mk a) (Vm.Alike.refl U.vm) qK, qD, qN.same rfl⟩, va_recv hK hP (ci := 5) (q0 := k_59) rfl (Wd_ob kg_62 sg_62 (by decide)), fun U hU hW => ⟨rfl, by rw [hU], by rw [hU]; exact hP, va_K.moved hW.alike hK, hD.weaken (fun _ _ _ _ => trivial), hN.warm hW⟩⟩ rfl rfl hl.1 rfl (lv_room (Nat.le_of_ble_eq_true rfl)) dX3_refer_44 ⟨Nat.le_of_ble_eq_true rfl, Nat.le_of_ble_eq_true rfl⟩) hS (fun q _ h => hFc q h) hFc (fun rr u t H_63 locs ht hvm hw hB hz1 hk1 hS2 => ?_)
        rw [hw]
        clear hw
        obtain ⟨hP1, -, hD1⟩ := hB
        rw [ht] at hP1
        replace hD := hD1.weaken (fun _ _ _ h => hFc _ h)
        replace hP := hP1
        replace hS := hS2
        clear hP1 hD1 hS2 hFc hfc hz1 hk1 hvm ht
        obtain ⟨z_64, r_65, hfc, hf⟩ := cal_some hf
        have hFc := de_free hD hS hA
        refine va_calll (va_runS (As := [.int p_57, .long r_61]) (rest := []) ⟨hx, hb, hml, hown, hts⟩ (de_X5_prefixed l dC dI cy a sh n H_63.size F z_60 p_57 r_61 hfc) (va_cwS 2 hts gX3_refer_X5_prefixed rfl rfl rfl (by decide +kernel) ⟨Nat.le_of_ble_eq_true rfl, Nat.le_of_ble_eq_true rfl⟩) ⟨fun a U g mk q => by obtain ⟨q0, q1, qP, qK, qD, qN⟩ := q; exact ⟨q0, q1, qP, va_K.moved (u := U) (U := U.calling g mk a) (Vm.Alike.refl U.vm) qK, qD, qN.same rfl⟩, fun U hU hW => ⟨rfl, by rw [hU], by rw [hU]; exact hP, va_K.moved hW.alike hK, hD.weaken (fun _ _ _ _ => trivial), hN.warm hW⟩⟩ rfl rfl hl.1 rfl (lv_room (Nat.le_of_ble_eq_true rfl)) dX3_refer_47 ⟨Nat.le_of_ble_eq_true rfl, Nat.le_of_ble_eq_true rfl⟩) hS (fun q _ h => hFc q h) hFc (fun rr u t H_66 locs ht hvm hw hB hz1 hk1 hS2 => ?_)
        rw [hw]
        clear hw
        obtain ⟨hP1, -, hD1⟩ := hB
        rw [ht] at hP1
        replace hD := hD1.weaken (fun _ _ _ h => hFc _ h)
        replace hP := hP1
        replace hS := hS2
        clear hP1 hD1 hS2 hFc hfc hz1 hk1 hvm ht
        refine lv_lstore (lv' := [(4, .long r_65), (0, .ref (a h0)), (2, .int x1), (3, .int x2)]) hx hb dX3_refer_50 hl (by decide) rfl (fun ls hl2 => ?_)
        replace hl := hl2
        clear hl2
        refine lv_aload_n hx hb dX3_refer_52 rfl (lv_at hl 1 rfl) ?_
        refine lv_lload hx hb dX3_refer_53 (lv_at hl 0 rfl) ?_
        refine lv_aload_n hx hb dX3_refer_55 rfl (lv_at hl 1 rfl) ?_
        refine va_get (D := (dC, dI)) (ci := 3) (v := .long (z_64.2.1 h0 14)) (C := RX3) (T := TX3) (N := 22) hx hb hts iwd_X3_refer_X3 hown hK hP h0 (Wd_ob kg_55 sg_55 (by decide)) rfl 14 (by decide) (hts _ md_X3_refer_2) (fun _ h9 => h9) (fl_at (t := 1) rfl) dX3_refer_56 ?_
        refine lv_iconst (v := 1) hx hb dX3_refer_59 (by decide) ?_
        obtain ⟨z_67, _u, hfc, hf⟩ := cal_some hf
        have hFc := de_free hD hS hA
        refine va_callv (va_runV (As := [.long r_65, .long (z_64.2.1 h0 14), .int 1]) (rest := []) ⟨hx, hb, hml, hown, hts⟩ (de_X3_putReference l dC dI cy a sh n H_66.size F z_64 h0 r_65 (z_64.2.1 h0 14) 1 hfc) (cwV 3 hts gX3_refer_X3_putReference rfl rfl rfl (by decide +kernel) ⟨Nat.le_of_ble_eq_true rfl, Nat.le_of_ble_eq_true rfl⟩) ⟨fun a U g mk q => by obtain ⟨q0, q1, qP, qK, qD, qN⟩ := q; exact ⟨q0, q1, qP, va_K.moved (u := U) (U := U.calling g mk a) (Vm.Alike.refl U.vm) qK, qD, qN.same rfl⟩, va_recv hK hP (ci := 3) (q0 := h0) rfl (Wd_ob kg_55 sg_55 (by decide)), fun U hU hW => ⟨rfl, by rw [hU], by rw [hU]; exact hP, va_K.moved hW.alike hK, hD.weaken (fun _ _ _ _ => trivial), hN.warm hW⟩⟩ rfl rfl hl.1 rfl (lv_room (Nat.le_of_ble_eq_true rfl)) dX3_refer_60 ⟨Nat.le_of_ble_eq_true rfl, Nat.le_of_ble_eq_true rfl⟩) hS (fun q _ h => hFc q h) hFc (fun u t H_68 locs ht hvm hw hB hz1 hk1 hS2 => ?_)
        obtain ⟨hP1, -, hD1⟩ := hB
        rw [ht] at hP1
        replace hD := hD1.weaken (fun _ _ _ h => hFc _ h)
        replace hP := hP1
        replace hS := hS2
        clear hP1 hD1 hS2 hFc hfc hz1 hk1 hvm ht
        refine lv_goto (tgt := 191) hx hb dX3_refer_63 (by decide) ?_
        obtain ⟨h8, h9⟩ := ret_some hf
        rw [h8]
        exact W.vret hx hb hr (fun t ht hW => ⟨⟨(), rfl, trivial, by rw [ht]; exact hP, va_K.moved hW.alike hK, hD⟩, hS.F ht⟩) hS.2.2 dX3_refer_191
      refine lv_icmp_ne (tgt := 36) hx hb dX3_refer_28 (by decide) (fun c_69 => ?_) (fun c_69 => ?_)
      · skip
        rw [if_neg c_69] at hf
        refine lv_bipush (v := 8) hx hb dX3_refer_36 (by decide) ?_
        exact B38 (z_54, 8) ls H_56 locs ⟨lv_sub hl [0, 2, 3] rfl, hP, hD, hS⟩ hf
      · skip
        rw [if_pos c_69] at hf
        refine lv_bipush (v := 9) hx hb dX3_refer_31 (by decide) ?_
        refine lv_goto (tgt := 38) hx hb dX3_refer_33 (by decide) ?_
        exact B38 (z_54, 9) ls H_56 locs ⟨lv_sub hl [0, 2, 3] rfl, hP, hD, hS⟩ hf
    refine lv_icmp_ne (tgt := 21) hx hb dX3_refer_14 (by decide) (fun c_70 => ?_) (fun c_70 => ?_)
    · skip
      rw [if_neg c_70] at hf
      refine lv_iconst (v := 0) hx hb dX3_refer_21 (by decide) ?_
      exact B22 (z_49, 0) ls H_51 locs ⟨lv_sub hl [0, 1, 2, 3] rfl, hP, hD, hS⟩ hf
    · skip
      rw [if_pos c_70] at hf
      refine lv_iconst (v := 1) hx hb dX3_refer_17 (by decide) ?_
      refine lv_goto (tgt := 22) hx hb dX3_refer_18 (by decide) ?_
      exact B22 (z_49, 1) ls H_51 locs ⟨lv_sub hl [0, 1, 2, 3] rfl, hP, hD, hS⟩ hf

theorem md_X4_compare_1 : (.fieldLink RX4 12 "ResourceLedger$Machine" "heap" "LResourceLedger$Heap;" : Cond) ∈ wsX4_compare := List.mem_of_getElem? (i := 1) rfl
theorem iwd_X4_compare_X4 : ∀ w ∈ wsX40, w ∈ wsX4_compare := fun _ h => List.mem_cons_of_mem _ (List.mem_append_left _ (List.mem_append_left _ (List.mem_append_right _ h)))
theorem md_X4_compare_2 : (.fieldLink RX4 160 "ResourceLedger$Heap" "high" "[J" : Cond) ∈ wsX4_compare := List.mem_of_getElem? (i := 2) rfl
theorem iwd_X4_compare_X1 : ∀ w ∈ wsX10, w ∈ wsX4_compare := fun _ h => List.mem_cons_of_mem _ (List.mem_append_left _ (List.mem_append_right _ h))
theorem md_X4_compare_3 : (.fieldLink RX4 163 "ResourceLedger$Heap" "low" "[J" : Cond) ∈ wsX4_compare := List.mem_of_getElem? (i := 3) rfl
set_option maxHeartbeats 4000000 in
set_option maxRecDepth 100000 in
theorem de_X4_compare (l : Launch) (dC : Nat → ClassId) (dI : Nat → Nat → Nat) (cy : Nat → ClassId) (a : Nat → Nat) (sh : Nat → Nat × Nat) (n sz : Nat) (F : Nat) (z : St) (h0 : Nat) (x0 : Int32) (x1 : Int32) (x2 : Int32) {z8 : St} {r8 : Unit} (hf : fn_X4_compare F sh n z h0 x0 x1 x2 = some (z8, r8)) : Met l yX4_compare wsX4_compare ({ frames := 51, cells := 0, slots := 0, locals := 1365 }) (va_Pc [.ref (a h0), .int x0, .int x1, .int x2] (fun U => U.heap.size = sz ∧ va_P (dC, dI) vwCl (Wd cy a sh n z) U.heap ∧ va_K (dC, dI) vwCl (TYS cy) U ∧ va_D (fun _ => True) (Wd cy a sh n z) ∧ NK U)) (va_Qv (fun u : Unit => True) (fun u t => va_P (dC, dI) vwCl (Wd cy a sh n z8) t.heap ∧ va_K (dC, dI) vwCl (TYS cy) t ∧ va_D (va_A (Wd cy a sh n z) sz) (Wd cy a sh n z8)) (va_A (Wd cy a sh n z) sz)) 0 0 (va_A (Wd cy a sh n z) sz) := by
  refine Met.ofW (cc := cX4_compare) (maxL := 6) (ret := none) (by decide) rfl ?_
  intro p e s m args below meth c s₁ B hml hv
  obtain ⟨rfl, hsz, hP, hK, hD0, hN⟩ := hv
  have hx := B.exec
  have hb := B.bytes
  have hr := B.returns
  have hts := atoms_spec (ws := wsX4_compare) B.pre
  have hown : s.vm.findClass RX4 = some m.cls := findClass_of_methodNamed B.named
  have hlocks := B.notSynchronized
  subst hsz
  have hD := hD0.self (sz := s.heap.size)
  clear hD0
  generalize hAe : va_A (Wd cy a sh n z) s.heap.size = A at hD ⊢
  have hA : ∀ q : Nat, s.heap.size ≤ q → A q := fun q h => by rw [← hAe]; exact Or.inr h
  clear hAe
  have hS : va_S A s.heap s.heap [] := va_S.rf
  have hl := lv_entry ([.ref (a h0), .int x0, .int x1, .int x2]) (n := 6) (Nat.le_of_ble_eq_true rfl)
  rw [lg_entry_eq]
  generalize (lg_sl ([.ref (a h0), .int x0, .int x1, .int x2]) ++ List.replicate (6 - (lg_sl ([.ref (a h0), .int x0, .int x1, .int x2])).length) Slot.unset).toArray = ls at hl ⊢
  replace hl : lv_has ls 6 [(0, .ref (a h0)), (1, .int x0), (2, .int x1), (3, .int x2)] := hl
  unfold fn_X4_compare at hf
  refine de_start hS hP (fun H locs hS hP => ?_)
  refine lv_iload_n hx hb dX4_compare_0 rfl (lv_at hl 1 rfl) ?_
  refine lv_bipush (v := 37) hx hb dX4_compare_1 (by decide) ?_
  refine de_cut (h := 174) (fun (x : St × Int32) => []) (fun x ls H locs => lv_has ls 6 [(4, .int x.2), (0, .ref (a h0))] ∧ va_P (dC, dI) vwCl (Wd cy a sh n x.1) H ∧ va_D A (Wd cy a sh n x.1) ∧ va_S A s.heap H locs) (fun x => fn_X4_compare_B174 F sh n h0 x.1 x.2) (z8, r8) ?_ (fun B174 => ?_)
  · intro x ls H locs hI hf
    obtain ⟨z_2, p_1⟩ := x
    obtain ⟨hl2, hP2, hD2, hS2⟩ := hI
    replace hl : lv_has ls 6 [(4, .int p_1), (0, .ref (a h0))] := hl2
    replace hP := hP2
    replace hD := hD2
    replace hS := hS2
    clear hl2 hP2 hD2 hS2
    replace hf := fn_X4_compare_B174_s hf
    refine W.eq (g2 := F0 m 174 ls []) rfl ?_
    refine lv_aload_n hx hb dX4_compare_174 rfl (lv_at hl 1 rfl) ?_
    refine lv_iconst (v := 1) hx hb dX4_compare_175 (by decide) ?_
    refine lv_lconst (v := 0) hx hb dX4_compare_176 (by decide) ?_
    refine lv_iload hx hb dX4_compare_177 (lv_at hl 0 rfl) ?_
    refine lv_if_eq (tgt := 186) hx hb dX4_compare_179 (by decide) (fun c_3 => ?_) (fun c_3 => ?_)
    · skip
      rw [if_pos c_3] at hf
      refine lv_lconst (v := 0) hx hb dX4_compare_186 (by decide) ?_
      obtain ⟨g_5, hf⟩ := grd_some hf
      obtain ⟨kg_5, sg_5⟩ := okO_at g_5
      obtain ⟨z_4, _u, hfc, hf⟩ := cal_some hf
      have hFc := de_free hD hS hA
      refine va_callv (va_runV (As := [.int 1, .long 0, .long 0]) (rest := []) ⟨hx, hb, hml, hown, hts⟩ (de_X4_pushNumber l dC dI cy a sh n H.size F z_2 h0 1 0 0 hfc) (cwV 3 hts gX4_compare_X4_pushNumber rfl rfl rfl (by decide +kernel) ⟨Nat.le_of_ble_eq_true rfl, Nat.le_of_ble_eq_true rfl⟩) ⟨fun a U g mk q => by obtain ⟨q0, q1, qP, qK, qD, qN⟩ := q; exact ⟨q0, q1, qP, va_K.moved (u := U) (U := U.calling g mk a) (Vm.Alike.refl U.vm) qK, qD, qN.same rfl⟩, va_recv hK hP (ci := 4) (q0 := h0) rfl (Wd_ob kg_5 sg_5 (by decide)), fun U hU hW => ⟨rfl, by rw [hU], by rw [hU]; exact hP, va_K.moved hW.alike hK, hD.weaken (fun _ _ _ _ => trivial), hN.warm hW⟩⟩ rfl rfl hl.1 rfl (lv_room (Nat.le_of_ble_eq_true rfl)) dX4_compare_187 ⟨Nat.le_of_ble_eq_true rfl, Nat.le_of_ble_eq_true rfl⟩) hS (fun q _ h => hFc q h) hFc (fun u t H_6 locs ht hvm hw hB hz1 hk1 hS2 => ?_)
      obtain ⟨hP1, -, hD1⟩ := hB
      rw [ht] at hP1
      replace hD := hD1.weaken (fun _ _ _ h => hFc _ h)
      replace hP := hP1
      replace hS := hS2
      clear hP1 hD1 hS2 hFc hfc hz1 hk1 hvm ht
      obtain ⟨h8, h9⟩ := ret_some hf
      rw [h8]
      exact W.vret hx hb hr (fun t ht hW => ⟨⟨(), rfl, trivial, by rw [ht]; exact hP, va_K.moved hW.alike hK, hD⟩, hS.F ht⟩) hS.2.2 dX4_compare_190
    · skip
      rw [if_neg c_3] at hf
      refine lv_lconst (v := 1) hx hb dX4_compare_182 (by decide) ?_
      refine lv_goto (tgt := 187) hx hb dX4_compare_183 (by decide) ?_
      obtain ⟨g_8, hf⟩ := grd_some hf
      obtain ⟨kg_8, sg_8⟩ := okO_at g_8
      obtain ⟨z_7, _u, hfc, hf⟩ := cal_some hf
      have hFc := de_free hD hS hA
      refine va_callv (va_runV (As := [.int 1, .long 0, .long 1]) (rest := []) ⟨hx, hb, hml, hown, hts⟩ (de_X4_pushNumber l dC dI cy a sh n H.size F z_2 h0 1 0 1 hfc) (cwV 3 hts gX4_compare_X4_pushNumber rfl rfl rfl (by decide +kernel) ⟨Nat.le_of_ble_eq_true rfl, Nat.le_of_ble_eq_true rfl⟩) ⟨fun a U g mk q => by obtain ⟨q0, q1, qP, qK, qD, qN⟩ := q; exact ⟨q0, q1, qP, va_K.moved (u := U) (U := U.calling g mk a) (Vm.Alike.refl U.vm) qK, qD, qN.same rfl⟩, va_recv hK hP (ci := 4) (q0 := h0) rfl (Wd_ob kg_8 sg_8 (by decide)), fun U hU hW => ⟨rfl, by rw [hU], by rw [hU]; exact hP, va_K.moved hW.alike hK, hD.weaken (fun _ _ _ _ => trivial), hN.warm hW⟩⟩ rfl rfl hl.1 rfl (lv_room (Nat.le_of_ble_eq_true rfl)) dX4_compare_187 ⟨Nat.le_of_ble_eq_true rfl, Nat.le_of_ble_eq_true rfl⟩) hS (fun q _ h => hFc q h) hFc (fun u t H_9 locs ht hvm hw hB hz1 hk1 hS2 => ?_)
      obtain ⟨hP1, -, hD1⟩ := hB
      rw [ht] at hP1
      replace hD := hD1.weaken (fun _ _ _ h => hFc _ h)
      replace hP := hP1
      replace hS := hS2
      clear hP1 hD1 hS2 hFc hfc hz1 hk1 hvm ht
      obtain ⟨h8, h9⟩ := ret_some hf
      rw [h8]
      exact W.vret hx hb hr (fun t ht hW => ⟨⟨(), rfl, trivial, by rw [ht]; exact hP, va_K.moved hW.alike hK, hD⟩, hS.F ht⟩) hS.2.2 dX4_compare_190
  refine lv_icmp_gt (tgt := 64) hx hb dX4_compare_3 (by decide) (fun c_10 => ?_) (fun c_10 => ?_)
  · skip
    rw [if_pos c_10] at hf
    refine lv_aload_n hx hb dX4_compare_64 rfl (lv_at hl 0 rfl) ?_
    obtain ⟨g_11, hf⟩ := grd_some hf
    obtain ⟨kg_11, sg_11⟩ := okO_at g_11
    obtain ⟨k_12, ek_12, hf⟩ := lnk_some hf
    refine va_get (D := (dC, dI)) (ci := 4) (v := .ref (a k_12)) (C := RX4) (T := TX4) (N := 18) hx hb hts iwd_X4_compare_X4 hown hK hP h0 (Wd_ob kg_11 sg_11 (by decide)) rfl 1 (by decide) (hts _ md_X4_compare_1) (fun _ h9 => h9) (fl_q rfl ek_12) dX4_compare_65 ?_
    obtain ⟨g_13, hf⟩ := grd_some hf
    obtain ⟨kg_13, sg_13⟩ := okO_at g_13
    obtain ⟨k_14, ek_14, hf⟩ := lnk_some hf
    refine va_get (D := (dC, dI)) (ci := 1) (v := .ref (a k_14)) (C := RX1) (T := TX1) (N := 7) hx hb hts iwd_X4_compare_X1 hown hK hP k_12 (Wd_ob kg_13 sg_13 (by decide)) rfl 2 (by decide) (hts _ md_X4_compare_2) (fun _ h9 => h9) (fl_q rfl ek_14) dX4_compare_68 ?_
    refine lv_iload_n hx hb dX4_compare_71 rfl (lv_at hl 2 rfl) ?_
    obtain ⟨g_15, hf⟩ := grd_some hf
    obtain ⟨kg_15, sg_15, ig_15⟩ := okA_at g_15
    refine va_lald hx hb hK hP k_14 2 (Wd_al kg_15 sg_15) rfl ig_15 dX4_compare_72 ?_
    refine lv_aload_n hx hb dX4_compare_73 rfl (lv_at hl 0 rfl) ?_
    obtain ⟨k_16, ek_16, hf⟩ := lnk_some hf
    refine va_get (D := (dC, dI)) (ci := 4) (v := .ref (a k_16)) (C := RX4) (T := TX4) (N := 18) hx hb hts iwd_X4_compare_X4 hown hK hP h0 (Wd_ob kg_11 sg_11 (by decide)) rfl 1 (by decide) (hts _ md_X4_compare_1) (fun _ h9 => h9) (fl_q rfl ek_16) dX4_compare_74 ?_
    obtain ⟨g_17, hf⟩ := grd_some hf
    obtain ⟨kg_17, sg_17⟩ := okO_at g_17
    obtain ⟨k_18, ek_18, hf⟩ := lnk_some hf
    refine va_get (D := (dC, dI)) (ci := 1) (v := .ref (a k_18)) (C := RX1) (T := TX1) (N := 7) hx hb hts iwd_X4_compare_X1 hown hK hP k_16 (Wd_ob kg_17 sg_17 (by decide)) rfl 1 (by decide) (hts _ md_X4_compare_3) (fun _ h9 => h9) (fl_q rfl ek_18) dX4_compare_77 ?_
    refine lv_iload_n hx hb dX4_compare_80 rfl (lv_at hl 2 rfl) ?_
    obtain ⟨g_19, hf⟩ := grd_some hf
    obtain ⟨kg_19, sg_19, ig_19⟩ := okA_at g_19
    refine va_lald hx hb hK hP k_18 2 (Wd_al kg_19 sg_19) rfl ig_19 dX4_compare_81 ?_
    refine lv_aload_n hx hb dX4_compare_82 rfl (lv_at hl 0 rfl) ?_
    obtain ⟨k_20, ek_20, hf⟩ := lnk_some hf
    refine va_get (D := (dC, dI)) (ci := 4) (v := .ref (a k_20)) (C := RX4) (T := TX4) (N := 18) hx hb hts iwd_X4_compare_X4 hown hK hP h0 (Wd_ob kg_11 sg_11 (by decide)) rfl 1 (by decide) (hts _ md_X4_compare_1) (fun _ h9 => h9) (fl_q rfl ek_20) dX4_compare_83 ?_
    obtain ⟨g_21, hf⟩ := grd_some hf
    obtain ⟨kg_21, sg_21⟩ := okO_at g_21
    obtain ⟨k_22, ek_22, hf⟩ := lnk_some hf
    refine va_get (D := (dC, dI)) (ci := 1) (v := .ref (a k_22)) (C := RX1) (T := TX1) (N := 7) hx hb hts iwd_X4_compare_X1 hown hK hP k_20 (Wd_ob kg_21 sg_21 (by decide)) rfl 2 (by decide) (hts _ md_X4_compare_2) (fun _ h9 => h9) (fl_q rfl ek_22) dX4_compare_86 ?_
    refine lv_iload_n hx hb dX4_compare_89 rfl (lv_at hl 3 rfl) ?_
    obtain ⟨g_23, hf⟩ := grd_some hf
    obtain ⟨kg_23, sg_23, ig_23⟩ := okA_at g_23
    refine va_lald hx hb hK hP k_22 2 (Wd_al kg_23 sg_23) rfl ig_23 dX4_compare_90 ?_
    refine lv_aload_n hx hb dX4_compare_91 rfl (lv_at hl 0 rfl) ?_
    obtain ⟨k_24, ek_24, hf⟩ := lnk_some hf
    refine va_get (D := (dC, dI)) (ci := 4) (v := .ref (a k_24)) (C := RX4) (T := TX4) (N := 18) hx hb hts iwd_X4_compare_X4 hown hK hP h0 (Wd_ob kg_11 sg_11 (by decide)) rfl 1 (by decide) (hts _ md_X4_compare_1) (fun _ h9 => h9) (fl_q rfl ek_24) dX4_compare_92 ?_
    obtain ⟨g_25, hf⟩ := grd_some hf
    obtain ⟨kg_25, sg_25⟩ := okO_at g_25
    obtain ⟨k_26, ek_26, hf⟩ := lnk_some hf
    refine va_get (D := (dC, dI)) (ci := 1) (v := .ref (a k_26)) (C := RX1) (T := TX1) (N := 7) hx hb hts iwd_X4_compare_X1 hown hK hP k_24 (Wd_ob kg_25 sg_25 (by decide)) rfl 1 (by decide) (hts _ md_X4_compare_3) (fun _ h9 => h9) (fl_q rfl ek_26) dX4_compare_95 ?_
    refine lv_iload_n hx hb dX4_compare_98 rfl (lv_at hl 3 rfl) ?_
    obtain ⟨g_27, hf⟩ := grd_some hf
    obtain ⟨kg_27, sg_27, ig_27⟩ := okA_at g_27
    refine va_lald hx hb hK hP k_26 2 (Wd_al kg_27 sg_27) rfl ig_27 dX4_compare_99 ?_
    obtain ⟨z_28, r_29, hfc, hf⟩ := cal_some hf
    have hFc := de_free hD hS hA
    refine va_calli (va_runS (As := [.long (z.2.1 k_14 x1.toNatClampNeg), .long (z.2.1 k_18 x1.toNatClampNeg), .long (z.2.1 k_22 x2.toNatClampNeg), .long (z.2.1 k_26 x2.toNatClampNeg)]) (rest := []) ⟨hx, hb, hml, hown, hts⟩ (de_X10_compare l dC dI cy a sh n H.size F z (z.2.1 k_14 x1.toNatClampNeg) (z.2.1 k_18 x1.toNatClampNeg) (z.2.1 k_22 x2.toNatClampNeg) (z.2.1 k_26 x2.toNatClampNeg) hfc) (va_cwS 4 hts gX4_compare_X10_compare rfl rfl rfl (by decide +kernel) ⟨Nat.le_of_ble_eq_true rfl, Nat.le_of_ble_eq_true rfl⟩) ⟨fun a U g mk q => by obtain ⟨q0, q1, qP, qK, qD, qN⟩ := q; exact ⟨q0, q1, qP, va_K.moved (u := U) (U := U.calling g mk a) (Vm.Alike.refl U.vm) qK, qD, qN.same rfl⟩, fun U hU hW => ⟨rfl, by rw [hU], by rw [hU]; exact hP, va_K.moved hW.alike hK, hD.weaken (fun _ _ _ _ => trivial), hN.warm hW⟩⟩ rfl rfl hl.1 rfl (lv_room (Nat.le_of_ble_eq_true rfl)) dX4_compare_100 ⟨Nat.le_of_ble_eq_true rfl, Nat.le_of_ble_eq_true rfl⟩) hS (fun q _ h => hFc q h) hFc (fun rr u t H_30 locs ht hvm hw hB hz1 hk1 hS2 => ?_)
    rw [hw]
    clear hw
    obtain ⟨hP1, -, hD1⟩ := hB
    rw [ht] at hP1
    replace hD := hD1.weaken (fun _ _ _ h => hFc _ h)
    replace hP := hP1
    replace hS := hS2
    clear hP1 hD1 hS2 hFc hfc hz1 hk1 hvm ht
    refine lv_istore (lv' := [(5, .int r_29), (0, .ref (a h0)), (1, .int x0), (2, .int x1), (3, .int x2)]) hx hb dX4_compare_103 hl (by decide) rfl (fun ls hl2 => ?_)
    replace hl := hl2
    clear hl2
    refine lv_iload_n hx hb dX4_compare_105 rfl (lv_at hl 2 rfl) ?_
    refine lv_bipush (v := 38) hx hb dX4_compare_106 (by decide) ?_
    refine de_cut (h := 172) (fun (x : St × Int32) => [.int x.2]) (fun x ls H locs => lv_has ls 6 [(0, .ref (a h0))] ∧ va_P (dC, dI) vwCl (Wd cy a sh n x.1) H ∧ va_D A (Wd cy a sh n x.1) ∧ va_S A s.heap H locs) (fun x => fn_X4_compare_B172 F sh n h0 x.1 x.2) (z8, r8) ?_ (fun B172 => ?_)
    · intro x ls H locs hI hf
      obtain ⟨z_32, p_31⟩ := x
      obtain ⟨hl2, hP2, hD2, hS2⟩ := hI
      replace hl : lv_has ls 6 [(0, .ref (a h0))] := hl2
      replace hP := hP2
      replace hD := hD2
      replace hS := hS2
      clear hl2 hP2 hD2 hS2
      replace hf := fn_X4_compare_B172_s hf
      refine W.eq (g2 := F0 m 172 ls [.int p_31]) rfl ?_
      refine lv_istore (lv' := [(4, .int p_31), (0, .ref (a h0))]) hx hb dX4_compare_172 hl (by decide) rfl (fun ls hl2 => ?_)
      replace hl := hl2
      clear hl2
      exact B174 (z_32, p_31) ls H locs ⟨lv_sub hl [0, 1] rfl, hP, hD, hS⟩ hf
    refine lv_icmp_ne (tgt := 124) hx hb dX4_compare_108 (by decide) (fun c_33 => ?_) (fun c_33 => ?_)
    · skip
      rw [if_neg c_33] at hf
      refine lv_iload_n hx hb dX4_compare_124 rfl (lv_at hl 2 rfl) ?_
      refine lv_bipush (v := 39) hx hb dX4_compare_125 (by decide) ?_
      refine lv_icmp_ne (tgt := 143) hx hb dX4_compare_127 (by decide) (fun c_34 => ?_) (fun c_34 => ?_)
      · skip
        rw [if_neg c_34] at hf
        refine lv_iload_n hx hb dX4_compare_143 rfl (lv_at hl 2 rfl) ?_
        refine lv_bipush (v := 40) hx hb dX4_compare_144 (by decide) ?_
        refine lv_icmp_ne (tgt := 162) hx hb dX4_compare_146 (by decide) (fun c_35 => ?_) (fun c_35 => ?_)
        · skip
          rw [if_neg c_35] at hf
          refine lv_iload hx hb dX4_compare_162 (lv_at hl 0 rfl) ?_
          refine lv_if_lt (tgt := 171) hx hb dX4_compare_164 (by decide) (fun c_36 => ?_) (fun c_36 => ?_)
          · skip
            rw [if_pos c_36] at hf
            refine lv_iconst (v := 0) hx hb dX4_compare_171 (by decide) ?_
            exact B172 (z_28, 0) ls H_30 locs ⟨lv_sub hl [1] rfl, hP, hD, hS⟩ hf
          · skip
            rw [if_neg c_36] at hf
            refine lv_iconst (v := 1) hx hb dX4_compare_167 (by decide) ?_
            refine lv_goto (tgt := 172) hx hb dX4_compare_168 (by decide) ?_
            exact B172 (z_28, 1) ls H_30 locs ⟨lv_sub hl [1] rfl, hP, hD, hS⟩ hf
        · skip
          rw [if_pos c_35] at hf
          refine lv_iload hx hb dX4_compare_149 (lv_at hl 0 rfl) ?_
          refine lv_if_le (tgt := 158) hx hb dX4_compare_151 (by decide) (fun c_37 => ?_) (fun c_37 => ?_)
          · skip
            rw [if_pos c_37] at hf
            refine lv_iconst (v := 0) hx hb dX4_compare_158 (by decide) ?_
            refine lv_goto (tgt := 172) hx hb dX4_compare_159 (by decide) ?_
            exact B172 (z_28, 0) ls H_30 locs ⟨lv_sub hl [1] rfl, hP, hD, hS⟩ hf
          · skip
            rw [if_neg c_37] at hf
            refine lv_iconst (v := 1) hx hb dX4_compare_154 (by decide) ?_
            refine lv_goto (tgt := 172) hx hb dX4_compare_155 (by decide) ?_
            exact B172 (z_28, 1) ls H_30 locs ⟨lv_sub hl [1] rfl, hP, hD, hS⟩ hf
      · skip
        rw [if_pos c_34] at hf
        refine lv_iload hx hb dX4_compare_130 (lv_at hl 0 rfl) ?_
        refine lv_if_gt (tgt := 139) hx hb dX4_compare_132 (by decide) (fun c_38 => ?_) (fun c_38 => ?_)
        · skip
          rw [if_pos c_38] at hf
          refine lv_iconst (v := 0) hx hb dX4_compare_139 (by decide) ?_
          refine lv_goto (tgt := 172) hx hb dX4_compare_140 (by decide) ?_
          exact B172 (z_28, 0) ls H_30 locs ⟨lv_sub hl [1] rfl, hP, hD, hS⟩ hf
        · skip
          rw [if_neg c_38] at hf
          refine lv_iconst (v := 1) hx hb dX4_compare_135 (by decide) ?_
          refine lv_goto (tgt := 172) hx hb dX4_compare_136 (by decide) ?_
          exact B172 (z_28, 1) ls H_30 locs ⟨lv_sub hl [1] rfl, hP, hD, hS⟩ hf
    · skip
      rw [if_pos c_33] at hf
      refine lv_iload hx hb dX4_compare_111 (lv_at hl 0 rfl) ?_
      refine lv_if_ge (tgt := 120) hx hb dX4_compare_113 (by decide) (fun c_39 => ?_) (fun c_39 => ?_)
      · skip
        rw [if_pos c_39] at hf
        refine lv_iconst (v := 0) hx hb dX4_compare_120 (by decide) ?_
        refine lv_goto (tgt := 172) hx hb dX4_compare_121 (by decide) ?_
        exact B172 (z_28, 0) ls H_30 locs ⟨lv_sub hl [1] rfl, hP, hD, hS⟩ hf
      · skip
        rw [if_neg c_39] at hf
        refine lv_iconst (v := 1) hx hb dX4_compare_116 (by decide) ?_
        refine lv_goto (tgt := 172) hx hb dX4_compare_117 (by decide) ?_
        exact B172 (z_28, 1) ls H_30 locs ⟨lv_sub hl [1] rfl, hP, hD, hS⟩ hf
  · skip
    rw [if_neg c_10] at hf
    refine lv_aload_n hx hb dX4_compare_6 rfl (lv_at hl 0 rfl) ?_
    refine lv_aload_n hx hb dX4_compare_7 rfl (lv_at hl 0 rfl) ?_
    obtain ⟨g_40, hf⟩ := grd_some hf
    obtain ⟨kg_40, sg_40⟩ := okO_at g_40
    obtain ⟨k_41, ek_41, hf⟩ := lnk_some hf
    refine va_get (D := (dC, dI)) (ci := 4) (v := .ref (a k_41)) (C := RX4) (T := TX4) (N := 18) hx hb hts iwd_X4_compare_X4 hown hK hP h0 (Wd_ob kg_40 sg_40 (by decide)) rfl 1 (by decide) (hts _ md_X4_compare_1) (fun _ h9 => h9) (fl_q rfl ek_41) dX4_compare_8 ?_
    refine lv_iload_n hx hb dX4_compare_11 rfl (lv_at hl 2 rfl) ?_
    obtain ⟨g_44, hf⟩ := grd_some hf
    obtain ⟨kg_44, sg_44⟩ := okO_at g_44
    obtain ⟨z_42, r_43, hfc, hf⟩ := cal_some hf
    have hFc := de_free hD hS hA
    refine va_calli (va_runV (As := [.int x1]) (rest := [.ref (a h0)]) ⟨hx, hb, hml, hown, hts⟩ (de_X1_sizeOf l dC dI cy a sh n H.size F z k_41 x1 hfc) (cwV 1 hts gX4_compare_X1_sizeOf rfl rfl rfl (by decide +kernel) ⟨Nat.le_of_ble_eq_true rfl, Nat.le_of_ble_eq_true rfl⟩) ⟨fun a U g mk q => by obtain ⟨q0, q1, qP, qK, qD, qN⟩ := q; exact ⟨q0, q1, qP, va_K.moved (u := U) (U := U.calling g mk a) (Vm.Alike.refl U.vm) qK, qD, qN.same rfl⟩, va_recv hK hP (ci := 1) (q0 := k_41) rfl (Wd_ob kg_44 sg_44 (by decide)), fun U hU hW => ⟨rfl, by rw [hU], by rw [hU]; exact hP, va_K.moved hW.alike hK, hD.weaken (fun _ _ _ _ => trivial), hN.warm hW⟩⟩ rfl rfl hl.1 rfl (lv_room (Nat.le_of_ble_eq_true rfl)) dX4_compare_12 ⟨Nat.le_of_ble_eq_true rfl, Nat.le_of_ble_eq_true rfl⟩) hS (fun q _ h => hFc q h) hFc (fun rr u t H_45 locs ht hvm hw hB hz1 hk1 hS2 => ?_)
    rw [hw]
    clear hw
    obtain ⟨hP1, -, hD1⟩ := hB
    rw [ht] at hP1
    replace hD := hD1.weaken (fun _ _ _ h => hFc _ h)
    replace hP := hP1
    replace hS := hS2
    clear hP1 hD1 hS2 hFc hfc hz1 hk1 hvm ht
    refine lv_aload_n hx hb dX4_compare_15 rfl (lv_at hl 0 rfl) ?_
    obtain ⟨k_46, ek_46, hf⟩ := lnk_some hf
    refine va_get (D := (dC, dI)) (ci := 4) (v := .ref (a k_46)) (C := RX4) (T := TX4) (N := 18) hx hb hts iwd_X4_compare_X4 hown hK hP h0 (Wd_ob kg_40 sg_40 (by decide)) rfl 1 (by decide) (hts _ md_X4_compare_1) (fun _ h9 => h9) (fl_q rfl ek_46) dX4_compare_16 ?_
    refine lv_iload_n hx hb dX4_compare_19 rfl (lv_at hl 3 rfl) ?_
    obtain ⟨g_49, hf⟩ := grd_some hf
    obtain ⟨kg_49, sg_49⟩ := okO_at g_49
    obtain ⟨z_47, r_48, hfc, hf⟩ := cal_some hf
    have hFc := de_free hD hS hA
    refine va_calli (va_runV (As := [.int x2]) (rest := [.int r_43, .ref (a h0)]) ⟨hx, hb, hml, hown, hts⟩ (de_X1_sizeOf l dC dI cy a sh n H_45.size F z_42 k_46 x2 hfc) (cwV 1 hts gX4_compare_X1_sizeOf rfl rfl rfl (by decide +kernel) ⟨Nat.le_of_ble_eq_true rfl, Nat.le_of_ble_eq_true rfl⟩) ⟨fun a U g mk q => by obtain ⟨q0, q1, qP, qK, qD, qN⟩ := q; exact ⟨q0, q1, qP, va_K.moved (u := U) (U := U.calling g mk a) (Vm.Alike.refl U.vm) qK, qD, qN.same rfl⟩, va_recv hK hP (ci := 1) (q0 := k_46) rfl (Wd_ob kg_49 sg_49 (by decide)), fun U hU hW => ⟨rfl, by rw [hU], by rw [hU]; exact hP, va_K.moved hW.alike hK, hD.weaken (fun _ _ _ _ => trivial), hN.warm hW⟩⟩ rfl rfl hl.1 rfl (lv_room (Nat.le_of_ble_eq_true rfl)) dX4_compare_20 ⟨Nat.le_of_ble_eq_true rfl, Nat.le_of_ble_eq_true rfl⟩) hS (fun q _ h => hFc q h) hFc (fun rr u t H_50 locs ht hvm hw hB hz1 hk1 hS2 => ?_)
    rw [hw]
    clear hw
    obtain ⟨hP1, -, hD1⟩ := hB
    rw [ht] at hP1
    replace hD := hD1.weaken (fun _ _ _ h => hFc _ h)
    replace hP := hP1
    replace hS := hS2
    clear hP1 hD1 hS2 hFc hfc hz1 hk1 hvm ht
    refine lv_iadd hx hb dX4_compare_23 ?_
    obtain ⟨z_51, r_52, hfc, hf⟩ := cal_some hf
    have hFc := de_free hD hS hA
    refine va_calli (va_runV (As := [.int (r_43 + r_48)]) (rest := []) ⟨hx, hb, hml, hown, hts⟩ (de_X4_pay l dC dI cy a sh n H_50.size F z_47 h0 (r_43 + r_48) hfc) (cwV 1 hts gX4_compare_X4_pay rfl rfl rfl (by decide +kernel) ⟨Nat.le_of_ble_eq_true rfl, Nat.le_of_ble_eq_true rfl⟩) ⟨fun a U g mk q => by obtain ⟨q0, q1, qP, qK, qD, qN⟩ := q; exact ⟨q0, q1, qP, va_K.moved (u := U) (U := U.calling g mk a) (Vm.Alike.refl U.vm) qK, qD, qN.same rfl⟩, va_recv hK hP (ci := 4) (q0 := h0) rfl (Wd_ob kg_40 sg_40 (by decide)), fun U hU hW => ⟨rfl, by rw [hU], by rw [hU]; exact hP, va_K.moved hW.alike hK, hD.weaken (fun _ _ _ _ => trivial), hN.warm hW⟩⟩ rfl rfl hl.1 rfl (lv_room (Nat.le_of_ble_eq_true rfl)) dX4_compare_24 ⟨Nat.le_of_ble_eq_true rfl, Nat.le_of_ble_eq_true rfl⟩) hS (fun q _ h => hFc q h) hFc (fun rr u t H_53 locs ht hvm hw hB hz1 hk1 hS2 => ?_)
    rw [hw]
    clear hw
    obtain ⟨hP1, -, hD1⟩ := hB
    rw [ht] at hP1
    replace hD := hD1.weaken (fun _ _ _ h => hFc _ h)
    replace hP := hP1
    replace hS := hS2
    clear hP1 hD1 hS2 hFc hfc hz1 hk1 hvm ht
    refine lv_if_ne (tgt := 31) hx hb dX4_compare_27 (by decide) (fun c_54 => ?_) (fun c_54 => ?_)
    · skip
      rw [if_neg c_54] at hf
      refine lv_aload_n hx hb dX4_compare_31 rfl (lv_at hl 0 rfl) ?_
      obtain ⟨k_55, ek_55, hf⟩ := lnk_some hf
      refine va_get (D := (dC, dI)) (ci := 4) (v := .ref (a k_55)) (C := RX4) (T := TX4) (N := 18) hx hb hts iwd_X4_compare_X4 hown hK hP h0 (Wd_ob kg_40 sg_40 (by decide)) rfl 1 (by decide) (hts _ md_X4_compare_1) (fun _ h9 => h9) (fl_q rfl ek_55) dX4_compare_32 ?_
      refine lv_iload_n hx hb dX4_compare_35 rfl (lv_at hl 2 rfl) ?_
      refine lv_iload_n hx hb dX4_compare_36 rfl (lv_at hl 3 rfl) ?_
      obtain ⟨g_58, hf⟩ := grd_some hf
      obtain ⟨kg_58, sg_58⟩ := okO_at g_58
      obtain ⟨z_56, r_57, hfc, hf⟩ := cal_some hf
      have hFc := de_free hD hS hA
      refine va_calli (va_runV (As := [.int x1, .int x2]) (rest := []) ⟨hx, hb, hml, hown, hts⟩ (de_X1_areAlike l dC dI cy a sh n H_53.size F z_51 k_55 x1 x2 hfc) (cwV 2 hts gX4_compare_X1_areAlike rfl rfl rfl (by decide +kernel) ⟨Nat.le_of_ble_eq_true rfl, Nat.le_of_ble_eq_true rfl⟩) ⟨fun a U g mk q => by obtain ⟨q0, q1, qP, qK, qD, qN⟩ := q; exact ⟨q0, q1, qP, va_K.moved (u := U) (U := U.calling g mk a) (Vm.Alike.refl U.vm) qK, qD, qN.same rfl⟩, va_recv hK hP (ci := 1) (q0 := k_55) rfl (Wd_ob kg_58 sg_58 (by decide)), fun U hU hW => ⟨rfl, by rw [hU], by rw [hU]; exact hP, va_K.moved hW.alike hK, hD.weaken (fun _ _ _ _ => trivial), hN.warm hW⟩⟩ rfl rfl hl.1 rfl (lv_room (Nat.le_of_ble_eq_true rfl)) dX4_compare_37 ⟨Nat.le_of_ble_eq_true rfl, Nat.le_of_ble_eq_true rfl⟩) hS (fun q _ h => hFc q h) hFc (fun rr u t H_59 locs ht hvm hw hB hz1 hk1 hS2 => ?_)
      rw [hw]
      clear hw
      obtain ⟨hP1, -, hD1⟩ := hB
      rw [ht] at hP1
      replace hD := hD1.weaken (fun _ _ _ h => hFc _ h)
      replace hP := hP1
      replace hS := hS2
      clear hP1 hD1 hS2 hFc hfc hz1 hk1 hvm ht
      refine lv_iload_n hx hb dX4_compare_40 rfl (lv_at hl 1 rfl) ?_
      refine lv_bipush (v := 36) hx hb dX4_compare_41 (by decide) ?_
      refine de_cut (h := 51) (fun (x : St × Int32) => [.int x.2, .int r_57]) (fun x ls H locs => lv_has ls 6 [(0, .ref (a h0))] ∧ va_P (dC, dI) vwCl (Wd cy a sh n x.1) H ∧ va_D A (Wd cy a sh n x.1) ∧ va_S A s.heap H locs) (fun x => fn_X4_compare_B51 F sh n r_57 h0 x.1 x.2) (z8, r8) ?_ (fun B51 => ?_)
      · intro x ls H locs hI hf
        obtain ⟨z_61, p_60⟩ := x
        obtain ⟨hl2, hP2, hD2, hS2⟩ := hI
        replace hl : lv_has ls 6 [(0, .ref (a h0))] := hl2
        replace hP := hP2
        replace hD := hD2
        replace hS := hS2
        clear hl2 hP2 hD2 hS2
        replace hf := fn_X4_compare_B51_s hf
        refine W.eq (g2 := F0 m 51 ls [.int p_60, .int r_57]) rfl ?_
        refine de_cut (h := 59) (fun (x : St × Int32) => [.int x.2]) (fun x ls H locs => lv_has ls 6 [(0, .ref (a h0))] ∧ va_P (dC, dI) vwCl (Wd cy a sh n x.1) H ∧ va_D A (Wd cy a sh n x.1) ∧ va_S A s.heap H locs) (fun x => fn_X4_compare_B59 F sh n h0 x.1 x.2) (z8, r8) ?_ (fun B59 => ?_)
        · intro x ls H locs hI hf
          obtain ⟨z_63, p_62⟩ := x
          obtain ⟨hl2, hP2, hD2, hS2⟩ := hI
          replace hl : lv_has ls 6 [(0, .ref (a h0))] := hl2
          replace hP := hP2
          replace hD := hD2
          replace hS := hS2
          clear hl2 hP2 hD2 hS2
          replace hf := fn_X4_compare_B59_s hf
          refine W.eq (g2 := F0 m 59 ls [.int p_62]) rfl ?_
          refine lv_istore (lv' := [(4, .int p_62), (0, .ref (a h0))]) hx hb dX4_compare_59 hl (by decide) rfl (fun ls hl2 => ?_)
          replace hl := hl2
          clear hl2
          refine lv_goto (tgt := 174) hx hb dX4_compare_61 (by decide) ?_
          exact B174 (z_63, p_62) ls H locs ⟨lv_sub hl [0, 1] rfl, hP, hD, hS⟩ hf
        refine lv_icmp_ne (tgt := 58) hx hb dX4_compare_51 (by decide) (fun c_64 => ?_) (fun c_64 => ?_)
        · skip
          rw [if_neg c_64] at hf
          refine lv_iconst (v := 0) hx hb dX4_compare_58 (by decide) ?_
          exact B59 (z_61, 0) ls H locs ⟨lv_sub hl [0] rfl, hP, hD, hS⟩ hf
        · skip
          rw [if_pos c_64] at hf
          refine lv_iconst (v := 1) hx hb dX4_compare_54 (by decide) ?_
          refine lv_goto (tgt := 59) hx hb dX4_compare_55 (by decide) ?_
          exact B59 (z_61, 1) ls H locs ⟨lv_sub hl [0] rfl, hP, hD, hS⟩ hf
      refine lv_icmp_ne (tgt := 50) hx hb dX4_compare_43 (by decide) (fun c_65 => ?_) (fun c_65 => ?_)
      · skip
        rw [if_neg c_65] at hf
        refine lv_iconst (v := 0) hx hb dX4_compare_50 (by decide) ?_
        exact B51 (z_56, 0) ls H_59 locs ⟨lv_sub hl [0] rfl, hP, hD, hS⟩ hf
      · skip
        rw [if_pos c_65] at hf
        refine lv_iconst (v := 1) hx hb dX4_compare_46 (by decide) ?_
        refine lv_goto (tgt := 51) hx hb dX4_compare_47 (by decide) ?_
        exact B51 (z_56, 1) ls H_59 locs ⟨lv_sub hl [0] rfl, hP, hD, hS⟩ hf
    · skip
      rw [if_pos c_54] at hf
      obtain ⟨h8, h9⟩ := ret_some hf
      rw [h8]
      exact W.vret hx hb hr (fun t ht hW => ⟨⟨(), rfl, trivial, by rw [ht]; exact hP, va_K.moved hW.alike hK, hD⟩, hS.F ht⟩) hS.2.2 dX4_compare_30

theorem md_X4_giveBack_1 : (.fieldLink RX4 38 "ResourceLedger$Machine" "programs" "[LResourceLedger$Program;" : Cond) ∈ wsX4_giveBack := List.mem_of_getElem? (i := 1) rfl
theorem iwd_X4_giveBack_X4 : ∀ w ∈ wsX40, w ∈ wsX4_giveBack := fun _ h => List.mem_cons_of_mem _ (List.mem_append_left _ (List.mem_append_left _ (List.mem_append_right _ h)))
theorem md_X4_giveBack_2 : (.fieldLink RX4 100 "ResourceLedger$Machine" "top" "I" : Cond) ∈ wsX4_giveBack := List.mem_of_getElem? (i := 2) rfl
theorem md_X4_giveBack_3 : (.fieldLink RX4 42 "ResourceLedger$Machine" "functions" "[I" : Cond) ∈ wsX4_giveBack := List.mem_of_getElem? (i := 3) rfl
theorem md_X4_giveBack_4 : (.fieldLink RX4 49 "ResourceLedger$Machine" "depths" "[I" : Cond) ∈ wsX4_giveBack := List.mem_of_getElem? (i := 4) rfl
theorem md_X4_giveBack_9 : (.fieldLink RX4 55 "ResourceLedger$Machine" "stack" "[I" : Cond) ∈ wsX4_giveBack := List.mem_of_getElem? (i := 9) rfl
theorem md_X4_giveBack_8 : (.fieldLink RX4 82 "ResourceLedger$Machine" "running" "Z" : Cond) ∈ wsX4_giveBack := List.mem_of_getElem? (i := 8) rfl
theorem md_X4_giveBack_7 : (.fieldLink RX4 52 "ResourceLedger$Machine" "locals" "[I" : Cond) ∈ wsX4_giveBack := List.mem_of_getElem? (i := 7) rfl
theorem md_X4_giveBack_5 : (.fieldLink RX4 12 "ResourceLedger$Machine" "heap" "LResourceLedger$Heap;" : Cond) ∈ wsX4_giveBack := List.mem_of_getElem? (i := 5) rfl
theorem md_X4_giveBack_6 : (.fieldLink RX4 71 "ResourceLedger$Heap" "slips" "I" : Cond) ∈ wsX4_giveBack := List.mem_of_getElem? (i := 6) rfl
theorem iwd_X4_giveBack_X1 : ∀ w ∈ wsX10, w ∈ wsX4_giveBack := fun _ h => List.mem_cons_of_mem _ (List.mem_append_left _ (List.mem_append_right _ h))
set_option maxHeartbeats 4000000 in
set_option maxRecDepth 100000 in
theorem de_X4_giveBack (l : Launch) (dC : Nat → ClassId) (dI : Nat → Nat → Nat) (cy : Nat → ClassId) (a : Nat → Nat) (sh : Nat → Nat × Nat) (n sz : Nat) (F : Nat) (z : St) (h0 : Nat) {z8 : St} {r8 : Unit} (hf : fn_X4_giveBack F sh n z h0 = some (z8, r8)) : Met l yX4_giveBack wsX4_giveBack ({ frames := 3, cells := 0, slots := 0, locals := 66 }) (va_Pc [.ref (a h0)] (fun U => U.heap.size = sz ∧ va_P (dC, dI) vwCl (Wd cy a sh n z) U.heap ∧ va_K (dC, dI) vwCl (TYS cy) U ∧ va_D (fun _ => True) (Wd cy a sh n z) ∧ NK U)) (va_Qv (fun u : Unit => True) (fun u t => va_P (dC, dI) vwCl (Wd cy a sh n z8) t.heap ∧ va_K (dC, dI) vwCl (TYS cy) t ∧ va_D (va_A (Wd cy a sh n z) sz) (Wd cy a sh n z8)) (va_A (Wd cy a sh n z) sz)) 0 0 (va_A (Wd cy a sh n z) sz) := by
  refine Met.ofW (cc := cX4_giveBack) (maxL := 6) (ret := none) (by decide) rfl ?_
  intro p e s m args below meth c s₁ B hml hv
  obtain ⟨rfl, hsz, hP, hK, hD0, hN⟩ := hv
  have hx := B.exec
  have hb := B.bytes
  have hr := B.returns
  have hts := atoms_spec (ws := wsX4_giveBack) B.pre
  have hown : s.vm.findClass RX4 = some m.cls := findClass_of_methodNamed B.named
  have hlocks := B.notSynchronized
  subst hsz
  have hD := hD0.self (sz := s.heap.size)
  clear hD0
  generalize hAe : va_A (Wd cy a sh n z) s.heap.size = A at hD ⊢
  have hA : ∀ q : Nat, s.heap.size ≤ q → A q := fun q h => by rw [← hAe]; exact Or.inr h
  clear hAe
  have hS : va_S A s.heap s.heap [] := va_S.rf
  have hl := lv_entry ([.ref (a h0)]) (n := 6) (Nat.le_of_ble_eq_true rfl)
  rw [lg_entry_eq]
  generalize (lg_sl ([.ref (a h0)]) ++ List.replicate (6 - (lg_sl ([.ref (a h0)])).length) Slot.unset).toArray = ls at hl ⊢
  replace hl : lv_has ls 6 [(0, .ref (a h0))] := hl
  unfold fn_X4_giveBack at hf
  refine de_start hS hP (fun H locs hS hP => ?_)
  refine lv_aload_n hx hb dX4_giveBack_0 rfl (lv_at hl 0 rfl) ?_
  obtain ⟨g_1, hf⟩ := grd_some hf
  obtain ⟨kg_1, sg_1⟩ := okO_at g_1
  obtain ⟨k_2, ek_2, hf⟩ := lnk_some hf
  refine va_get (D := (dC, dI)) (ci := 4) (v := .ref (a k_2)) (C := RX4) (T := TX4) (N := 18) hx hb hts iwd_X4_giveBack_X4 hown hK hP h0 (Wd_ob kg_1 sg_1 (by decide)) rfl 6 (by decide) (hts _ md_X4_giveBack_1) (fun _ h9 => h9) (fl_q rfl ek_2) dX4_giveBack_1 ?_
  refine lv_aload_n hx hb dX4_giveBack_4 rfl (lv_at hl 0 rfl) ?_
  refine va_get (D := (dC, dI)) (ci := 4) (v := .int (z.1 h0 12)) (C := RX4) (T := TX4) (N := 18) hx hb hts iwd_X4_giveBack_X4 hown hK hP h0 (Wd_ob kg_1 sg_1 (by decide)) rfl 12 (by decide) (hts _ md_X4_giveBack_2) (fun _ h9 => h9) (fl_at (t := 0) rfl) dX4_giveBack_5 ?_
  obtain ⟨g_3, hf⟩ := grd_some hf
  obtain ⟨kg_3, sg_3, ig_3⟩ := okA_at g_3
  obtain ⟨k_4, ek_4, hf⟩ := lnk_some hf
  refine va_aldq (C := RX5) hx hb hK hP k_2 4 (Wd_aq kg_3 sg_3 (by decide)) rfl ig_3 dX4_giveBack_8 ?_
  refine W.eq (g2 := F0 m 9 ls [.ref (a k_4)]) (by rw [ek_4]; rfl) ?_
  refine lv_astore_n (lv' := [(1, .ref (a k_4)), (0, .ref (a h0))]) hx hb dX4_giveBack_9 rfl hl (by decide) rfl (fun ls hl2 => ?_)
  replace hl := hl2
  clear hl2
  refine lv_aload_n hx hb dX4_giveBack_10 rfl (lv_at hl 1 rfl) ?_
  obtain ⟨k_5, ek_5, hf⟩ := lnk_some hf
  refine va_get (D := (dC, dI)) (ci := 4) (v := .ref (a k_5)) (C := RX4) (T := TX4) (N := 18) hx hb hts iwd_X4_giveBack_X4 hown hK hP h0 (Wd_ob kg_1 sg_1 (by decide)) rfl 7 (by decide) (hts _ md_X4_giveBack_3) (fun _ h9 => h9) (fl_q rfl ek_5) dX4_giveBack_11 ?_
  refine lv_aload_n hx hb dX4_giveBack_14 rfl (lv_at hl 1 rfl) ?_
  refine va_get (D := (dC, dI)) (ci := 4) (v := .int (z.1 h0 12)) (C := RX4) (T := TX4) (N := 18) hx hb hts iwd_X4_giveBack_X4 hown hK hP h0 (Wd_ob kg_1 sg_1 (by decide)) rfl 12 (by decide) (hts _ md_X4_giveBack_2) (fun _ h9 => h9) (fl_at (t := 0) rfl) dX4_giveBack_15 ?_
  obtain ⟨g_6, hf⟩ := grd_some hf
  obtain ⟨kg_6, sg_6, ig_6⟩ := okA_at g_6
  refine va_iald hx hb hK hP k_5 1 (Wd_ai kg_6 sg_6) rfl ig_6 dX4_giveBack_18 ?_
  refine lv_topi (fun v_7 ev_7 => ?_)
  replace hf := lt_at ev_7 hf
  clear ev_7
  refine lv_istore_n (lv' := [(2, .int v_7), (1, .ref (a k_4)), (0, .ref (a h0))]) hx hb dX4_giveBack_19 rfl hl (by decide) rfl (fun ls hl2 => ?_)
  replace hl := hl2
  clear hl2
  refine lv_aload_n hx hb dX4_giveBack_20 rfl (lv_at hl 2 rfl) ?_
  obtain ⟨k_8, ek_8, hf⟩ := lnk_some hf
  refine va_get (D := (dC, dI)) (ci := 4) (v := .ref (a k_8)) (C := RX4) (T := TX4) (N := 18) hx hb hts iwd_X4_giveBack_X4 hown hK hP h0 (Wd_ob kg_1 sg_1 (by decide)) rfl 9 (by decide) (hts _ md_X4_giveBack_4) (fun _ h9 => h9) (fl_q rfl ek_8) dX4_giveBack_21 ?_
  refine lv_aload_n hx hb dX4_giveBack_24 rfl (lv_at hl 2 rfl) ?_
  refine va_get (D := (dC, dI)) (ci := 4) (v := .int (z.1 h0 12)) (C := RX4) (T := TX4) (N := 18) hx hb hts iwd_X4_giveBack_X4 hown hK hP h0 (Wd_ob kg_1 sg_1 (by decide)) rfl 12 (by decide) (hts _ md_X4_giveBack_2) (fun _ h9 => h9) (fl_at (t := 0) rfl) dX4_giveBack_25 ?_
  obtain ⟨g_9, hf⟩ := grd_some hf
  obtain ⟨kg_9, sg_9, ig_9⟩ := okA_at g_9
  refine va_iald hx hb hK hP k_8 1 (Wd_ai kg_9 sg_9) rfl ig_9 dX4_giveBack_28 ?_
  refine lv_aload_n hx hb dX4_giveBack_29 rfl (lv_at hl 1 rfl) ?_
  refine lv_iload_n hx hb dX4_giveBack_30 rfl (lv_at hl 0 rfl) ?_
  obtain ⟨g_12, hf⟩ := grd_some hf
  obtain ⟨kg_12, sg_12⟩ := okO_at g_12
  obtain ⟨z_10, r_11, hfc, hf⟩ := cal_some hf
  have hFc := de_free hD hS hA
  refine va_calli (va_runV (As := [.int v_7]) (rest := [.int (z.1 k_8 (z.1 h0 12).toNatClampNeg)]) ⟨hx, hb, hml, hown, hts⟩ (de_X5_gives l dC dI cy a sh n H.size F z k_4 v_7 hfc) (cwV 1 hts gX4_giveBack_X5_gives rfl rfl rfl (by decide +kernel) ⟨Nat.le_of_ble_eq_true rfl, Nat.le_of_ble_eq_true rfl⟩) ⟨fun a U g mk q => by obtain ⟨q0, q1, qP, qK, qD, qN⟩ := q; exact ⟨q0, q1, qP, va_K.moved (u := U) (U := U.calling g mk a) (Vm.Alike.refl U.vm) qK, qD, qN.same rfl⟩, va_recv hK hP (ci := 5) (q0 := k_4) rfl (Wd_ob kg_12 sg_12 (by decide)), fun U hU hW => ⟨rfl, by rw [hU], by rw [hU]; exact hP, va_K.moved hW.alike hK, hD.weaken (fun _ _ _ _ => trivial), hN.warm hW⟩⟩ rfl rfl hl.1 rfl (lv_room (Nat.le_of_ble_eq_true rfl)) dX4_giveBack_31 ⟨Nat.le_of_ble_eq_true rfl, Nat.le_of_ble_eq_true rfl⟩) hS (fun q _ h => hFc q h) hFc (fun rr u t H_13 locs ht hvm hw hB hz1 hk1 hS2 => ?_)
  rw [hw]
  clear hw
  obtain ⟨hP1, -, hD1⟩ := hB
  rw [ht] at hP1
  replace hD := hD1.weaken (fun _ _ _ h => hFc _ h)
  replace hP := hP1
  replace hS := hS2
  clear hP1 hD1 hS2 hFc hfc hz1 hk1 hvm ht
  refine de_cut (h := 50) (fun (x : St) => []) (fun x ls H locs => lv_has ls 6 [(2, .int v_7), (1, .ref (a k_4)), (0, .ref (a h0))] ∧ va_P (dC, dI) vwCl (Wd cy a sh n x) H ∧ va_D A (Wd cy a sh n x) ∧ va_S A s.heap H locs) (fun x => fn_X4_giveBack_B50 F sh n k_4 v_7 h0 x) (z8, r8) ?_ (fun B50 => ?_)
  · intro x ls H locs hI hf
    obtain ⟨z_14, ez⟩ : ∃ w, w = x := ⟨_, rfl⟩
    subst ez
    obtain ⟨hl2, hP2, hD2, hS2⟩ := hI
    replace hl : lv_has ls 6 [(2, .int v_7), (1, .ref (a k_4)), (0, .ref (a h0))] := hl2
    replace hP := hP2
    replace hD := hD2
    replace hS := hS2
    clear hl2 hP2 hD2 hS2
    replace hf := fn_X4_giveBack_B50_s hf
    refine W.eq (g2 := F0 m 50 ls []) rfl ?_
    refine lv_iconst (v := 0) hx hb dX4_giveBack_50 (by decide) ?_
    refine lv_istore_n (lv' := [(3, .int 0), (2, .int v_7), (1, .ref (a k_4)), (0, .ref (a h0))]) hx hb dX4_giveBack_51 rfl hl (by decide) rfl (fun ls hl2 => ?_)
    replace hl := hl2
    clear hl2
    have hl0 : lv_has ls 6 [(3, .int 0), (2, .int v_7), (1, .ref (a k_4)), (0, .ref (a h0))] := lv_sub hl [0, 1, 2, 3] rfl
    refine de_loop (h := 52) (fun (x : St × Int32) ls H locs => lv_has ls 6 [(3, .int x.2), (2, .int v_7), (1, .ref (a k_4)), (0, .ref (a h0))] ∧ va_P (dC, dI) vwCl (Wd cy a sh n x.1) H ∧ va_D A (Wd cy a sh n x.1) ∧ va_S A s.heap H locs) (fun f x => fn_X4_giveBack_L52 F sh n k_4 v_7 h0 f x.1 x.2) (z8, r8) ?_ (fun _ => rfl) F (z_14, 0) ls H locs ⟨hl0, hP, hD, hS⟩ hf
    intro f_17 x ls H locs ih52 hI hf
    obtain ⟨z_16, p_15⟩ := x
    obtain ⟨hl2, hP2, hD2, hS2⟩ := hI
    replace hl : lv_has ls 6 [(3, .int p_15), (2, .int v_7), (1, .ref (a k_4)), (0, .ref (a h0))] := hl2
    replace hP := hP2
    replace hD := hD2
    replace hS := hS2
    clear hl2 hP2 hD2 hS2 hl0
    replace hf := fn_X4_giveBack_L52_s hf
    refine lv_iload_n hx hb dX4_giveBack_52 rfl (lv_at hl 0 rfl) ?_
    refine lv_aload_n hx hb dX4_giveBack_53 rfl (lv_at hl 2 rfl) ?_
    refine lv_iload_n hx hb dX4_giveBack_54 rfl (lv_at hl 1 rfl) ?_
    obtain ⟨z_18, r_19, hfc, hf⟩ := cal_some hf
    have hFc := de_free hD hS hA
    refine va_calli (va_runV (As := [.int v_7]) (rest := [.int p_15]) ⟨hx, hb, hml, hown, hts⟩ (de_X5_localCount l dC dI cy a sh n H.size F z_16 k_4 v_7 hfc) (cwV 1 hts gX4_giveBack_X5_localCount rfl rfl rfl (by decide +kernel) ⟨Nat.le_of_ble_eq_true rfl, Nat.le_of_ble_eq_true rfl⟩) ⟨fun a U g mk q => by obtain ⟨q0, q1, qP, qK, qD, qN⟩ := q; exact ⟨q0, q1, qP, va_K.moved (u := U) (U := U.calling g mk a) (Vm.Alike.refl U.vm) qK, qD, qN.same rfl⟩, va_recv hK hP (ci := 5) (q0 := k_4) rfl (Wd_ob kg_12 sg_12 (by decide)), fun U hU hW => ⟨rfl, by rw [hU], by rw [hU]; exact hP, va_K.moved hW.alike hK, hD.weaken (fun _ _ _ _ => trivial), hN.warm hW⟩⟩ rfl rfl hl.1 rfl (lv_room (Nat.le_of_ble_eq_true rfl)) dX4_giveBack_55 ⟨Nat.le_of_ble_eq_true rfl, Nat.le_of_ble_eq_true rfl⟩) hS (fun q _ h => hFc q h) hFc (fun rr u t H_20 locs ht hvm hw hB hz1 hk1 hS2 => ?_)
    rw [hw]
    clear hw
    obtain ⟨hP1, -, hD1⟩ := hB
    rw [ht] at hP1
    replace hD := hD1.weaken (fun _ _ _ h => hFc _ h)
    replace hP := hP1
    replace hS := hS2
    clear hP1 hD1 hS2 hFc hfc hz1 hk1 hvm ht
    refine lv_icmp_ge (tgt := 112) hx hb dX4_giveBack_58 (by decide) (fun c_21 => ?_) (fun c_21 => ?_)
    · skip
      rw [if_pos c_21] at hf
      refine lv_aload_n hx hb dX4_giveBack_112 rfl (lv_at hl 3 rfl) ?_
      refine va_get (D := (dC, dI)) (ci := 4) (v := .int (z_18.1 h0 12)) (C := RX4) (T := TX4) (N := 18) hx hb hts iwd_X4_giveBack_X4 hown hK hP h0 (Wd_ob kg_1 sg_1 (by decide)) rfl 12 (by decide) (hts _ md_X4_giveBack_2) (fun _ h9 => h9) (fl_at (t := 0) rfl) dX4_giveBack_113 ?_
      refine lv_if_ne (tgt := 125) hx hb dX4_giveBack_116 (by decide) (fun c_22 => ?_) (fun c_22 => ?_)
      · skip
        rw [if_neg c_22] at hf
        refine lv_aload_n hx hb dX4_giveBack_125 rfl (lv_at hl 3 rfl) ?_
        obtain ⟨k_23, ek_23, hf⟩ := lnk_some hf
        refine va_get (D := (dC, dI)) (ci := 4) (v := .ref (a k_23)) (C := RX4) (T := TX4) (N := 18) hx hb hts iwd_X4_giveBack_X4 hown hK hP h0 (Wd_ob kg_1 sg_1 (by decide)) rfl 9 (by decide) (hts _ md_X4_giveBack_4) (fun _ h9 => h9) (fl_q rfl ek_23) dX4_giveBack_126 ?_
        refine lv_aload_n hx hb dX4_giveBack_129 rfl (lv_at hl 3 rfl) ?_
        refine va_get (D := (dC, dI)) (ci := 4) (v := .int (z_18.1 h0 12)) (C := RX4) (T := TX4) (N := 18) hx hb hts iwd_X4_giveBack_X4 hown hK hP h0 (Wd_ob kg_1 sg_1 (by decide)) rfl 12 (by decide) (hts _ md_X4_giveBack_2) (fun _ h9 => h9) (fl_at (t := 0) rfl) dX4_giveBack_130 ?_
        obtain ⟨g_24, hf⟩ := grd_some hf
        obtain ⟨kg_24, sg_24, ig_24⟩ := okA_at g_24
        refine va_iald hx hb hK hP k_23 1 (Wd_ai kg_24 sg_24) rfl ig_24 dX4_giveBack_133 ?_
        refine lv_topi (fun v_25 ev_25 => ?_)
        replace hf := lt_at ev_25 hf
        clear ev_25
        refine lv_istore_n (lv' := [(3, .int v_25), (2, .int v_7), (1, .ref (a k_4)), (0, .ref (a h0))]) hx hb dX4_giveBack_134 rfl hl (by decide) rfl (fun ls hl2 => ?_)
        replace hl := hl2
        clear hl2
        refine lv_aload_n hx hb dX4_giveBack_135 rfl (lv_at hl 3 rfl) ?_
        refine va_get (D := (dC, dI)) (ci := 4) (v := .int (z_18.1 h0 12)) (C := RX4) (T := TX4) (N := 18) hx hb hts iwd_X4_giveBack_X4 hown hK hP h0 (Wd_ob kg_1 sg_1 (by decide)) rfl 12 (by decide) (hts _ md_X4_giveBack_2) (fun _ h9 => h9) (fl_at (t := 0) rfl) dX4_giveBack_136 ?_
        refine lv_bipush (v := 64) hx hb dX4_giveBack_139 (by decide) ?_
        refine lv_imul hx hb dX4_giveBack_141 ?_
        refine lv_topi (fun v_26 ev_26 => ?_)
        replace hf := lt_at ev_26 hf
        clear ev_26
        refine lv_istore (lv' := [(4, .int v_26), (3, .int v_25), (2, .int v_7), (1, .ref (a k_4)), (0, .ref (a h0))]) hx hb dX4_giveBack_142 hl (by decide) rfl (fun ls hl2 => ?_)
        replace hl := hl2
        clear hl2
        refine lv_aload_n hx hb dX4_giveBack_144 rfl (lv_at hl 4 rfl) ?_
        refine lv_dup hx hb dX4_giveBack_145 rfl ?_
        refine va_get (D := (dC, dI)) (ci := 4) (v := .int (z_18.1 h0 12)) (C := RX4) (T := TX4) (N := 18) hx hb hts iwd_X4_giveBack_X4 hown hK hP h0 (Wd_ob kg_1 sg_1 (by decide)) rfl 12 (by decide) (hts _ md_X4_giveBack_2) (fun _ h9 => h9) (fl_at (t := 0) rfl) dX4_giveBack_146 ?_
        refine lv_iconst (v := 1) hx hb dX4_giveBack_149 (by decide) ?_
        refine lv_isub hx hb dX4_giveBack_150 ?_
        refine va_put (D := (dC, dI)) (ci := 4) (v := .int ((z_18.1 h0 12) - 1)) (ty := .int) (C := RX4) (T := TX4) (N := 18) hx hb hts iwd_X4_giveBack_X4 tyX4 tyX4_ok nmX4 hown hK hP hD hS h0 (Wd_ob kg_1 sg_1 (by decide)) rfl 12 (by decide) (hts _ md_X4_giveBack_2) (fun _ h9 => h9) rfl (by decide +kernel) rfl rfl (by rw [fl_len]; decide) dX4_giveBack_151 (fun H_27 locs hP2 hD2 hS2 => ?_)
        rw [Wd_si sg_1 (by decide) rfl] at hP2 hD2
        obtain ⟨z_28, ez_28⟩ : ∃ w, w = si z_18 h0 12 ((z_18.1 h0 12) - 1) := ⟨_, rfl⟩
        rw [← ez_28] at hP2 hD2
        replace hf := lt_at ez_28 hf
        clear ez_28
        replace hP := hP2
        replace hD := hD2
        replace hS := hS2
        clear hP2 hD2 hS2
        refine lv_iconst (v := 0) hx hb dX4_giveBack_154 (by decide) ?_
        refine lv_istore (lv' := [(5, .int 0), (4, .int v_26), (3, .int v_25), (2, .int v_7), (1, .ref (a k_4)), (0, .ref (a h0))]) hx hb dX4_giveBack_155 hl (by decide) rfl (fun ls hl2 => ?_)
        replace hl := hl2
        clear hl2
        have hl0 : lv_has ls 6 [(5, .int 0), (4, .int v_26), (3, .int v_25), (0, .ref (a h0))] := lv_sub hl [0, 1, 2, 5] rfl
        refine de_loop (h := 157) (fun (x : St × Int32) ls H locs => lv_has ls 6 [(5, .int x.2), (4, .int v_26), (3, .int v_25), (0, .ref (a h0))] ∧ va_P (dC, dI) vwCl (Wd cy a sh n x.1) H ∧ va_D A (Wd cy a sh n x.1) ∧ va_S A s.heap H locs) (fun f x => fn_X4_giveBack_L157 F sh n v_25 h0 v_26 f x.1 x.2) (z8, r8) ?_ (fun _ => rfl) F (z_28, 0) ls H_27 locs ⟨hl0, hP, hD, hS⟩ hf
        intro f_31 x ls H locs ih157 hI hf
        obtain ⟨z_30, p_29⟩ := x
        obtain ⟨hl2, hP2, hD2, hS2⟩ := hI
        replace hl : lv_has ls 6 [(5, .int p_29), (4, .int v_26), (3, .int v_25), (0, .ref (a h0))] := hl2
        replace hP := hP2
        replace hD := hD2
        replace hS := hS2
        clear hl2 hP2 hD2 hS2 hl0
        replace hf := fn_X4_giveBack_L157_s hf
        refine lv_iload hx hb dX4_giveBack_157 (lv_at hl 0 rfl) ?_
        refine lv_iload_n hx hb dX4_giveBack_159 rfl (lv_at hl 2 rfl) ?_
        refine lv_icmp_ge (tgt := 183) hx hb dX4_giveBack_160 (by decide) (fun c_32 => ?_) (fun c_32 => ?_)
        · skip
          rw [if_pos c_32] at hf
          obtain ⟨h8, h9⟩ := ret_some hf
          rw [h8]
          exact W.vret hx hb hr (fun t ht hW => ⟨⟨(), rfl, trivial, by rw [ht]; exact hP, va_K.moved hW.alike hK, hD⟩, hS.F ht⟩) hS.2.2 dX4_giveBack_183
        · skip
          rw [if_neg c_32] at hf
          refine lv_aload_n hx hb dX4_giveBack_163 rfl (lv_at hl 3 rfl) ?_
          refine lv_aload_n hx hb dX4_giveBack_164 rfl (lv_at hl 3 rfl) ?_
          obtain ⟨k_33, ek_33, hf⟩ := lnk_some hf
          refine va_get (D := (dC, dI)) (ci := 4) (v := .ref (a k_33)) (C := RX4) (T := TX4) (N := 18) hx hb hts iwd_X4_giveBack_X4 hown hK hP h0 (Wd_ob kg_1 sg_1 (by decide)) rfl 11 (by decide) (hts _ md_X4_giveBack_9) (fun _ h9 => h9) (fl_q rfl ek_33) dX4_giveBack_165 ?_
          refine lv_iload hx hb dX4_giveBack_168 (lv_at hl 1 rfl) ?_
          refine lv_iload hx hb dX4_giveBack_170 (lv_at hl 0 rfl) ?_
          refine lv_iadd hx hb dX4_giveBack_172 ?_
          obtain ⟨g_34, hf⟩ := grd_some hf
          obtain ⟨kg_34, sg_34, ig_34⟩ := okA_at g_34
          refine va_iald hx hb hK hP k_33 1 (Wd_ai kg_34 sg_34) rfl ig_34 dX4_giveBack_173 ?_
          obtain ⟨z_35, _u, hfc, hf⟩ := cal_some hf
          have hFc := de_free hD hS hA
          refine va_callv (va_runV (As := [.int (z_30.1 k_33 (v_26 + p_29).toNatClampNeg)]) (rest := []) ⟨hx, hb, hml, hown, hts⟩ (de_X4_push l dC dI cy a sh n H.size F z_30 h0 (z_30.1 k_33 (v_26 + p_29).toNatClampNeg) hfc) (cwV 1 hts gX4_giveBack_X4_push rfl rfl rfl (by decide +kernel) ⟨Nat.le_of_ble_eq_true rfl, Nat.le_of_ble_eq_true rfl⟩) ⟨fun a U g mk q => by obtain ⟨q0, q1, qP, qK, qD, qN⟩ := q; exact ⟨q0, q1, qP, va_K.moved (u := U) (U := U.calling g mk a) (Vm.Alike.refl U.vm) qK, qD, qN.same rfl⟩, va_recv hK hP (ci := 4) (q0 := h0) rfl (Wd_ob kg_1 sg_1 (by decide)), fun U hU hW => ⟨rfl, by rw [hU], by rw [hU]; exact hP, va_K.moved hW.alike hK, hD.weaken (fun _ _ _ _ => trivial), hN.warm hW⟩⟩ rfl rfl hl.1 rfl (lv_room (Nat.le_of_ble_eq_true rfl)) dX4_giveBack_174 ⟨Nat.le_of_ble_eq_true rfl, Nat.le_of_ble_eq_true rfl⟩) hS (fun q _ h => hFc q h) hFc (fun u t H_36 locs ht hvm hw hB hz1 hk1 hS2 => ?_)
          obtain ⟨hP1, -, hD1⟩ := hB
          rw [ht] at hP1
          replace hD := hD1.weaken (fun _ _ _ h => hFc _ h)
          replace hP := hP1
          replace hS := hS2
          clear hP1 hD1 hS2 hFc hfc hz1 hk1 hvm ht
          refine lv_iinc (v := (p_29 + 1)) (lv' := [(5, .int (p_29 + 1)), (4, .int v_26), (3, .int v_25), (0, .ref (a h0))]) hx hb dX4_giveBack_177 hl (k := 0) rfl rfl (by decide) rfl (fun ls hl2 => ?_)
          replace hl := hl2
          clear hl2
          refine lv_goto (tgt := 157) hx hb dX4_giveBack_180 (by decide) ?_
          exact ih157 (z_35, (p_29 + 1)) ls H_36 locs ⟨lv_sub hl [0, 1, 2, 3] rfl, hP, hD, hS⟩ hf
      · skip
        rw [if_pos c_22] at hf
        refine lv_aload_n hx hb dX4_giveBack_119 rfl (lv_at hl 3 rfl) ?_
        refine lv_iconst (v := 0) hx hb dX4_giveBack_120 (by decide) ?_
        refine va_put (D := (dC, dI)) (ci := 4) (v := .int 0) (ty := .boolean) (C := RX4) (T := TX4) (N := 18) hx hb hts iwd_X4_giveBack_X4 tyX4 tyX4_ok nmX4 hown hK hP hD hS h0 (Wd_ob kg_1 sg_1 (by decide)) rfl 15 (by decide) (hts _ md_X4_giveBack_8) (fun _ h9 => h9) rfl (by decide +kernel) rfl rfl (by rw [fl_len]; decide) dX4_giveBack_121 (fun H_37 locs hP2 hD2 hS2 => ?_)
        rw [Wd_si sg_1 (by decide) rfl] at hP2 hD2
        obtain ⟨z_38, ez_38⟩ : ∃ w, w = si z_18 h0 15 0 := ⟨_, rfl⟩
        rw [← ez_38] at hP2 hD2
        replace hf := lt_at ez_38 hf
        clear ez_38
        replace hP := hP2
        replace hD := hD2
        replace hS := hS2
        clear hP2 hD2 hS2
        obtain ⟨h8, h9⟩ := ret_some hf
        rw [h8]
        exact W.vret hx hb hr (fun t ht hW => ⟨⟨(), rfl, trivial, by rw [ht]; exact hP, va_K.moved hW.alike hK, hD⟩, hS.F ht⟩) hS.2.2 dX4_giveBack_124
    · skip
      rw [if_neg c_21] at hf
      refine lv_aload_n hx hb dX4_giveBack_61 rfl (lv_at hl 3 rfl) ?_
      obtain ⟨k_39, ek_39, hf⟩ := lnk_some hf
      refine va_get (D := (dC, dI)) (ci := 4) (v := .ref (a k_39)) (C := RX4) (T := TX4) (N := 18) hx hb hts iwd_X4_giveBack_X4 hown hK hP h0 (Wd_ob kg_1 sg_1 (by decide)) rfl 10 (by decide) (hts _ md_X4_giveBack_7) (fun _ h9 => h9) (fl_q rfl ek_39) dX4_giveBack_62 ?_
      refine lv_aload_n hx hb dX4_giveBack_65 rfl (lv_at hl 3 rfl) ?_
      refine va_get (D := (dC, dI)) (ci := 4) (v := .int (z_18.1 h0 12)) (C := RX4) (T := TX4) (N := 18) hx hb hts iwd_X4_giveBack_X4 hown hK hP h0 (Wd_ob kg_1 sg_1 (by decide)) rfl 12 (by decide) (hts _ md_X4_giveBack_2) (fun _ h9 => h9) (fl_at (t := 0) rfl) dX4_giveBack_66 ?_
      refine lv_bipush (v := 40) hx hb dX4_giveBack_69 (by decide) ?_
      refine lv_imul hx hb dX4_giveBack_71 ?_
      refine lv_iload_n hx hb dX4_giveBack_72 rfl (lv_at hl 0 rfl) ?_
      refine lv_iadd hx hb dX4_giveBack_73 ?_
      obtain ⟨g_40, hf⟩ := grd_some hf
      obtain ⟨kg_40, sg_40, ig_40⟩ := okA_at g_40
      refine va_iald hx hb hK hP k_39 1 (Wd_ai kg_40 sg_40) rfl ig_40 dX4_giveBack_74 ?_
      refine de_cut (h := 106) (fun (x : St) => []) (fun x ls H locs => lv_has ls 6 [(3, .int p_15), (2, .int v_7), (1, .ref (a k_4)), (0, .ref (a h0))] ∧ va_P (dC, dI) vwCl (Wd cy a sh n x) H ∧ va_D A (Wd cy a sh n x) ∧ va_S A s.heap H locs) (fun x => fn_X4_giveBack_B106 F sh n p_15 (fun z9 q3 => fn_X4_giveBack_L52 F sh n k_4 v_7 h0 f_17 z9 q3) x) (z8, r8) ?_ (fun B106 => ?_)
      · intro x ls H locs hI hf
        obtain ⟨z_41, ez⟩ : ∃ w, w = x := ⟨_, rfl⟩
        subst ez
        obtain ⟨hl2, hP2, hD2, hS2⟩ := hI
        replace hl : lv_has ls 6 [(3, .int p_15), (2, .int v_7), (1, .ref (a k_4)), (0, .ref (a h0))] := hl2
        replace hP := hP2
        replace hD := hD2
        replace hS := hS2
        clear hl2 hP2 hD2 hS2
        replace hf := fn_X4_giveBack_B106_s hf
        refine W.eq (g2 := F0 m 106 ls []) rfl ?_
        refine lv_iinc (v := (p_15 + 1)) (lv' := [(3, .int (p_15 + 1)), (2, .int v_7), (1, .ref (a k_4)), (0, .ref (a h0))]) hx hb dX4_giveBack_106 hl (k := 0) rfl rfl (by decide) rfl (fun ls hl2 => ?_)
        replace hl := hl2
        clear hl2
        refine lv_goto (tgt := 52) hx hb dX4_giveBack_109 (by decide) ?_
        exact ih52 (z_41, (p_15 + 1)) ls H locs ⟨lv_sub hl [0, 1, 2, 3] rfl, hP, hD, hS⟩ hf
      refine lv_if_eq (tgt := 106) hx hb dX4_giveBack_75 (by decide) (fun c_42 => ?_) (fun c_42 => ?_)
      · skip
        rw [if_pos c_42] at hf
        exact B106 (z_18) ls H_20 locs ⟨lv_sub hl [0, 1, 2, 3] rfl, hP, hD, hS⟩ hf
      · skip
        rw [if_neg c_42] at hf
        refine lv_aload_n hx hb dX4_giveBack_78 rfl (lv_at hl 2 rfl) ?_
        refine lv_aload_n hx hb dX4_giveBack_79 rfl (lv_at hl 2 rfl) ?_
        refine lv_iload_n hx hb dX4_giveBack_80 rfl (lv_at hl 1 rfl) ?_
        refine lv_iload_n hx hb dX4_giveBack_81 rfl (lv_at hl 0 rfl) ?_
        obtain ⟨z_43, r_44, hfc, hf⟩ := cal_some hf
        have hFc := de_free hD hS hA
        refine va_calll (va_runV (As := [.int v_7, .int p_15]) (rest := [.ref (a k_4)]) ⟨hx, hb, hml, hown, hts⟩ (de_X5_localType l dC dI cy a sh n H_20.size F z_18 k_4 v_7 p_15 hfc) (cwV 2 hts gX4_giveBack_X5_localType rfl rfl rfl (by decide +kernel) ⟨Nat.le_of_ble_eq_true rfl, Nat.le_of_ble_eq_true rfl⟩) ⟨fun a U g mk q => by obtain ⟨q0, q1, qP, qK, qD, qN⟩ := q; exact ⟨q0, q1, qP, va_K.moved (u := U) (U := U.calling g mk a) (Vm.Alike.refl U.vm) qK, qD, qN.same rfl⟩, va_recv hK hP (ci := 5) (q0 := k_4) rfl (Wd_ob kg_12 sg_12 (by decide)), fun U hU hW => ⟨rfl, by rw [hU], by rw [hU]; exact hP, va_K.moved hW.alike hK, hD.weaken (fun _ _ _ _ => trivial), hN.warm hW⟩⟩ rfl rfl hl.1 rfl (lv_room (Nat.le_of_ble_eq_true rfl)) dX4_giveBack_82 ⟨Nat.le_of_ble_eq_true rfl, Nat.le_of_ble_eq_true rfl⟩) hS (fun q _ h => hFc q h) hFc (fun rr u t H_45 locs ht hvm hw hB hz1 hk1 hS2 => ?_)
        rw [hw]
        clear hw
        obtain ⟨hP1, -, hD1⟩ := hB
        rw [ht] at hP1
        replace hD := hD1.weaken (fun _ _ _ h => hFc _ h)
        replace hP := hP1
        replace hS := hS2
        clear hP1 hD1 hS2 hFc hfc hz1 hk1 hvm ht
        obtain ⟨z_46, r_47, hfc, hf⟩ := cal_some hf
        have hFc := de_free hD hS hA
        refine va_calli (va_runV (As := [.long r_44]) (rest := []) ⟨hx, hb, hml, hown, hts⟩ (de_X5_abilities l dC dI cy a sh n H_45.size F z_43 k_4 r_44 hfc) (cwV 1 hts gX4_giveBack_X5_abilities rfl rfl rfl (by decide +kernel) ⟨Nat.le_of_ble_eq_true rfl, Nat.le_of_ble_eq_true rfl⟩) ⟨fun a U g mk q => by obtain ⟨q0, q1, qP, qK, qD, qN⟩ := q; exact ⟨q0, q1, qP, va_K.moved (u := U) (U := U.calling g mk a) (Vm.Alike.refl U.vm) qK, qD, qN.same rfl⟩, va_recv hK hP (ci := 5) (q0 := k_4) rfl (Wd_ob kg_12 sg_12 (by decide)), fun U hU hW => ⟨rfl, by rw [hU], by rw [hU]; exact hP, va_K.moved hW.alike hK, hD.weaken (fun _ _ _ _ => trivial), hN.warm hW⟩⟩ rfl rfl hl.1 rfl (lv_room (Nat.le_of_ble_eq_true rfl)) dX4_giveBack_85 ⟨Nat.le_of_ble_eq_true rfl, Nat.le_of_ble_eq_true rfl⟩) hS (fun q _ h => hFc q h) hFc (fun rr u t H_48 locs ht hvm hw hB hz1 hk1 hS2 => ?_)
        rw [hw]
        clear hw
        obtain ⟨hP1, -, hD1⟩ := hB
        rw [ht] at hP1
        replace hD := hD1.weaken (fun _ _ _ h => hFc _ h)
        replace hP := hP1
        replace hS := hS2
        clear hP1 hD1 hS2 hFc hfc hz1 hk1 hvm ht
        refine lv_iconst (v := 2) hx hb dX4_giveBack_88 (by decide) ?_
        refine lv_iand hx hb dX4_giveBack_89 ?_
        refine lv_if_ne (tgt := 106) hx hb dX4_giveBack_90 (by decide) (fun c_49 => ?_) (fun c_49 => ?_)
        · skip
          rw [if_neg c_49] at hf
          exact B106 (z_46) ls H_48 locs ⟨lv_sub hl [0, 1, 2, 3] rfl, hP, hD, hS⟩ hf
        · skip
          rw [if_pos c_49] at hf
          refine lv_aload_n hx hb dX4_giveBack_93 rfl (lv_at hl 3 rfl) ?_
          obtain ⟨k_50, ek_50, hf⟩ := lnk_some hf
          refine va_get (D := (dC, dI)) (ci := 4) (v := .ref (a k_50)) (C := RX4) (T := TX4) (N := 18) hx hb hts iwd_X4_giveBack_X4 hown hK hP h0 (Wd_ob kg_1 sg_1 (by decide)) rfl 1 (by decide) (hts _ md_X4_giveBack_5) (fun _ h9 => h9) (fl_q rfl ek_50) dX4_giveBack_94 ?_
          refine lv_dup hx hb dX4_giveBack_97 rfl ?_
          obtain ⟨g_51, hf⟩ := grd_some hf
          obtain ⟨kg_51, sg_51⟩ := okO_at g_51
          refine va_get (D := (dC, dI)) (ci := 1) (v := .int (z_46.1 k_50 6)) (C := RX1) (T := TX1) (N := 7) hx hb hts iwd_X4_giveBack_X1 hown hK hP k_50 (Wd_ob kg_51 sg_51 (by decide)) rfl 6 (by decide) (hts _ md_X4_giveBack_6) (fun _ h9 => h9) (fl_at (t := 0) rfl) dX4_giveBack_98 ?_
          refine lv_iconst (v := 1) hx hb dX4_giveBack_101 (by decide) ?_
          refine lv_iadd hx hb dX4_giveBack_102 ?_
          refine va_put (D := (dC, dI)) (ci := 1) (v := .int ((z_46.1 k_50 6) + 1)) (ty := .int) (C := RX1) (T := TX1) (N := 7) hx hb hts iwd_X4_giveBack_X1 tyX1 tyX1_ok nmX1 hown hK hP hD hS k_50 (Wd_ob kg_51 sg_51 (by decide)) rfl 6 (by decide) (hts _ md_X4_giveBack_6) (fun _ h9 => h9) rfl (by decide +kernel) rfl rfl (by rw [fl_len]; decide) dX4_giveBack_103 (fun H_52 locs hP2 hD2 hS2 => ?_)
          rw [Wd_si sg_51 (by decide) rfl] at hP2 hD2
          obtain ⟨z_53, ez_53⟩ : ∃ w, w = si z_46 k_50 6 ((z_46.1 k_50 6) + 1) := ⟨_, rfl⟩
          rw [← ez_53] at hP2 hD2
          replace hf := lt_at ez_53 hf
          clear ez_53
          replace hP := hP2
          replace hD := hD2
          replace hS := hS2
          clear hP2 hD2 hS2
          exact B106 (z_53) ls H_52 locs ⟨lv_sub hl [0, 1, 2, 3] rfl, hP, hD, hS⟩ hf
  refine lv_icmp_eq (tgt := 50) hx hb dX4_giveBack_34 (by decide) (fun c_54 => ?_) (fun c_54 => ?_)
  · skip
    rw [if_pos c_54] at hf
    exact B50 (z_10) ls H_13 locs ⟨lv_sub hl [0, 1, 2] rfl, hP, hD, hS⟩ hf
  · skip
    rw [if_neg c_54] at hf
    refine lv_aload_n hx hb dX4_giveBack_37 rfl (lv_at hl 2 rfl) ?_
    obtain ⟨k_55, ek_55, hf⟩ := lnk_some hf
    refine va_get (D := (dC, dI)) (ci := 4) (v := .ref (a k_55)) (C := RX4) (T := TX4) (N := 18) hx hb hts iwd_X4_giveBack_X4 hown hK hP h0 (Wd_ob kg_1 sg_1 (by decide)) rfl 1 (by decide) (hts _ md_X4_giveBack_5) (fun _ h9 => h9) (fl_q rfl ek_55) dX4_giveBack_38 ?_
    refine lv_dup hx hb dX4_giveBack_41 rfl ?_
    obtain ⟨g_56, hf⟩ := grd_some hf
    obtain ⟨kg_56, sg_56⟩ := okO_at g_56
    refine va_get (D := (dC, dI)) (ci := 1) (v := .int (z_10.1 k_55 6)) (C := RX1) (T := TX1) (N := 7) hx hb hts iwd_X4_giveBack_X1 hown hK hP k_55 (Wd_ob kg_56 sg_56 (by decide)) rfl 6 (by decide) (hts _ md_X4_giveBack_6) (fun _ h9 => h9) (fl_at (t := 0) rfl) dX4_giveBack_42 ?_
    refine lv_iconst (v := 1) hx hb dX4_giveBack_45 (by decide) ?_
    refine lv_iadd hx hb dX4_giveBack_46 ?_
    refine va_put (D := (dC, dI)) (ci := 1) (v := .int ((z_10.1 k_55 6) + 1)) (ty := .int) (C := RX1) (T := TX1) (N := 7) hx hb hts iwd_X4_giveBack_X1 tyX1 tyX1_ok nmX1 hown hK hP hD hS k_55 (Wd_ob kg_56 sg_56 (by decide)) rfl 6 (by decide) (hts _ md_X4_giveBack_6) (fun _ h9 => h9) rfl (by decide +kernel) rfl rfl (by rw [fl_len]; decide) dX4_giveBack_47 (fun H_57 locs hP2 hD2 hS2 => ?_)
    rw [Wd_si sg_56 (by decide) rfl] at hP2 hD2
    obtain ⟨z_58, ez_58⟩ : ∃ w, w = si z_10 k_55 6 ((z_10.1 k_55 6) + 1) := ⟨_, rfl⟩
    rw [← ez_58] at hP2 hD2
    replace hf := lt_at ez_58 hf
    clear ez_58
    replace hP := hP2
    replace hD := hD2
    replace hS := hS2
    clear hP2 hD2 hS2
    exact B50 (z_58) ls H_57 locs ⟨lv_sub hl [0, 1, 2] rfl, hP, hD, hS⟩ hf

theorem md_X3_reckon_1 : (.constantLong RX3 190 (2) : Cond) ∈ wsX3_reckon := List.mem_of_getElem? (i := 1) rfl
set_option maxHeartbeats 4000000 in
set_option maxRecDepth 100000 in
theorem de_X3_reckon (l : Launch) (dC : Nat → ClassId) (dI : Nat → Nat → Nat) (cy : Nat → ClassId) (a : Nat → Nat) (sh : Nat → Nat × Nat) (n sz : Nat) (F : Nat) (z : St) (h0 : Nat) (x0 : Int32) {z8 : St} {r8 : Unit} (hf : fn_X3_reckon F sh n z h0 x0 = some (z8, r8)) : Met l yX3_reckon wsX3_reckon ({ frames := 3, cells := 0, slots := 0, locals := 69 }) (va_Pc [.ref (a h0), .int x0] (fun U => U.heap.size = sz ∧ va_P (dC, dI) vwCl (Wd cy a sh n z) U.heap ∧ va_K (dC, dI) vwCl (TYS cy) U ∧ va_D (fun _ => True) (Wd cy a sh n z) ∧ NK U)) (va_Qv (fun u : Unit => True) (fun u t => va_P (dC, dI) vwCl (Wd cy a sh n z8) t.heap ∧ va_K (dC, dI) vwCl (TYS cy) t ∧ va_D (va_A (Wd cy a sh n z) sz) (Wd cy a sh n z8)) (va_A (Wd cy a sh n z) sz)) 0 0 (va_A (Wd cy a sh n z) sz) := by
  refine Met.ofW (cc := cX3_reckon) (maxL := 5) (ret := none) (by decide) rfl ?_
  intro p e s m args below meth c s₁ B hml hv
  obtain ⟨rfl, hsz, hP, hK, hD0, hN⟩ := hv
  have hx := B.exec
  have hb := B.bytes
  have hr := B.returns
  have hts := atoms_spec (ws := wsX3_reckon) B.pre
  have hown : s.vm.findClass RX3 = some m.cls := findClass_of_methodNamed B.named
  have hlocks := B.notSynchronized
  subst hsz
  have hD := hD0.self (sz := s.heap.size)
  clear hD0
  generalize hAe : va_A (Wd cy a sh n z) s.heap.size = A at hD ⊢
  have hA : ∀ q : Nat, s.heap.size ≤ q → A q := fun q h => by rw [← hAe]; exact Or.inr h
  clear hAe
  have hS : va_S A s.heap s.heap [] := va_S.rf
  have hl := lv_entry ([.ref (a h0), .int x0]) (n := 5) (Nat.le_of_ble_eq_true rfl)
  rw [lg_entry_eq]
  generalize (lg_sl ([.ref (a h0), .int x0]) ++ List.replicate (5 - (lg_sl ([.ref (a h0), .int x0])).length) Slot.unset).toArray = ls at hl ⊢
  replace hl : lv_has ls 5 [(0, .ref (a h0)), (1, .int x0)] := hl
  unfold fn_X3_reckon at hf
  refine de_start hS hP (fun H locs hS hP => ?_)
  refine lv_iload_n hx hb dX3_reckon_0 rfl (lv_at hl 1 rfl) ?_
  refine lv_bipush (v := 32) hx hb dX3_reckon_1 (by decide) ?_
  refine de_cut (h := 19) (fun (x : St) => []) (fun x ls H locs => lv_has ls 5 [(0, .ref (a h0)), (1, .int x0)] ∧ va_P (dC, dI) vwCl (Wd cy a sh n x) H ∧ va_D A (Wd cy a sh n x) ∧ va_S A s.heap H locs) (fun x => fn_X3_reckon_B19 F sh n h0 x0 x) (z8, r8) ?_ (fun B19 => ?_)
  · intro x ls H locs hI hf
    obtain ⟨z_1, ez⟩ : ∃ w, w = x := ⟨_, rfl⟩
    subst ez
    obtain ⟨hl2, hP2, hD2, hS2⟩ := hI
    replace hl : lv_has ls 5 [(0, .ref (a h0)), (1, .int x0)] := hl2
    replace hP := hP2
    replace hD := hD2
    replace hS := hS2
    clear hl2 hP2 hD2 hS2
    replace hf := fn_X3_reckon_B19_s hf
    refine W.eq (g2 := F0 m 19 ls []) rfl ?_
    refine lv_aload_n hx hb dX3_reckon_19 rfl (lv_at hl 0 rfl) ?_
    obtain ⟨g_4, hf⟩ := grd_some hf
    obtain ⟨kg_4, sg_4⟩ := okO_at g_4
    obtain ⟨z_2, r_3, hfc, hf⟩ := cal_some hf
    have hFc := de_free hD hS hA
    refine va_calll (va_runV (As := []) (rest := []) ⟨hx, hb, hml, hown, hts⟩ (de_X3_take l dC dI cy a sh n H.size F z_1 h0 hfc) (cwV 0 hts gX3_reckon_X3_take rfl rfl rfl (by decide +kernel) ⟨Nat.le_of_ble_eq_true rfl, Nat.le_of_ble_eq_true rfl⟩) ⟨fun a U g mk q => by obtain ⟨q0, q1, qP, qK, qD, qN⟩ := q; exact ⟨q0, q1, qP, va_K.moved (u := U) (U := U.calling g mk a) (Vm.Alike.refl U.vm) qK, qD, qN.same rfl⟩, va_recv hK hP (ci := 3) (q0 := h0) rfl (Wd_ob kg_4 sg_4 (by decide)), fun U hU hW => ⟨rfl, by rw [hU], by rw [hU]; exact hP, va_K.moved hW.alike hK, hD.weaken (fun _ _ _ _ => trivial), hN.warm hW⟩⟩ rfl rfl hl.1 rfl (lv_room (Nat.le_of_ble_eq_true rfl)) dX3_reckon_20 ⟨Nat.le_of_ble_eq_true rfl, Nat.le_of_ble_eq_true rfl⟩) hS (fun q _ h => hFc q h) hFc (fun rr u t H_5 locs ht hvm hw hB hz1 hk1 hS2 => ?_)
    rw [hw]
    clear hw
    obtain ⟨hP1, -, hD1⟩ := hB
    rw [ht] at hP1
    replace hD := hD1.weaken (fun _ _ _ h => hFc _ h)
    replace hP := hP1
    replace hS := hS2
    clear hP1 hD1 hS2 hFc hfc hz1 hk1 hvm ht
    refine lv_lstore_n (lv' := [(2, .long r_3), (0, .ref (a h0)), (1, .int x0)]) hx hb dX3_reckon_23 rfl hl (by decide) rfl (fun ls hl2 => ?_)
    replace hl := hl2
    clear hl2
    refine lv_lload_n hx hb dX3_reckon_24 rfl (lv_at hl 0 rfl) ?_
    obtain ⟨z_6, r_7, hfc, hf⟩ := cal_some hf
    have hFc := de_free hD hS hA
    refine va_calli (va_runS (As := [.long r_3]) (rest := []) ⟨hx, hb, hml, hown, hts⟩ (de_X3_isNumber l dC dI cy a sh n H_5.size F z_2 r_3 hfc) (va_cwS 1 hts gX3_reckon_X3_isNumber rfl rfl rfl (by decide +kernel) ⟨Nat.le_of_ble_eq_true rfl, Nat.le_of_ble_eq_true rfl⟩) ⟨fun a U g mk q => by obtain ⟨q0, q1, qP, qK, qD, qN⟩ := q; exact ⟨q0, q1, qP, va_K.moved (u := U) (U := U.calling g mk a) (Vm.Alike.refl U.vm) qK, qD, qN.same rfl⟩, fun U hU hW => ⟨rfl, by rw [hU], by rw [hU]; exact hP, va_K.moved hW.alike hK, hD.weaken (fun _ _ _ _ => trivial), hN.warm hW⟩⟩ rfl rfl hl.1 rfl (lv_room (Nat.le_of_ble_eq_true rfl)) dX3_reckon_25 ⟨Nat.le_of_ble_eq_true rfl, Nat.le_of_ble_eq_true rfl⟩) hS (fun q _ h => hFc q h) hFc (fun rr u t H_8 locs ht hvm hw hB hz1 hk1 hS2 => ?_)
    rw [hw]
    clear hw
    obtain ⟨hP1, -, hD1⟩ := hB
    rw [ht] at hP1
    replace hD := hD1.weaken (fun _ _ _ h => hFc _ h)
    replace hP := hP1
    replace hS := hS2
    clear hP1 hD1 hS2 hFc hfc hz1 hk1 hvm ht
    refine lv_istore (lv' := [(4, .int r_7), (2, .long r_3), (0, .ref (a h0)), (1, .int x0)]) hx hb dX3_reckon_28 hl (by decide) rfl (fun ls hl2 => ?_)
    replace hl := hl2
    clear hl2
    refine lv_iload_n hx hb dX3_reckon_30 rfl (lv_at hl 3 rfl) ?_
    refine lv_bipush (v := 29) hx hb dX3_reckon_31 (by decide) ?_
    refine de_cut (h := 111) (fun (x : St × Int32) => []) (fun x ls H locs => lv_has ls 5 [(4, .int x.2), (2, .long r_3), (0, .ref (a h0)), (1, .int x0)] ∧ va_P (dC, dI) vwCl (Wd cy a sh n x.1) H ∧ va_D A (Wd cy a sh n x.1) ∧ va_S A s.heap H locs) (fun x => fn_X3_reckon_B111 F sh n h0 x0 r_3 x.1 x.2) (z8, r8) ?_ (fun B111 => ?_)
    · intro x ls H locs hI hf
      obtain ⟨z_10, p_9⟩ := x
      obtain ⟨hl2, hP2, hD2, hS2⟩ := hI
      replace hl : lv_has ls 5 [(4, .int p_9), (2, .long r_3), (0, .ref (a h0)), (1, .int x0)] := hl2
      replace hP := hP2
      replace hD := hD2
      replace hS := hS2
      clear hl2 hP2 hD2 hS2
      replace hf := fn_X3_reckon_B111_s hf
      refine W.eq (g2 := F0 m 111 ls []) rfl ?_
      refine lv_iload hx hb dX3_reckon_111 (lv_at hl 0 rfl) ?_
      refine de_cut (h := 121) (fun (x : St) => []) (fun x ls H locs => lv_has ls 5 [(2, .long r_3), (0, .ref (a h0)), (1, .int x0)] ∧ va_P (dC, dI) vwCl (Wd cy a sh n x) H ∧ va_D A (Wd cy a sh n x) ∧ va_S A s.heap H locs) (fun x => fn_X3_reckon_B121 F sh n x0 h0 r_3 x) (z8, r8) ?_ (fun B121 => ?_)
      · intro x ls H locs hI hf
        obtain ⟨z_11, ez⟩ : ∃ w, w = x := ⟨_, rfl⟩
        subst ez
        obtain ⟨hl2, hP2, hD2, hS2⟩ := hI
        replace hl : lv_has ls 5 [(2, .long r_3), (0, .ref (a h0)), (1, .int x0)] := hl2
        replace hP := hP2
        replace hD := hD2
        replace hS := hS2
        clear hl2 hP2 hD2 hS2
        replace hf := fn_X3_reckon_B121_s hf
        refine W.eq (g2 := F0 m 121 ls []) rfl ?_
        refine lv_iload_n hx hb dX3_reckon_121 rfl (lv_at hl 2 rfl) ?_
        refine lv_bipush (v := 31) hx hb dX3_reckon_122 (by decide) ?_
        refine de_cut (h := 144) (fun (x : St) => []) (fun x ls H locs => lv_has ls 5 [(2, .long r_3), (0, .ref (a h0)), (1, .int x0)] ∧ va_P (dC, dI) vwCl (Wd cy a sh n x) H ∧ va_D A (Wd cy a sh n x) ∧ va_S A s.heap H locs) (fun x => fn_X3_reckon_B144 F sh n x0 h0 r_3 x) (z8, r8) ?_ (fun B144 => ?_)
        · intro x ls H locs hI hf
          obtain ⟨z_12, ez⟩ : ∃ w, w = x := ⟨_, rfl⟩
          subst ez
          obtain ⟨hl2, hP2, hD2, hS2⟩ := hI
          replace hl : lv_has ls 5 [(2, .long r_3), (0, .ref (a h0)), (1, .int x0)] := hl2
          replace hP := hP2
          replace hD := hD2
          replace hS := hS2
          clear hl2 hP2 hD2 hS2
          replace hf := fn_X3_reckon_B144_s hf
          refine W.eq (g2 := F0 m 144 ls []) rfl ?_
          refine lv_iload_n hx hb dX3_reckon_144 rfl (lv_at hl 2 rfl) ?_
          refine lv_bipush (v := 36) hx hb dX3_reckon_145 (by decide) ?_
          refine de_cut (h := 170) (fun (x : St) => []) (fun x ls H locs => lv_has ls 5 [(2, .long r_3), (0, .ref (a h0)), (1, .int x0)] ∧ va_P (dC, dI) vwCl (Wd cy a sh n x) H ∧ va_D A (Wd cy a sh n x) ∧ va_S A s.heap H locs) (fun x => fn_X3_reckon_B170 F sh n x0 h0 r_3 x) (z8, r8) ?_ (fun B170 => ?_)
          · intro x ls H locs hI hf
            obtain ⟨z_13, ez⟩ : ∃ w, w = x := ⟨_, rfl⟩
            subst ez
            obtain ⟨hl2, hP2, hD2, hS2⟩ := hI
            replace hl : lv_has ls 5 [(2, .long r_3), (0, .ref (a h0)), (1, .int x0)] := hl2
            replace hP := hP2
            replace hD := hD2
            replace hS := hS2
            clear hl2 hP2 hD2 hS2
            replace hf := fn_X3_reckon_B170_s hf
            refine W.eq (g2 := F0 m 170 ls []) rfl ?_
            refine lv_iload_n hx hb dX3_reckon_170 rfl (lv_at hl 2 rfl) ?_
            refine lv_bipush (v := 42) hx hb dX3_reckon_171 (by decide) ?_
            refine lv_icmp_lt (tgt := 188) hx hb dX3_reckon_173 (by decide) (fun c_14 => ?_) (fun c_14 => ?_)
            · skip
              rw [if_pos c_14] at hf
              refine lv_aload_n hx hb dX3_reckon_188 rfl (lv_at hl 1 rfl) ?_
              refine lv_iload_n hx hb dX3_reckon_189 rfl (lv_at hl 2 rfl) ?_
              refine lv_bipush (v := 33) hx hb dX3_reckon_190 (by decide) ?_
              refine lv_icmp_gt (tgt := 199) hx hb dX3_reckon_192 (by decide) (fun c_15 => ?_) (fun c_15 => ?_)
              · skip
                rw [if_pos c_15] at hf
                refine lv_lconst (v := 1) hx hb dX3_reckon_199 (by decide) ?_
                obtain ⟨z_16, _u, hfc, hf⟩ := cal_some hf
                have hFc := de_free hD hS hA
                refine va_callv (va_runV (As := [.long 1]) (rest := []) ⟨hx, hb, hml, hown, hts⟩ (de_X3_put l dC dI cy a sh n H.size F z_13 h0 1 hfc) (cwV 1 hts gX3_reckon_X3_put rfl rfl rfl (by decide +kernel) ⟨Nat.le_of_ble_eq_true rfl, Nat.le_of_ble_eq_true rfl⟩) ⟨fun a U g mk q => by obtain ⟨q0, q1, qP, qK, qD, qN⟩ := q; exact ⟨q0, q1, qP, va_K.moved (u := U) (U := U.calling g mk a) (Vm.Alike.refl U.vm) qK, qD, qN.same rfl⟩, va_recv hK hP (ci := 3) (q0 := h0) rfl (Wd_ob kg_4 sg_4 (by decide)), fun U hU hW => ⟨rfl, by rw [hU], by rw [hU]; exact hP, va_K.moved hW.alike hK, hD.weaken (fun _ _ _ _ => trivial), hN.warm hW⟩⟩ rfl rfl hl.1 rfl (lv_room (Nat.le_of_ble_eq_true rfl)) dX3_reckon_200 ⟨Nat.le_of_ble_eq_true rfl, Nat.le_of_ble_eq_true rfl⟩) hS (fun q _ h => hFc q h) hFc (fun u t H_17 locs ht hvm hw hB hz1 hk1 hS2 => ?_)
                obtain ⟨hP1, -, hD1⟩ := hB
                rw [ht] at hP1
                replace hD := hD1.weaken (fun _ _ _ h => hFc _ h)
                replace hP := hP1
                replace hS := hS2
                clear hP1 hD1 hS2 hFc hfc hz1 hk1 hvm ht
                obtain ⟨h8, h9⟩ := ret_some hf
                rw [h8]
                exact W.vret hx hb hr (fun t ht hW => ⟨⟨(), rfl, trivial, by rw [ht]; exact hP, va_K.moved hW.alike hK, hD⟩, hS.F ht⟩) hS.2.2 dX3_reckon_203
              · skip
                rw [if_neg c_15] at hf
                refine lv_lload_n hx hb dX3_reckon_195 rfl (lv_at hl 0 rfl) ?_
                refine lv_goto (tgt := 200) hx hb dX3_reckon_196 (by decide) ?_
                obtain ⟨z_18, _u, hfc, hf⟩ := cal_some hf
                have hFc := de_free hD hS hA
                refine va_callv (va_runV (As := [.long r_3]) (rest := []) ⟨hx, hb, hml, hown, hts⟩ (de_X3_put l dC dI cy a sh n H.size F z_13 h0 r_3 hfc) (cwV 1 hts gX3_reckon_X3_put rfl rfl rfl (by decide +kernel) ⟨Nat.le_of_ble_eq_true rfl, Nat.le_of_ble_eq_true rfl⟩) ⟨fun a U g mk q => by obtain ⟨q0, q1, qP, qK, qD, qN⟩ := q; exact ⟨q0, q1, qP, va_K.moved (u := U) (U := U.calling g mk a) (Vm.Alike.refl U.vm) qK, qD, qN.same rfl⟩, va_recv hK hP (ci := 3) (q0 := h0) rfl (Wd_ob kg_4 sg_4 (by decide)), fun U hU hW => ⟨rfl, by rw [hU], by rw [hU]; exact hP, va_K.moved hW.alike hK, hD.weaken (fun _ _ _ _ => trivial), hN.warm hW⟩⟩ rfl rfl hl.1 rfl (lv_room (Nat.le_of_ble_eq_true rfl)) dX3_reckon_200 ⟨Nat.le_of_ble_eq_true rfl, Nat.le_of_ble_eq_true rfl⟩) hS (fun q _ h => hFc q h) hFc (fun u t H_19 locs ht hvm hw hB hz1 hk1 hS2 => ?_)
                obtain ⟨hP1, -, hD1⟩ := hB
                rw [ht] at hP1
                replace hD := hD1.weaken (fun _ _ _ h => hFc _ h)
                replace hP := hP1
                replace hS := hS2
                clear hP1 hD1 hS2 hFc hfc hz1 hk1 hvm ht
                obtain ⟨h8, h9⟩ := ret_some hf
                rw [h8]
                exact W.vret hx hb hr (fun t ht hW => ⟨⟨(), rfl, trivial, by rw [ht]; exact hP, va_K.moved hW.alike hK, hD⟩, hS.F ht⟩) hS.2.2 dX3_reckon_203
            · skip
              rw [if_neg c_14] at hf
              refine lv_aload_n hx hb dX3_reckon_176 rfl (lv_at hl 1 rfl) ?_
              refine lv_iload_n hx hb dX3_reckon_177 rfl (lv_at hl 2 rfl) ?_
              refine lv_bipush (v := 40) hx hb dX3_reckon_178 (by decide) ?_
              refine lv_isub hx hb dX3_reckon_180 ?_
              refine lv_i2l (v := ((x0 - 40) : Int32).toInt64) hx hb dX3_reckon_181 rfl ?_
              obtain ⟨z_20, _u, hfc, hf⟩ := cal_some hf
              have hFc := de_free hD hS hA
              refine va_callv (va_runV (As := [.long (((x0 - 40) : Int32).toInt64)]) (rest := []) ⟨hx, hb, hml, hown, hts⟩ (de_X3_put l dC dI cy a sh n H.size F z_13 h0 (((x0 - 40) : Int32).toInt64) hfc) (cwV 1 hts gX3_reckon_X3_put rfl rfl rfl (by decide +kernel) ⟨Nat.le_of_ble_eq_true rfl, Nat.le_of_ble_eq_true rfl⟩) ⟨fun a U g mk q => by obtain ⟨q0, q1, qP, qK, qD, qN⟩ := q; exact ⟨q0, q1, qP, va_K.moved (u := U) (U := U.calling g mk a) (Vm.Alike.refl U.vm) qK, qD, qN.same rfl⟩, va_recv hK hP (ci := 3) (q0 := h0) rfl (Wd_ob kg_4 sg_4 (by decide)), fun U hU hW => ⟨rfl, by rw [hU], by rw [hU]; exact hP, va_K.moved hW.alike hK, hD.weaken (fun _ _ _ _ => trivial), hN.warm hW⟩⟩ rfl rfl hl.1 rfl (lv_room (Nat.le_of_ble_eq_true rfl)) dX3_reckon_182 ⟨Nat.le_of_ble_eq_true rfl, Nat.le_of_ble_eq_true rfl⟩) hS (fun q _ h => hFc q h) hFc (fun u t H_21 locs ht hvm hw hB hz1 hk1 hS2 => ?_)
              obtain ⟨hP1, -, hD1⟩ := hB
              rw [ht] at hP1
              replace hD := hD1.weaken (fun _ _ _ h => hFc _ h)
              replace hP := hP1
              replace hS := hS2
              clear hP1 hD1 hS2 hFc hfc hz1 hk1 hvm ht
              refine lv_goto (tgt := 203) hx hb dX3_reckon_185 (by decide) ?_
              obtain ⟨h8, h9⟩ := ret_some hf
              rw [h8]
              exact W.vret hx hb hr (fun t ht hW => ⟨⟨(), rfl, trivial, by rw [ht]; exact hP, va_K.moved hW.alike hK, hD⟩, hS.F ht⟩) hS.2.2 dX3_reckon_203
          refine de_cut (h := 156) (fun (x : St) => []) (fun x ls H locs => lv_has ls 5 [(2, .long r_3), (0, .ref (a h0)), (1, .int x0)] ∧ va_P (dC, dI) vwCl (Wd cy a sh n x) H ∧ va_D A (Wd cy a sh n x) ∧ va_S A s.heap H locs) (fun x => fn_X3_reckon_B156 F sh n h0 r_3 x0 x) (z8, r8) ?_ (fun B156 => ?_)
          · intro x ls H locs hI hf
            obtain ⟨z_22, ez⟩ : ∃ w, w = x := ⟨_, rfl⟩
            subst ez
            obtain ⟨hl2, hP2, hD2, hS2⟩ := hI
            replace hl : lv_has ls 5 [(2, .long r_3), (0, .ref (a h0)), (1, .int x0)] := hl2
            replace hP := hP2
            replace hD := hD2
            replace hS := hS2
            clear hl2 hP2 hD2 hS2
            replace hf := fn_X3_reckon_B156_s hf
            refine W.eq (g2 := F0 m 156 ls []) rfl ?_
            refine lv_aload_n hx hb dX3_reckon_156 rfl (lv_at hl 1 rfl) ?_
            refine lv_lload_n hx hb dX3_reckon_157 rfl (lv_at hl 0 rfl) ?_
            refine lv_iconst (v := 2) hx hb dX3_reckon_158 (by decide) ?_
            obtain ⟨z_23, r_24, hfc, hf⟩ := cal_some hf
            have hFc := de_free hD hS hA
            refine va_calli (va_runV (As := [.long r_3, .int 2]) (rest := []) ⟨hx, hb, hml, hown, hts⟩ (de_X3_has l dC dI cy a sh n H.size F z_22 h0 r_3 2 hfc) (cwV 2 hts gX3_reckon_X3_has rfl rfl rfl (by decide +kernel) ⟨Nat.le_of_ble_eq_true rfl, Nat.le_of_ble_eq_true rfl⟩) ⟨fun a U g mk q => by obtain ⟨q0, q1, qP, qK, qD, qN⟩ := q; exact ⟨q0, q1, qP, va_K.moved (u := U) (U := U.calling g mk a) (Vm.Alike.refl U.vm) qK, qD, qN.same rfl⟩, va_recv hK hP (ci := 3) (q0 := h0) rfl (Wd_ob kg_4 sg_4 (by decide)), fun U hU hW => ⟨rfl, by rw [hU], by rw [hU]; exact hP, va_K.moved hW.alike hK, hD.weaken (fun _ _ _ _ => trivial), hN.warm hW⟩⟩ rfl rfl hl.1 rfl (lv_room (Nat.le_of_ble_eq_true rfl)) dX3_reckon_159 ⟨Nat.le_of_ble_eq_true rfl, Nat.le_of_ble_eq_true rfl⟩) hS (fun q _ h => hFc q h) hFc (fun rr u t H_25 locs ht hvm hw hB hz1 hk1 hS2 => ?_)
            rw [hw]
            clear hw
            obtain ⟨hP1, -, hD1⟩ := hB
            rw [ht] at hP1
            replace hD := hD1.weaken (fun _ _ _ h => hFc _ h)
            replace hP := hP1
            replace hS := hS2
            clear hP1 hD1 hS2 hFc hfc hz1 hk1 hvm ht
            refine lv_if_ne (tgt := 170) hx hb dX3_reckon_162 (by decide) (fun c_26 => ?_) (fun c_26 => ?_)
            · skip
              rw [if_neg c_26] at hf
              exact B170 (z_23) ls H_25 locs ⟨lv_sub hl [0, 1, 2] rfl, hP, hD, hS⟩ hf
            · skip
              rw [if_pos c_26] at hf
              refine lv_aload_n hx hb dX3_reckon_165 rfl (lv_at hl 1 rfl) ?_
              refine lv_iconst (v := 4) hx hb dX3_reckon_166 (by decide) ?_
              obtain ⟨z_27, _u, hfc, hf⟩ := cal_some hf
              have hFc := de_free hD hS hA
              refine va_callv (va_runV (As := [.int 4]) (rest := []) ⟨hx, hb, hml, hown, hts⟩ (de_X3_fail l dC dI cy a sh n H_25.size F z_23 h0 4 hfc) (cwV 1 hts gX3_reckon_X3_fail rfl rfl rfl (by decide +kernel) ⟨Nat.le_of_ble_eq_true rfl, Nat.le_of_ble_eq_true rfl⟩) ⟨fun a U g mk q => by obtain ⟨q0, q1, qP, qK, qD, qN⟩ := q; exact ⟨q0, q1, qP, va_K.moved (u := U) (U := U.calling g mk a) (Vm.Alike.refl U.vm) qK, qD, qN.same rfl⟩, va_recv hK hP (ci := 3) (q0 := h0) rfl (Wd_ob kg_4 sg_4 (by decide)), fun U hU hW => ⟨rfl, by rw [hU], by rw [hU]; exact hP, va_K.moved hW.alike hK, hD.weaken (fun _ _ _ _ => trivial), hN.warm hW⟩⟩ rfl rfl hl.1 rfl (lv_room (Nat.le_of_ble_eq_true rfl)) dX3_reckon_167 ⟨Nat.le_of_ble_eq_true rfl, Nat.le_of_ble_eq_true rfl⟩) hS (fun q _ h => hFc q h) hFc (fun u t H_28 locs ht hvm hw hB hz1 hk1 hS2 => ?_)
              obtain ⟨hP1, -, hD1⟩ := hB
              rw [ht] at hP1
              replace hD := hD1.weaken (fun _ _ _ h => hFc _ h)
              replace hP := hP1
              replace hS := hS2
              clear hP1 hD1 hS2 hFc hfc hz1 hk1 hvm ht
              exact B170 (z_27) ls H_28 locs ⟨lv_sub hl [0, 1, 2] rfl, hP, hD, hS⟩ hf
          refine lv_icmp_eq (tgt := 156) hx hb dX3_reckon_147 (by decide) (fun c_29 => ?_) (fun c_29 => ?_)
          · skip
            rw [if_pos c_29] at hf
            exact B156 (z_12) ls H locs ⟨lv_sub hl [0, 1, 2] rfl, hP, hD, hS⟩ hf
          · skip
            rw [if_neg c_29] at hf
            refine lv_iload_n hx hb dX3_reckon_150 rfl (lv_at hl 2 rfl) ?_
            refine lv_bipush (v := 37) hx hb dX3_reckon_151 (by decide) ?_
            refine lv_icmp_ne (tgt := 170) hx hb dX3_reckon_153 (by decide) (fun c_30 => ?_) (fun c_30 => ?_)
            · skip
              rw [if_neg c_30] at hf
              exact B170 (z_12) ls H locs ⟨lv_sub hl [0, 1, 2] rfl, hP, hD, hS⟩ hf
            · skip
              rw [if_pos c_30] at hf
              exact B156 (z_12) ls H locs ⟨lv_sub hl [0, 1, 2] rfl, hP, hD, hS⟩ hf
        refine de_cut (h := 139) (fun (x : St) => []) (fun x ls H locs => lv_has ls 5 [(2, .long r_3), (0, .ref (a h0)), (1, .int x0)] ∧ va_P (dC, dI) vwCl (Wd cy a sh n x) H ∧ va_D A (Wd cy a sh n x) ∧ va_S A s.heap H locs) (fun x => fn_X3_reckon_B139 F sh n h0 r_3 x0 x) (z8, r8) ?_ (fun B139 => ?_)
        · intro x ls H locs hI hf
          obtain ⟨z_31, ez⟩ : ∃ w, w = x := ⟨_, rfl⟩
          subst ez
          obtain ⟨hl2, hP2, hD2, hS2⟩ := hI
          replace hl : lv_has ls 5 [(2, .long r_3), (0, .ref (a h0)), (1, .int x0)] := hl2
          replace hP := hP2
          replace hD := hD2
          replace hS := hS2
          clear hl2 hP2 hD2 hS2
          replace hf := fn_X3_reckon_B139_s hf
          refine W.eq (g2 := F0 m 139 ls []) rfl ?_
          refine lv_aload_n hx hb dX3_reckon_139 rfl (lv_at hl 1 rfl) ?_
          refine lv_lload_n hx hb dX3_reckon_140 rfl (lv_at hl 0 rfl) ?_
          obtain ⟨z_32, _u, hfc, hf⟩ := cal_some hf
          have hFc := de_free hD hS hA
          refine va_callv (va_runV (As := [.long r_3]) (rest := []) ⟨hx, hb, hml, hown, hts⟩ (de_X3_takeOnly l dC dI cy a sh n H.size F z_31 h0 r_3 hfc) (cwV 1 hts gX3_reckon_X3_takeOnly rfl rfl rfl (by decide +kernel) ⟨Nat.le_of_ble_eq_true rfl, Nat.le_of_ble_eq_true rfl⟩) ⟨fun a U g mk q => by obtain ⟨q0, q1, qP, qK, qD, qN⟩ := q; exact ⟨q0, q1, qP, va_K.moved (u := U) (U := U.calling g mk a) (Vm.Alike.refl U.vm) qK, qD, qN.same rfl⟩, va_recv hK hP (ci := 3) (q0 := h0) rfl (Wd_ob kg_4 sg_4 (by decide)), fun U hU hW => ⟨rfl, by rw [hU], by rw [hU]; exact hP, va_K.moved hW.alike hK, hD.weaken (fun _ _ _ _ => trivial), hN.warm hW⟩⟩ rfl rfl hl.1 rfl (lv_room (Nat.le_of_ble_eq_true rfl)) dX3_reckon_141 ⟨Nat.le_of_ble_eq_true rfl, Nat.le_of_ble_eq_true rfl⟩) hS (fun q _ h => hFc q h) hFc (fun u t H_33 locs ht hvm hw hB hz1 hk1 hS2 => ?_)
          obtain ⟨hP1, -, hD1⟩ := hB
          rw [ht] at hP1
          replace hD := hD1.weaken (fun _ _ _ h => hFc _ h)
          replace hP := hP1
          replace hS := hS2
          clear hP1 hD1 hS2 hFc hfc hz1 hk1 hvm ht
          exact B144 (z_32) ls H_33 locs ⟨lv_sub hl [0, 1, 2] rfl, hP, hD, hS⟩ hf
        refine lv_icmp_le (tgt := 139) hx hb dX3_reckon_124 (by decide) (fun c_34 => ?_) (fun c_34 => ?_)
        · skip
          rw [if_pos c_34] at hf
          exact B139 (z_11) ls H locs ⟨lv_sub hl [0, 1, 2] rfl, hP, hD, hS⟩ hf
        · skip
          rw [if_neg c_34] at hf
          refine lv_iload_n hx hb dX3_reckon_127 rfl (lv_at hl 2 rfl) ?_
          refine lv_bipush (v := 36) hx hb dX3_reckon_128 (by decide) ?_
          refine lv_icmp_lt (tgt := 144) hx hb dX3_reckon_130 (by decide) (fun c_35 => ?_) (fun c_35 => ?_)
          · skip
            rw [if_pos c_35] at hf
            exact B144 (z_11) ls H locs ⟨lv_sub hl [0, 1, 2] rfl, hP, hD, hS⟩ hf
          · skip
            rw [if_neg c_35] at hf
            refine lv_iload_n hx hb dX3_reckon_133 rfl (lv_at hl 2 rfl) ?_
            refine lv_bipush (v := 41) hx hb dX3_reckon_134 (by decide) ?_
            refine lv_icmp_gt (tgt := 144) hx hb dX3_reckon_136 (by decide) (fun c_36 => ?_) (fun c_36 => ?_)
            · skip
              rw [if_pos c_36] at hf
              exact B144 (z_11) ls H locs ⟨lv_sub hl [0, 1, 2] rfl, hP, hD, hS⟩ hf
            · skip
              rw [if_neg c_36] at hf
              exact B139 (z_11) ls H locs ⟨lv_sub hl [0, 1, 2] rfl, hP, hD, hS⟩ hf
      refine lv_if_ne (tgt := 121) hx hb dX3_reckon_113 (by decide) (fun c_37 => ?_) (fun c_37 => ?_)
      · skip
        rw [if_neg c_37] at hf
        exact B121 (z_10) ls H locs ⟨lv_sub hl [1, 2, 3] rfl, hP, hD, hS⟩ hf
      · skip
        rw [if_pos c_37] at hf
        refine lv_aload_n hx hb dX3_reckon_116 rfl (lv_at hl 2 rfl) ?_
        refine lv_iconst (v := 3) hx hb dX3_reckon_117 (by decide) ?_
        obtain ⟨z_38, _u, hfc, hf⟩ := cal_some hf
        have hFc := de_free hD hS hA
        refine va_callv (va_runV (As := [.int 3]) (rest := []) ⟨hx, hb, hml, hown, hts⟩ (de_X3_fail l dC dI cy a sh n H.size F z_10 h0 3 hfc) (cwV 1 hts gX3_reckon_X3_fail rfl rfl rfl (by decide +kernel) ⟨Nat.le_of_ble_eq_true rfl, Nat.le_of_ble_eq_true rfl⟩) ⟨fun a U g mk q => by obtain ⟨q0, q1, qP, qK, qD, qN⟩ := q; exact ⟨q0, q1, qP, va_K.moved (u := U) (U := U.calling g mk a) (Vm.Alike.refl U.vm) qK, qD, qN.same rfl⟩, va_recv hK hP (ci := 3) (q0 := h0) rfl (Wd_ob kg_4 sg_4 (by decide)), fun U hU hW => ⟨rfl, by rw [hU], by rw [hU]; exact hP, va_K.moved hW.alike hK, hD.weaken (fun _ _ _ _ => trivial), hN.warm hW⟩⟩ rfl rfl hl.1 rfl (lv_room (Nat.le_of_ble_eq_true rfl)) dX3_reckon_118 ⟨Nat.le_of_ble_eq_true rfl, Nat.le_of_ble_eq_true rfl⟩) hS (fun q _ h => hFc q h) hFc (fun u t H_39 locs ht hvm hw hB hz1 hk1 hS2 => ?_)
        obtain ⟨hP1, -, hD1⟩ := hB
        rw [ht] at hP1
        replace hD := hD1.weaken (fun _ _ _ h => hFc _ h)
        replace hP := hP1
        replace hS := hS2
        clear hP1 hD1 hS2 hFc hfc hz1 hk1 hvm ht
        exact B121 (z_38) ls H_39 locs ⟨lv_sub hl [1, 2, 3] rfl, hP, hD, hS⟩ hf
    refine de_cut (h := 63) (fun (x : St × Int32) => []) (fun x ls H locs => lv_has ls 5 [(4, .int x.2), (2, .long r_3), (0, .ref (a h0)), (1, .int x0)] ∧ va_P (dC, dI) vwCl (Wd cy a sh n x.1) H ∧ va_D A (Wd cy a sh n x.1) ∧ va_S A s.heap H locs) (fun x => fn_X3_reckon_B63 F sh n x0 r_3 h0 x.1 x.2) (z8, r8) ?_ (fun B63 => ?_)
    · intro x ls H locs hI hf
      obtain ⟨z_41, p_40⟩ := x
      obtain ⟨hl2, hP2, hD2, hS2⟩ := hI
      replace hl : lv_has ls 5 [(4, .int p_40), (2, .long r_3), (0, .ref (a h0)), (1, .int x0)] := hl2
      replace hP := hP2
      replace hD := hD2
      replace hS := hS2
      clear hl2 hP2 hD2 hS2
      replace hf := fn_X3_reckon_B63_s hf
      refine W.eq (g2 := F0 m 63 ls []) rfl ?_
      refine lv_iload_n hx hb dX3_reckon_63 rfl (lv_at hl 3 rfl) ?_
      refine lv_bipush (v := 34) hx hb dX3_reckon_64 (by decide) ?_
      refine lv_icmp_ne (tgt := 85) hx hb dX3_reckon_66 (by decide) (fun c_42 => ?_) (fun c_42 => ?_)
      · skip
        rw [if_neg c_42] at hf
        refine lv_iload_n hx hb dX3_reckon_85 rfl (lv_at hl 3 rfl) ?_
        refine lv_bipush (v := 36) hx hb dX3_reckon_86 (by decide) ?_
        refine de_cut (h := 97) (fun (x : St) => []) (fun x ls H locs => lv_has ls 5 [(2, .long r_3), (0, .ref (a h0)), (1, .int x0)] ∧ va_P (dC, dI) vwCl (Wd cy a sh n x) H ∧ va_D A (Wd cy a sh n x) ∧ va_S A s.heap H locs) (fun x => fn_X3_reckon_B97 F sh n r_3 h0 x0 x) (z8, r8) ?_ (fun B97 => ?_)
        · intro x ls H locs hI hf
          obtain ⟨z_43, ez⟩ : ∃ w, w = x := ⟨_, rfl⟩
          subst ez
          obtain ⟨hl2, hP2, hD2, hS2⟩ := hI
          replace hl : lv_has ls 5 [(2, .long r_3), (0, .ref (a h0)), (1, .int x0)] := hl2
          replace hP := hP2
          replace hD := hD2
          replace hS := hS2
          clear hl2 hP2 hD2 hS2
          replace hf := fn_X3_reckon_B97_s hf
          refine W.eq (g2 := F0 m 97 ls []) rfl ?_
          refine lv_lload_n hx hb dX3_reckon_97 rfl (lv_at hl 0 rfl) ?_
          obtain ⟨z_44, r_45, hfc, hf⟩ := cal_some hf
          have hFc := de_free hD hS hA
          refine va_calli (va_runS (As := [.long r_3]) (rest := []) ⟨hx, hb, hml, hown, hts⟩ (de_X5_isReference l dC dI cy a sh n H.size F z_43 r_3 hfc) (va_cwS 1 hts gX3_reckon_X5_isReference rfl rfl rfl (by decide +kernel) ⟨Nat.le_of_ble_eq_true rfl, Nat.le_of_ble_eq_true rfl⟩) ⟨fun a U g mk q => by obtain ⟨q0, q1, qP, qK, qD, qN⟩ := q; exact ⟨q0, q1, qP, va_K.moved (u := U) (U := U.calling g mk a) (Vm.Alike.refl U.vm) qK, qD, qN.same rfl⟩, fun U hU hW => ⟨rfl, by rw [hU], by rw [hU]; exact hP, va_K.moved hW.alike hK, hD.weaken (fun _ _ _ _ => trivial), hN.warm hW⟩⟩ rfl rfl hl.1 rfl (lv_room (Nat.le_of_ble_eq_true rfl)) dX3_reckon_98 ⟨Nat.le_of_ble_eq_true rfl, Nat.le_of_ble_eq_true rfl⟩) hS (fun q _ h => hFc q h) hFc (fun rr u t H_46 locs ht hvm hw hB hz1 hk1 hS2 => ?_)
          rw [hw]
          clear hw
          obtain ⟨hP1, -, hD1⟩ := hB
          rw [ht] at hP1
          replace hD := hD1.weaken (fun _ _ _ h => hFc _ h)
          replace hP := hP1
          replace hS := hS2
          clear hP1 hD1 hS2 hFc hfc hz1 hk1 hvm ht
          refine de_cut (h := 109) (fun (x : St × Int32) => [.int x.2]) (fun x ls H locs => lv_has ls 5 [(2, .long r_3), (0, .ref (a h0)), (1, .int x0)] ∧ va_P (dC, dI) vwCl (Wd cy a sh n x.1) H ∧ va_D A (Wd cy a sh n x.1) ∧ va_S A s.heap H locs) (fun x => fn_X3_reckon_B109 F sh n h0 x0 r_3 x.1 x.2) (z8, r8) ?_ (fun B109 => ?_)
          · intro x ls H locs hI hf
            obtain ⟨z_48, p_47⟩ := x
            obtain ⟨hl2, hP2, hD2, hS2⟩ := hI
            replace hl : lv_has ls 5 [(2, .long r_3), (0, .ref (a h0)), (1, .int x0)] := hl2
            replace hP := hP2
            replace hD := hD2
            replace hS := hS2
            clear hl2 hP2 hD2 hS2
            replace hf := fn_X3_reckon_B109_s hf
            refine W.eq (g2 := F0 m 109 ls [.int p_47]) rfl ?_
            refine lv_istore (lv' := [(4, .int p_47), (2, .long r_3), (0, .ref (a h0)), (1, .int x0)]) hx hb dX3_reckon_109 hl (by decide) rfl (fun ls hl2 => ?_)
            replace hl := hl2
            clear hl2
            exact B111 (z_48, p_47) ls H locs ⟨lv_sub hl [0, 1, 2, 3] rfl, hP, hD, hS⟩ hf
          refine lv_if_ne (tgt := 108) hx hb dX3_reckon_101 (by decide) (fun c_49 => ?_) (fun c_49 => ?_)
          · skip
            rw [if_neg c_49] at hf
            refine lv_iconst (v := 0) hx hb dX3_reckon_108 (by decide) ?_
            exact B109 (z_44, 0) ls H_46 locs ⟨lv_sub hl [0, 1, 2] rfl, hP, hD, hS⟩ hf
          · skip
            rw [if_pos c_49] at hf
            refine lv_iconst (v := 1) hx hb dX3_reckon_104 (by decide) ?_
            refine lv_goto (tgt := 109) hx hb dX3_reckon_105 (by decide) ?_
            exact B109 (z_44, 1) ls H_46 locs ⟨lv_sub hl [0, 1, 2] rfl, hP, hD, hS⟩ hf
        refine lv_icmp_eq (tgt := 97) hx hb dX3_reckon_88 (by decide) (fun c_50 => ?_) (fun c_50 => ?_)
        · skip
          rw [if_pos c_50] at hf
          exact B97 (z_41) ls H locs ⟨lv_sub hl [1, 2, 3] rfl, hP, hD, hS⟩ hf
        · skip
          rw [if_neg c_50] at hf
          refine lv_iload_n hx hb dX3_reckon_91 rfl (lv_at hl 3 rfl) ?_
          refine lv_bipush (v := 37) hx hb dX3_reckon_92 (by decide) ?_
          refine lv_icmp_ne (tgt := 111) hx hb dX3_reckon_94 (by decide) (fun c_51 => ?_) (fun c_51 => ?_)
          · skip
            rw [if_neg c_51] at hf
            exact B111 (z_41, p_40) ls H locs ⟨lv_sub hl [0, 1, 2, 3] rfl, hP, hD, hS⟩ hf
          · skip
            rw [if_pos c_51] at hf
            exact B97 (z_41) ls H locs ⟨lv_sub hl [1, 2, 3] rfl, hP, hD, hS⟩ hf
      · skip
        rw [if_pos c_42] at hf
        refine lv_lload_n hx hb dX3_reckon_69 rfl (lv_at hl 1 rfl) ?_
        refine lv_lconst (v := 1) hx hb dX3_reckon_70 (by decide) ?_
        refine W.lcmp hx hb dX3_reckon_71 ?_
        refine de_cut (h := 80) (fun (x : St × Int32) => [.int x.2]) (fun x ls H locs => lv_has ls 5 [(2, .long r_3), (0, .ref (a h0)), (1, .int x0)] ∧ va_P (dC, dI) vwCl (Wd cy a sh n x.1) H ∧ va_D A (Wd cy a sh n x.1) ∧ va_S A s.heap H locs) (fun x => fn_X3_reckon_B80 F sh n h0 x0 r_3 x.1 x.2) (z8, r8) ?_ (fun B80 => ?_)
        · intro x ls H locs hI hf
          obtain ⟨z_53, p_52⟩ := x
          obtain ⟨hl2, hP2, hD2, hS2⟩ := hI
          replace hl : lv_has ls 5 [(2, .long r_3), (0, .ref (a h0)), (1, .int x0)] := hl2
          replace hP := hP2
          replace hD := hD2
          replace hS := hS2
          clear hl2 hP2 hD2 hS2
          replace hf := fn_X3_reckon_B80_s hf
          refine W.eq (g2 := F0 m 80 ls [.int p_52]) rfl ?_
          refine lv_istore (lv' := [(4, .int p_52), (2, .long r_3), (0, .ref (a h0)), (1, .int x0)]) hx hb dX3_reckon_80 hl (by decide) rfl (fun ls hl2 => ?_)
          replace hl := hl2
          clear hl2
          refine lv_goto (tgt := 111) hx hb dX3_reckon_82 (by decide) ?_
          exact B111 (z_53, p_52) ls H locs ⟨lv_sub hl [0, 1, 2, 3] rfl, hP, hD, hS⟩ hf
        refine lv_if_ne (tgt := 79) hx hb dX3_reckon_72 (by decide) (fun c_54 => ?_) (fun c_54 => ?_)
        · skip
          rw [lg_cmp_eq] at c_54
          rw [if_neg c_54] at hf
          refine lv_iconst (v := 0) hx hb dX3_reckon_79 (by decide) ?_
          exact B80 (z_41, 0) ls H locs ⟨lv_sub hl [1, 2, 3] rfl, hP, hD, hS⟩ hf
        · skip
          rw [lg_cmp_eq] at c_54
          rw [if_pos c_54] at hf
          refine lv_iconst (v := 1) hx hb dX3_reckon_75 (by decide) ?_
          refine lv_goto (tgt := 80) hx hb dX3_reckon_76 (by decide) ?_
          exact B80 (z_41, 1) ls H locs ⟨lv_sub hl [1, 2, 3] rfl, hP, hD, hS⟩ hf
    refine lv_icmp_lt (tgt := 63) hx hb dX3_reckon_33 (by decide) (fun c_55 => ?_) (fun c_55 => ?_)
    · skip
      rw [if_pos c_55] at hf
      exact B63 (z_6, r_7) ls H_8 locs ⟨lv_sub hl [0, 1, 2, 3] rfl, hP, hD, hS⟩ hf
    · skip
      rw [if_neg c_55] at hf
      refine lv_iload_n hx hb dX3_reckon_36 rfl (lv_at hl 3 rfl) ?_
      refine lv_bipush (v := 31) hx hb dX3_reckon_37 (by decide) ?_
      refine lv_icmp_gt (tgt := 63) hx hb dX3_reckon_39 (by decide) (fun c_56 => ?_) (fun c_56 => ?_)
      · skip
        rw [if_pos c_56] at hf
        exact B63 (z_6, r_7) ls H_8 locs ⟨lv_sub hl [0, 1, 2, 3] rfl, hP, hD, hS⟩ hf
      · skip
        rw [if_neg c_56] at hf
        refine lv_iload hx hb dX3_reckon_42 (lv_at hl 0 rfl) ?_
        refine de_cut (h := 58) (fun (x : St × Int32) => [.int x.2]) (fun x ls H locs => lv_has ls 5 [(2, .long r_3), (0, .ref (a h0)), (1, .int x0)] ∧ va_P (dC, dI) vwCl (Wd cy a sh n x.1) H ∧ va_D A (Wd cy a sh n x.1) ∧ va_S A s.heap H locs) (fun x => fn_X3_reckon_B58 F sh n h0 x0 r_3 x.1 x.2) (z8, r8) ?_ (fun B58 => ?_)
        · intro x ls H locs hI hf
          obtain ⟨z_58, p_57⟩ := x
          obtain ⟨hl2, hP2, hD2, hS2⟩ := hI
          replace hl : lv_has ls 5 [(2, .long r_3), (0, .ref (a h0)), (1, .int x0)] := hl2
          replace hP := hP2
          replace hD := hD2
          replace hS := hS2
          clear hl2 hP2 hD2 hS2
          replace hf := fn_X3_reckon_B58_s hf
          refine W.eq (g2 := F0 m 58 ls [.int p_57]) rfl ?_
          refine lv_istore (lv' := [(4, .int p_57), (2, .long r_3), (0, .ref (a h0)), (1, .int x0)]) hx hb dX3_reckon_58 hl (by decide) rfl (fun ls hl2 => ?_)
          replace hl := hl2
          clear hl2
          refine lv_goto (tgt := 111) hx hb dX3_reckon_60 (by decide) ?_
          exact B111 (z_58, p_57) ls H locs ⟨lv_sub hl [0, 1, 2, 3] rfl, hP, hD, hS⟩ hf
        refine de_cut (h := 53) (fun (x : St) => []) (fun x ls H locs => lv_has ls 5 [(2, .long r_3), (0, .ref (a h0)), (1, .int x0)] ∧ va_P (dC, dI) vwCl (Wd cy a sh n x) H ∧ va_D A (Wd cy a sh n x) ∧ va_S A s.heap H locs) (fun x => fn_X3_reckon_B53 F sh n h0 x0 r_3 x) (z8, r8) ?_ (fun B53 => ?_)
        · intro x ls H locs hI hf
          obtain ⟨z_59, ez⟩ : ∃ w, w = x := ⟨_, rfl⟩
          subst ez
          obtain ⟨hl2, hP2, hD2, hS2⟩ := hI
          replace hl : lv_has ls 5 [(2, .long r_3), (0, .ref (a h0)), (1, .int x0)] := hl2
          replace hP := hP2
          replace hD := hD2
          replace hS := hS2
          clear hl2 hP2 hD2 hS2
          replace hf := fn_X3_reckon_B53_s hf
          refine W.eq (g2 := F0 m 53 ls []) rfl ?_
          refine lv_iconst (v := 1) hx hb dX3_reckon_53 (by decide) ?_
          refine lv_goto (tgt := 58) hx hb dX3_reckon_54 (by decide) ?_
          exact B58 (z_59, 1) ls H locs ⟨lv_sub hl [0, 1, 2] rfl, hP, hD, hS⟩ hf
        refine lv_if_ne (tgt := 53) hx hb dX3_reckon_44 (by decide) (fun c_60 => ?_) (fun c_60 => ?_)
        · skip
          rw [if_neg c_60] at hf
          exact B53 (z_6) ls H_8 locs ⟨lv_sub hl [1, 2, 3] rfl, hP, hD, hS⟩ hf
        · skip
          rw [if_pos c_60] at hf
          refine lv_lload_n hx hb dX3_reckon_47 rfl (lv_at hl 1 rfl) ?_
          refine lv_lconst (v := 1) hx hb dX3_reckon_48 (by decide) ?_
          refine W.lcmp hx hb dX3_reckon_49 ?_
          refine lv_if_ne (tgt := 57) hx hb dX3_reckon_50 (by decide) (fun c_61 => ?_) (fun c_61 => ?_)
          · skip
            rw [lg_cmp_eq] at c_61
            rw [if_neg c_61] at hf
            refine lv_iconst (v := 0) hx hb dX3_reckon_57 (by decide) ?_
            exact B58 (z_6, 0) ls H_8 locs ⟨lv_sub hl [1, 2, 3] rfl, hP, hD, hS⟩ hf
          · skip
            rw [lg_cmp_eq] at c_61
            rw [if_pos c_61] at hf
            exact B53 (z_6) ls H_8 locs ⟨lv_sub hl [1, 2, 3] rfl, hP, hD, hS⟩ hf
  refine de_cut (h := 12) (fun (x : St) => []) (fun x ls H locs => lv_has ls 5 [(0, .ref (a h0)), (1, .int x0)] ∧ va_P (dC, dI) vwCl (Wd cy a sh n x) H ∧ va_D A (Wd cy a sh n x) ∧ va_S A s.heap H locs) (fun x => fn_X3_reckon_B12 F sh n h0 x0 x) (z8, r8) ?_ (fun B12 => ?_)
  · intro x ls H locs hI hf
    obtain ⟨z_62, ez⟩ : ∃ w, w = x := ⟨_, rfl⟩
    subst ez
    obtain ⟨hl2, hP2, hD2, hS2⟩ := hI
    replace hl : lv_has ls 5 [(0, .ref (a h0)), (1, .int x0)] := hl2
    replace hP := hP2
    replace hD := hD2
    replace hS := hS2
    clear hl2 hP2 hD2 hS2
    replace hf := fn_X3_reckon_B12_s hf
    refine W.eq (g2 := F0 m 12 ls []) rfl ?_
    refine lv_aload_n hx hb dX3_reckon_12 rfl (lv_at hl 0 rfl) ?_
    refine lv_ldc2 hx hb hown (hts _ md_X3_reckon_1) dX3_reckon_13 ?_
    obtain ⟨g_64, hf⟩ := grd_some hf
    obtain ⟨kg_64, sg_64⟩ := okO_at g_64
    obtain ⟨z_63, _u, hfc, hf⟩ := cal_some hf
    have hFc := de_free hD hS hA
    refine va_callv (va_runV (As := [.long 2]) (rest := []) ⟨hx, hb, hml, hown, hts⟩ (de_X3_takeOnly l dC dI cy a sh n H.size F z_62 h0 2 hfc) (cwV 1 hts gX3_reckon_X3_takeOnly rfl rfl rfl (by decide +kernel) ⟨Nat.le_of_ble_eq_true rfl, Nat.le_of_ble_eq_true rfl⟩) ⟨fun a U g mk q => by obtain ⟨q0, q1, qP, qK, qD, qN⟩ := q; exact ⟨q0, q1, qP, va_K.moved (u := U) (U := U.calling g mk a) (Vm.Alike.refl U.vm) qK, qD, qN.same rfl⟩, va_recv hK hP (ci := 3) (q0 := h0) rfl (Wd_ob kg_64 sg_64 (by decide)), fun U hU hW => ⟨rfl, by rw [hU], by rw [hU]; exact hP, va_K.moved hW.alike hK, hD.weaken (fun _ _ _ _ => trivial), hN.warm hW⟩⟩ rfl rfl hl.1 rfl (lv_room (Nat.le_of_ble_eq_true rfl)) dX3_reckon_16 ⟨Nat.le_of_ble_eq_true rfl, Nat.le_of_ble_eq_true rfl⟩) hS (fun q _ h => hFc q h) hFc (fun u t H_65 locs ht hvm hw hB hz1 hk1 hS2 => ?_)
    obtain ⟨hP1, -, hD1⟩ := hB
    rw [ht] at hP1
    replace hD := hD1.weaken (fun _ _ _ h => hFc _ h)
    replace hP := hP1
    replace hS := hS2
    clear hP1 hD1 hS2 hFc hfc hz1 hk1 hvm ht
    exact B19 (z_63) ls H_65 locs ⟨lv_sub hl [0, 1] rfl, hP, hD, hS⟩ hf
  refine lv_icmp_eq (tgt := 12) hx hb dX3_reckon_3 (by decide) (fun c_66 => ?_) (fun c_66 => ?_)
  · skip
    rw [if_pos c_66] at hf
    exact B12 (z) ls H locs ⟨lv_sub hl [0, 1] rfl, hP, hD, hS⟩ hf
  · skip
    rw [if_neg c_66] at hf
    refine lv_iload_n hx hb dX3_reckon_6 rfl (lv_at hl 1 rfl) ?_
    refine lv_bipush (v := 33) hx hb dX3_reckon_7 (by decide) ?_
    refine lv_icmp_ne (tgt := 19) hx hb dX3_reckon_9 (by decide) (fun c_67 => ?_) (fun c_67 => ?_)
    · skip
      rw [if_neg c_67] at hf
      exact B19 (z) ls H locs ⟨lv_sub hl [0, 1] rfl, hP, hD, hS⟩ hf
    · skip
      rw [if_pos c_67] at hf
      exact B12 (z) ls H locs ⟨lv_sub hl [0, 1] rfl, hP, hD, hS⟩ hf

theorem md_X3_lineUp_1 : (.fieldLink RX3 44 "ResourceLedger$Looker" "p" "LResourceLedger$Program;" : Cond) ∈ wsX3_lineUp := List.mem_of_getElem? (i := 1) rfl
theorem iwd_X3_lineUp_X3 : ∀ w ∈ wsX30, w ∈ wsX3_lineUp := fun _ h => List.mem_cons_of_mem _ (List.mem_append_left _ (List.mem_append_right _ h))
theorem md_X3_lineUp_4 : (.fieldLink RX3 194 "ResourceLedger$Looker" "takenOrigins" "J" : Cond) ∈ wsX3_lineUp := List.mem_of_getElem? (i := 4) rfl
theorem md_X3_lineUp_3 : (.constantLong RX3 219 (3) : Cond) ∈ wsX3_lineUp := List.mem_of_getElem? (i := 3) rfl
theorem md_X3_lineUp_2 : (.constantLong RX3 190 (2) : Cond) ∈ wsX3_lineUp := List.mem_of_getElem? (i := 2) rfl
set_option maxHeartbeats 4000000 in
set_option maxRecDepth 100000 in
theorem de_X3_lineUp (l : Launch) (dC : Nat → ClassId) (dI : Nat → Nat → Nat) (cy : Nat → ClassId) (a : Nat → Nat) (sh : Nat → Nat × Nat) (n sz : Nat) (F : Nat) (z : St) (h0 : Nat) (x0 : Int32) (x1 : Int32) (x2 : Int32) {z8 : St} {r8 : Unit} (hf : fn_X3_lineUp F sh n z h0 x0 x1 x2 = some (z8, r8)) : Met l yX3_lineUp wsX3_lineUp ({ frames := 3, cells := 0, slots := 0, locals := 68 }) (va_Pc [.ref (a h0), .int x0, .int x1, .int x2] (fun U => U.heap.size = sz ∧ va_P (dC, dI) vwCl (Wd cy a sh n z) U.heap ∧ va_K (dC, dI) vwCl (TYS cy) U ∧ va_D (fun _ => True) (Wd cy a sh n z) ∧ NK U)) (va_Qv (fun u : Unit => True) (fun u t => va_P (dC, dI) vwCl (Wd cy a sh n z8) t.heap ∧ va_K (dC, dI) vwCl (TYS cy) t ∧ va_D (va_A (Wd cy a sh n z) sz) (Wd cy a sh n z8)) (va_A (Wd cy a sh n z) sz)) 0 0 (va_A (Wd cy a sh n z) sz) := by
  refine Met.ofW (cc := cX3_lineUp) (maxL := 9) (ret := none) (by decide) rfl ?_
  intro p e s m args below meth c s₁ B hml hv
  obtain ⟨rfl, hsz, hP, hK, hD0, hN⟩ := hv
  have hx := B.exec
  have hb := B.bytes
  have hr := B.returns
  have hts := atoms_spec (ws := wsX3_lineUp) B.pre
  have hown : s.vm.findClass RX3 = some m.cls := findClass_of_methodNamed B.named
  have hlocks := B.notSynchronized
  subst hsz
  have hD := hD0.self (sz := s.heap.size)
  clear hD0
  generalize hAe : va_A (Wd cy a sh n z) s.heap.size = A at hD ⊢
  have hA : ∀ q : Nat, s.heap.size ≤ q → A q := fun q h => by rw [← hAe]; exact Or.inr h
  clear hAe
  have hS : va_S A s.heap s.heap [] := va_S.rf
  have hl := lv_entry ([.ref (a h0), .int x0, .int x1, .int x2]) (n := 9) (Nat.le_of_ble_eq_true rfl)
  rw [lg_entry_eq]
  generalize (lg_sl ([.ref (a h0), .int x0, .int x1, .int x2]) ++ List.replicate (9 - (lg_sl ([.ref (a h0), .int x0, .int x1, .int x2])).length) Slot.unset).toArray = ls at hl ⊢
  replace hl : lv_has ls 9 [(0, .ref (a h0)), (1, .int x0), (2, .int x1), (3, .int x2)] := hl
  unfold fn_X3_lineUp at hf
  refine de_start hS hP (fun H locs hS hP => ?_)
  refine lv_aload_n hx hb dX3_lineUp_0 rfl (lv_at hl 0 rfl) ?_
  obtain ⟨g_1, hf⟩ := grd_some hf
  obtain ⟨kg_1, sg_1⟩ := okO_at g_1
  obtain ⟨k_2, ek_2, hf⟩ := lnk_some hf
  refine va_get (D := (dC, dI)) (ci := 3) (v := .ref (a k_2)) (C := RX3) (T := TX3) (N := 22) hx hb hts iwd_X3_lineUp_X3 hown hK hP h0 (Wd_ob kg_1 sg_1 (by decide)) rfl 2 (by decide) (hts _ md_X3_lineUp_1) (fun _ h9 => h9) (fl_q rfl ek_2) dX3_lineUp_1 ?_
  refine lv_iload_n hx hb dX3_lineUp_4 rfl (lv_at hl 2 rfl) ?_
  obtain ⟨g_5, hf⟩ := grd_some hf
  obtain ⟨kg_5, sg_5⟩ := okO_at g_5
  obtain ⟨z_3, r_4, hfc, hf⟩ := cal_some hf
  have hFc := de_free hD hS hA
  refine va_calll (va_runV (As := [.int x1]) (rest := []) ⟨hx, hb, hml, hown, hts⟩ (de_X5_elementType l dC dI cy a sh n H.size F z k_2 x1 hfc) (cwV 1 hts gX3_lineUp_X5_elementType rfl rfl rfl (by decide +kernel) ⟨Nat.le_of_ble_eq_true rfl, Nat.le_of_ble_eq_true rfl⟩) ⟨fun a U g mk q => by obtain ⟨q0, q1, qP, qK, qD, qN⟩ := q; exact ⟨q0, q1, qP, va_K.moved (u := U) (U := U.calling g mk a) (Vm.Alike.refl U.vm) qK, qD, qN.same rfl⟩, va_recv hK hP (ci := 5) (q0 := k_2) rfl (Wd_ob kg_5 sg_5 (by decide)), fun U hU hW => ⟨rfl, by rw [hU], by rw [hU]; exact hP, va_K.moved hW.alike hK, hD.weaken (fun _ _ _ _ => trivial), hN.warm hW⟩⟩ rfl rfl hl.1 rfl (lv_room (Nat.le_of_ble_eq_true rfl)) dX3_lineUp_5 ⟨Nat.le_of_ble_eq_true rfl, Nat.le_of_ble_eq_true rfl⟩) hS (fun q _ h => hFc q h) hFc (fun rr u t H_6 locs ht hvm hw hB hz1 hk1 hS2 => ?_)
  rw [hw]
  clear hw
  obtain ⟨hP1, -, hD1⟩ := hB
  rw [ht] at hP1
  replace hD := hD1.weaken (fun _ _ _ h => hFc _ h)
  replace hP := hP1
  replace hS := hS2
  clear hP1 hD1 hS2 hFc hfc hz1 hk1 hvm ht
  refine lv_lstore (lv' := [(4, .long r_4), (0, .ref (a h0)), (1, .int x0), (2, .int x1), (3, .int x2)]) hx hb dX3_lineUp_8 hl (by decide) rfl (fun ls hl2 => ?_)
  replace hl := hl2
  clear hl2
  refine lv_bipush (v := 7) hx hb dX3_lineUp_10 (by decide) ?_
  refine lv_lload hx hb dX3_lineUp_12 (lv_at hl 0 rfl) ?_
  obtain ⟨z_7, r_8, hfc, hf⟩ := cal_some hf
  have hFc := de_free hD hS hA
  refine va_calll (va_runS (As := [.int 7, .long r_4]) (rest := []) ⟨hx, hb, hml, hown, hts⟩ (de_X5_prefixed l dC dI cy a sh n H_6.size F z_3 7 r_4 hfc) (va_cwS 2 hts gX3_lineUp_X5_prefixed rfl rfl rfl (by decide +kernel) ⟨Nat.le_of_ble_eq_true rfl, Nat.le_of_ble_eq_true rfl⟩) ⟨fun a U g mk q => by obtain ⟨q0, q1, qP, qK, qD, qN⟩ := q; exact ⟨q0, q1, qP, va_K.moved (u := U) (U := U.calling g mk a) (Vm.Alike.refl U.vm) qK, qD, qN.same rfl⟩, fun U hU hW => ⟨rfl, by rw [hU], by rw [hU]; exact hP, va_K.moved hW.alike hK, hD.weaken (fun _ _ _ _ => trivial), hN.warm hW⟩⟩ rfl rfl hl.1 rfl (lv_room (Nat.le_of_ble_eq_true rfl)) dX3_lineUp_14 ⟨Nat.le_of_ble_eq_true rfl, Nat.le_of_ble_eq_true rfl⟩) hS (fun q _ h => hFc q h) hFc (fun rr u t H_9 locs ht hvm hw hB hz1 hk1 hS2 => ?_)
  rw [hw]
  clear hw
  obtain ⟨hP1, -, hD1⟩ := hB
  rw [ht] at hP1
  replace hD := hD1.weaken (fun _ _ _ h => hFc _ h)
  replace hP := hP1
  replace hS := hS2
  clear hP1 hD1 hS2 hFc hfc hz1 hk1 hvm ht
  refine lv_lstore (lv' := [(6, .long r_8), (4, .long r_4), (0, .ref (a h0)), (1, .int x0), (2, .int x1), (3, .int x2)]) hx hb dX3_lineUp_17 hl (by decide) rfl (fun ls hl2 => ?_)
  replace hl := hl2
  clear hl2
  refine lv_iload_n hx hb dX3_lineUp_19 rfl (lv_at hl 3 rfl) ?_
  refine lv_bipush (v := 52) hx hb dX3_lineUp_20 (by decide) ?_
  refine lv_icmp_ne (tgt := 53) hx hb dX3_lineUp_22 (by decide) (fun c_10 => ?_) (fun c_10 => ?_)
  · skip
    rw [if_neg c_10] at hf
    refine lv_iload_n hx hb dX3_lineUp_53 rfl (lv_at hl 3 rfl) ?_
    refine lv_bipush (v := 59) hx hb dX3_lineUp_54 (by decide) ?_
    refine lv_icmp_ne (tgt := 84) hx hb dX3_lineUp_56 (by decide) (fun c_11 => ?_) (fun c_11 => ?_)
    · skip
      rw [if_neg c_11] at hf
      refine lv_iload_n hx hb dX3_lineUp_84 rfl (lv_at hl 3 rfl) ?_
      refine lv_bipush (v := 54) hx hb dX3_lineUp_85 (by decide) ?_
      refine de_cut (h := 109) (fun (x : St) => []) (fun x ls H locs => lv_has ls 9 [(6, .long r_8), (4, .long r_4), (0, .ref (a h0)), (1, .int x0)] ∧ va_P (dC, dI) vwCl (Wd cy a sh n x) H ∧ va_D A (Wd cy a sh n x) ∧ va_S A s.heap H locs) (fun x => fn_X3_lineUp_B109 F sh n x0 h0 r_8 r_4 x) (z8, r8) ?_ (fun B109 => ?_)
      · intro x ls H locs hI hf
        obtain ⟨z_12, ez⟩ : ∃ w, w = x := ⟨_, rfl⟩
        subst ez
        obtain ⟨hl2, hP2, hD2, hS2⟩ := hI
        replace hl : lv_has ls 9 [(6, .long r_8), (4, .long r_4), (0, .ref (a h0)), (1, .int x0)] := hl2
        replace hP := hP2
        replace hD := hD2
        replace hS := hS2
        clear hl2 hP2 hD2 hS2
        replace hf := fn_X3_lineUp_B109_s hf
        refine W.eq (g2 := F0 m 109 ls []) rfl ?_
        refine lv_iload_n hx hb dX3_lineUp_109 rfl (lv_at hl 3 rfl) ?_
        refine lv_bipush (v := 58) hx hb dX3_lineUp_110 (by decide) ?_
        refine de_cut (h := 137) (fun (x : St) => []) (fun x ls H locs => lv_has ls 9 [(6, .long r_8), (4, .long r_4), (0, .ref (a h0)), (1, .int x0)] ∧ va_P (dC, dI) vwCl (Wd cy a sh n x) H ∧ va_D A (Wd cy a sh n x) ∧ va_S A s.heap H locs) (fun x => fn_X3_lineUp_B137 F sh n x0 h0 r_8 r_4 x) (z8, r8) ?_ (fun B137 => ?_)
        · intro x ls H locs hI hf
          obtain ⟨z_13, ez⟩ : ∃ w, w = x := ⟨_, rfl⟩
          subst ez
          obtain ⟨hl2, hP2, hD2, hS2⟩ := hI
          replace hl : lv_has ls 9 [(6, .long r_8), (4, .long r_4), (0, .ref (a h0)), (1, .int x0)] := hl2
          replace hP := hP2
          replace hD := hD2
          replace hS := hS2
          clear hl2 hP2 hD2 hS2
          replace hf := fn_X3_lineUp_B137_s hf
          refine W.eq (g2 := F0 m 137 ls []) rfl ?_
          refine lv_aload_n hx hb dX3_lineUp_137 rfl (lv_at hl 2 rfl) ?_
          refine lv_lload hx hb dX3_lineUp_138 (lv_at hl 0 rfl) ?_
          refine lv_iload_n hx hb dX3_lineUp_140 rfl (lv_at hl 3 rfl) ?_
          refine lv_bipush (v := 55) hx hb dX3_lineUp_141 (by decide) ?_
          refine de_cut (h := 151) (fun (x : St × Int32) => [.int x.2, .long r_8, .ref (a h0)]) (fun x ls H locs => lv_has ls 9 [(4, .long r_4), (0, .ref (a h0)), (1, .int x0)] ∧ va_P (dC, dI) vwCl (Wd cy a sh n x.1) H ∧ va_D A (Wd cy a sh n x.1) ∧ va_S A s.heap H locs) (fun x => fn_X3_lineUp_B151 F sh n h0 r_8 x0 r_4 x.1 x.2) (z8, r8) ?_ (fun B151 => ?_)
          · intro x ls H locs hI hf
            obtain ⟨z_15, p_14⟩ := x
            obtain ⟨hl2, hP2, hD2, hS2⟩ := hI
            replace hl : lv_has ls 9 [(4, .long r_4), (0, .ref (a h0)), (1, .int x0)] := hl2
            replace hP := hP2
            replace hD := hD2
            replace hS := hS2
            clear hl2 hP2 hD2 hS2
            replace hf := fn_X3_lineUp_B151_s hf
            refine W.eq (g2 := F0 m 151 ls [.int p_14, .long r_8, .ref (a h0)]) rfl ?_
            obtain ⟨z_16, _u, hfc, hf⟩ := cal_some hf
            have hFc := de_free hD hS hA
            refine va_callv (va_runV (As := [.long r_8, .int p_14]) (rest := []) ⟨hx, hb, hml, hown, hts⟩ (de_X3_takeReferenceTo l dC dI cy a sh n H.size F z_15 h0 r_8 p_14 hfc) (cwV 2 hts gX3_lineUp_X3_takeReferenceTo rfl rfl rfl (by decide +kernel) ⟨Nat.le_of_ble_eq_true rfl, Nat.le_of_ble_eq_true rfl⟩) ⟨fun a U g mk q => by obtain ⟨q0, q1, qP, qK, qD, qN⟩ := q; exact ⟨q0, q1, qP, va_K.moved (u := U) (U := U.calling g mk a) (Vm.Alike.refl U.vm) qK, qD, qN.same rfl⟩, va_recv hK hP (ci := 3) (q0 := h0) rfl (Wd_ob kg_1 sg_1 (by decide)), fun U hU hW => ⟨rfl, by rw [hU], by rw [hU]; exact hP, va_K.moved hW.alike hK, hD.weaken (fun _ _ _ _ => trivial), hN.warm hW⟩⟩ rfl rfl hl.1 rfl (lv_room (Nat.le_of_ble_eq_true rfl)) dX3_lineUp_151 ⟨Nat.le_of_ble_eq_true rfl, Nat.le_of_ble_eq_true rfl⟩) hS (fun q _ h => hFc q h) hFc (fun u t H_17 locs ht hvm hw hB hz1 hk1 hS2 => ?_)
            obtain ⟨hP1, -, hD1⟩ := hB
            rw [ht] at hP1
            replace hD := hD1.weaken (fun _ _ _ h => hFc _ h)
            replace hP := hP1
            replace hS := hS2
            clear hP1 hD1 hS2 hFc hfc hz1 hk1 hvm ht
            refine lv_iload_n hx hb dX3_lineUp_154 rfl (lv_at hl 2 rfl) ?_
            refine lv_bipush (v := 56) hx hb dX3_lineUp_155 (by decide) ?_
            refine de_cut (h := 177) (fun (x : St) => []) (fun x ls H locs => lv_has ls 9 [(4, .long r_4), (0, .ref (a h0)), (1, .int x0)] ∧ va_P (dC, dI) vwCl (Wd cy a sh n x) H ∧ va_D A (Wd cy a sh n x) ∧ va_S A s.heap H locs) (fun x => fn_X3_lineUp_B177 F sh n x0 h0 r_4 x) (z8, r8) ?_ (fun B177 => ?_)
            · intro x ls H locs hI hf
              obtain ⟨z_18, ez⟩ : ∃ w, w = x := ⟨_, rfl⟩
              subst ez
              obtain ⟨hl2, hP2, hD2, hS2⟩ := hI
              replace hl : lv_has ls 9 [(4, .long r_4), (0, .ref (a h0)), (1, .int x0)] := hl2
              replace hP := hP2
              replace hD := hD2
              replace hS := hS2
              clear hl2 hP2 hD2 hS2
              replace hf := fn_X3_lineUp_B177_s hf
              refine W.eq (g2 := F0 m 177 ls []) rfl ?_
              refine lv_iload_n hx hb dX3_lineUp_177 rfl (lv_at hl 2 rfl) ?_
              refine lv_bipush (v := 53) hx hb dX3_lineUp_178 (by decide) ?_
              refine lv_icmp_ne (tgt := 193) hx hb dX3_lineUp_180 (by decide) (fun c_19 => ?_) (fun c_19 => ?_)
              · skip
                rw [if_neg c_19] at hf
                refine lv_iload_n hx hb dX3_lineUp_193 rfl (lv_at hl 2 rfl) ?_
                refine lv_bipush (v := 57) hx hb dX3_lineUp_194 (by decide) ?_
                refine lv_icmp_ne (tgt := 208) hx hb dX3_lineUp_196 (by decide) (fun c_20 => ?_) (fun c_20 => ?_)
                · skip
                  rw [if_neg c_20] at hf
                  refine lv_iload_n hx hb dX3_lineUp_208 rfl (lv_at hl 2 rfl) ?_
                  refine lv_bipush (v := 55) hx hb dX3_lineUp_209 (by decide) ?_
                  refine lv_icmp_gt (tgt := 241) hx hb dX3_lineUp_211 (by decide) (fun c_21 => ?_) (fun c_21 => ?_)
                  · skip
                    rw [if_pos c_21] at hf
                    obtain ⟨h8, h9⟩ := ret_some hf
                    rw [h8]
                    exact W.vret hx hb hr (fun t ht hW => ⟨⟨(), rfl, trivial, by rw [ht]; exact hP, va_K.moved hW.alike hK, hD⟩, hS.F ht⟩) hS.2.2 dX3_lineUp_241
                  · skip
                    rw [if_neg c_21] at hf
                    refine lv_aload_n hx hb dX3_lineUp_214 rfl (lv_at hl 1 rfl) ?_
                    refine lv_iload_n hx hb dX3_lineUp_215 rfl (lv_at hl 2 rfl) ?_
                    refine lv_bipush (v := 55) hx hb dX3_lineUp_216 (by decide) ?_
                    refine lv_icmp_ne (tgt := 226) hx hb dX3_lineUp_218 (by decide) (fun c_22 => ?_) (fun c_22 => ?_)
                    · skip
                      rw [if_neg c_22] at hf
                      refine lv_bipush (v := 8) hx hb dX3_lineUp_226 (by decide) ?_
                      refine lv_lload hx hb dX3_lineUp_228 (lv_at hl 0 rfl) ?_
                      obtain ⟨z_23, r_24, hfc, hf⟩ := cal_some hf
                      have hFc := de_free hD hS hA
                      refine va_calll (va_runS (As := [.int 8, .long r_4]) (rest := [.ref (a h0)]) ⟨hx, hb, hml, hown, hts⟩ (de_X5_prefixed l dC dI cy a sh n H.size F z_18 8 r_4 hfc) (va_cwS 2 hts gX3_lineUp_X5_prefixed rfl rfl rfl (by decide +kernel) ⟨Nat.le_of_ble_eq_true rfl, Nat.le_of_ble_eq_true rfl⟩) ⟨fun a U g mk q => by obtain ⟨q0, q1, qP, qK, qD, qN⟩ := q; exact ⟨q0, q1, qP, va_K.moved (u := U) (U := U.calling g mk a) (Vm.Alike.refl U.vm) qK, qD, qN.same rfl⟩, fun U hU hW => ⟨rfl, by rw [hU], by rw [hU]; exact hP, va_K.moved hW.alike hK, hD.weaken (fun _ _ _ _ => trivial), hN.warm hW⟩⟩ rfl rfl hl.1 rfl (lv_room (Nat.le_of_ble_eq_true rfl)) dX3_lineUp_230 ⟨Nat.le_of_ble_eq_true rfl, Nat.le_of_ble_eq_true rfl⟩) hS (fun q _ h => hFc q h) hFc (fun rr u t H_25 locs ht hvm hw hB hz1 hk1 hS2 => ?_)
                      rw [hw]
                      clear hw
                      obtain ⟨hP1, -, hD1⟩ := hB
                      rw [ht] at hP1
                      replace hD := hD1.weaken (fun _ _ _ h => hFc _ h)
                      replace hP := hP1
                      replace hS := hS2
                      clear hP1 hD1 hS2 hFc hfc hz1 hk1 hvm ht
                      refine lv_aload_n hx hb dX3_lineUp_233 rfl (lv_at hl 1 rfl) ?_
                      refine va_get (D := (dC, dI)) (ci := 3) (v := .long (z_23.2.1 h0 14)) (C := RX3) (T := TX3) (N := 22) hx hb hts iwd_X3_lineUp_X3 hown hK hP h0 (Wd_ob kg_1 sg_1 (by decide)) rfl 14 (by decide) (hts _ md_X3_lineUp_4) (fun _ h9 => h9) (fl_at (t := 1) rfl) dX3_lineUp_234 ?_
                      refine lv_iconst (v := 1) hx hb dX3_lineUp_237 (by decide) ?_
                      obtain ⟨z_26, _u, hfc, hf⟩ := cal_some hf
                      have hFc := de_free hD hS hA
                      refine va_callv (va_runV (As := [.long r_24, .long (z_23.2.1 h0 14), .int 1]) (rest := []) ⟨hx, hb, hml, hown, hts⟩ (de_X3_putReference l dC dI cy a sh n H_25.size F z_23 h0 r_24 (z_23.2.1 h0 14) 1 hfc) (cwV 3 hts gX3_lineUp_X3_putReference rfl rfl rfl (by decide +kernel) ⟨Nat.le_of_ble_eq_true rfl, Nat.le_of_ble_eq_true rfl⟩) ⟨fun a U g mk q => by obtain ⟨q0, q1, qP, qK, qD, qN⟩ := q; exact ⟨q0, q1, qP, va_K.moved (u := U) (U := U.calling g mk a) (Vm.Alike.refl U.vm) qK, qD, qN.same rfl⟩, va_recv hK hP (ci := 3) (q0 := h0) rfl (Wd_ob kg_1 sg_1 (by decide)), fun U hU hW => ⟨rfl, by rw [hU], by rw [hU]; exact hP, va_K.moved hW.alike hK, hD.weaken (fun _ _ _ _ => trivial), hN.warm hW⟩⟩ rfl rfl hl.1 rfl (lv_room (Nat.le_of_ble_eq_true rfl)) dX3_lineUp_238 ⟨Nat.le_of_ble_eq_true rfl, Nat.le_of_ble_eq_true rfl⟩) hS (fun q _ h => hFc q h) hFc (fun u t H_27 locs ht hvm hw hB hz1 hk1 hS2 => ?_)
                      obtain ⟨hP1, -, hD1⟩ := hB
                      rw [ht] at hP1
                      replace hD := hD1.weaken (fun _ _ _ h => hFc _ h)
                      replace hP := hP1
                      replace hS := hS2
                      clear hP1 hD1 hS2 hFc hfc hz1 hk1 hvm ht
                      obtain ⟨h8, h9⟩ := ret_some hf
                      rw [h8]
                      exact W.vret hx hb hr (fun t ht hW => ⟨⟨(), rfl, trivial, by rw [ht]; exact hP, va_K.moved hW.alike hK, hD⟩, hS.F ht⟩) hS.2.2 dX3_lineUp_241
                    · skip
                      rw [if_pos c_22] at hf
                      refine lv_bipush (v := 9) hx hb dX3_lineUp_221 (by decide) ?_
                      refine lv_goto (tgt := 228) hx hb dX3_lineUp_223 (by decide) ?_
                      refine lv_lload hx hb dX3_lineUp_228 (lv_at hl 0 rfl) ?_
                      obtain ⟨z_28, r_29, hfc, hf⟩ := cal_some hf
                      have hFc := de_free hD hS hA
                      refine va_calll (va_runS (As := [.int 9, .long r_4]) (rest := [.ref (a h0)]) ⟨hx, hb, hml, hown, hts⟩ (de_X5_prefixed l dC dI cy a sh n H.size F z_18 9 r_4 hfc) (va_cwS 2 hts gX3_lineUp_X5_prefixed rfl rfl rfl (by decide +kernel) ⟨Nat.le_of_ble_eq_true rfl, Nat.le_of_ble_eq_true rfl⟩) ⟨fun a U g mk q => by obtain ⟨q0, q1, qP, qK, qD, qN⟩ := q; exact ⟨q0, q1, qP, va_K.moved (u := U) (U := U.calling g mk a) (Vm.Alike.refl U.vm) qK, qD, qN.same rfl⟩, fun U hU hW => ⟨rfl, by rw [hU], by rw [hU]; exact hP, va_K.moved hW.alike hK, hD.weaken (fun _ _ _ _ => trivial), hN.warm hW⟩⟩ rfl rfl hl.1 rfl (lv_room (Nat.le_of_ble_eq_true rfl)) dX3_lineUp_230 ⟨Nat.le_of_ble_eq_true rfl, Nat.le_of_ble_eq_true rfl⟩) hS (fun q _ h => hFc q h) hFc (fun rr u t H_30 locs ht hvm hw hB hz1 hk1 hS2 => ?_)
                      rw [hw]
                      clear hw
                      obtain ⟨hP1, -, hD1⟩ := hB
                      rw [ht] at hP1
                      replace hD := hD1.weaken (fun _ _ _ h => hFc _ h)
                      replace hP := hP1
                      replace hS := hS2
                      clear hP1 hD1 hS2 hFc hfc hz1 hk1 hvm ht
                      refine lv_aload_n hx hb dX3_lineUp_233 rfl (lv_at hl 1 rfl) ?_
                      refine va_get (D := (dC, dI)) (ci := 3) (v := .long (z_28.2.1 h0 14)) (C := RX3) (T := TX3) (N := 22) hx hb hts iwd_X3_lineUp_X3 hown hK hP h0 (Wd_ob kg_1 sg_1 (by decide)) rfl 14 (by decide) (hts _ md_X3_lineUp_4) (fun _ h9 => h9) (fl_at (t := 1) rfl) dX3_lineUp_234 ?_
                      refine lv_iconst (v := 1) hx hb dX3_lineUp_237 (by decide) ?_
                      obtain ⟨z_31, _u, hfc, hf⟩ := cal_some hf
                      have hFc := de_free hD hS hA
                      refine va_callv (va_runV (As := [.long r_29, .long (z_28.2.1 h0 14), .int 1]) (rest := []) ⟨hx, hb, hml, hown, hts⟩ (de_X3_putReference l dC dI cy a sh n H_30.size F z_28 h0 r_29 (z_28.2.1 h0 14) 1 hfc) (cwV 3 hts gX3_lineUp_X3_putReference rfl rfl rfl (by decide +kernel) ⟨Nat.le_of_ble_eq_true rfl, Nat.le_of_ble_eq_true rfl⟩) ⟨fun a U g mk q => by obtain ⟨q0, q1, qP, qK, qD, qN⟩ := q; exact ⟨q0, q1, qP, va_K.moved (u := U) (U := U.calling g mk a) (Vm.Alike.refl U.vm) qK, qD, qN.same rfl⟩, va_recv hK hP (ci := 3) (q0 := h0) rfl (Wd_ob kg_1 sg_1 (by decide)), fun U hU hW => ⟨rfl, by rw [hU], by rw [hU]; exact hP, va_K.moved hW.alike hK, hD.weaken (fun _ _ _ _ => trivial), hN.warm hW⟩⟩ rfl rfl hl.1 rfl (lv_room (Nat.le_of_ble_eq_true rfl)) dX3_lineUp_238 ⟨Nat.le_of_ble_eq_true rfl, Nat.le_of_ble_eq_true rfl⟩) hS (fun q _ h => hFc q h) hFc (fun u t H_32 locs ht hvm hw hB hz1 hk1 hS2 => ?_)
                      obtain ⟨hP1, -, hD1⟩ := hB
                      rw [ht] at hP1
                      replace hD := hD1.weaken (fun _ _ _ h => hFc _ h)
                      replace hP := hP1
                      replace hS := hS2
                      clear hP1 hD1 hS2 hFc hfc hz1 hk1 hvm ht
                      obtain ⟨h8, h9⟩ := ret_some hf
                      rw [h8]
                      exact W.vret hx hb hr (fun t ht hW => ⟨⟨(), rfl, trivial, by rw [ht]; exact hP, va_K.moved hW.alike hK, hD⟩, hS.F ht⟩) hS.2.2 dX3_lineUp_241
                · skip
                  rw [if_pos c_20] at hf
                  refine lv_aload_n hx hb dX3_lineUp_199 rfl (lv_at hl 1 rfl) ?_
                  refine lv_lload hx hb dX3_lineUp_200 (lv_at hl 0 rfl) ?_
                  obtain ⟨z_33, _u, hfc, hf⟩ := cal_some hf
                  have hFc := de_free hD hS hA
                  refine va_callv (va_runV (As := [.long r_4]) (rest := []) ⟨hx, hb, hml, hown, hts⟩ (de_X3_put l dC dI cy a sh n H.size F z_18 h0 r_4 hfc) (cwV 1 hts gX3_lineUp_X3_put rfl rfl rfl (by decide +kernel) ⟨Nat.le_of_ble_eq_true rfl, Nat.le_of_ble_eq_true rfl⟩) ⟨fun a U g mk q => by obtain ⟨q0, q1, qP, qK, qD, qN⟩ := q; exact ⟨q0, q1, qP, va_K.moved (u := U) (U := U.calling g mk a) (Vm.Alike.refl U.vm) qK, qD, qN.same rfl⟩, va_recv hK hP (ci := 3) (q0 := h0) rfl (Wd_ob kg_1 sg_1 (by decide)), fun U hU hW => ⟨rfl, by rw [hU], by rw [hU]; exact hP, va_K.moved hW.alike hK, hD.weaken (fun _ _ _ _ => trivial), hN.warm hW⟩⟩ rfl rfl hl.1 rfl (lv_room (Nat.le_of_ble_eq_true rfl)) dX3_lineUp_202 ⟨Nat.le_of_ble_eq_true rfl, Nat.le_of_ble_eq_true rfl⟩) hS (fun q _ h => hFc q h) hFc (fun u t H_34 locs ht hvm hw hB hz1 hk1 hS2 => ?_)
                  obtain ⟨hP1, -, hD1⟩ := hB
                  rw [ht] at hP1
                  replace hD := hD1.weaken (fun _ _ _ h => hFc _ h)
                  replace hP := hP1
                  replace hS := hS2
                  clear hP1 hD1 hS2 hFc hfc hz1 hk1 hvm ht
                  refine lv_goto (tgt := 241) hx hb dX3_lineUp_205 (by decide) ?_
                  obtain ⟨h8, h9⟩ := ret_some hf
                  rw [h8]
                  exact W.vret hx hb hr (fun t ht hW => ⟨⟨(), rfl, trivial, by rw [ht]; exact hP, va_K.moved hW.alike hK, hD⟩, hS.F ht⟩) hS.2.2 dX3_lineUp_241
              · skip
                rw [if_pos c_19] at hf
                refine lv_aload_n hx hb dX3_lineUp_183 rfl (lv_at hl 1 rfl) ?_
                refine lv_ldc2 hx hb hown (hts _ md_X3_lineUp_3) dX3_lineUp_184 ?_
                obtain ⟨z_35, _u, hfc, hf⟩ := cal_some hf
                have hFc := de_free hD hS hA
                refine va_callv (va_runV (As := [.long 3]) (rest := []) ⟨hx, hb, hml, hown, hts⟩ (de_X3_put l dC dI cy a sh n H.size F z_18 h0 3 hfc) (cwV 1 hts gX3_lineUp_X3_put rfl rfl rfl (by decide +kernel) ⟨Nat.le_of_ble_eq_true rfl, Nat.le_of_ble_eq_true rfl⟩) ⟨fun a U g mk q => by obtain ⟨q0, q1, qP, qK, qD, qN⟩ := q; exact ⟨q0, q1, qP, va_K.moved (u := U) (U := U.calling g mk a) (Vm.Alike.refl U.vm) qK, qD, qN.same rfl⟩, va_recv hK hP (ci := 3) (q0 := h0) rfl (Wd_ob kg_1 sg_1 (by decide)), fun U hU hW => ⟨rfl, by rw [hU], by rw [hU]; exact hP, va_K.moved hW.alike hK, hD.weaken (fun _ _ _ _ => trivial), hN.warm hW⟩⟩ rfl rfl hl.1 rfl (lv_room (Nat.le_of_ble_eq_true rfl)) dX3_lineUp_187 ⟨Nat.le_of_ble_eq_true rfl, Nat.le_of_ble_eq_true rfl⟩) hS (fun q _ h => hFc q h) hFc (fun u t H_36 locs ht hvm hw hB hz1 hk1 hS2 => ?_)
                obtain ⟨hP1, -, hD1⟩ := hB
                rw [ht] at hP1
                replace hD := hD1.weaken (fun _ _ _ h => hFc _ h)
                replace hP := hP1
                replace hS := hS2
                clear hP1 hD1 hS2 hFc hfc hz1 hk1 hvm ht
                refine lv_goto (tgt := 241) hx hb dX3_lineUp_190 (by decide) ?_
                obtain ⟨h8, h9⟩ := ret_some hf
                rw [h8]
                exact W.vret hx hb hr (fun t ht hW => ⟨⟨(), rfl, trivial, by rw [ht]; exact hP, va_K.moved hW.alike hK, hD⟩, hS.F ht⟩) hS.2.2 dX3_lineUp_241
            refine lv_icmp_lt (tgt := 177) hx hb dX3_lineUp_157 (by decide) (fun c_37 => ?_) (fun c_37 => ?_)
            · skip
              rw [if_pos c_37] at hf
              exact B177 (z_16) ls H_17 locs ⟨lv_sub hl [0, 1, 2] rfl, hP, hD, hS⟩ hf
            · skip
              rw [if_neg c_37] at hf
              refine lv_aload_n hx hb dX3_lineUp_160 rfl (lv_at hl 1 rfl) ?_
              refine lv_aload_n hx hb dX3_lineUp_161 rfl (lv_at hl 1 rfl) ?_
              refine va_get (D := (dC, dI)) (ci := 3) (v := .long (z_16.2.1 h0 14)) (C := RX3) (T := TX3) (N := 22) hx hb hts iwd_X3_lineUp_X3 hown hK hP h0 (Wd_ob kg_1 sg_1 (by decide)) rfl 14 (by decide) (hts _ md_X3_lineUp_4) (fun _ h9 => h9) (fl_at (t := 1) rfl) dX3_lineUp_162 ?_
              obtain ⟨z_38, r_39, hfc, hf⟩ := cal_some hf
              have hFc := de_free hD hS hA
              refine va_calli (va_runV (As := [.long (z_16.2.1 h0 14)]) (rest := []) ⟨hx, hb, hml, hown, hts⟩ (de_X3_isSole l dC dI cy a sh n H_17.size F z_16 h0 (z_16.2.1 h0 14) hfc) (cwV 1 hts gX3_lineUp_X3_isSole rfl rfl rfl (by decide +kernel) ⟨Nat.le_of_ble_eq_true rfl, Nat.le_of_ble_eq_true rfl⟩) ⟨fun a U g mk q => by obtain ⟨q0, q1, qP, qK, qD, qN⟩ := q; exact ⟨q0, q1, qP, va_K.moved (u := U) (U := U.calling g mk a) (Vm.Alike.refl U.vm) qK, qD, qN.same rfl⟩, va_recv hK hP (ci := 3) (q0 := h0) rfl (Wd_ob kg_1 sg_1 (by decide)), fun U hU hW => ⟨rfl, by rw [hU], by rw [hU]; exact hP, va_K.moved hW.alike hK, hD.weaken (fun _ _ _ _ => trivial), hN.warm hW⟩⟩ rfl rfl hl.1 rfl (lv_room (Nat.le_of_ble_eq_true rfl)) dX3_lineUp_165 ⟨Nat.le_of_ble_eq_true rfl, Nat.le_of_ble_eq_true rfl⟩) hS (fun q _ h => hFc q h) hFc (fun rr u t H_40 locs ht hvm hw hB hz1 hk1 hS2 => ?_)
              rw [hw]
              clear hw
              obtain ⟨hP1, -, hD1⟩ := hB
              rw [ht] at hP1
              replace hD := hD1.weaken (fun _ _ _ h => hFc _ h)
              replace hP := hP1
              replace hS := hS2
              clear hP1 hD1 hS2 hFc hfc hz1 hk1 hvm ht
              refine lv_if_ne (tgt := 177) hx hb dX3_lineUp_168 (by decide) (fun c_41 => ?_) (fun c_41 => ?_)
              · skip
                rw [if_neg c_41] at hf
                exact B177 (z_38) ls H_40 locs ⟨lv_sub hl [0, 1, 2] rfl, hP, hD, hS⟩ hf
              · skip
                rw [if_pos c_41] at hf
                refine lv_aload_n hx hb dX3_lineUp_171 rfl (lv_at hl 1 rfl) ?_
                refine lv_bipush (v := 6) hx hb dX3_lineUp_172 (by decide) ?_
                obtain ⟨z_42, _u, hfc, hf⟩ := cal_some hf
                have hFc := de_free hD hS hA
                refine va_callv (va_runV (As := [.int 6]) (rest := []) ⟨hx, hb, hml, hown, hts⟩ (de_X3_fail l dC dI cy a sh n H_40.size F z_38 h0 6 hfc) (cwV 1 hts gX3_lineUp_X3_fail rfl rfl rfl (by decide +kernel) ⟨Nat.le_of_ble_eq_true rfl, Nat.le_of_ble_eq_true rfl⟩) ⟨fun a U g mk q => by obtain ⟨q0, q1, qP, qK, qD, qN⟩ := q; exact ⟨q0, q1, qP, va_K.moved (u := U) (U := U.calling g mk a) (Vm.Alike.refl U.vm) qK, qD, qN.same rfl⟩, va_recv hK hP (ci := 3) (q0 := h0) rfl (Wd_ob kg_1 sg_1 (by decide)), fun U hU hW => ⟨rfl, by rw [hU], by rw [hU]; exact hP, va_K.moved hW.alike hK, hD.weaken (fun _ _ _ _ => trivial), hN.warm hW⟩⟩ rfl rfl hl.1 rfl (lv_room (Nat.le_of_ble_eq_true rfl)) dX3_lineUp_174 ⟨Nat.le_of_ble_eq_true rfl, Nat.le_of_ble_eq_true rfl⟩) hS (fun q _ h => hFc q h) hFc (fun u t H_43 locs ht hvm hw hB hz1 hk1 hS2 => ?_)
                obtain ⟨hP1, -, hD1⟩ := hB
                rw [ht] at hP1
                replace hD := hD1.weaken (fun _ _ _ h => hFc _ h)
                replace hP := hP1
                replace hS := hS2
                clear hP1 hD1 hS2 hFc hfc hz1 hk1 hvm ht
                exact B177 (z_42) ls H_43 locs ⟨lv_sub hl [0, 1, 2] rfl, hP, hD, hS⟩ hf
          refine lv_icmp_lt (tgt := 150) hx hb dX3_lineUp_143 (by decide) (fun c_44 => ?_) (fun c_44 => ?_)
          · skip
            rw [if_pos c_44] at hf
            refine lv_iconst (v := 0) hx hb dX3_lineUp_150 (by decide) ?_
            exact B151 (z_13, 0) ls H locs ⟨lv_sub hl [1, 2, 3] rfl, hP, hD, hS⟩ hf
          · skip
            rw [if_neg c_44] at hf
            refine lv_iconst (v := 1) hx hb dX3_lineUp_146 (by decide) ?_
            refine lv_goto (tgt := 151) hx hb dX3_lineUp_147 (by decide) ?_
            exact B151 (z_13, 1) ls H locs ⟨lv_sub hl [1, 2, 3] rfl, hP, hD, hS⟩ hf
        refine lv_icmp_ne (tgt := 125) hx hb dX3_lineUp_112 (by decide) (fun c_45 => ?_) (fun c_45 => ?_)
        · skip
          rw [if_neg c_45] at hf
          refine lv_iload_n hx hb dX3_lineUp_125 rfl (lv_at hl 3 rfl) ?_
          refine lv_bipush (v := 56) hx hb dX3_lineUp_126 (by decide) ?_
          refine lv_icmp_ne (tgt := 137) hx hb dX3_lineUp_128 (by decide) (fun c_46 => ?_) (fun c_46 => ?_)
          · skip
            rw [if_neg c_46] at hf
            exact B137 (z_12) ls H locs ⟨lv_sub hl [0, 1, 2, 3] rfl, hP, hD, hS⟩ hf
          · skip
            rw [if_pos c_46] at hf
            refine lv_aload_n hx hb dX3_lineUp_131 rfl (lv_at hl 2 rfl) ?_
            refine lv_lload hx hb dX3_lineUp_132 (lv_at hl 1 rfl) ?_
            obtain ⟨z_47, _u, hfc, hf⟩ := cal_some hf
            have hFc := de_free hD hS hA
            refine va_callv (va_runV (As := [.long r_4]) (rest := []) ⟨hx, hb, hml, hown, hts⟩ (de_X3_takeOnly l dC dI cy a sh n H.size F z_12 h0 r_4 hfc) (cwV 1 hts gX3_lineUp_X3_takeOnly rfl rfl rfl (by decide +kernel) ⟨Nat.le_of_ble_eq_true rfl, Nat.le_of_ble_eq_true rfl⟩) ⟨fun a U g mk q => by obtain ⟨q0, q1, qP, qK, qD, qN⟩ := q; exact ⟨q0, q1, qP, va_K.moved (u := U) (U := U.calling g mk a) (Vm.Alike.refl U.vm) qK, qD, qN.same rfl⟩, va_recv hK hP (ci := 3) (q0 := h0) rfl (Wd_ob kg_1 sg_1 (by decide)), fun U hU hW => ⟨rfl, by rw [hU], by rw [hU]; exact hP, va_K.moved hW.alike hK, hD.weaken (fun _ _ _ _ => trivial), hN.warm hW⟩⟩ rfl rfl hl.1 rfl (lv_room (Nat.le_of_ble_eq_true rfl)) dX3_lineUp_134 ⟨Nat.le_of_ble_eq_true rfl, Nat.le_of_ble_eq_true rfl⟩) hS (fun q _ h => hFc q h) hFc (fun u t H_48 locs ht hvm hw hB hz1 hk1 hS2 => ?_)
            obtain ⟨hP1, -, hD1⟩ := hB
            rw [ht] at hP1
            replace hD := hD1.weaken (fun _ _ _ h => hFc _ h)
            replace hP := hP1
            replace hS := hS2
            clear hP1 hD1 hS2 hFc hfc hz1 hk1 hvm ht
            exact B137 (z_47) ls H_48 locs ⟨lv_sub hl [0, 1, 2, 3] rfl, hP, hD, hS⟩ hf
        · skip
          rw [if_pos c_45] at hf
          refine lv_aload_n hx hb dX3_lineUp_115 rfl (lv_at hl 2 rfl) ?_
          refine lv_ldc2 hx hb hown (hts _ md_X3_lineUp_3) dX3_lineUp_116 ?_
          obtain ⟨z_49, _u, hfc, hf⟩ := cal_some hf
          have hFc := de_free hD hS hA
          refine va_callv (va_runV (As := [.long 3]) (rest := []) ⟨hx, hb, hml, hown, hts⟩ (de_X3_takeOnly l dC dI cy a sh n H.size F z_12 h0 3 hfc) (cwV 1 hts gX3_lineUp_X3_takeOnly rfl rfl rfl (by decide +kernel) ⟨Nat.le_of_ble_eq_true rfl, Nat.le_of_ble_eq_true rfl⟩) ⟨fun a U g mk q => by obtain ⟨q0, q1, qP, qK, qD, qN⟩ := q; exact ⟨q0, q1, qP, va_K.moved (u := U) (U := U.calling g mk a) (Vm.Alike.refl U.vm) qK, qD, qN.same rfl⟩, va_recv hK hP (ci := 3) (q0 := h0) rfl (Wd_ob kg_1 sg_1 (by decide)), fun U hU hW => ⟨rfl, by rw [hU], by rw [hU]; exact hP, va_K.moved hW.alike hK, hD.weaken (fun _ _ _ _ => trivial), hN.warm hW⟩⟩ rfl rfl hl.1 rfl (lv_room (Nat.le_of_ble_eq_true rfl)) dX3_lineUp_119 ⟨Nat.le_of_ble_eq_true rfl, Nat.le_of_ble_eq_true rfl⟩) hS (fun q _ h => hFc q h) hFc (fun u t H_50 locs ht hvm hw hB hz1 hk1 hS2 => ?_)
          obtain ⟨hP1, -, hD1⟩ := hB
          rw [ht] at hP1
          replace hD := hD1.weaken (fun _ _ _ h => hFc _ h)
          replace hP := hP1
          replace hS := hS2
          clear hP1 hD1 hS2 hFc hfc hz1 hk1 hvm ht
          refine lv_goto (tgt := 137) hx hb dX3_lineUp_122 (by decide) ?_
          exact B137 (z_49) ls H_50 locs ⟨lv_sub hl [0, 1, 2, 3] rfl, hP, hD, hS⟩ hf
      refine de_cut (h := 102) (fun (x : St) => []) (fun x ls H locs => lv_has ls 9 [(6, .long r_8), (4, .long r_4), (0, .ref (a h0)), (1, .int x0)] ∧ va_P (dC, dI) vwCl (Wd cy a sh n x) H ∧ va_D A (Wd cy a sh n x) ∧ va_S A s.heap H locs) (fun x => fn_X3_lineUp_B102 F sh n h0 x0 r_8 r_4 x) (z8, r8) ?_ (fun B102 => ?_)
      · intro x ls H locs hI hf
        obtain ⟨z_51, ez⟩ : ∃ w, w = x := ⟨_, rfl⟩
        subst ez
        obtain ⟨hl2, hP2, hD2, hS2⟩ := hI
        replace hl : lv_has ls 9 [(6, .long r_8), (4, .long r_4), (0, .ref (a h0)), (1, .int x0)] := hl2
        replace hP := hP2
        replace hD := hD2
        replace hS := hS2
        clear hl2 hP2 hD2 hS2
        replace hf := fn_X3_lineUp_B102_s hf
        refine W.eq (g2 := F0 m 102 ls []) rfl ?_
        refine lv_aload_n hx hb dX3_lineUp_102 rfl (lv_at hl 2 rfl) ?_
        refine lv_ldc2 hx hb hown (hts _ md_X3_lineUp_3) dX3_lineUp_103 ?_
        obtain ⟨z_52, _u, hfc, hf⟩ := cal_some hf
        have hFc := de_free hD hS hA
        refine va_callv (va_runV (As := [.long 3]) (rest := []) ⟨hx, hb, hml, hown, hts⟩ (de_X3_takeOnly l dC dI cy a sh n H.size F z_51 h0 3 hfc) (cwV 1 hts gX3_lineUp_X3_takeOnly rfl rfl rfl (by decide +kernel) ⟨Nat.le_of_ble_eq_true rfl, Nat.le_of_ble_eq_true rfl⟩) ⟨fun a U g mk q => by obtain ⟨q0, q1, qP, qK, qD, qN⟩ := q; exact ⟨q0, q1, qP, va_K.moved (u := U) (U := U.calling g mk a) (Vm.Alike.refl U.vm) qK, qD, qN.same rfl⟩, va_recv hK hP (ci := 3) (q0 := h0) rfl (Wd_ob kg_1 sg_1 (by decide)), fun U hU hW => ⟨rfl, by rw [hU], by rw [hU]; exact hP, va_K.moved hW.alike hK, hD.weaken (fun _ _ _ _ => trivial), hN.warm hW⟩⟩ rfl rfl hl.1 rfl (lv_room (Nat.le_of_ble_eq_true rfl)) dX3_lineUp_106 ⟨Nat.le_of_ble_eq_true rfl, Nat.le_of_ble_eq_true rfl⟩) hS (fun q _ h => hFc q h) hFc (fun u t H_53 locs ht hvm hw hB hz1 hk1 hS2 => ?_)
        obtain ⟨hP1, -, hD1⟩ := hB
        rw [ht] at hP1
        replace hD := hD1.weaken (fun _ _ _ h => hFc _ h)
        replace hP := hP1
        replace hS := hS2
        clear hP1 hD1 hS2 hFc hfc hz1 hk1 hvm ht
        exact B109 (z_52) ls H_53 locs ⟨lv_sub hl [0, 1, 2, 3] rfl, hP, hD, hS⟩ hf
      refine lv_icmp_eq (tgt := 102) hx hb dX3_lineUp_87 (by decide) (fun c_54 => ?_) (fun c_54 => ?_)
      · skip
        rw [if_pos c_54] at hf
        exact B102 (z_7) ls H_9 locs ⟨lv_sub hl [0, 1, 2, 3] rfl, hP, hD, hS⟩ hf
      · skip
        rw [if_neg c_54] at hf
        refine lv_iload_n hx hb dX3_lineUp_90 rfl (lv_at hl 3 rfl) ?_
        refine lv_bipush (v := 55) hx hb dX3_lineUp_91 (by decide) ?_
        refine lv_icmp_eq (tgt := 102) hx hb dX3_lineUp_93 (by decide) (fun c_55 => ?_) (fun c_55 => ?_)
        · skip
          rw [if_pos c_55] at hf
          exact B102 (z_7) ls H_9 locs ⟨lv_sub hl [0, 1, 2, 3] rfl, hP, hD, hS⟩ hf
        · skip
          rw [if_neg c_55] at hf
          refine lv_iload_n hx hb dX3_lineUp_96 rfl (lv_at hl 3 rfl) ?_
          refine lv_bipush (v := 58) hx hb dX3_lineUp_97 (by decide) ?_
          refine lv_icmp_ne (tgt := 109) hx hb dX3_lineUp_99 (by decide) (fun c_56 => ?_) (fun c_56 => ?_)
          · skip
            rw [if_neg c_56] at hf
            exact B109 (z_7) ls H_9 locs ⟨lv_sub hl [0, 1, 2, 3] rfl, hP, hD, hS⟩ hf
          · skip
            rw [if_pos c_56] at hf
            exact B102 (z_7) ls H_9 locs ⟨lv_sub hl [0, 1, 2, 3] rfl, hP, hD, hS⟩ hf
    · skip
      rw [if_pos c_11] at hf
      refine lv_aload_n hx hb dX3_lineUp_59 rfl (lv_at hl 2 rfl) ?_
      refine lv_bipush (v := 7) hx hb dX3_lineUp_60 (by decide) ?_
      refine lv_ldc2 hx hb hown (hts _ md_X3_lineUp_2) dX3_lineUp_62 ?_
      obtain ⟨z_57, r_58, hfc, hf⟩ := cal_some hf
      have hFc := de_free hD hS hA
      refine va_calll (va_runS (As := [.int 7, .long 2]) (rest := [.ref (a h0)]) ⟨hx, hb, hml, hown, hts⟩ (de_X5_prefixed l dC dI cy a sh n H_9.size F z_7 7 2 hfc) (va_cwS 2 hts gX3_lineUp_X5_prefixed rfl rfl rfl (by decide +kernel) ⟨Nat.le_of_ble_eq_true rfl, Nat.le_of_ble_eq_true rfl⟩) ⟨fun a U g mk q => by obtain ⟨q0, q1, qP, qK, qD, qN⟩ := q; exact ⟨q0, q1, qP, va_K.moved (u := U) (U := U.calling g mk a) (Vm.Alike.refl U.vm) qK, qD, qN.same rfl⟩, fun U hU hW => ⟨rfl, by rw [hU], by rw [hU]; exact hP, va_K.moved hW.alike hK, hD.weaken (fun _ _ _ _ => trivial), hN.warm hW⟩⟩ rfl rfl hl.1 rfl (lv_room (Nat.le_of_ble_eq_true rfl)) dX3_lineUp_65 ⟨Nat.le_of_ble_eq_true rfl, Nat.le_of_ble_eq_true rfl⟩) hS (fun q _ h => hFc q h) hFc (fun rr u t H_59 locs ht hvm hw hB hz1 hk1 hS2 => ?_)
      rw [hw]
      clear hw
      obtain ⟨hP1, -, hD1⟩ := hB
      rw [ht] at hP1
      replace hD := hD1.weaken (fun _ _ _ h => hFc _ h)
      replace hP := hP1
      replace hS := hS2
      clear hP1 hD1 hS2 hFc hfc hz1 hk1 hvm ht
      obtain ⟨z_60, _u, hfc, hf⟩ := cal_some hf
      have hFc := de_free hD hS hA
      refine va_callv (va_runV (As := [.long r_58]) (rest := []) ⟨hx, hb, hml, hown, hts⟩ (de_X3_takeOnly l dC dI cy a sh n H_59.size F z_57 h0 r_58 hfc) (cwV 1 hts gX3_lineUp_X3_takeOnly rfl rfl rfl (by decide +kernel) ⟨Nat.le_of_ble_eq_true rfl, Nat.le_of_ble_eq_true rfl⟩) ⟨fun a U g mk q => by obtain ⟨q0, q1, qP, qK, qD, qN⟩ := q; exact ⟨q0, q1, qP, va_K.moved (u := U) (U := U.calling g mk a) (Vm.Alike.refl U.vm) qK, qD, qN.same rfl⟩, va_recv hK hP (ci := 3) (q0 := h0) rfl (Wd_ob kg_1 sg_1 (by decide)), fun U hU hW => ⟨rfl, by rw [hU], by rw [hU]; exact hP, va_K.moved hW.alike hK, hD.weaken (fun _ _ _ _ => trivial), hN.warm hW⟩⟩ rfl rfl hl.1 rfl (lv_room (Nat.le_of_ble_eq_true rfl)) dX3_lineUp_68 ⟨Nat.le_of_ble_eq_true rfl, Nat.le_of_ble_eq_true rfl⟩) hS (fun q _ h => hFc q h) hFc (fun u t H_61 locs ht hvm hw hB hz1 hk1 hS2 => ?_)
      obtain ⟨hP1, -, hD1⟩ := hB
      rw [ht] at hP1
      replace hD := hD1.weaken (fun _ _ _ h => hFc _ h)
      replace hP := hP1
      replace hS := hS2
      clear hP1 hD1 hS2 hFc hfc hz1 hk1 hvm ht
      refine lv_aload_n hx hb dX3_lineUp_71 rfl (lv_at hl 2 rfl) ?_
      refine lv_bipush (v := 7) hx hb dX3_lineUp_72 (by decide) ?_
      refine lv_ldc2 hx hb hown (hts _ md_X3_lineUp_2) dX3_lineUp_74 ?_
      obtain ⟨z_62, r_63, hfc, hf⟩ := cal_some hf
      have hFc := de_free hD hS hA
      refine va_calll (va_runS (As := [.int 7, .long 2]) (rest := [.ref (a h0)]) ⟨hx, hb, hml, hown, hts⟩ (de_X5_prefixed l dC dI cy a sh n H_61.size F z_60 7 2 hfc) (va_cwS 2 hts gX3_lineUp_X5_prefixed rfl rfl rfl (by decide +kernel) ⟨Nat.le_of_ble_eq_true rfl, Nat.le_of_ble_eq_true rfl⟩) ⟨fun a U g mk q => by obtain ⟨q0, q1, qP, qK, qD, qN⟩ := q; exact ⟨q0, q1, qP, va_K.moved (u := U) (U := U.calling g mk a) (Vm.Alike.refl U.vm) qK, qD, qN.same rfl⟩, fun U hU hW => ⟨rfl, by rw [hU], by rw [hU]; exact hP, va_K.moved hW.alike hK, hD.weaken (fun _ _ _ _ => trivial), hN.warm hW⟩⟩ rfl rfl hl.1 rfl (lv_room (Nat.le_of_ble_eq_true rfl)) dX3_lineUp_77 ⟨Nat.le_of_ble_eq_true rfl, Nat.le_of_ble_eq_true rfl⟩) hS (fun q _ h => hFc q h) hFc (fun rr u t H_64 locs ht hvm hw hB hz1 hk1 hS2 => ?_)
      rw [hw]
      clear hw
      obtain ⟨hP1, -, hD1⟩ := hB
      rw [ht] at hP1
      replace hD := hD1.weaken (fun _ _ _ h => hFc _ h)
      replace hP := hP1
      replace hS := hS2
      clear hP1 hD1 hS2 hFc hfc hz1 hk1 hvm ht
      obtain ⟨z_65, _u, hfc, hf⟩ := cal_some hf
      have hFc := de_free hD hS hA
      refine va_callv (va_runV (As := [.long r_63]) (rest := []) ⟨hx, hb, hml, hown, hts⟩ (de_X3_put l dC dI cy a sh n H_64.size F z_62 h0 r_63 hfc) (cwV 1 hts gX3_lineUp_X3_put rfl rfl rfl (by decide +kernel) ⟨Nat.le_of_ble_eq_true rfl, Nat.le_of_ble_eq_true rfl⟩) ⟨fun a U g mk q => by obtain ⟨q0, q1, qP, qK, qD, qN⟩ := q; exact ⟨q0, q1, qP, va_K.moved (u := U) (U := U.calling g mk a) (Vm.Alike.refl U.vm) qK, qD, qN.same rfl⟩, va_recv hK hP (ci := 3) (q0 := h0) rfl (Wd_ob kg_1 sg_1 (by decide)), fun U hU hW => ⟨rfl, by rw [hU], by rw [hU]; exact hP, va_K.moved hW.alike hK, hD.weaken (fun _ _ _ _ => trivial), hN.warm hW⟩⟩ rfl rfl hl.1 rfl (lv_room (Nat.le_of_ble_eq_true rfl)) dX3_lineUp_80 ⟨Nat.le_of_ble_eq_true rfl, Nat.le_of_ble_eq_true rfl⟩) hS (fun q _ h => hFc q h) hFc (fun u t H_66 locs ht hvm hw hB hz1 hk1 hS2 => ?_)
      obtain ⟨hP1, -, hD1⟩ := hB
      rw [ht] at hP1
      replace hD := hD1.weaken (fun _ _ _ h => hFc _ h)
      replace hP := hP1
      replace hS := hS2
      clear hP1 hD1 hS2 hFc hfc hz1 hk1 hvm ht
      obtain ⟨h8, h9⟩ := ret_some hf
      rw [h8]
      exact W.vret hx hb hr (fun t ht hW => ⟨⟨(), rfl, trivial, by rw [ht]; exact hP, va_K.moved hW.alike hK, hD⟩, hS.F ht⟩) hS.2.2 dX3_lineUp_83
  · skip
    rw [if_pos c_10] at hf
    refine lv_iconst (v := 0) hx hb dX3_lineUp_25 (by decide) ?_
    refine lv_istore (lv' := [(8, .int 0), (6, .long r_8), (4, .long r_4), (0, .ref (a h0)), (1, .int x0), (2, .int x1), (3, .int x2)]) hx hb dX3_lineUp_26 hl (by decide) rfl (fun ls hl2 => ?_)
    replace hl := hl2
    clear hl2
    have hl0 : lv_has ls 9 [(8, .int 0), (6, .long r_8), (4, .long r_4), (0, .ref (a h0)), (3, .int x2)] := lv_sub hl [0, 1, 2, 3, 6] rfl
    refine de_loop (h := 28) (fun (x : St × Int32) ls H locs => lv_has ls 9 [(8, .int x.2), (6, .long r_8), (4, .long r_4), (0, .ref (a h0)), (3, .int x2)] ∧ va_P (dC, dI) vwCl (Wd cy a sh n x.1) H ∧ va_D A (Wd cy a sh n x.1) ∧ va_S A s.heap H locs) (fun f x => fn_X3_lineUp_L28 F sh n x2 h0 r_8 r_4 f x.1 x.2) (z8, r8) ?_ (fun _ => rfl) F (z_7, 0) ls H_9 locs ⟨hl0, hP, hD, hS⟩ hf
    intro f_69 x ls H locs ih28 hI hf
    obtain ⟨z_68, p_67⟩ := x
    obtain ⟨hl2, hP2, hD2, hS2⟩ := hI
    replace hl : lv_has ls 9 [(8, .int p_67), (6, .long r_8), (4, .long r_4), (0, .ref (a h0)), (3, .int x2)] := hl2
    replace hP := hP2
    replace hD := hD2
    replace hS := hS2
    clear hl2 hP2 hD2 hS2 hl0
    replace hf := fn_X3_lineUp_L28_s hf
    refine lv_iload hx hb dX3_lineUp_28 (lv_at hl 0 rfl) ?_
    refine lv_iload_n hx hb dX3_lineUp_30 rfl (lv_at hl 4 rfl) ?_
    refine lv_icmp_ge (tgt := 46) hx hb dX3_lineUp_31 (by decide) (fun c_70 => ?_) (fun c_70 => ?_)
    · skip
      rw [if_pos c_70] at hf
      refine lv_aload_n hx hb dX3_lineUp_46 rfl (lv_at hl 3 rfl) ?_
      refine lv_lload hx hb dX3_lineUp_47 (lv_at hl 1 rfl) ?_
      obtain ⟨z_71, _u, hfc, hf⟩ := cal_some hf
      have hFc := de_free hD hS hA
      refine va_callv (va_runV (As := [.long r_8]) (rest := []) ⟨hx, hb, hml, hown, hts⟩ (de_X3_put l dC dI cy a sh n H.size F z_68 h0 r_8 hfc) (cwV 1 hts gX3_lineUp_X3_put rfl rfl rfl (by decide +kernel) ⟨Nat.le_of_ble_eq_true rfl, Nat.le_of_ble_eq_true rfl⟩) ⟨fun a U g mk q => by obtain ⟨q0, q1, qP, qK, qD, qN⟩ := q; exact ⟨q0, q1, qP, va_K.moved (u := U) (U := U.calling g mk a) (Vm.Alike.refl U.vm) qK, qD, qN.same rfl⟩, va_recv hK hP (ci := 3) (q0 := h0) rfl (Wd_ob kg_1 sg_1 (by decide)), fun U hU hW => ⟨rfl, by rw [hU], by rw [hU]; exact hP, va_K.moved hW.alike hK, hD.weaken (fun _ _ _ _ => trivial), hN.warm hW⟩⟩ rfl rfl hl.1 rfl (lv_room (Nat.le_of_ble_eq_true rfl)) dX3_lineUp_49 ⟨Nat.le_of_ble_eq_true rfl, Nat.le_of_ble_eq_true rfl⟩) hS (fun q _ h => hFc q h) hFc (fun u t H_72 locs ht hvm hw hB hz1 hk1 hS2 => ?_)
      obtain ⟨hP1, -, hD1⟩ := hB
      rw [ht] at hP1
      replace hD := hD1.weaken (fun _ _ _ h => hFc _ h)
      replace hP := hP1
      replace hS := hS2
      clear hP1 hD1 hS2 hFc hfc hz1 hk1 hvm ht
      obtain ⟨h8, h9⟩ := ret_some hf
      rw [h8]
      exact W.vret hx hb hr (fun t ht hW => ⟨⟨(), rfl, trivial, by rw [ht]; exact hP, va_K.moved hW.alike hK, hD⟩, hS.F ht⟩) hS.2.2 dX3_lineUp_52
    · skip
      rw [if_neg c_70] at hf
      refine lv_aload_n hx hb dX3_lineUp_34 rfl (lv_at hl 3 rfl) ?_
      refine lv_lload hx hb dX3_lineUp_35 (lv_at hl 2 rfl) ?_
      obtain ⟨z_73, _u, hfc, hf⟩ := cal_some hf
      have hFc := de_free hD hS hA
      refine va_callv (va_runV (As := [.long r_4]) (rest := []) ⟨hx, hb, hml, hown, hts⟩ (de_X3_takeOnly l dC dI cy a sh n H.size F z_68 h0 r_4 hfc) (cwV 1 hts gX3_lineUp_X3_takeOnly rfl rfl rfl (by decide +kernel) ⟨Nat.le_of_ble_eq_true rfl, Nat.le_of_ble_eq_true rfl⟩) ⟨fun a U g mk q => by obtain ⟨q0, q1, qP, qK, qD, qN⟩ := q; exact ⟨q0, q1, qP, va_K.moved (u := U) (U := U.calling g mk a) (Vm.Alike.refl U.vm) qK, qD, qN.same rfl⟩, va_recv hK hP (ci := 3) (q0 := h0) rfl (Wd_ob kg_1 sg_1 (by decide)), fun U hU hW => ⟨rfl, by rw [hU], by rw [hU]; exact hP, va_K.moved hW.alike hK, hD.weaken (fun _ _ _ _ => trivial), hN.warm hW⟩⟩ rfl rfl hl.1 rfl (lv_room (Nat.le_of_ble_eq_true rfl)) dX3_lineUp_37 ⟨Nat.le_of_ble_eq_true rfl, Nat.le_of_ble_eq_true rfl⟩) hS (fun q _ h => hFc q h) hFc (fun u t H_74 locs ht hvm hw hB hz1 hk1 hS2 => ?_)
      obtain ⟨hP1, -, hD1⟩ := hB
      rw [ht] at hP1
      replace hD := hD1.weaken (fun _ _ _ h => hFc _ h)
      replace hP := hP1
      replace hS := hS2
      clear hP1 hD1 hS2 hFc hfc hz1 hk1 hvm ht
      refine lv_iinc (v := (p_67 + 1)) (lv' := [(8, .int (p_67 + 1)), (6, .long r_8), (4, .long r_4), (0, .ref (a h0)), (3, .int x2)]) hx hb dX3_lineUp_40 hl (k := 0) rfl rfl (by decide) rfl (fun ls hl2 => ?_)
      replace hl := hl2
      clear hl2
      refine lv_goto (tgt := 28) hx hb dX3_lineUp_43 (by decide) ?_
      exact ih28 (z_73, (p_67 + 1)) ls H_74 locs ⟨lv_sub hl [0, 1, 2, 3, 4] rfl, hP, hD, hS⟩ hf

theorem md_X18_ask_1 : (.fieldLink RX18 271 "ResourceLedgerModel" "asked" "I" : Cond) ∈ wsX18_ask := List.mem_of_getElem? (i := 1) rfl
theorem iwd_X18_ask_X18 : ∀ w ∈ wsX180, w ∈ wsX18_ask := fun _ h => List.mem_cons_of_mem _ (List.mem_append_left _ (List.mem_append_right _ h))
theorem md_X18_ask_2 : (.fieldLink RX18 274 "ResourceLedgerModel" "askedSorts" "[I" : Cond) ∈ wsX18_ask := List.mem_of_getElem? (i := 2) rfl
theorem md_X18_ask_3 : (.fieldLink RX18 277 "ResourceLedgerModel" "askedAddresses" "[J" : Cond) ∈ wsX18_ask := List.mem_of_getElem? (i := 3) rfl
theorem md_X18_ask_4 : (.fieldLink RX18 280 "ResourceLedgerModel" "askedKinds" "[I" : Cond) ∈ wsX18_ask := List.mem_of_getElem? (i := 4) rfl
theorem md_X18_ask_6 : (.fieldLink RX18 285 "ResourceLedgerModel" "askedTrees" "[I" : Cond) ∈ wsX18_ask := List.mem_of_getElem? (i := 6) rfl
theorem md_X18_ask_7 : (.fieldLink RX18 296 "ResourceLedgerModel" "askedThere" "[Z" : Cond) ∈ wsX18_ask := List.mem_of_getElem? (i := 7) rfl
theorem md_X18_ask_8 : (.fieldLink RX18 300 "ResourceLedgerModel" "askedBalances" "[J" : Cond) ∈ wsX18_ask := List.mem_of_getElem? (i := 8) rfl
theorem md_X18_ask_9 : (.fieldLink RX18 303 "ResourceLedgerModel" "balances" "[J" : Cond) ∈ wsX18_ask := List.mem_of_getElem? (i := 9) rfl
theorem md_X18_ask_5 : (.constantLong RX18 283 (4) : Cond) ∈ wsX18_ask := List.mem_of_getElem? (i := 5) rfl
set_option maxHeartbeats 4000000 in
set_option maxRecDepth 100000 in
theorem de_X18_ask (l : Launch) (dC : Nat → ClassId) (dI : Nat → Nat → Nat) (cy : Nat → ClassId) (a : Nat → Nat) (sh : Nat → Nat × Nat) (n sz : Nat) (F : Nat) (z : St) (h0 : Nat) (x0 : Int32) (x1 : Int64) (x2 : Int32) {z8 : St} {r8 : Int32} (hf : fn_X18_ask F sh n z h0 x0 x1 x2 = some (z8, r8)) : Met l yX18_ask wsX18_ask ({ frames := 51, cells := 0, slots := 0, locals := 1174 }) (va_Pc [.ref (a h0), .int x0, .long x1, .int x2] (fun U => U.heap.size = sz ∧ va_P (dC, dI) vwCl (Wd cy a sh n z) U.heap ∧ va_K (dC, dI) vwCl (TYS cy) U ∧ va_D (fun _ => True) (Wd cy a sh n z) ∧ NK U)) (va_Qi (fun (r9 : Int32) (u : Unit) => r9 = r8) (fun u t => va_P (dC, dI) vwCl (Wd cy a sh n z8) t.heap ∧ va_K (dC, dI) vwCl (TYS cy) t ∧ va_D (va_A (Wd cy a sh n z) sz) (Wd cy a sh n z8)) (va_A (Wd cy a sh n z) sz)) 0 0 (va_A (Wd cy a sh n z) sz) := by
  refine Met.ofW (cc := cX18_ask) (maxL := 8) (ret := (some .int)) (by decide) rfl ?_
  intro p e s m args below meth c s₁ B hml hv
  obtain ⟨rfl, hsz, hP, hK, hD0, hN⟩ := hv
  have hx := B.exec
  have hb := B.bytes
  have hr := B.returns
  have hts := atoms_spec (ws := wsX18_ask) B.pre
  have hown : s.vm.findClass RX18 = some m.cls := findClass_of_methodNamed B.named
  have hlocks := B.notSynchronized
  subst hsz
  have hD := hD0.self (sz := s.heap.size)
  clear hD0
  generalize hAe : va_A (Wd cy a sh n z) s.heap.size = A at hD ⊢
  have hA : ∀ q : Nat, s.heap.size ≤ q → A q := fun q h => by rw [← hAe]; exact Or.inr h
  clear hAe
  have hS : va_S A s.heap s.heap [] := va_S.rf
  have hl := lv_entry ([.ref (a h0), .int x0, .long x1, .int x2]) (n := 8) (Nat.le_of_ble_eq_true rfl)
  rw [lg_entry_eq]
  generalize (lg_sl ([.ref (a h0), .int x0, .long x1, .int x2]) ++ List.replicate (8 - (lg_sl ([.ref (a h0), .int x0, .long x1, .int x2])).length) Slot.unset).toArray = ls at hl ⊢
  replace hl : lv_has ls 8 [(0, .ref (a h0)), (1, .int x0), (2, .long x1), (4, .int x2)] := hl
  unfold fn_X18_ask at hf
  refine de_start hS hP (fun H locs hS hP => ?_)
  refine lv_iconst (v := 0) hx hb dX18_ask_0 (by decide) ?_
  refine lv_istore (lv' := [(5, .int 0), (0, .ref (a h0)), (1, .int x0), (2, .long x1), (4, .int x2)]) hx hb dX18_ask_1 hl (by decide) rfl (fun ls hl2 => ?_)
  replace hl := hl2
  clear hl2
  have hl0 : lv_has ls 8 [(5, .int 0), (0, .ref (a h0)), (1, .int x0), (2, .long x1), (4, .int x2)] := lv_sub hl [0, 1, 2, 3, 4] rfl
  refine de_loop (h := 3) (fun (x : St × Int32) ls H locs => lv_has ls 8 [(5, .int x.2), (0, .ref (a h0)), (1, .int x0), (2, .long x1), (4, .int x2)] ∧ va_P (dC, dI) vwCl (Wd cy a sh n x.1) H ∧ va_D A (Wd cy a sh n x.1) ∧ va_S A s.heap H locs) (fun f x => fn_X18_ask_L3 F sh n h0 x0 x1 x2 f x.1 x.2) (z8, r8) ?_ (fun _ => rfl) F (z, 0) ls H locs ⟨hl0, hP, hD, hS⟩ hf
  intro f_3 x ls H locs ih3 hI hf
  obtain ⟨z_2, p_1⟩ := x
  obtain ⟨hl2, hP2, hD2, hS2⟩ := hI
  replace hl : lv_has ls 8 [(5, .int p_1), (0, .ref (a h0)), (1, .int x0), (2, .long x1), (4, .int x2)] := hl2
  replace hP := hP2
  replace hD := hD2
  replace hS := hS2
  clear hl2 hP2 hD2 hS2 hl0
  replace hf := fn_X18_ask_L3_s hf
  refine lv_iload hx hb dX18_ask_3 (lv_at hl 0 rfl) ?_
  refine lv_aload_n hx hb dX18_ask_5 rfl (lv_at hl 1 rfl) ?_
  obtain ⟨g_4, hf⟩ := grd_some hf
  obtain ⟨kg_4, sg_4⟩ := okO_at g_4
  refine va_get (D := (dC, dI)) (ci := 18) (v := .int (z_2.1 h0 29)) (C := RX18) (T := TX18) (N := 78) hx hb hts iwd_X18_ask_X18 hown hK hP h0 (Wd_ob kg_4 sg_4 (by decide)) rfl 29 (by decide) (hts _ md_X18_ask_1) (fun _ h9 => h9) (fl_at (t := 0) rfl) dX18_ask_6 ?_
  refine lv_icmp_ge (tgt := 56) hx hb dX18_ask_9 (by decide) (fun c_5 => ?_) (fun c_5 => ?_)
  · skip
    rw [if_pos c_5] at hf
    refine lv_aload_n hx hb dX18_ask_56 rfl (lv_at hl 1 rfl) ?_
    refine va_get (D := (dC, dI)) (ci := 18) (v := .int (z_2.1 h0 29)) (C := RX18) (T := TX18) (N := 78) hx hb hts iwd_X18_ask_X18 hown hK hP h0 (Wd_ob kg_4 sg_4 (by decide)) rfl 29 (by decide) (hts _ md_X18_ask_1) (fun _ h9 => h9) (fl_at (t := 0) rfl) dX18_ask_57 ?_
    refine lv_bipush (v := 24) hx hb dX18_ask_60 (by decide) ?_
    refine lv_icmp_ne (tgt := 75) hx hb dX18_ask_62 (by decide) (fun c_6 => ?_) (fun c_6 => ?_)
    · skip
      rw [if_neg c_6] at hf
      refine lv_aload_n hx hb dX18_ask_75 rfl (lv_at hl 1 rfl) ?_
      refine va_get (D := (dC, dI)) (ci := 18) (v := .int (z_2.1 h0 29)) (C := RX18) (T := TX18) (N := 78) hx hb hts iwd_X18_ask_X18 hown hK hP h0 (Wd_ob kg_4 sg_4 (by decide)) rfl 29 (by decide) (hts _ md_X18_ask_1) (fun _ h9 => h9) (fl_at (t := 0) rfl) dX18_ask_76 ?_
      refine lv_topi (fun v_7 ev_7 => ?_)
      replace hf := lt_at ev_7 hf
      clear ev_7
      refine lv_istore (lv' := [(5, .int v_7), (0, .ref (a h0)), (1, .int x0), (2, .long x1), (4, .int x2)]) hx hb dX18_ask_79 hl (by decide) rfl (fun ls hl2 => ?_)
      replace hl := hl2
      clear hl2
      refine lv_aload_n hx hb dX18_ask_81 rfl (lv_at hl 1 rfl) ?_
      refine lv_dup hx hb dX18_ask_82 rfl ?_
      refine va_get (D := (dC, dI)) (ci := 18) (v := .int (z_2.1 h0 29)) (C := RX18) (T := TX18) (N := 78) hx hb hts iwd_X18_ask_X18 hown hK hP h0 (Wd_ob kg_4 sg_4 (by decide)) rfl 29 (by decide) (hts _ md_X18_ask_1) (fun _ h9 => h9) (fl_at (t := 0) rfl) dX18_ask_83 ?_
      refine lv_iconst (v := 1) hx hb dX18_ask_86 (by decide) ?_
      refine lv_iadd hx hb dX18_ask_87 ?_
      refine va_put (D := (dC, dI)) (ci := 18) (v := .int ((z_2.1 h0 29) + 1)) (ty := .int) (C := RX18) (T := TX18) (N := 78) hx hb hts iwd_X18_ask_X18 tyX18 tyX18_ok nmX18 hown hK hP hD hS h0 (Wd_ob kg_4 sg_4 (by decide)) rfl 29 (by decide) (hts _ md_X18_ask_1) (fun _ h9 => h9) rfl (by decide +kernel) rfl rfl (by rw [fl_len]; decide) dX18_ask_88 (fun H_8 locs hP2 hD2 hS2 => ?_)
      rw [Wd_si sg_4 (by decide) rfl] at hP2 hD2
      obtain ⟨z_9, ez_9⟩ : ∃ w, w = si z_2 h0 29 ((z_2.1 h0 29) + 1) := ⟨_, rfl⟩
      rw [← ez_9] at hP2 hD2
      replace hf := lt_at ez_9 hf
      clear ez_9
      replace hP := hP2
      replace hD := hD2
      replace hS := hS2
      clear hP2 hD2 hS2
      refine lv_aload_n hx hb dX18_ask_91 rfl (lv_at hl 1 rfl) ?_
      obtain ⟨k_10, ek_10, hf⟩ := lnk_some hf
      refine va_get (D := (dC, dI)) (ci := 18) (v := .ref (a k_10)) (C := RX18) (T := TX18) (N := 78) hx hb hts iwd_X18_ask_X18 hown hK hP h0 (Wd_ob kg_4 sg_4 (by decide)) rfl 30 (by decide) (hts _ md_X18_ask_2) (fun _ h9 => h9) (fl_q rfl ek_10) dX18_ask_92 ?_
      refine lv_iload hx hb dX18_ask_95 (lv_at hl 0 rfl) ?_
      refine lv_iload_n hx hb dX18_ask_97 rfl (lv_at hl 2 rfl) ?_
      obtain ⟨g_11, hf⟩ := grd_some hf
      obtain ⟨kg_11, sg_11, ig_11⟩ := okA_at g_11
      refine va_iast hx hb hK hP hD hS k_10 1 (Wd_ai kg_11 sg_11) rfl ig_11 dX18_ask_98 (fun H_12 locs hP2 hD2 hS2 => ?_)
      rw [Wd_ti sg_11] at hP2 hD2
      obtain ⟨z_13, ez_13⟩ : ∃ w, w = si z_9 k_10 v_7.toNatClampNeg x0 := ⟨_, rfl⟩
      rw [← ez_13] at hP2 hD2
      replace hf := lt_at ez_13 hf
      clear ez_13
      replace hP := hP2
      replace hD := hD2
      replace hS := hS2
      clear hP2 hD2 hS2
      refine lv_aload_n hx hb dX18_ask_99 rfl (lv_at hl 1 rfl) ?_
      obtain ⟨k_14, ek_14, hf⟩ := lnk_some hf
      refine va_get (D := (dC, dI)) (ci := 18) (v := .ref (a k_14)) (C := RX18) (T := TX18) (N := 78) hx hb hts iwd_X18_ask_X18 hown hK hP h0 (Wd_ob kg_4 sg_4 (by decide)) rfl 31 (by decide) (hts _ md_X18_ask_3) (fun _ h9 => h9) (fl_q rfl ek_14) dX18_ask_100 ?_
      refine lv_iload hx hb dX18_ask_103 (lv_at hl 0 rfl) ?_
      refine lv_lload_n hx hb dX18_ask_105 rfl (lv_at hl 3 rfl) ?_
      obtain ⟨g_15, hf⟩ := grd_some hf
      obtain ⟨kg_15, sg_15, ig_15⟩ := okA_at g_15
      refine va_last hx hb hK hP hD hS k_14 2 (Wd_al kg_15 sg_15) rfl ig_15 dX18_ask_106 (fun H_16 locs hP2 hD2 hS2 => ?_)
      rw [Wd_tl sg_15] at hP2 hD2
      obtain ⟨z_17, ez_17⟩ : ∃ w, w = sl z_13 k_14 v_7.toNatClampNeg x1 := ⟨_, rfl⟩
      rw [← ez_17] at hP2 hD2
      replace hf := lt_at ez_17 hf
      clear ez_17
      replace hP := hP2
      replace hD := hD2
      replace hS := hS2
      clear hP2 hD2 hS2
      refine lv_aload_n hx hb dX18_ask_107 rfl (lv_at hl 1 rfl) ?_
      obtain ⟨k_18, ek_18, hf⟩ := lnk_some hf
      refine va_get (D := (dC, dI)) (ci := 18) (v := .ref (a k_18)) (C := RX18) (T := TX18) (N := 78) hx hb hts iwd_X18_ask_X18 hown hK hP h0 (Wd_ob kg_4 sg_4 (by decide)) rfl 32 (by decide) (hts _ md_X18_ask_4) (fun _ h9 => h9) (fl_q rfl ek_18) dX18_ask_108 ?_
      refine lv_iload hx hb dX18_ask_111 (lv_at hl 0 rfl) ?_
      refine lv_iload hx hb dX18_ask_113 (lv_at hl 4 rfl) ?_
      obtain ⟨g_19, hf⟩ := grd_some hf
      obtain ⟨kg_19, sg_19, ig_19⟩ := okA_at g_19
      refine va_iast hx hb hK hP hD hS k_18 1 (Wd_ai kg_19 sg_19) rfl ig_19 dX18_ask_115 (fun H_20 locs hP2 hD2 hS2 => ?_)
      rw [Wd_ti sg_19] at hP2 hD2
      obtain ⟨z_21, ez_21⟩ : ∃ w, w = si z_17 k_18 v_7.toNatClampNeg x2 := ⟨_, rfl⟩
      rw [← ez_21] at hP2 hD2
      replace hf := lt_at ez_21 hf
      clear ez_21
      replace hP := hP2
      replace hD := hD2
      replace hS := hS2
      clear hP2 hD2 hS2
      refine lv_aload_n hx hb dX18_ask_116 rfl (lv_at hl 1 rfl) ?_
      obtain ⟨k_22, ek_22, hf⟩ := lnk_some hf
      refine va_get (D := (dC, dI)) (ci := 18) (v := .ref (a k_22)) (C := RX18) (T := TX18) (N := 78) hx hb hts iwd_X18_ask_X18 hown hK hP h0 (Wd_ob kg_4 sg_4 (by decide)) rfl 34 (by decide) (hts _ md_X18_ask_6) (fun _ h9 => h9) (fl_q rfl ek_22) dX18_ask_117 ?_
      refine lv_iload hx hb dX18_ask_120 (lv_at hl 0 rfl) ?_
      refine lv_iconst (v := (-1)) hx hb dX18_ask_122 (by decide) ?_
      obtain ⟨g_23, hf⟩ := grd_some hf
      obtain ⟨kg_23, sg_23, ig_23⟩ := okA_at g_23
      refine va_iast hx hb hK hP hD hS k_22 1 (Wd_ai kg_23 sg_23) rfl ig_23 dX18_ask_123 (fun H_24 locs hP2 hD2 hS2 => ?_)
      rw [Wd_ti sg_23] at hP2 hD2
      obtain ⟨z_25, ez_25⟩ : ∃ w, w = si z_21 k_22 v_7.toNatClampNeg (-1) := ⟨_, rfl⟩
      rw [← ez_25] at hP2 hD2
      replace hf := lt_at ez_25 hf
      clear ez_25
      replace hP := hP2
      replace hD := hD2
      replace hS := hS2
      clear hP2 hD2 hS2
      refine lv_iload_n hx hb dX18_ask_124 rfl (lv_at hl 2 rfl) ?_
      refine lv_iconst (v := 1) hx hb dX18_ask_125 (by decide) ?_
      refine de_cut (h := 138) (fun (x : St × Int32) => [.int x.2]) (fun x ls H locs => lv_has ls 8 [(5, .int v_7), (0, .ref (a h0)), (1, .int x0), (2, .long x1), (4, .int x2)] ∧ va_P (dC, dI) vwCl (Wd cy a sh n x.1) H ∧ va_D A (Wd cy a sh n x.1) ∧ va_S A s.heap H locs) (fun x => fn_X18_ask_B138 F sh n x0 h0 x1 x2 v_7 x.1 x.2) (z8, r8) ?_ (fun B138 => ?_)
      · intro x ls H locs hI hf
        obtain ⟨z_27, p_26⟩ := x
        obtain ⟨hl2, hP2, hD2, hS2⟩ := hI
        replace hl : lv_has ls 8 [(5, .int v_7), (0, .ref (a h0)), (1, .int x0), (2, .long x1), (4, .int x2)] := hl2
        replace hP := hP2
        replace hD := hD2
        replace hS := hS2
        clear hl2 hP2 hD2 hS2
        replace hf := fn_X18_ask_B138_s hf
        refine W.eq (g2 := F0 m 138 ls [.int p_26]) rfl ?_
        refine lv_istore (lv' := [(6, .int p_26), (5, .int v_7), (0, .ref (a h0)), (1, .int x0), (2, .long x1), (4, .int x2)]) hx hb dX18_ask_138 hl (by decide) rfl (fun ls hl2 => ?_)
        replace hl := hl2
        clear hl2
        refine lv_iload_n hx hb dX18_ask_140 rfl (lv_at hl 3 rfl) ?_
        refine lv_iconst (v := 3) hx hb dX18_ask_141 (by decide) ?_
        refine de_cut (h := 156) (fun (x : St × Int32) => [.int x.2]) (fun x ls H locs => lv_has ls 8 [(6, .int p_26), (5, .int v_7), (0, .ref (a h0))] ∧ va_P (dC, dI) vwCl (Wd cy a sh n x.1) H ∧ va_D A (Wd cy a sh n x.1) ∧ va_S A s.heap H locs) (fun x => fn_X18_ask_B156 F sh n h0 p_26 v_7 x.1 x.2) (z8, r8) ?_ (fun B156 => ?_)
        · intro x ls H locs hI hf
          obtain ⟨z_29, p_28⟩ := x
          obtain ⟨hl2, hP2, hD2, hS2⟩ := hI
          replace hl : lv_has ls 8 [(6, .int p_26), (5, .int v_7), (0, .ref (a h0))] := hl2
          replace hP := hP2
          replace hD := hD2
          replace hS := hS2
          clear hl2 hP2 hD2 hS2
          replace hf := fn_X18_ask_B156_s hf
          refine W.eq (g2 := F0 m 156 ls [.int p_28]) rfl ?_
          refine lv_istore (lv' := [(7, .int p_28), (6, .int p_26), (5, .int v_7), (0, .ref (a h0))]) hx hb dX18_ask_156 hl (by decide) rfl (fun ls hl2 => ?_)
          replace hl := hl2
          clear hl2
          refine lv_aload_n hx hb dX18_ask_158 rfl (lv_at hl 3 rfl) ?_
          obtain ⟨k_30, ek_30, hf⟩ := lnk_some hf
          refine va_get (D := (dC, dI)) (ci := 18) (v := .ref (a k_30)) (C := RX18) (T := TX18) (N := 78) hx hb hts iwd_X18_ask_X18 hown hK hP h0 (Wd_ob kg_4 sg_4 (by decide)) rfl 35 (by decide) (hts _ md_X18_ask_7) (fun _ h9 => h9) (fl_q rfl ek_30) dX18_ask_159 ?_
          refine lv_iload hx hb dX18_ask_162 (lv_at hl 2 rfl) ?_
          refine lv_iload hx hb dX18_ask_164 (lv_at hl 1 rfl) ?_
          refine de_cut (h := 179) (fun (x : St × Int32) => [.int x.2, .int v_7, .ref (a k_30)]) (fun x ls H locs => lv_has ls 8 [(7, .int p_28), (6, .int p_26), (5, .int v_7), (0, .ref (a h0))] ∧ va_P (dC, dI) vwCl (Wd cy a sh n x.1) H ∧ va_D A (Wd cy a sh n x.1) ∧ va_S A s.heap H locs) (fun x => fn_X18_ask_B179 F sh n k_30 v_7 h0 p_26 p_28 x.1 x.2) (z8, r8) ?_ (fun B179 => ?_)
          · intro x ls H locs hI hf
            obtain ⟨z_32, p_31⟩ := x
            obtain ⟨hl2, hP2, hD2, hS2⟩ := hI
            replace hl : lv_has ls 8 [(7, .int p_28), (6, .int p_26), (5, .int v_7), (0, .ref (a h0))] := hl2
            replace hP := hP2
            replace hD := hD2
            replace hS := hS2
            clear hl2 hP2 hD2 hS2
            replace hf := fn_X18_ask_B179_s hf
            refine W.eq (g2 := F0 m 179 ls [.int p_31, .int v_7, .ref (a k_30)]) rfl ?_
            obtain ⟨g_33, hf⟩ := grd_some hf
            obtain ⟨kg_33, sg_33, ig_33⟩ := okA_at g_33
            refine va_zast hx hb hK hP hD hS k_30 3 (Wd_az kg_33 sg_33) rfl ig_33 dX18_ask_179 (fun H_34 locs hP2 hD2 hS2 => ?_)
            rw [Wd_tz sg_33] at hP2 hD2
            obtain ⟨z_35, ez_35⟩ : ∃ w, w = si z_32 k_30 v_7.toNatClampNeg (vp_nar .boolean p_31) := ⟨_, rfl⟩
            rw [← ez_35] at hP2 hD2
            replace hf := lt_at ez_35 hf
            clear ez_35
            replace hP := hP2
            replace hD := hD2
            replace hS := hS2
            clear hP2 hD2 hS2
            refine lv_aload_n hx hb dX18_ask_180 rfl (lv_at hl 3 rfl) ?_
            obtain ⟨k_36, ek_36, hf⟩ := lnk_some hf
            refine va_get (D := (dC, dI)) (ci := 18) (v := .ref (a k_36)) (C := RX18) (T := TX18) (N := 78) hx hb hts iwd_X18_ask_X18 hown hK hP h0 (Wd_ob kg_4 sg_4 (by decide)) rfl 33 (by decide) (hts _ md_X18_ask_8) (fun _ h9 => h9) (fl_q rfl ek_36) dX18_ask_181 ?_
            refine lv_iload hx hb dX18_ask_184 (lv_at hl 2 rfl) ?_
            refine lv_iload hx hb dX18_ask_186 (lv_at hl 1 rfl) ?_
            refine de_cut (h := 202) (fun (x : St × Int64) => [.long x.2, .int v_7, .ref (a k_36)]) (fun x ls H locs => lv_has ls 8 [(7, .int p_28), (5, .int v_7), (0, .ref (a h0))] ∧ va_P (dC, dI) vwCl (Wd cy a sh n x.1) H ∧ va_D A (Wd cy a sh n x.1) ∧ va_S A s.heap H locs) (fun x => fn_X18_ask_B202 F sh n k_36 v_7 p_28 h0 x.1 x.2) (z8, r8) ?_ (fun B202 => ?_)
            · intro x ls H locs hI hf
              obtain ⟨z_38, p_37⟩ := x
              obtain ⟨hl2, hP2, hD2, hS2⟩ := hI
              replace hl : lv_has ls 8 [(7, .int p_28), (5, .int v_7), (0, .ref (a h0))] := hl2
              replace hP := hP2
              replace hD := hD2
              replace hS := hS2
              clear hl2 hP2 hD2 hS2
              replace hf := fn_X18_ask_B202_s hf
              refine W.eq (g2 := F0 m 202 ls [.long p_37, .int v_7, .ref (a k_36)]) rfl ?_
              obtain ⟨g_39, hf⟩ := grd_some hf
              obtain ⟨kg_39, sg_39, ig_39⟩ := okA_at g_39
              refine va_last hx hb hK hP hD hS k_36 2 (Wd_al kg_39 sg_39) rfl ig_39 dX18_ask_202 (fun H_40 locs hP2 hD2 hS2 => ?_)
              rw [Wd_tl sg_39] at hP2 hD2
              obtain ⟨z_41, ez_41⟩ : ∃ w, w = sl z_38 k_36 v_7.toNatClampNeg p_37 := ⟨_, rfl⟩
              rw [← ez_41] at hP2 hD2
              replace hf := lt_at ez_41 hf
              clear ez_41
              replace hP := hP2
              replace hD := hD2
              replace hS := hS2
              clear hP2 hD2 hS2
              refine lv_iload hx hb dX18_ask_203 (lv_at hl 0 rfl) ?_
              refine lv_if_lt (tgt := 221) hx hb dX18_ask_205 (by decide) (fun c_42 => ?_) (fun c_42 => ?_)
              · skip
                rw [if_pos c_42] at hf
                refine lv_iload hx hb dX18_ask_221 (lv_at hl 1 rfl) ?_
                obtain ⟨h8, h9⟩ := ret_some hf
                rw [h8, h9]
                exact W.iret (v := v_7) hx hb hr (fun t ht hW => ⟨⟨v_7, (), rfl, rfl, by rw [ht]; exact hP, va_K.moved hW.alike hK, hD⟩, hS.F ht⟩) hS.2.2 dX18_ask_223
              · skip
                rw [if_neg c_42] at hf
                refine lv_aload_n hx hb dX18_ask_208 rfl (lv_at hl 2 rfl) ?_
                obtain ⟨k_43, ek_43, hf⟩ := lnk_some hf
                refine va_get (D := (dC, dI)) (ci := 18) (v := .ref (a k_43)) (C := RX18) (T := TX18) (N := 78) hx hb hts iwd_X18_ask_X18 hown hK hP h0 (Wd_ob kg_4 sg_4 (by decide)) rfl 34 (by decide) (hts _ md_X18_ask_6) (fun _ h9 => h9) (fl_q rfl ek_43) dX18_ask_209 ?_
                refine lv_iload hx hb dX18_ask_212 (lv_at hl 1 rfl) ?_
                refine lv_aload_n hx hb dX18_ask_214 rfl (lv_at hl 2 rfl) ?_
                refine lv_iload hx hb dX18_ask_215 (lv_at hl 0 rfl) ?_
                obtain ⟨z_44, r_45, hfc, hf⟩ := cal_some hf
                have hFc := de_free hD hS hA
                refine va_calli (va_runV (As := [.int p_28]) (rest := [.int v_7, .ref (a k_43)]) ⟨hx, hb, hml, hown, hts⟩ (de_X18_load l dC dI cy a sh n H_40.size F z_41 h0 p_28 hfc) (cwV 1 hts gX18_ask_X18_load rfl rfl rfl (by decide +kernel) ⟨Nat.le_of_ble_eq_true rfl, Nat.le_of_ble_eq_true rfl⟩) ⟨fun a U g mk q => by obtain ⟨q0, q1, qP, qK, qD, qN⟩ := q; exact ⟨q0, q1, qP, va_K.moved (u := U) (U := U.calling g mk a) (Vm.Alike.refl U.vm) qK, qD, qN.same rfl⟩, va_recv hK hP (ci := 18) (q0 := h0) rfl (Wd_ob kg_4 sg_4 (by decide)), fun U hU hW => ⟨rfl, by rw [hU], by rw [hU]; exact hP, va_K.moved hW.alike hK, hD.weaken (fun _ _ _ _ => trivial), hN.warm hW⟩⟩ rfl rfl hl.1 rfl (lv_room (Nat.le_of_ble_eq_true rfl)) dX18_ask_217 ⟨Nat.le_of_ble_eq_true rfl, Nat.le_of_ble_eq_true rfl⟩) hS (fun q _ h => hFc q h) hFc (fun rr u t H_46 locs ht hvm hw hB hz1 hk1 hS2 => ?_)
                rw [hw]
                clear hw
                obtain ⟨hP1, -, hD1⟩ := hB
                rw [ht] at hP1
                replace hD := hD1.weaken (fun _ _ _ h => hFc _ h)
                replace hP := hP1
                replace hS := hS2
                clear hP1 hD1 hS2 hFc hfc hz1 hk1 hvm ht
                obtain ⟨g_47, hf⟩ := grd_some hf
                obtain ⟨kg_47, sg_47, ig_47⟩ := okA_at g_47
                refine va_iast hx hb hK hP hD hS k_43 1 (Wd_ai kg_47 sg_47) rfl ig_47 dX18_ask_220 (fun H_48 locs hP2 hD2 hS2 => ?_)
                rw [Wd_ti sg_47] at hP2 hD2
                obtain ⟨z_49, ez_49⟩ : ∃ w, w = si z_44 k_43 v_7.toNatClampNeg r_45 := ⟨_, rfl⟩
                rw [← ez_49] at hP2 hD2
                replace hf := lt_at ez_49 hf
                clear ez_49
                replace hP := hP2
                replace hD := hD2
                replace hS := hS2
                clear hP2 hD2 hS2
                refine lv_iload hx hb dX18_ask_221 (lv_at hl 1 rfl) ?_
                obtain ⟨h8, h9⟩ := ret_some hf
                rw [h8, h9]
                exact W.iret (v := v_7) hx hb hr (fun t ht hW => ⟨⟨v_7, (), rfl, rfl, by rw [ht]; exact hP, va_K.moved hW.alike hK, hD⟩, hS.F ht⟩) hS.2.2 dX18_ask_223
            refine lv_if_lt (tgt := 201) hx hb dX18_ask_188 (by decide) (fun c_50 => ?_) (fun c_50 => ?_)
            · skip
              rw [if_pos c_50] at hf
              refine lv_lconst (v := 0) hx hb dX18_ask_201 (by decide) ?_
              exact B202 (z_35, 0) ls H_34 locs ⟨lv_sub hl [0, 2, 3] rfl, hP, hD, hS⟩ hf
            · skip
              rw [if_neg c_50] at hf
              refine lv_aload_n hx hb dX18_ask_191 rfl (lv_at hl 3 rfl) ?_
              obtain ⟨k_51, ek_51, hf⟩ := lnk_some hf
              refine va_get (D := (dC, dI)) (ci := 18) (v := .ref (a k_51)) (C := RX18) (T := TX18) (N := 78) hx hb hts iwd_X18_ask_X18 hown hK hP h0 (Wd_ob kg_4 sg_4 (by decide)) rfl 1 (by decide) (hts _ md_X18_ask_9) (fun _ h9 => h9) (fl_q rfl ek_51) dX18_ask_192 ?_
              refine lv_iload hx hb dX18_ask_195 (lv_at hl 1 rfl) ?_
              obtain ⟨g_52, hf⟩ := grd_some hf
              obtain ⟨kg_52, sg_52, ig_52⟩ := okA_at g_52
              refine va_lald hx hb hK hP k_51 2 (Wd_al kg_52 sg_52) rfl ig_52 dX18_ask_197 ?_
              refine lv_goto (tgt := 202) hx hb dX18_ask_198 (by decide) ?_
              exact B202 (z_35, (z_35.2.1 k_51 p_26.toNatClampNeg)) ls H_34 locs ⟨lv_sub hl [0, 2, 3] rfl, hP, hD, hS⟩ hf
          refine de_cut (h := 174) (fun (x : St) => [.int v_7, .ref (a k_30)]) (fun x ls H locs => lv_has ls 8 [(7, .int p_28), (6, .int p_26), (5, .int v_7), (0, .ref (a h0))] ∧ va_P (dC, dI) vwCl (Wd cy a sh n x) H ∧ va_D A (Wd cy a sh n x) ∧ va_S A s.heap H locs) (fun x => fn_X18_ask_B174 F sh n k_30 v_7 h0 p_26 p_28 x) (z8, r8) ?_ (fun B174 => ?_)
          · intro x ls H locs hI hf
            obtain ⟨z_53, ez⟩ : ∃ w, w = x := ⟨_, rfl⟩
            subst ez
            obtain ⟨hl2, hP2, hD2, hS2⟩ := hI
            replace hl : lv_has ls 8 [(7, .int p_28), (6, .int p_26), (5, .int v_7), (0, .ref (a h0))] := hl2
            replace hP := hP2
            replace hD := hD2
            replace hS := hS2
            clear hl2 hP2 hD2 hS2
            replace hf := fn_X18_ask_B174_s hf
            refine W.eq (g2 := F0 m 174 ls [.int v_7, .ref (a k_30)]) rfl ?_
            refine lv_iconst (v := 1) hx hb dX18_ask_174 (by decide) ?_
            refine lv_goto (tgt := 179) hx hb dX18_ask_175 (by decide) ?_
            exact B179 (z_53, 1) ls H locs ⟨lv_sub hl [0, 1, 2, 3] rfl, hP, hD, hS⟩ hf
          refine lv_if_ge (tgt := 174) hx hb dX18_ask_166 (by decide) (fun c_54 => ?_) (fun c_54 => ?_)
          · skip
            rw [if_pos c_54] at hf
            exact B174 (z_29) ls H locs ⟨lv_sub hl [0, 1, 2, 3] rfl, hP, hD, hS⟩ hf
          · skip
            rw [if_neg c_54] at hf
            refine lv_iload hx hb dX18_ask_169 (lv_at hl 0 rfl) ?_
            refine lv_if_lt (tgt := 178) hx hb dX18_ask_171 (by decide) (fun c_55 => ?_) (fun c_55 => ?_)
            · skip
              rw [if_pos c_55] at hf
              refine lv_iconst (v := 0) hx hb dX18_ask_178 (by decide) ?_
              exact B179 (z_29, 0) ls H locs ⟨lv_sub hl [0, 1, 2, 3] rfl, hP, hD, hS⟩ hf
            · skip
              rw [if_neg c_55] at hf
              exact B174 (z_29) ls H locs ⟨lv_sub hl [0, 1, 2, 3] rfl, hP, hD, hS⟩ hf
        refine lv_icmp_ne (tgt := 155) hx hb dX18_ask_142 (by decide) (fun c_56 => ?_) (fun c_56 => ?_)
        · skip
          rw [if_neg c_56] at hf
          refine lv_iconst (v := (-1)) hx hb dX18_ask_155 (by decide) ?_
          exact B156 (z_27, (-1)) ls H locs ⟨lv_sub hl [0, 1, 2] rfl, hP, hD, hS⟩ hf
        · skip
          rw [if_pos c_56] at hf
          refine lv_aload_n hx hb dX18_ask_145 rfl (lv_at hl 2 rfl) ?_
          refine lv_lload_n hx hb dX18_ask_146 rfl (lv_at hl 4 rfl) ?_
          refine lv_iload hx hb dX18_ask_147 (lv_at hl 5 rfl) ?_
          obtain ⟨z_57, r_58, hfc, hf⟩ := cal_some hf
          have hFc := de_free hD hS hA
          refine va_calli (va_runV (As := [.long x1, .int x2]) (rest := []) ⟨hx, hb, hml, hown, hts⟩ (de_X18_findResource l dC dI cy a sh n H.size F z_27 h0 x1 x2 hfc) (cwV 2 hts gX18_ask_X18_findResource rfl rfl rfl (by decide +kernel) ⟨Nat.le_of_ble_eq_true rfl, Nat.le_of_ble_eq_true rfl⟩) ⟨fun a U g mk q => by obtain ⟨q0, q1, qP, qK, qD, qN⟩ := q; exact ⟨q0, q1, qP, va_K.moved (u := U) (U := U.calling g mk a) (Vm.Alike.refl U.vm) qK, qD, qN.same rfl⟩, va_recv hK hP (ci := 18) (q0 := h0) rfl (Wd_ob kg_4 sg_4 (by decide)), fun U hU hW => ⟨rfl, by rw [hU], by rw [hU]; exact hP, va_K.moved hW.alike hK, hD.weaken (fun _ _ _ _ => trivial), hN.warm hW⟩⟩ rfl rfl hl.1 rfl (lv_room (Nat.le_of_ble_eq_true rfl)) dX18_ask_149 ⟨Nat.le_of_ble_eq_true rfl, Nat.le_of_ble_eq_true rfl⟩) hS (fun q _ h => hFc q h) hFc (fun rr u t H_59 locs ht hvm hw hB hz1 hk1 hS2 => ?_)
          rw [hw]
          clear hw
          obtain ⟨hP1, -, hD1⟩ := hB
          rw [ht] at hP1
          replace hD := hD1.weaken (fun _ _ _ h => hFc _ h)
          replace hP := hP1
          replace hS := hS2
          clear hP1 hD1 hS2 hFc hfc hz1 hk1 hvm ht
          refine lv_goto (tgt := 156) hx hb dX18_ask_152 (by decide) ?_
          exact B156 (z_57, r_58) ls H_59 locs ⟨lv_sub hl [0, 1, 2] rfl, hP, hD, hS⟩ hf
      refine lv_icmp_ne (tgt := 137) hx hb dX18_ask_126 (by decide) (fun c_60 => ?_) (fun c_60 => ?_)
      · skip
        rw [if_neg c_60] at hf
        refine lv_iconst (v := (-1)) hx hb dX18_ask_137 (by decide) ?_
        exact B138 (z_25, (-1)) ls H_24 locs ⟨lv_sub hl [0, 1, 2, 3, 4] rfl, hP, hD, hS⟩ hf
      · skip
        rw [if_pos c_60] at hf
        refine lv_aload_n hx hb dX18_ask_129 rfl (lv_at hl 1 rfl) ?_
        refine lv_lload_n hx hb dX18_ask_130 rfl (lv_at hl 3 rfl) ?_
        obtain ⟨z_61, r_62, hfc, hf⟩ := cal_some hf
        have hFc := de_free hD hS hA
        refine va_calli (va_runV (As := [.long x1]) (rest := []) ⟨hx, hb, hml, hown, hts⟩ (de_X18_findAccount l dC dI cy a sh n H_24.size F z_25 h0 x1 hfc) (cwV 1 hts gX18_ask_X18_findAccount rfl rfl rfl (by decide +kernel) ⟨Nat.le_of_ble_eq_true rfl, Nat.le_of_ble_eq_true rfl⟩) ⟨fun a U g mk q => by obtain ⟨q0, q1, qP, qK, qD, qN⟩ := q; exact ⟨q0, q1, qP, va_K.moved (u := U) (U := U.calling g mk a) (Vm.Alike.refl U.vm) qK, qD, qN.same rfl⟩, va_recv hK hP (ci := 18) (q0 := h0) rfl (Wd_ob kg_4 sg_4 (by decide)), fun U hU hW => ⟨rfl, by rw [hU], by rw [hU]; exact hP, va_K.moved hW.alike hK, hD.weaken (fun _ _ _ _ => trivial), hN.warm hW⟩⟩ rfl rfl hl.1 rfl (lv_room (Nat.le_of_ble_eq_true rfl)) dX18_ask_131 ⟨Nat.le_of_ble_eq_true rfl, Nat.le_of_ble_eq_true rfl⟩) hS (fun q _ h => hFc q h) hFc (fun rr u t H_63 locs ht hvm hw hB hz1 hk1 hS2 => ?_)
        rw [hw]
        clear hw
        obtain ⟨hP1, -, hD1⟩ := hB
        rw [ht] at hP1
        replace hD := hD1.weaken (fun _ _ _ h => hFc _ h)
        replace hP := hP1
        replace hS := hS2
        clear hP1 hD1 hS2 hFc hfc hz1 hk1 hvm ht
        refine lv_goto (tgt := 138) hx hb dX18_ask_134 (by decide) ?_
        exact B138 (z_61, r_62) ls H_63 locs ⟨lv_sub hl [0, 1, 2, 3, 4] rfl, hP, hD, hS⟩ hf
    · skip
      rw [if_pos c_6] at hf
      refine lv_aload_n hx hb dX18_ask_65 rfl (lv_at hl 1 rfl) ?_
      refine lv_iconst (v := 2) hx hb dX18_ask_66 (by decide) ?_
      refine lv_ldc2 hx hb hown (hts _ md_X18_ask_5) dX18_ask_67 ?_
      obtain ⟨z_64, _u, hfc, hf⟩ := cal_some hf
      have hFc := de_free hD hS hA
      refine va_callv (va_runV (As := [.int 2, .long 4]) (rest := []) ⟨hx, hb, hml, hown, hts⟩ (de_X18_end l dC dI cy a sh n H.size F z_2 h0 2 4 hfc) (cwV 2 hts gX18_ask_X18_end rfl rfl rfl (by decide +kernel) ⟨Nat.le_of_ble_eq_true rfl, Nat.le_of_ble_eq_true rfl⟩) ⟨fun a U g mk q => by obtain ⟨q0, q1, qP, qK, qD, qN⟩ := q; exact ⟨q0, q1, qP, va_K.moved (u := U) (U := U.calling g mk a) (Vm.Alike.refl U.vm) qK, qD, qN.same rfl⟩, va_recv hK hP (ci := 18) (q0 := h0) rfl (Wd_ob kg_4 sg_4 (by decide)), fun U hU hW => ⟨rfl, by rw [hU], by rw [hU]; exact hP, va_K.moved hW.alike hK, hD.weaken (fun _ _ _ _ => trivial), hN.warm hW⟩⟩ rfl rfl hl.1 rfl (lv_room (Nat.le_of_ble_eq_true rfl)) dX18_ask_70 ⟨Nat.le_of_ble_eq_true rfl, Nat.le_of_ble_eq_true rfl⟩) hS (fun q _ h => hFc q h) hFc (fun u t H_65 locs ht hvm hw hB hz1 hk1 hS2 => ?_)
      obtain ⟨hP1, -, hD1⟩ := hB
      rw [ht] at hP1
      replace hD := hD1.weaken (fun _ _ _ h => hFc _ h)
      replace hP := hP1
      replace hS := hS2
      clear hP1 hD1 hS2 hFc hfc hz1 hk1 hvm ht
      refine lv_iconst (v := (-1)) hx hb dX18_ask_73 (by decide) ?_
      obtain ⟨h8, h9⟩ := ret_some hf
      rw [h8, h9]
      exact W.iret (v := (-1)) hx hb hr (fun t ht hW => ⟨⟨(-1), (), rfl, rfl, by rw [ht]; exact hP, va_K.moved hW.alike hK, hD⟩, hS.F ht⟩) hS.2.2 dX18_ask_74
  · skip
    rw [if_neg c_5] at hf
    refine lv_aload_n hx hb dX18_ask_12 rfl (lv_at hl 1 rfl) ?_
    obtain ⟨k_66, ek_66, hf⟩ := lnk_some hf
    refine va_get (D := (dC, dI)) (ci := 18) (v := .ref (a k_66)) (C := RX18) (T := TX18) (N := 78) hx hb hts iwd_X18_ask_X18 hown hK hP h0 (Wd_ob kg_4 sg_4 (by decide)) rfl 30 (by decide) (hts _ md_X18_ask_2) (fun _ h9 => h9) (fl_q rfl ek_66) dX18_ask_13 ?_
    refine lv_iload hx hb dX18_ask_16 (lv_at hl 0 rfl) ?_
    obtain ⟨g_67, hf⟩ := grd_some hf
    obtain ⟨kg_67, sg_67, ig_67⟩ := okA_at g_67
    refine va_iald hx hb hK hP k_66 1 (Wd_ai kg_67 sg_67) rfl ig_67 dX18_ask_18 ?_
    refine lv_iload_n hx hb dX18_ask_19 rfl (lv_at hl 2 rfl) ?_
    refine de_cut (h := 50) (fun (x : St) => []) (fun x ls H locs => lv_has ls 8 [(5, .int p_1), (0, .ref (a h0)), (1, .int x0), (2, .long x1), (4, .int x2)] ∧ va_P (dC, dI) vwCl (Wd cy a sh n x) H ∧ va_D A (Wd cy a sh n x) ∧ va_S A s.heap H locs) (fun x => fn_X18_ask_B50 F sh n p_1 (fun z9 q5 => fn_X18_ask_L3 F sh n h0 x0 x1 x2 f_3 z9 q5) x) (z8, r8) ?_ (fun B50 => ?_)
    · intro x ls H locs hI hf
      obtain ⟨z_68, ez⟩ : ∃ w, w = x := ⟨_, rfl⟩
      subst ez
      obtain ⟨hl2, hP2, hD2, hS2⟩ := hI
      replace hl : lv_has ls 8 [(5, .int p_1), (0, .ref (a h0)), (1, .int x0), (2, .long x1), (4, .int x2)] := hl2
      replace hP := hP2
      replace hD := hD2
      replace hS := hS2
      clear hl2 hP2 hD2 hS2
      replace hf := fn_X18_ask_B50_s hf
      refine W.eq (g2 := F0 m 50 ls []) rfl ?_
      refine lv_iinc (v := (p_1 + 1)) (lv' := [(5, .int (p_1 + 1)), (0, .ref (a h0)), (1, .int x0), (2, .long x1), (4, .int x2)]) hx hb dX18_ask_50 hl (k := 0) rfl rfl (by decide) rfl (fun ls hl2 => ?_)
      replace hl := hl2
      clear hl2
      refine lv_goto (tgt := 3) hx hb dX18_ask_53 (by decide) ?_
      exact ih3 (z_68, (p_1 + 1)) ls H locs ⟨lv_sub hl [0, 1, 2, 3, 4] rfl, hP, hD, hS⟩ hf
    refine lv_icmp_ne (tgt := 50) hx hb dX18_ask_20 (by decide) (fun c_69 => ?_) (fun c_69 => ?_)
    · skip
      rw [if_neg c_69] at hf
      exact B50 (z_2) ls H locs ⟨lv_sub hl [0, 1, 2, 3, 4] rfl, hP, hD, hS⟩ hf
    · skip
      rw [if_pos c_69] at hf
      refine lv_aload_n hx hb dX18_ask_23 rfl (lv_at hl 1 rfl) ?_
      obtain ⟨k_70, ek_70, hf⟩ := lnk_some hf
      refine va_get (D := (dC, dI)) (ci := 18) (v := .ref (a k_70)) (C := RX18) (T := TX18) (N := 78) hx hb hts iwd_X18_ask_X18 hown hK hP h0 (Wd_ob kg_4 sg_4 (by decide)) rfl 31 (by decide) (hts _ md_X18_ask_3) (fun _ h9 => h9) (fl_q rfl ek_70) dX18_ask_24 ?_
      refine lv_iload hx hb dX18_ask_27 (lv_at hl 0 rfl) ?_
      obtain ⟨g_71, hf⟩ := grd_some hf
      obtain ⟨kg_71, sg_71, ig_71⟩ := okA_at g_71
      refine va_lald hx hb hK hP k_70 2 (Wd_al kg_71 sg_71) rfl ig_71 dX18_ask_29 ?_
      refine lv_lload_n hx hb dX18_ask_30 rfl (lv_at hl 3 rfl) ?_
      refine W.lcmp hx hb dX18_ask_31 ?_
      refine lv_if_ne (tgt := 50) hx hb dX18_ask_32 (by decide) (fun c_72 => ?_) (fun c_72 => ?_)
      · skip
        rw [lg_cmp_eq] at c_72
        rw [if_neg c_72] at hf
        exact B50 (z_2) ls H locs ⟨lv_sub hl [0, 1, 2, 3, 4] rfl, hP, hD, hS⟩ hf
      · skip
        rw [lg_cmp_eq] at c_72
        rw [if_pos c_72] at hf
        refine lv_aload_n hx hb dX18_ask_35 rfl (lv_at hl 1 rfl) ?_
        obtain ⟨k_73, ek_73, hf⟩ := lnk_some hf
        refine va_get (D := (dC, dI)) (ci := 18) (v := .ref (a k_73)) (C := RX18) (T := TX18) (N := 78) hx hb hts iwd_X18_ask_X18 hown hK hP h0 (Wd_ob kg_4 sg_4 (by decide)) rfl 32 (by decide) (hts _ md_X18_ask_4) (fun _ h9 => h9) (fl_q rfl ek_73) dX18_ask_36 ?_
        refine lv_iload hx hb dX18_ask_39 (lv_at hl 0 rfl) ?_
        obtain ⟨g_74, hf⟩ := grd_some hf
        obtain ⟨kg_74, sg_74, ig_74⟩ := okA_at g_74
        refine va_iald hx hb hK hP k_73 1 (Wd_ai kg_74 sg_74) rfl ig_74 dX18_ask_41 ?_
        refine lv_iload hx hb dX18_ask_42 (lv_at hl 4 rfl) ?_
        refine lv_icmp_ne (tgt := 50) hx hb dX18_ask_44 (by decide) (fun c_75 => ?_) (fun c_75 => ?_)
        · skip
          rw [if_neg c_75] at hf
          exact B50 (z_2) ls H locs ⟨lv_sub hl [0, 1, 2, 3, 4] rfl, hP, hD, hS⟩ hf
        · skip
          rw [if_pos c_75] at hf
          refine lv_iload hx hb dX18_ask_47 (lv_at hl 0 rfl) ?_
          obtain ⟨h8, h9⟩ := ret_some hf
          rw [h8, h9]
          exact W.iret (v := p_1) hx hb hr (fun t ht hW => ⟨⟨p_1, (), rfl, rfl, by rw [ht]; exact hP, va_K.moved hW.alike hK, hD⟩, hS.F ht⟩) hS.2.2 dX18_ask_49

theorem md_X3_useLocal_1 : (.fieldLink RX3 22 "ResourceLedger$Looker" "localType" "[J" : Cond) ∈ wsX3_useLocal := List.mem_of_getElem? (i := 1) rfl
theorem iwd_X3_useLocal_X3 : ∀ w ∈ wsX30, w ∈ wsX3_useLocal := fun _ h => List.mem_cons_of_mem _ (List.mem_append_left _ (List.mem_append_right _ h))
theorem md_X3_useLocal_2 : (.fieldLink RX3 48 "ResourceLedger$Looker" "fault" "I" : Cond) ∈ wsX3_useLocal := List.mem_of_getElem? (i := 2) rfl
theorem md_X3_useLocal_6 : (.fieldLink RX3 25 "ResourceLedger$Looker" "localOrigins" "[J" : Cond) ∈ wsX3_useLocal := List.mem_of_getElem? (i := 6) rfl
theorem md_X3_useLocal_7 : (.fieldLink RX3 98 "ResourceLedger$Looker" "inside" "J" : Cond) ∈ wsX3_useLocal := List.mem_of_getElem? (i := 7) rfl
theorem md_X3_useLocal_5 : (.fieldLink RX3 105 "ResourceLedger$Looker" "there" "J" : Cond) ∈ wsX3_useLocal := List.mem_of_getElem? (i := 5) rfl
theorem md_X3_useLocal_8 : (.constantLong RX3 185 (-1) : Cond) ∈ wsX3_useLocal := List.mem_of_getElem? (i := 8) rfl
theorem md_X3_useLocal_3 : (.fieldLink RX3 194 "ResourceLedger$Looker" "takenOrigins" "J" : Cond) ∈ wsX3_useLocal := List.mem_of_getElem? (i := 3) rfl
theorem md_X3_useLocal_4 : (.fieldLink RX3 197 "ResourceLedger$Looker" "takenInside" "Z" : Cond) ∈ wsX3_useLocal := List.mem_of_getElem? (i := 4) rfl
set_option maxHeartbeats 4000000 in
set_option maxRecDepth 100000 in
theorem de_X3_useLocal (l : Launch) (dC : Nat → ClassId) (dI : Nat → Nat → Nat) (cy : Nat → ClassId) (a : Nat → Nat) (sh : Nat → Nat × Nat) (n sz : Nat) (F : Nat) (z : St) (h0 : Nat) (x0 : Int32) (x1 : Int32) {z8 : St} {r8 : Unit} (hf : fn_X3_useLocal F sh n z h0 x0 x1 = some (z8, r8)) : Met l yX3_useLocal wsX3_useLocal ({ frames := 3, cells := 0, slots := 0, locals := 69 }) (va_Pc [.ref (a h0), .int x0, .int x1] (fun U => U.heap.size = sz ∧ va_P (dC, dI) vwCl (Wd cy a sh n z) U.heap ∧ va_K (dC, dI) vwCl (TYS cy) U ∧ va_D (fun _ => True) (Wd cy a sh n z) ∧ NK U)) (va_Qv (fun u : Unit => True) (fun u t => va_P (dC, dI) vwCl (Wd cy a sh n z8) t.heap ∧ va_K (dC, dI) vwCl (TYS cy) t ∧ va_D (va_A (Wd cy a sh n z) sz) (Wd cy a sh n z8)) (va_A (Wd cy a sh n z) sz)) 0 0 (va_A (Wd cy a sh n z) sz) := by
  refine Met.ofW (cc := cX3_useLocal) (maxL := 6) (ret := none) (by decide) rfl ?_
  intro p e s m args below meth c s₁ B hml hv
  obtain ⟨rfl, hsz, hP, hK, hD0, hN⟩ := hv
  have hx := B.exec
  have hb := B.bytes
  have hr := B.returns
  have hts := atoms_spec (ws := wsX3_useLocal) B.pre
  have hown : s.vm.findClass RX3 = some m.cls := findClass_of_methodNamed B.named
  have hlocks := B.notSynchronized
  subst hsz
  have hD := hD0.self (sz := s.heap.size)
  clear hD0
  generalize hAe : va_A (Wd cy a sh n z) s.heap.size = A at hD ⊢
  have hA : ∀ q : Nat, s.heap.size ≤ q → A q := fun q h => by rw [← hAe]; exact Or.inr h
  clear hAe
  have hS : va_S A s.heap s.heap [] := va_S.rf
  have hl := lv_entry ([.ref (a h0), .int x0, .int x1]) (n := 6) (Nat.le_of_ble_eq_true rfl)
  rw [lg_entry_eq]
  generalize (lg_sl ([.ref (a h0), .int x0, .int x1]) ++ List.replicate (6 - (lg_sl ([.ref (a h0), .int x0, .int x1])).length) Slot.unset).toArray = ls at hl ⊢
  replace hl : lv_has ls 6 [(0, .ref (a h0)), (1, .int x0), (2, .int x1)] := hl
  unfold fn_X3_useLocal at hf
  refine de_start hS hP (fun H locs hS hP => ?_)
  refine lv_aload_n hx hb dX3_useLocal_0 rfl (lv_at hl 0 rfl) ?_
  obtain ⟨g_1, hf⟩ := grd_some hf
  obtain ⟨kg_1, sg_1⟩ := okO_at g_1
  obtain ⟨k_2, ek_2, hf⟩ := lnk_some hf
  refine va_get (D := (dC, dI)) (ci := 3) (v := .ref (a k_2)) (C := RX3) (T := TX3) (N := 22) hx hb hts iwd_X3_useLocal_X3 hown hK hP h0 (Wd_ob kg_1 sg_1 (by decide)) rfl 9 (by decide) (hts _ md_X3_useLocal_1) (fun _ h9 => h9) (fl_q rfl ek_2) dX3_useLocal_1 ?_
  refine lv_iload_n hx hb dX3_useLocal_4 rfl (lv_at hl 2 rfl) ?_
  obtain ⟨g_3, hf⟩ := grd_some hf
  obtain ⟨kg_3, sg_3, ig_3⟩ := okA_at g_3
  refine va_lald hx hb hK hP k_2 2 (Wd_al kg_3 sg_3) rfl ig_3 dX3_useLocal_5 ?_
  refine lv_topl (fun v_4 ev_4 => ?_)
  replace hf := lt_at ev_4 hf
  clear ev_4
  refine lv_lstore_n (lv' := [(3, .long v_4), (0, .ref (a h0)), (1, .int x0), (2, .int x1)]) hx hb dX3_useLocal_6 rfl hl (by decide) rfl (fun ls hl2 => ?_)
  replace hl := hl2
  clear hl2
  refine lv_lload_n hx hb dX3_useLocal_7 rfl (lv_at hl 0 rfl) ?_
  obtain ⟨z_5, r_6, hfc, hf⟩ := cal_some hf
  have hFc := de_free hD hS hA
  refine va_calli (va_runS (As := [.long v_4]) (rest := []) ⟨hx, hb, hml, hown, hts⟩ (de_X5_isReference l dC dI cy a sh n H.size F z v_4 hfc) (va_cwS 1 hts gX3_useLocal_X5_isReference rfl rfl rfl (by decide +kernel) ⟨Nat.le_of_ble_eq_true rfl, Nat.le_of_ble_eq_true rfl⟩) ⟨fun a U g mk q => by obtain ⟨q0, q1, qP, qK, qD, qN⟩ := q; exact ⟨q0, q1, qP, va_K.moved (u := U) (U := U.calling g mk a) (Vm.Alike.refl U.vm) qK, qD, qN.same rfl⟩, fun U hU hW => ⟨rfl, by rw [hU], by rw [hU]; exact hP, va_K.moved hW.alike hK, hD.weaken (fun _ _ _ _ => trivial), hN.warm hW⟩⟩ rfl rfl hl.1 rfl (lv_room (Nat.le_of_ble_eq_true rfl)) dX3_useLocal_8 ⟨Nat.le_of_ble_eq_true rfl, Nat.le_of_ble_eq_true rfl⟩) hS (fun q _ h => hFc q h) hFc (fun rr u t H_7 locs ht hvm hw hB hz1 hk1 hS2 => ?_)
  rw [hw]
  clear hw
  obtain ⟨hP1, -, hD1⟩ := hB
  rw [ht] at hP1
  replace hD := hD1.weaken (fun _ _ _ h => hFc _ h)
  replace hP := hP1
  replace hS := hS2
  clear hP1 hD1 hS2 hFc hfc hz1 hk1 hvm ht
  refine de_cut (h := 19) (fun (x : St × Int32) => [.int x.2]) (fun x ls H locs => lv_has ls 6 [(3, .long v_4), (0, .ref (a h0)), (1, .int x0), (2, .int x1)] ∧ va_P (dC, dI) vwCl (Wd cy a sh n x.1) H ∧ va_D A (Wd cy a sh n x.1) ∧ va_S A s.heap H locs) (fun x => fn_X3_useLocal_B19 F sh n x0 h0 v_4 x1 x.1 x.2) (z8, r8) ?_ (fun B19 => ?_)
  · intro x ls H locs hI hf
    obtain ⟨z_9, p_8⟩ := x
    obtain ⟨hl2, hP2, hD2, hS2⟩ := hI
    replace hl : lv_has ls 6 [(3, .long v_4), (0, .ref (a h0)), (1, .int x0), (2, .int x1)] := hl2
    replace hP := hP2
    replace hD := hD2
    replace hS := hS2
    clear hl2 hP2 hD2 hS2
    replace hf := fn_X3_useLocal_B19_s hf
    refine W.eq (g2 := F0 m 19 ls [.int p_8]) rfl ?_
    refine lv_istore (lv' := [(5, .int p_8), (3, .long v_4), (0, .ref (a h0)), (1, .int x0), (2, .int x1)]) hx hb dX3_useLocal_19 hl (by decide) rfl (fun ls hl2 => ?_)
    replace hl := hl2
    clear hl2
    refine lv_iload_n hx hb dX3_useLocal_21 rfl (lv_at hl 3 rfl) ?_
    refine lv_bipush (v := 13) hx hb dX3_useLocal_22 (by decide) ?_
    refine de_cut (h := 70) (fun (x : St) => []) (fun x ls H locs => lv_has ls 6 [(5, .int p_8), (3, .long v_4), (0, .ref (a h0)), (1, .int x0), (2, .int x1)] ∧ va_P (dC, dI) vwCl (Wd cy a sh n x) H ∧ va_D A (Wd cy a sh n x) ∧ va_S A s.heap H locs) (fun x => fn_X3_useLocal_B70 F sh n x0 h0 v_4 p_8 x1 x) (z8, r8) ?_ (fun B70 => ?_)
    · intro x ls H locs hI hf
      obtain ⟨z_10, ez⟩ : ∃ w, w = x := ⟨_, rfl⟩
      subst ez
      obtain ⟨hl2, hP2, hD2, hS2⟩ := hI
      replace hl : lv_has ls 6 [(5, .int p_8), (3, .long v_4), (0, .ref (a h0)), (1, .int x0), (2, .int x1)] := hl2
      replace hP := hP2
      replace hD := hD2
      replace hS := hS2
      clear hl2 hP2 hD2 hS2
      replace hf := fn_X3_useLocal_B70_s hf
      refine W.eq (g2 := F0 m 70 ls []) rfl ?_
      refine lv_iload_n hx hb dX3_useLocal_70 rfl (lv_at hl 3 rfl) ?_
      refine lv_bipush (v := 11) hx hb dX3_useLocal_71 (by decide) ?_
      refine de_cut (h := 90) (fun (x : St) => []) (fun x ls H locs => lv_has ls 6 [(5, .int p_8), (3, .long v_4), (0, .ref (a h0)), (1, .int x0), (2, .int x1)] ∧ va_P (dC, dI) vwCl (Wd cy a sh n x) H ∧ va_D A (Wd cy a sh n x) ∧ va_S A s.heap H locs) (fun x => fn_X3_useLocal_B90 F sh n p_8 h0 x0 x1 v_4 x) (z8, r8) ?_ (fun B90 => ?_)
      · intro x ls H locs hI hf
        obtain ⟨z_11, ez⟩ : ∃ w, w = x := ⟨_, rfl⟩
        subst ez
        obtain ⟨hl2, hP2, hD2, hS2⟩ := hI
        replace hl : lv_has ls 6 [(5, .int p_8), (3, .long v_4), (0, .ref (a h0)), (1, .int x0), (2, .int x1)] := hl2
        replace hP := hP2
        replace hD := hD2
        replace hS := hS2
        clear hl2 hP2 hD2 hS2
        replace hf := fn_X3_useLocal_B90_s hf
        refine W.eq (g2 := F0 m 90 ls []) rfl ?_
        refine lv_iload hx hb dX3_useLocal_90 (lv_at hl 0 rfl) ?_
        refine de_cut (h := 122) (fun (x : St) => []) (fun x ls H locs => lv_has ls 6 [(3, .long v_4), (0, .ref (a h0)), (1, .int x0), (2, .int x1)] ∧ va_P (dC, dI) vwCl (Wd cy a sh n x) H ∧ va_D A (Wd cy a sh n x) ∧ va_S A s.heap H locs) (fun x => fn_X3_useLocal_B122 F sh n h0 x0 x1 v_4 x) (z8, r8) ?_ (fun B122 => ?_)
        · intro x ls H locs hI hf
          obtain ⟨z_12, ez⟩ : ∃ w, w = x := ⟨_, rfl⟩
          subst ez
          obtain ⟨hl2, hP2, hD2, hS2⟩ := hI
          replace hl : lv_has ls 6 [(3, .long v_4), (0, .ref (a h0)), (1, .int x0), (2, .int x1)] := hl2
          replace hP := hP2
          replace hD := hD2
          replace hS := hS2
          clear hl2 hP2 hD2 hS2
          replace hf := fn_X3_useLocal_B122_s hf
          refine W.eq (g2 := F0 m 122 ls []) rfl ?_
          refine lv_aload_n hx hb dX3_useLocal_122 rfl (lv_at hl 1 rfl) ?_
          refine va_get (D := (dC, dI)) (ci := 3) (v := .int (z_12.1 h0 1)) (C := RX3) (T := TX3) (N := 22) hx hb hts iwd_X3_useLocal_X3 hown hK hP h0 (Wd_ob kg_1 sg_1 (by decide)) rfl 1 (by decide) (hts _ md_X3_useLocal_2) (fun _ h9 => h9) (fl_at (t := 0) rfl) dX3_useLocal_123 ?_
          refine lv_if_eq (tgt := 130) hx hb dX3_useLocal_126 (by decide) (fun c_13 => ?_) (fun c_13 => ?_)
          · skip
            rw [if_pos c_13] at hf
            refine lv_iload_n hx hb dX3_useLocal_130 rfl (lv_at hl 2 rfl) ?_
            refine lv_bipush (v := 13) hx hb dX3_useLocal_131 (by decide) ?_
            refine lv_icmp_ne (tgt := 162) hx hb dX3_useLocal_133 (by decide) (fun c_14 => ?_) (fun c_14 => ?_)
            · skip
              rw [if_neg c_14] at hf
              refine lv_aload_n hx hb dX3_useLocal_162 rfl (lv_at hl 1 rfl) ?_
              refine lv_lload_n hx hb dX3_useLocal_163 rfl (lv_at hl 0 rfl) ?_
              refine lv_aload_n hx hb dX3_useLocal_164 rfl (lv_at hl 1 rfl) ?_
              obtain ⟨k_15, ek_15, hf⟩ := lnk_some hf
              refine va_get (D := (dC, dI)) (ci := 3) (v := .ref (a k_15)) (C := RX3) (T := TX3) (N := 22) hx hb hts iwd_X3_useLocal_X3 hown hK hP h0 (Wd_ob kg_1 sg_1 (by decide)) rfl 10 (by decide) (hts _ md_X3_useLocal_6) (fun _ h9 => h9) (fl_q rfl ek_15) dX3_useLocal_165 ?_
              refine lv_iload_n hx hb dX3_useLocal_168 rfl (lv_at hl 3 rfl) ?_
              obtain ⟨g_16, hf⟩ := grd_some hf
              obtain ⟨kg_16, sg_16, ig_16⟩ := okA_at g_16
              refine va_lald hx hb hK hP k_15 2 (Wd_al kg_16 sg_16) rfl ig_16 dX3_useLocal_169 ?_
              refine lv_aload_n hx hb dX3_useLocal_170 rfl (lv_at hl 1 rfl) ?_
              refine va_get (D := (dC, dI)) (ci := 3) (v := .long (z_12.2.1 h0 13)) (C := RX3) (T := TX3) (N := 22) hx hb hts iwd_X3_useLocal_X3 hown hK hP h0 (Wd_ob kg_1 sg_1 (by decide)) rfl 13 (by decide) (hts _ md_X3_useLocal_7) (fun _ h9 => h9) (fl_at (t := 1) rfl) dX3_useLocal_171 ?_
              refine lv_iload_n hx hb dX3_useLocal_174 rfl (lv_at hl 3 rfl) ?_
              refine lv_lushr (v := (((z_12.2.1 h0 13) : Int64).toUInt64 >>> ((x1 : Int32).toInt64.toUInt64 &&& Int64.toUInt64 63)).toInt64) hx hb dX3_useLocal_175 rfl ?_
              refine lv_lconst (v := 1) hx hb dX3_useLocal_176 (by decide) ?_
              refine lv_land hx hb dX3_useLocal_177 ?_
              refine lv_lconst (v := 0) hx hb dX3_useLocal_178 (by decide) ?_
              refine W.lcmp hx hb dX3_useLocal_179 ?_
              refine de_cut (h := 188) (fun (x : St × Int32) => [.int x.2, .long (z_12.2.1 k_15 x1.toNatClampNeg), .long v_4, .ref (a h0)]) (fun x ls H locs => lv_has ls 6 [(0, .ref (a h0)), (1, .int x0), (2, .int x1)] ∧ va_P (dC, dI) vwCl (Wd cy a sh n x.1) H ∧ va_D A (Wd cy a sh n x.1) ∧ va_S A s.heap H locs) (fun x => fn_X3_useLocal_B188 F sh n h0 v_4 z_12 k_15 x1 x0 x.1 x.2) (z8, r8) ?_ (fun B188 => ?_)
              · intro x ls H locs hI hf
                obtain ⟨z_18, p_17⟩ := x
                obtain ⟨hl2, hP2, hD2, hS2⟩ := hI
                replace hl : lv_has ls 6 [(0, .ref (a h0)), (1, .int x0), (2, .int x1)] := hl2
                replace hP := hP2
                replace hD := hD2
                replace hS := hS2
                clear hl2 hP2 hD2 hS2
                replace hf := fn_X3_useLocal_B188_s hf
                refine W.eq (g2 := F0 m 188 ls [.int p_17, .long (z_12.2.1 k_15 x1.toNatClampNeg), .long v_4, .ref (a h0)]) rfl ?_
                obtain ⟨z_19, _u, hfc, hf⟩ := cal_some hf
                have hFc := de_free hD hS hA
                refine va_callv (va_runV (As := [.long v_4, .long (z_12.2.1 k_15 x1.toNatClampNeg), .int p_17]) (rest := []) ⟨hx, hb, hml, hown, hts⟩ (de_X3_putReference l dC dI cy a sh n H.size F z_18 h0 v_4 (z_12.2.1 k_15 x1.toNatClampNeg) p_17 hfc) (cwV 3 hts gX3_useLocal_X3_putReference rfl rfl rfl (by decide +kernel) ⟨Nat.le_of_ble_eq_true rfl, Nat.le_of_ble_eq_true rfl⟩) ⟨fun a U g mk q => by obtain ⟨q0, q1, qP, qK, qD, qN⟩ := q; exact ⟨q0, q1, qP, va_K.moved (u := U) (U := U.calling g mk a) (Vm.Alike.refl U.vm) qK, qD, qN.same rfl⟩, va_recv hK hP (ci := 3) (q0 := h0) rfl (Wd_ob kg_1 sg_1 (by decide)), fun U hU hW => ⟨rfl, by rw [hU], by rw [hU]; exact hP, va_K.moved hW.alike hK, hD.weaken (fun _ _ _ _ => trivial), hN.warm hW⟩⟩ rfl rfl hl.1 rfl (lv_room (Nat.le_of_ble_eq_true rfl)) dX3_useLocal_188 ⟨Nat.le_of_ble_eq_true rfl, Nat.le_of_ble_eq_true rfl⟩) hS (fun q _ h => hFc q h) hFc (fun u t H_20 locs ht hvm hw hB hz1 hk1 hS2 => ?_)
                obtain ⟨hP1, -, hD1⟩ := hB
                rw [ht] at hP1
                replace hD := hD1.weaken (fun _ _ _ h => hFc _ h)
                replace hP := hP1
                replace hS := hS2
                clear hP1 hD1 hS2 hFc hfc hz1 hk1 hvm ht
                refine lv_iload_n hx hb dX3_useLocal_191 rfl (lv_at hl 1 rfl) ?_
                refine lv_bipush (v := 12) hx hb dX3_useLocal_192 (by decide) ?_
                refine lv_icmp_ne (tgt := 220) hx hb dX3_useLocal_194 (by decide) (fun c_21 => ?_) (fun c_21 => ?_)
                · skip
                  rw [if_neg c_21] at hf
                  obtain ⟨h8, h9⟩ := ret_some hf
                  rw [h8]
                  exact W.vret hx hb hr (fun t ht hW => ⟨⟨(), rfl, trivial, by rw [ht]; exact hP, va_K.moved hW.alike hK, hD⟩, hS.F ht⟩) hS.2.2 dX3_useLocal_220
                · skip
                  rw [if_pos c_21] at hf
                  refine lv_aload_n hx hb dX3_useLocal_197 rfl (lv_at hl 0 rfl) ?_
                  refine lv_iload_n hx hb dX3_useLocal_198 rfl (lv_at hl 2 rfl) ?_
                  refine lv_lconst (v := 0) hx hb dX3_useLocal_199 (by decide) ?_
                  refine lv_iconst (v := 0) hx hb dX3_useLocal_200 (by decide) ?_
                  obtain ⟨z_22, _u, hfc, hf⟩ := cal_some hf
                  have hFc := de_free hD hS hA
                  refine va_callv (va_runV (As := [.int x1, .long 0, .int 0]) (rest := []) ⟨hx, hb, hml, hown, hts⟩ (de_X3_setLocal l dC dI cy a sh n H_20.size F z_19 h0 x1 0 0 hfc) (cwV 3 hts gX3_useLocal_X3_setLocal rfl rfl rfl (by decide +kernel) ⟨Nat.le_of_ble_eq_true rfl, Nat.le_of_ble_eq_true rfl⟩) ⟨fun a U g mk q => by obtain ⟨q0, q1, qP, qK, qD, qN⟩ := q; exact ⟨q0, q1, qP, va_K.moved (u := U) (U := U.calling g mk a) (Vm.Alike.refl U.vm) qK, qD, qN.same rfl⟩, va_recv hK hP (ci := 3) (q0 := h0) rfl (Wd_ob kg_1 sg_1 (by decide)), fun U hU hW => ⟨rfl, by rw [hU], by rw [hU]; exact hP, va_K.moved hW.alike hK, hD.weaken (fun _ _ _ _ => trivial), hN.warm hW⟩⟩ rfl rfl hl.1 rfl (lv_room (Nat.le_of_ble_eq_true rfl)) dX3_useLocal_201 ⟨Nat.le_of_ble_eq_true rfl, Nat.le_of_ble_eq_true rfl⟩) hS (fun q _ h => hFc q h) hFc (fun u t H_23 locs ht hvm hw hB hz1 hk1 hS2 => ?_)
                  obtain ⟨hP1, -, hD1⟩ := hB
                  rw [ht] at hP1
                  replace hD := hD1.weaken (fun _ _ _ h => hFc _ h)
                  replace hP := hP1
                  replace hS := hS2
                  clear hP1 hD1 hS2 hFc hfc hz1 hk1 hvm ht
                  refine lv_aload_n hx hb dX3_useLocal_204 rfl (lv_at hl 0 rfl) ?_
                  refine lv_dup hx hb dX3_useLocal_205 rfl ?_
                  refine va_get (D := (dC, dI)) (ci := 3) (v := .long (z_22.2.1 h0 12)) (C := RX3) (T := TX3) (N := 22) hx hb hts iwd_X3_useLocal_X3 hown hK hP h0 (Wd_ob kg_1 sg_1 (by decide)) rfl 12 (by decide) (hts _ md_X3_useLocal_5) (fun _ h9 => h9) (fl_at (t := 1) rfl) dX3_useLocal_206 ?_
                  refine lv_lconst (v := 1) hx hb dX3_useLocal_209 (by decide) ?_
                  refine lv_iload_n hx hb dX3_useLocal_210 rfl (lv_at hl 2 rfl) ?_
                  refine lv_lshl (v := (1 <<< ((x1 : Int32).toInt64 &&& 63))) hx hb dX3_useLocal_211 rfl ?_
                  refine lv_ldc2 hx hb hown (hts _ md_X3_useLocal_8) dX3_useLocal_212 ?_
                  refine lv_lxor hx hb dX3_useLocal_215 ?_
                  refine lv_land hx hb dX3_useLocal_216 ?_
                  refine va_put (D := (dC, dI)) (ci := 3) (v := .long ((z_22.2.1 h0 12) &&& (((1 <<< ((x1 : Int32).toInt64 &&& 63))) ^^^ (-1)))) (ty := .long) (C := RX3) (T := TX3) (N := 22) hx hb hts iwd_X3_useLocal_X3 tyX3 tyX3_ok nmX3 hown hK hP hD hS h0 (Wd_ob kg_1 sg_1 (by decide)) rfl 12 (by decide) (hts _ md_X3_useLocal_5) (fun _ h9 => h9) rfl (by decide +kernel) rfl rfl (by rw [fl_len]; decide) dX3_useLocal_217 (fun H_24 locs hP2 hD2 hS2 => ?_)
                  rw [Wd_sl sg_1 (by decide) rfl] at hP2 hD2
                  obtain ⟨z_25, ez_25⟩ : ∃ w, w = sl z_22 h0 12 ((z_22.2.1 h0 12) &&& (((1 <<< ((x1 : Int32).toInt64 &&& 63))) ^^^ (-1))) := ⟨_, rfl⟩
                  rw [← ez_25] at hP2 hD2
                  replace hf := lt_at ez_25 hf
                  clear ez_25
                  replace hP := hP2
                  replace hD := hD2
                  replace hS := hS2
                  clear hP2 hD2 hS2
                  obtain ⟨h8, h9⟩ := ret_some hf
                  rw [h8]
                  exact W.vret hx hb hr (fun t ht hW => ⟨⟨(), rfl, trivial, by rw [ht]; exact hP, va_K.moved hW.alike hK, hD⟩, hS.F ht⟩) hS.2.2 dX3_useLocal_220
              refine lv_if_eq (tgt := 187) hx hb dX3_useLocal_180 (by decide) (fun c_26 => ?_) (fun c_26 => ?_)
              · skip
                rw [lg_cmp_eq] at c_26
                rw [if_pos c_26] at hf
                refine lv_iconst (v := 0) hx hb dX3_useLocal_187 (by decide) ?_
                exact B188 (z_12, 0) ls H locs ⟨lv_sub hl [1, 2, 3] rfl, hP, hD, hS⟩ hf
              · skip
                rw [lg_cmp_eq] at c_26
                rw [if_neg c_26] at hf
                refine lv_iconst (v := 1) hx hb dX3_useLocal_183 (by decide) ?_
                refine lv_goto (tgt := 188) hx hb dX3_useLocal_184 (by decide) ?_
                exact B188 (z_12, 1) ls H locs ⟨lv_sub hl [1, 2, 3] rfl, hP, hD, hS⟩ hf
            · skip
              rw [if_pos c_14] at hf
              refine lv_aload_n hx hb dX3_useLocal_136 rfl (lv_at hl 1 rfl) ?_
              refine lv_iload_n hx hb dX3_useLocal_137 rfl (lv_at hl 3 rfl) ?_
              refine lv_aload_n hx hb dX3_useLocal_138 rfl (lv_at hl 1 rfl) ?_
              refine va_get (D := (dC, dI)) (ci := 3) (v := .long (z_12.2.1 h0 14)) (C := RX3) (T := TX3) (N := 22) hx hb hts iwd_X3_useLocal_X3 hown hK hP h0 (Wd_ob kg_1 sg_1 (by decide)) rfl 14 (by decide) (hts _ md_X3_useLocal_3) (fun _ h9 => h9) (fl_at (t := 1) rfl) dX3_useLocal_139 ?_
              refine lv_aload_n hx hb dX3_useLocal_142 rfl (lv_at hl 1 rfl) ?_
              refine va_get (D := (dC, dI)) (ci := 3) (v := .int (z_12.1 h0 15)) (C := RX3) (T := TX3) (N := 22) hx hb hts iwd_X3_useLocal_X3 hown hK hP h0 (Wd_ob kg_1 sg_1 (by decide)) rfl 15 (by decide) (hts _ md_X3_useLocal_4) (fun _ h9 => h9) (fl_at (t := 0) rfl) dX3_useLocal_143 ?_
              obtain ⟨z_27, _u, hfc, hf⟩ := cal_some hf
              have hFc := de_free hD hS hA
              refine va_callv (va_runV (As := [.int x1, .long (z_12.2.1 h0 14), .int (z_12.1 h0 15)]) (rest := []) ⟨hx, hb, hml, hown, hts⟩ (de_X3_setLocal l dC dI cy a sh n H.size F z_12 h0 x1 (z_12.2.1 h0 14) (z_12.1 h0 15) hfc) (cwV 3 hts gX3_useLocal_X3_setLocal rfl rfl rfl (by decide +kernel) ⟨Nat.le_of_ble_eq_true rfl, Nat.le_of_ble_eq_true rfl⟩) ⟨fun a U g mk q => by obtain ⟨q0, q1, qP, qK, qD, qN⟩ := q; exact ⟨q0, q1, qP, va_K.moved (u := U) (U := U.calling g mk a) (Vm.Alike.refl U.vm) qK, qD, qN.same rfl⟩, va_recv hK hP (ci := 3) (q0 := h0) rfl (Wd_ob kg_1 sg_1 (by decide)), fun U hU hW => ⟨rfl, by rw [hU], by rw [hU]; exact hP, va_K.moved hW.alike hK, hD.weaken (fun _ _ _ _ => trivial), hN.warm hW⟩⟩ rfl rfl hl.1 rfl (lv_room (Nat.le_of_ble_eq_true rfl)) dX3_useLocal_146 ⟨Nat.le_of_ble_eq_true rfl, Nat.le_of_ble_eq_true rfl⟩) hS (fun q _ h => hFc q h) hFc (fun u t H_28 locs ht hvm hw hB hz1 hk1 hS2 => ?_)
              obtain ⟨hP1, -, hD1⟩ := hB
              rw [ht] at hP1
              replace hD := hD1.weaken (fun _ _ _ h => hFc _ h)
              replace hP := hP1
              replace hS := hS2
              clear hP1 hD1 hS2 hFc hfc hz1 hk1 hvm ht
              refine lv_aload_n hx hb dX3_useLocal_149 rfl (lv_at hl 1 rfl) ?_
              refine lv_dup hx hb dX3_useLocal_150 rfl ?_
              refine va_get (D := (dC, dI)) (ci := 3) (v := .long (z_27.2.1 h0 12)) (C := RX3) (T := TX3) (N := 22) hx hb hts iwd_X3_useLocal_X3 hown hK hP h0 (Wd_ob kg_1 sg_1 (by decide)) rfl 12 (by decide) (hts _ md_X3_useLocal_5) (fun _ h9 => h9) (fl_at (t := 1) rfl) dX3_useLocal_151 ?_
              refine lv_lconst (v := 1) hx hb dX3_useLocal_154 (by decide) ?_
              refine lv_iload_n hx hb dX3_useLocal_155 rfl (lv_at hl 3 rfl) ?_
              refine lv_lshl (v := (1 <<< ((x1 : Int32).toInt64 &&& 63))) hx hb dX3_useLocal_156 rfl ?_
              refine lv_lor hx hb dX3_useLocal_157 ?_
              refine va_put (D := (dC, dI)) (ci := 3) (v := .long ((z_27.2.1 h0 12) ||| ((1 <<< ((x1 : Int32).toInt64 &&& 63))))) (ty := .long) (C := RX3) (T := TX3) (N := 22) hx hb hts iwd_X3_useLocal_X3 tyX3 tyX3_ok nmX3 hown hK hP hD hS h0 (Wd_ob kg_1 sg_1 (by decide)) rfl 12 (by decide) (hts _ md_X3_useLocal_5) (fun _ h9 => h9) rfl (by decide +kernel) rfl rfl (by rw [fl_len]; decide) dX3_useLocal_158 (fun H_29 locs hP2 hD2 hS2 => ?_)
              rw [Wd_sl sg_1 (by decide) rfl] at hP2 hD2
              obtain ⟨z_30, ez_30⟩ : ∃ w, w = sl z_27 h0 12 ((z_27.2.1 h0 12) ||| ((1 <<< ((x1 : Int32).toInt64 &&& 63)))) := ⟨_, rfl⟩
              rw [← ez_30] at hP2 hD2
              replace hf := lt_at ez_30 hf
              clear ez_30
              replace hP := hP2
              replace hD := hD2
              replace hS := hS2
              clear hP2 hD2 hS2
              obtain ⟨h8, h9⟩ := ret_some hf
              rw [h8]
              exact W.vret hx hb hr (fun t ht hW => ⟨⟨(), rfl, trivial, by rw [ht]; exact hP, va_K.moved hW.alike hK, hD⟩, hS.F ht⟩) hS.2.2 dX3_useLocal_161
          · skip
            rw [if_neg c_13] at hf
            obtain ⟨h8, h9⟩ := ret_some hf
            rw [h8]
            exact W.vret hx hb hr (fun t ht hW => ⟨⟨(), rfl, trivial, by rw [ht]; exact hP, va_K.moved hW.alike hK, hD⟩, hS.F ht⟩) hS.2.2 dX3_useLocal_129
        refine lv_if_eq (tgt := 122) hx hb dX3_useLocal_92 (by decide) (fun c_31 => ?_) (fun c_31 => ?_)
        · skip
          rw [if_pos c_31] at hf
          exact B122 (z_11) ls H locs ⟨lv_sub hl [1, 2, 3, 4] rfl, hP, hD, hS⟩ hf
        · skip
          rw [if_neg c_31] at hf
          refine lv_aload_n hx hb dX3_useLocal_95 rfl (lv_at hl 2 rfl) ?_
          refine lv_lconst (v := 1) hx hb dX3_useLocal_96 (by decide) ?_
          refine lv_iload_n hx hb dX3_useLocal_97 rfl (lv_at hl 4 rfl) ?_
          refine lv_lshl (v := (1 <<< ((x1 : Int32).toInt64 &&& 63))) hx hb dX3_useLocal_98 rfl ?_
          refine lv_iload_n hx hb dX3_useLocal_99 rfl (lv_at hl 3 rfl) ?_
          refine lv_bipush (v := 11) hx hb dX3_useLocal_100 (by decide) ?_
          refine de_cut (h := 110) (fun (x : St × Int32) => [.int x.2, .long ((1 <<< ((x1 : Int32).toInt64 &&& 63))), .ref (a h0)]) (fun x ls H locs => lv_has ls 6 [(3, .long v_4), (0, .ref (a h0)), (1, .int x0), (2, .int x1)] ∧ va_P (dC, dI) vwCl (Wd cy a sh n x.1) H ∧ va_D A (Wd cy a sh n x.1) ∧ va_S A s.heap H locs) (fun x => fn_X3_useLocal_B110 F sh n h0 x1 x0 v_4 x.1 x.2) (z8, r8) ?_ (fun B110 => ?_)
          · intro x ls H locs hI hf
            obtain ⟨z_33, p_32⟩ := x
            obtain ⟨hl2, hP2, hD2, hS2⟩ := hI
            replace hl : lv_has ls 6 [(3, .long v_4), (0, .ref (a h0)), (1, .int x0), (2, .int x1)] := hl2
            replace hP := hP2
            replace hD := hD2
            replace hS := hS2
            clear hl2 hP2 hD2 hS2
            replace hf := fn_X3_useLocal_B110_s hf
            refine W.eq (g2 := F0 m 110 ls [.int p_32, .long ((1 <<< ((x1 : Int32).toInt64 &&& 63))), .ref (a h0)]) rfl ?_
            obtain ⟨z_34, r_35, hfc, hf⟩ := cal_some hf
            have hFc := de_free hD hS hA
            refine va_calli (va_runV (As := [.long ((1 <<< ((x1 : Int32).toInt64 &&& 63))), .int p_32]) (rest := []) ⟨hx, hb, hml, hown, hts⟩ (de_X3_isLive l dC dI cy a sh n H.size F z_33 h0 ((1 <<< ((x1 : Int32).toInt64 &&& 63))) p_32 hfc) (cwV 2 hts gX3_useLocal_X3_isLive rfl rfl rfl (by decide +kernel) ⟨Nat.le_of_ble_eq_true rfl, Nat.le_of_ble_eq_true rfl⟩) ⟨fun a U g mk q => by obtain ⟨q0, q1, qP, qK, qD, qN⟩ := q; exact ⟨q0, q1, qP, va_K.moved (u := U) (U := U.calling g mk a) (Vm.Alike.refl U.vm) qK, qD, qN.same rfl⟩, va_recv hK hP (ci := 3) (q0 := h0) rfl (Wd_ob kg_1 sg_1 (by decide)), fun U hU hW => ⟨rfl, by rw [hU], by rw [hU]; exact hP, va_K.moved hW.alike hK, hD.weaken (fun _ _ _ _ => trivial), hN.warm hW⟩⟩ rfl rfl hl.1 rfl (lv_room (Nat.le_of_ble_eq_true rfl)) dX3_useLocal_110 ⟨Nat.le_of_ble_eq_true rfl, Nat.le_of_ble_eq_true rfl⟩) hS (fun q _ h => hFc q h) hFc (fun rr u t H_36 locs ht hvm hw hB hz1 hk1 hS2 => ?_)
            rw [hw]
            clear hw
            obtain ⟨hP1, -, hD1⟩ := hB
            rw [ht] at hP1
            replace hD := hD1.weaken (fun _ _ _ h => hFc _ h)
            replace hP := hP1
            replace hS := hS2
            clear hP1 hD1 hS2 hFc hfc hz1 hk1 hvm ht
            refine lv_if_eq (tgt := 122) hx hb dX3_useLocal_113 (by decide) (fun c_37 => ?_) (fun c_37 => ?_)
            · skip
              rw [if_pos c_37] at hf
              exact B122 (z_34) ls H_36 locs ⟨lv_sub hl [0, 1, 2, 3] rfl, hP, hD, hS⟩ hf
            · skip
              rw [if_neg c_37] at hf
              refine lv_aload_n hx hb dX3_useLocal_116 rfl (lv_at hl 1 rfl) ?_
              refine lv_bipush (v := 6) hx hb dX3_useLocal_117 (by decide) ?_
              obtain ⟨z_38, _u, hfc, hf⟩ := cal_some hf
              have hFc := de_free hD hS hA
              refine va_callv (va_runV (As := [.int 6]) (rest := []) ⟨hx, hb, hml, hown, hts⟩ (de_X3_fail l dC dI cy a sh n H_36.size F z_34 h0 6 hfc) (cwV 1 hts gX3_useLocal_X3_fail rfl rfl rfl (by decide +kernel) ⟨Nat.le_of_ble_eq_true rfl, Nat.le_of_ble_eq_true rfl⟩) ⟨fun a U g mk q => by obtain ⟨q0, q1, qP, qK, qD, qN⟩ := q; exact ⟨q0, q1, qP, va_K.moved (u := U) (U := U.calling g mk a) (Vm.Alike.refl U.vm) qK, qD, qN.same rfl⟩, va_recv hK hP (ci := 3) (q0 := h0) rfl (Wd_ob kg_1 sg_1 (by decide)), fun U hU hW => ⟨rfl, by rw [hU], by rw [hU]; exact hP, va_K.moved hW.alike hK, hD.weaken (fun _ _ _ _ => trivial), hN.warm hW⟩⟩ rfl rfl hl.1 rfl (lv_room (Nat.le_of_ble_eq_true rfl)) dX3_useLocal_119 ⟨Nat.le_of_ble_eq_true rfl, Nat.le_of_ble_eq_true rfl⟩) hS (fun q _ h => hFc q h) hFc (fun u t H_39 locs ht hvm hw hB hz1 hk1 hS2 => ?_)
              obtain ⟨hP1, -, hD1⟩ := hB
              rw [ht] at hP1
              replace hD := hD1.weaken (fun _ _ _ h => hFc _ h)
              replace hP := hP1
              replace hS := hS2
              clear hP1 hD1 hS2 hFc hfc hz1 hk1 hvm ht
              exact B122 (z_38) ls H_39 locs ⟨lv_sub hl [0, 1, 2, 3] rfl, hP, hD, hS⟩ hf
          refine lv_icmp_ne (tgt := 109) hx hb dX3_useLocal_102 (by decide) (fun c_40 => ?_) (fun c_40 => ?_)
          · skip
            rw [if_neg c_40] at hf
            refine lv_iconst (v := 0) hx hb dX3_useLocal_109 (by decide) ?_
            exact B110 (z_11, 0) ls H locs ⟨lv_sub hl [1, 2, 3, 4] rfl, hP, hD, hS⟩ hf
          · skip
            rw [if_pos c_40] at hf
            refine lv_iconst (v := 1) hx hb dX3_useLocal_105 (by decide) ?_
            refine lv_goto (tgt := 110) hx hb dX3_useLocal_106 (by decide) ?_
            exact B110 (z_11, 1) ls H locs ⟨lv_sub hl [1, 2, 3, 4] rfl, hP, hD, hS⟩ hf
      refine lv_icmp_ne (tgt := 90) hx hb dX3_useLocal_73 (by decide) (fun c_41 => ?_) (fun c_41 => ?_)
      · skip
        rw [if_neg c_41] at hf
        exact B90 (z_10) ls H locs ⟨lv_sub hl [0, 1, 2, 3, 4] rfl, hP, hD, hS⟩ hf
      · skip
        rw [if_pos c_41] at hf
        refine lv_aload_n hx hb dX3_useLocal_76 rfl (lv_at hl 2 rfl) ?_
        refine lv_lload_n hx hb dX3_useLocal_77 rfl (lv_at hl 1 rfl) ?_
        refine lv_iconst (v := 1) hx hb dX3_useLocal_78 (by decide) ?_
        obtain ⟨z_42, r_43, hfc, hf⟩ := cal_some hf
        have hFc := de_free hD hS hA
        refine va_calli (va_runV (As := [.long v_4, .int 1]) (rest := []) ⟨hx, hb, hml, hown, hts⟩ (de_X3_has l dC dI cy a sh n H.size F z_10 h0 v_4 1 hfc) (cwV 2 hts gX3_useLocal_X3_has rfl rfl rfl (by decide +kernel) ⟨Nat.le_of_ble_eq_true rfl, Nat.le_of_ble_eq_true rfl⟩) ⟨fun a U g mk q => by obtain ⟨q0, q1, qP, qK, qD, qN⟩ := q; exact ⟨q0, q1, qP, va_K.moved (u := U) (U := U.calling g mk a) (Vm.Alike.refl U.vm) qK, qD, qN.same rfl⟩, va_recv hK hP (ci := 3) (q0 := h0) rfl (Wd_ob kg_1 sg_1 (by decide)), fun U hU hW => ⟨rfl, by rw [hU], by rw [hU]; exact hP, va_K.moved hW.alike hK, hD.weaken (fun _ _ _ _ => trivial), hN.warm hW⟩⟩ rfl rfl hl.1 rfl (lv_room (Nat.le_of_ble_eq_true rfl)) dX3_useLocal_79 ⟨Nat.le_of_ble_eq_true rfl, Nat.le_of_ble_eq_true rfl⟩) hS (fun q _ h => hFc q h) hFc (fun rr u t H_44 locs ht hvm hw hB hz1 hk1 hS2 => ?_)
        rw [hw]
        clear hw
        obtain ⟨hP1, -, hD1⟩ := hB
        rw [ht] at hP1
        replace hD := hD1.weaken (fun _ _ _ h => hFc _ h)
        replace hP := hP1
        replace hS := hS2
        clear hP1 hD1 hS2 hFc hfc hz1 hk1 hvm ht
        refine lv_if_ne (tgt := 90) hx hb dX3_useLocal_82 (by decide) (fun c_45 => ?_) (fun c_45 => ?_)
        · skip
          rw [if_neg c_45] at hf
          exact B90 (z_42) ls H_44 locs ⟨lv_sub hl [0, 1, 2, 3, 4] rfl, hP, hD, hS⟩ hf
        · skip
          rw [if_pos c_45] at hf
          refine lv_aload_n hx hb dX3_useLocal_85 rfl (lv_at hl 2 rfl) ?_
          refine lv_iconst (v := 4) hx hb dX3_useLocal_86 (by decide) ?_
          obtain ⟨z_46, _u, hfc, hf⟩ := cal_some hf
          have hFc := de_free hD hS hA
          refine va_callv (va_runV (As := [.int 4]) (rest := []) ⟨hx, hb, hml, hown, hts⟩ (de_X3_fail l dC dI cy a sh n H_44.size F z_42 h0 4 hfc) (cwV 1 hts gX3_useLocal_X3_fail rfl rfl rfl (by decide +kernel) ⟨Nat.le_of_ble_eq_true rfl, Nat.le_of_ble_eq_true rfl⟩) ⟨fun a U g mk q => by obtain ⟨q0, q1, qP, qK, qD, qN⟩ := q; exact ⟨q0, q1, qP, va_K.moved (u := U) (U := U.calling g mk a) (Vm.Alike.refl U.vm) qK, qD, qN.same rfl⟩, va_recv hK hP (ci := 3) (q0 := h0) rfl (Wd_ob kg_1 sg_1 (by decide)), fun U hU hW => ⟨rfl, by rw [hU], by rw [hU]; exact hP, va_K.moved hW.alike hK, hD.weaken (fun _ _ _ _ => trivial), hN.warm hW⟩⟩ rfl rfl hl.1 rfl (lv_room (Nat.le_of_ble_eq_true rfl)) dX3_useLocal_87 ⟨Nat.le_of_ble_eq_true rfl, Nat.le_of_ble_eq_true rfl⟩) hS (fun q _ h => hFc q h) hFc (fun u t H_47 locs ht hvm hw hB hz1 hk1 hS2 => ?_)
          obtain ⟨hP1, -, hD1⟩ := hB
          rw [ht] at hP1
          replace hD := hD1.weaken (fun _ _ _ h => hFc _ h)
          replace hP := hP1
          replace hS := hS2
          clear hP1 hD1 hS2 hFc hfc hz1 hk1 hvm ht
          exact B90 (z_46) ls H_47 locs ⟨lv_sub hl [0, 1, 2, 3, 4] rfl, hP, hD, hS⟩ hf
    refine lv_icmp_ne (tgt := 57) hx hb dX3_useLocal_24 (by decide) (fun c_48 => ?_) (fun c_48 => ?_)
    · skip
      rw [if_neg c_48] at hf
      refine lv_aload_n hx hb dX3_useLocal_57 rfl (lv_at hl 2 rfl) ?_
      refine lv_iload_n hx hb dX3_useLocal_58 rfl (lv_at hl 4 rfl) ?_
      obtain ⟨z_49, r_50, hfc, hf⟩ := cal_some hf
      have hFc := de_free hD hS hA
      refine va_calli (va_runV (As := [.int x1]) (rest := []) ⟨hx, hb, hml, hown, hts⟩ (de_X3_isThere l dC dI cy a sh n H.size F z_9 h0 x1 hfc) (cwV 1 hts gX3_useLocal_X3_isThere rfl rfl rfl (by decide +kernel) ⟨Nat.le_of_ble_eq_true rfl, Nat.le_of_ble_eq_true rfl⟩) ⟨fun a U g mk q => by obtain ⟨q0, q1, qP, qK, qD, qN⟩ := q; exact ⟨q0, q1, qP, va_K.moved (u := U) (U := U.calling g mk a) (Vm.Alike.refl U.vm) qK, qD, qN.same rfl⟩, va_recv hK hP (ci := 3) (q0 := h0) rfl (Wd_ob kg_1 sg_1 (by decide)), fun U hU hW => ⟨rfl, by rw [hU], by rw [hU]; exact hP, va_K.moved hW.alike hK, hD.weaken (fun _ _ _ _ => trivial), hN.warm hW⟩⟩ rfl rfl hl.1 rfl (lv_room (Nat.le_of_ble_eq_true rfl)) dX3_useLocal_59 ⟨Nat.le_of_ble_eq_true rfl, Nat.le_of_ble_eq_true rfl⟩) hS (fun q _ h => hFc q h) hFc (fun rr u t H_51 locs ht hvm hw hB hz1 hk1 hS2 => ?_)
      rw [hw]
      clear hw
      obtain ⟨hP1, -, hD1⟩ := hB
      rw [ht] at hP1
      replace hD := hD1.weaken (fun _ _ _ h => hFc _ h)
      replace hP := hP1
      replace hS := hS2
      clear hP1 hD1 hS2 hFc hfc hz1 hk1 hvm ht
      refine lv_if_ne (tgt := 70) hx hb dX3_useLocal_62 (by decide) (fun c_52 => ?_) (fun c_52 => ?_)
      · skip
        rw [if_neg c_52] at hf
        exact B70 (z_49) ls H_51 locs ⟨lv_sub hl [0, 1, 2, 3, 4] rfl, hP, hD, hS⟩ hf
      · skip
        rw [if_pos c_52] at hf
        refine lv_aload_n hx hb dX3_useLocal_65 rfl (lv_at hl 2 rfl) ?_
        refine lv_iconst (v := 5) hx hb dX3_useLocal_66 (by decide) ?_
        obtain ⟨z_53, _u, hfc, hf⟩ := cal_some hf
        have hFc := de_free hD hS hA
        refine va_callv (va_runV (As := [.int 5]) (rest := []) ⟨hx, hb, hml, hown, hts⟩ (de_X3_fail l dC dI cy a sh n H_51.size F z_49 h0 5 hfc) (cwV 1 hts gX3_useLocal_X3_fail rfl rfl rfl (by decide +kernel) ⟨Nat.le_of_ble_eq_true rfl, Nat.le_of_ble_eq_true rfl⟩) ⟨fun a U g mk q => by obtain ⟨q0, q1, qP, qK, qD, qN⟩ := q; exact ⟨q0, q1, qP, va_K.moved (u := U) (U := U.calling g mk a) (Vm.Alike.refl U.vm) qK, qD, qN.same rfl⟩, va_recv hK hP (ci := 3) (q0 := h0) rfl (Wd_ob kg_1 sg_1 (by decide)), fun U hU hW => ⟨rfl, by rw [hU], by rw [hU]; exact hP, va_K.moved hW.alike hK, hD.weaken (fun _ _ _ _ => trivial), hN.warm hW⟩⟩ rfl rfl hl.1 rfl (lv_room (Nat.le_of_ble_eq_true rfl)) dX3_useLocal_67 ⟨Nat.le_of_ble_eq_true rfl, Nat.le_of_ble_eq_true rfl⟩) hS (fun q _ h => hFc q h) hFc (fun u t H_54 locs ht hvm hw hB hz1 hk1 hS2 => ?_)
        obtain ⟨hP1, -, hD1⟩ := hB
        rw [ht] at hP1
        replace hD := hD1.weaken (fun _ _ _ h => hFc _ h)
        replace hP := hP1
        replace hS := hS2
        clear hP1 hD1 hS2 hFc hfc hz1 hk1 hvm ht
        exact B70 (z_53) ls H_54 locs ⟨lv_sub hl [0, 1, 2, 3, 4] rfl, hP, hD, hS⟩ hf
    · skip
      rw [if_pos c_48] at hf
      refine lv_aload_n hx hb dX3_useLocal_27 rfl (lv_at hl 2 rfl) ?_
      refine lv_lload_n hx hb dX3_useLocal_28 rfl (lv_at hl 1 rfl) ?_
      obtain ⟨z_55, _u, hfc, hf⟩ := cal_some hf
      have hFc := de_free hD hS hA
      refine va_callv (va_runV (As := [.long v_4]) (rest := []) ⟨hx, hb, hml, hown, hts⟩ (de_X3_takeOnly l dC dI cy a sh n H.size F z_9 h0 v_4 hfc) (cwV 1 hts gX3_useLocal_X3_takeOnly rfl rfl rfl (by decide +kernel) ⟨Nat.le_of_ble_eq_true rfl, Nat.le_of_ble_eq_true rfl⟩) ⟨fun a U g mk q => by obtain ⟨q0, q1, qP, qK, qD, qN⟩ := q; exact ⟨q0, q1, qP, va_K.moved (u := U) (U := U.calling g mk a) (Vm.Alike.refl U.vm) qK, qD, qN.same rfl⟩, va_recv hK hP (ci := 3) (q0 := h0) rfl (Wd_ob kg_1 sg_1 (by decide)), fun U hU hW => ⟨rfl, by rw [hU], by rw [hU]; exact hP, va_K.moved hW.alike hK, hD.weaken (fun _ _ _ _ => trivial), hN.warm hW⟩⟩ rfl rfl hl.1 rfl (lv_room (Nat.le_of_ble_eq_true rfl)) dX3_useLocal_29 ⟨Nat.le_of_ble_eq_true rfl, Nat.le_of_ble_eq_true rfl⟩) hS (fun q _ h => hFc q h) hFc (fun u t H_56 locs ht hvm hw hB hz1 hk1 hS2 => ?_)
      obtain ⟨hP1, -, hD1⟩ := hB
      rw [ht] at hP1
      replace hD := hD1.weaken (fun _ _ _ h => hFc _ h)
      replace hP := hP1
      replace hS := hS2
      clear hP1 hD1 hS2 hFc hfc hz1 hk1 hvm ht
      refine lv_aload_n hx hb dX3_useLocal_32 rfl (lv_at hl 2 rfl) ?_
      refine lv_iload_n hx hb dX3_useLocal_33 rfl (lv_at hl 4 rfl) ?_
      obtain ⟨z_57, r_58, hfc, hf⟩ := cal_some hf
      have hFc := de_free hD hS hA
      refine va_calli (va_runV (As := [.int x1]) (rest := []) ⟨hx, hb, hml, hown, hts⟩ (de_X3_isThere l dC dI cy a sh n H_56.size F z_55 h0 x1 hfc) (cwV 1 hts gX3_useLocal_X3_isThere rfl rfl rfl (by decide +kernel) ⟨Nat.le_of_ble_eq_true rfl, Nat.le_of_ble_eq_true rfl⟩) ⟨fun a U g mk q => by obtain ⟨q0, q1, qP, qK, qD, qN⟩ := q; exact ⟨q0, q1, qP, va_K.moved (u := U) (U := U.calling g mk a) (Vm.Alike.refl U.vm) qK, qD, qN.same rfl⟩, va_recv hK hP (ci := 3) (q0 := h0) rfl (Wd_ob kg_1 sg_1 (by decide)), fun U hU hW => ⟨rfl, by rw [hU], by rw [hU]; exact hP, va_K.moved hW.alike hK, hD.weaken (fun _ _ _ _ => trivial), hN.warm hW⟩⟩ rfl rfl hl.1 rfl (lv_room (Nat.le_of_ble_eq_true rfl)) dX3_useLocal_34 ⟨Nat.le_of_ble_eq_true rfl, Nat.le_of_ble_eq_true rfl⟩) hS (fun q _ h => hFc q h) hFc (fun rr u t H_59 locs ht hvm hw hB hz1 hk1 hS2 => ?_)
      rw [hw]
      clear hw
      obtain ⟨hP1, -, hD1⟩ := hB
      rw [ht] at hP1
      replace hD := hD1.weaken (fun _ _ _ h => hFc _ h)
      replace hP := hP1
      replace hS := hS2
      clear hP1 hD1 hS2 hFc hfc hz1 hk1 hvm ht
      refine lv_if_eq (tgt := 70) hx hb dX3_useLocal_37 (by decide) (fun c_60 => ?_) (fun c_60 => ?_)
      · skip
        rw [if_pos c_60] at hf
        exact B70 (z_57) ls H_59 locs ⟨lv_sub hl [0, 1, 2, 3, 4] rfl, hP, hD, hS⟩ hf
      · skip
        rw [if_neg c_60] at hf
        refine lv_aload_n hx hb dX3_useLocal_40 rfl (lv_at hl 2 rfl) ?_
        refine lv_lload_n hx hb dX3_useLocal_41 rfl (lv_at hl 1 rfl) ?_
        refine lv_iconst (v := 2) hx hb dX3_useLocal_42 (by decide) ?_
        obtain ⟨z_61, r_62, hfc, hf⟩ := cal_some hf
        have hFc := de_free hD hS hA
        refine va_calli (va_runV (As := [.long v_4, .int 2]) (rest := []) ⟨hx, hb, hml, hown, hts⟩ (de_X3_has l dC dI cy a sh n H_59.size F z_57 h0 v_4 2 hfc) (cwV 2 hts gX3_useLocal_X3_has rfl rfl rfl (by decide +kernel) ⟨Nat.le_of_ble_eq_true rfl, Nat.le_of_ble_eq_true rfl⟩) ⟨fun a U g mk q => by obtain ⟨q0, q1, qP, qK, qD, qN⟩ := q; exact ⟨q0, q1, qP, va_K.moved (u := U) (U := U.calling g mk a) (Vm.Alike.refl U.vm) qK, qD, qN.same rfl⟩, va_recv hK hP (ci := 3) (q0 := h0) rfl (Wd_ob kg_1 sg_1 (by decide)), fun U hU hW => ⟨rfl, by rw [hU], by rw [hU]; exact hP, va_K.moved hW.alike hK, hD.weaken (fun _ _ _ _ => trivial), hN.warm hW⟩⟩ rfl rfl hl.1 rfl (lv_room (Nat.le_of_ble_eq_true rfl)) dX3_useLocal_43 ⟨Nat.le_of_ble_eq_true rfl, Nat.le_of_ble_eq_true rfl⟩) hS (fun q _ h => hFc q h) hFc (fun rr u t H_63 locs ht hvm hw hB hz1 hk1 hS2 => ?_)
        rw [hw]
        clear hw
        obtain ⟨hP1, -, hD1⟩ := hB
        rw [ht] at hP1
        replace hD := hD1.weaken (fun _ _ _ h => hFc _ h)
        replace hP := hP1
        replace hS := hS2
        clear hP1 hD1 hS2 hFc hfc hz1 hk1 hvm ht
        refine lv_if_ne (tgt := 70) hx hb dX3_useLocal_46 (by decide) (fun c_64 => ?_) (fun c_64 => ?_)
        · skip
          rw [if_neg c_64] at hf
          exact B70 (z_61) ls H_63 locs ⟨lv_sub hl [0, 1, 2, 3, 4] rfl, hP, hD, hS⟩ hf
        · skip
          rw [if_pos c_64] at hf
          refine lv_aload_n hx hb dX3_useLocal_49 rfl (lv_at hl 2 rfl) ?_
          refine lv_iconst (v := 4) hx hb dX3_useLocal_50 (by decide) ?_
          obtain ⟨z_65, _u, hfc, hf⟩ := cal_some hf
          have hFc := de_free hD hS hA
          refine va_callv (va_runV (As := [.int 4]) (rest := []) ⟨hx, hb, hml, hown, hts⟩ (de_X3_fail l dC dI cy a sh n H_63.size F z_61 h0 4 hfc) (cwV 1 hts gX3_useLocal_X3_fail rfl rfl rfl (by decide +kernel) ⟨Nat.le_of_ble_eq_true rfl, Nat.le_of_ble_eq_true rfl⟩) ⟨fun a U g mk q => by obtain ⟨q0, q1, qP, qK, qD, qN⟩ := q; exact ⟨q0, q1, qP, va_K.moved (u := U) (U := U.calling g mk a) (Vm.Alike.refl U.vm) qK, qD, qN.same rfl⟩, va_recv hK hP (ci := 3) (q0 := h0) rfl (Wd_ob kg_1 sg_1 (by decide)), fun U hU hW => ⟨rfl, by rw [hU], by rw [hU]; exact hP, va_K.moved hW.alike hK, hD.weaken (fun _ _ _ _ => trivial), hN.warm hW⟩⟩ rfl rfl hl.1 rfl (lv_room (Nat.le_of_ble_eq_true rfl)) dX3_useLocal_51 ⟨Nat.le_of_ble_eq_true rfl, Nat.le_of_ble_eq_true rfl⟩) hS (fun q _ h => hFc q h) hFc (fun u t H_66 locs ht hvm hw hB hz1 hk1 hS2 => ?_)
          obtain ⟨hP1, -, hD1⟩ := hB
          rw [ht] at hP1
          replace hD := hD1.weaken (fun _ _ _ h => hFc _ h)
          replace hP := hP1
          replace hS := hS2
          clear hP1 hD1 hS2 hFc hfc hz1 hk1 hvm ht
          refine lv_goto (tgt := 70) hx hb dX3_useLocal_54 (by decide) ?_
          exact B70 (z_65) ls H_66 locs ⟨lv_sub hl [0, 1, 2, 3, 4] rfl, hP, hD, hS⟩ hf
  refine lv_if_ne (tgt := 18) hx hb dX3_useLocal_11 (by decide) (fun c_67 => ?_) (fun c_67 => ?_)
  · skip
    rw [if_neg c_67] at hf
    refine lv_iconst (v := 0) hx hb dX3_useLocal_18 (by decide) ?_
    exact B19 (z_5, 0) ls H_7 locs ⟨lv_sub hl [0, 1, 2, 3] rfl, hP, hD, hS⟩ hf
  · skip
    rw [if_pos c_67] at hf
    refine lv_iconst (v := 1) hx hb dX3_useLocal_14 (by decide) ?_
    refine lv_goto (tgt := 19) hx hb dX3_useLocal_15 (by decide) ?_
    exact B19 (z_5, 1) ls H_7 locs ⟨lv_sub hl [0, 1, 2, 3] rfl, hP, hD, hS⟩ hf

theorem md_X4_hash_1 : (.fieldLink RX4 12 "ResourceLedger$Machine" "heap" "LResourceLedger$Heap;" : Cond) ∈ wsX4_hash := List.mem_of_getElem? (i := 1) rfl
theorem iwd_X4_hash_X4 : ∀ w ∈ wsX40, w ∈ wsX4_hash := fun _ h => List.mem_cons_of_mem _ (List.mem_append_left _ (List.mem_append_left _ (List.mem_append_left _ (List.mem_append_right _ h))))
theorem md_X4_hash_2 : (.fieldLink RX4 157 "ResourceLedger$Heap" "kind" "[B" : Cond) ∈ wsX4_hash := List.mem_of_getElem? (i := 2) rfl
theorem iwd_X4_hash_X1 : ∀ w ∈ wsX10, w ∈ wsX4_hash := fun _ h => List.mem_cons_of_mem _ (List.mem_append_left _ (List.mem_append_left _ (List.mem_append_right _ h)))
theorem md_X4_hash_4 : (.fieldLink RX4 160 "ResourceLedger$Heap" "high" "[J" : Cond) ∈ wsX4_hash := List.mem_of_getElem? (i := 4) rfl
theorem md_X4_hash_5 : (.constantLong RX4 412 (256) : Cond) ∈ wsX4_hash := List.mem_of_getElem? (i := 5) rfl
theorem md_X4_hash_6 : (.methodLink RX4 417 Lib.MathLoose.min_long.x : Cond) ∈ wsX4_hash := List.mem_of_getElem? (i := 6) rfl
theorem md_X4_hash_7 : (.static Lib.MathLoose.min_long.x : Cond) ∈ wsX4_hash := List.mem_of_getElem? (i := 7) rfl
theorem md_X4_hash_8 : (.initialized "java/lang/Math" : Cond) ∈ wsX4_hash := List.mem_of_getElem? (i := 8) rfl
theorem md_X4_hash_9 : (.code Lib.MathLoose.min_long.x Lib.MathLoose.min_long.code 4 (some .long) : Cond) ∈ wsX4_hash := List.mem_of_getElem? (i := 9) rfl
theorem md_X4_hash_10 : (.fieldLink RX4 163 "ResourceLedger$Heap" "low" "[J" : Cond) ∈ wsX4_hash := List.mem_of_getElem? (i := 10) rfl
theorem md_X4_hash_13 : (.fieldLink RX4 28 "ResourceLedger$Machine" "digest" "LResourceLedger$Digest;" : Cond) ∈ wsX4_hash := List.mem_of_getElem? (i := 13) rfl
theorem md_X4_hash_14 : (.constantLong RX4 436 (255) : Cond) ∈ wsX4_hash := List.mem_of_getElem? (i := 14) rfl
theorem md_X4_hash_11 : (.fieldLink RX4 32 "ResourceLedger$Machine" "row" "[B" : Cond) ∈ wsX4_hash := List.mem_of_getElem? (i := 11) rfl
theorem md_X4_hash_12 : (.fieldLink RX4 420 "ResourceLedger$Heap" "next" "[I" : Cond) ∈ wsX4_hash := List.mem_of_getElem? (i := 12) rfl
theorem md_X4_hash_3 : (.fieldLink RX4 71 "ResourceLedger$Heap" "slips" "I" : Cond) ∈ wsX4_hash := List.mem_of_getElem? (i := 3) rfl
set_option maxHeartbeats 4000000 in
set_option maxRecDepth 100000 in
theorem de_X4_hash (l : Launch) (dC : Nat → ClassId) (dI : Nat → Nat → Nat) (cy : Nat → ClassId) (a : Nat → Nat) (sh : Nat → Nat × Nat) (n sz : Nat) (F : Nat) (sk : Nat → Nat) (z : St) (h0 : Nat) {z8 : St} {r8 : Unit} (hf : fn_X4_hash F sh n z h0 = some (z8, r8)) : Met l yX4_hash wsX4_hash ({ frames := 3, cells := 0, slots := 0, locals := 76 }) (va_Pc [.ref (a h0)] (fun U => U.heap.size = sz ∧ va_P (dC, dI) vwCl (Wd cy a sh n z) U.heap ∧ va_K (dC, dI) vwCl (TYS cy) U ∧ va_D (fun _ => True) (Wd cy a sh n z) ∧ NK U ∧ SKs sk (a CBK) (va_A (Wd cy a sh n z) sz) U U.heap)) (va_Qv (fun u : Unit => True) (fun u t => va_P (dC, dI) vwCl (Wd cy a sh n z8) t.heap ∧ va_K (dC, dI) vwCl (TYS cy) t ∧ va_D (va_A (Wd cy a sh n z) sz) (Wd cy a sh n z8)) (va_A (Wd cy a sh n z) sz)) 0 0 (va_A (Wd cy a sh n z) sz) := by
  refine Met.ofW (cc := cX4_hash) (maxL := 8) (ret := none) (by decide) rfl ?_
  intro p e s m args below meth c s₁ B hml hv
  obtain ⟨rfl, hsz, hP, hK, hD0, hN, hSK⟩ := hv
  have hx := B.exec
  have hb := B.bytes
  have hr := B.returns
  have hts := atoms_spec (ws := wsX4_hash) B.pre
  have hown : s.vm.findClass RX4 = some m.cls := findClass_of_methodNamed B.named
  have hlocks := B.notSynchronized
  subst hsz
  have hD := hD0.self (sz := s.heap.size)
  clear hD0
  generalize hAe : va_A (Wd cy a sh n z) s.heap.size = A at hD hSK ⊢
  have hA : ∀ q : Nat, s.heap.size ≤ q → A q := fun q h => by rw [← hAe]; exact Or.inr h
  clear hAe
  have hS : va_S A s.heap s.heap [] := va_S.rf
  have hl := lv_entry ([.ref (a h0)]) (n := 8) (Nat.le_of_ble_eq_true rfl)
  rw [lg_entry_eq]
  generalize (lg_sl ([.ref (a h0)]) ++ List.replicate (8 - (lg_sl ([.ref (a h0)])).length) Slot.unset).toArray = ls at hl ⊢
  replace hl : lv_has ls 8 [(0, .ref (a h0))] := hl
  unfold fn_X4_hash at hf
  refine de_start hS hP (fun H locs hS hP => ?_)
  refine lv_aload_n hx hb dX4_hash_0 rfl (lv_at hl 0 rfl) ?_
  obtain ⟨g_3, hf⟩ := grd_some hf
  obtain ⟨kg_3, sg_3⟩ := okO_at g_3
  obtain ⟨z_1, r_2, hfc, hf⟩ := cal_some hf
  have hFc := de_free hD hS hA
  refine va_calli (va_runV (As := []) (rest := []) ⟨hx, hb, hml, hown, hts⟩ (de_X4_pop l dC dI cy a sh n H.size F z h0 hfc) (cwV 0 hts gX4_hash_X4_pop rfl rfl rfl (by decide +kernel) ⟨Nat.le_of_ble_eq_true rfl, Nat.le_of_ble_eq_true rfl⟩) ⟨fun a U g mk q => by obtain ⟨q0, q1, qP, qK, qD, qN⟩ := q; exact ⟨q0, q1, qP, va_K.moved (u := U) (U := U.calling g mk a) (Vm.Alike.refl U.vm) qK, qD, qN.same rfl⟩, va_recv hK hP (ci := 4) (q0 := h0) rfl (Wd_ob kg_3 sg_3 (by decide)), fun U hU hW => ⟨rfl, by rw [hU], by rw [hU]; exact hP, va_K.moved hW.alike hK, hD.weaken (fun _ _ _ _ => trivial), hN.warm hW⟩⟩ rfl rfl hl.1 rfl (lv_room (Nat.le_of_ble_eq_true rfl)) dX4_hash_1 ⟨Nat.le_of_ble_eq_true rfl, Nat.le_of_ble_eq_true rfl⟩) hS (fun q _ h => hFc q h) hFc (fun rr u t H_4 locs ht hvm hw hB hz1 hk1 hS2 => ?_)
  rw [hw]
  clear hw
  obtain ⟨hP1, -, hD1⟩ := hB
  rw [ht] at hP1
  replace hD := hD1.weaken (fun _ _ _ h => hFc _ h)
  replace hP := hP1
  replace hS := hS2
  clear hP1 hD1 hS2 hFc hfc hz1 hk1 hvm ht
  refine lv_istore_n (lv' := [(1, .int r_2), (0, .ref (a h0))]) hx hb dX4_hash_4 rfl hl (by decide) rfl (fun ls hl2 => ?_)
  replace hl := hl2
  clear hl2
  refine lv_aload_n hx hb dX4_hash_5 rfl (lv_at hl 1 rfl) ?_
  obtain ⟨k_5, ek_5, hf⟩ := lnk_some hf
  refine va_get (D := (dC, dI)) (ci := 4) (v := .ref (a k_5)) (C := RX4) (T := TX4) (N := 18) hx hb hts iwd_X4_hash_X4 hown hK hP h0 (Wd_ob kg_3 sg_3 (by decide)) rfl 1 (by decide) (hts _ md_X4_hash_1) (fun _ h9 => h9) (fl_q rfl ek_5) dX4_hash_6 ?_
  obtain ⟨g_6, hf⟩ := grd_some hf
  obtain ⟨kg_6, sg_6⟩ := okO_at g_6
  obtain ⟨k_7, ek_7, hf⟩ := lnk_some hf
  refine va_get (D := (dC, dI)) (ci := 1) (v := .ref (a k_7)) (C := RX1) (T := TX1) (N := 7) hx hb hts iwd_X4_hash_X1 hown hK hP k_5 (Wd_ob kg_6 sg_6 (by decide)) rfl 0 (by decide) (hts _ md_X4_hash_2) (fun _ h9 => h9) (fl_q rfl ek_7) dX4_hash_9 ?_
  refine lv_iload_n hx hb dX4_hash_12 rfl (lv_at hl 0 rfl) ?_
  obtain ⟨g_8, hf⟩ := grd_some hf
  obtain ⟨kg_8, sg_8, ig_8⟩ := okA_at g_8
  refine va_bald hx hb hK hP k_7 0 (Wd_ab kg_8 sg_8) rfl ig_8 dX4_hash_13 ?_
  refine lv_bipush (v := 7) hx hb dX4_hash_14 (by decide) ?_
  refine lv_icmp_eq (tgt := 33) hx hb dX4_hash_16 (by decide) (fun c_9 => ?_) (fun c_9 => ?_)
  · skip
    rw [if_pos c_9] at hf
    refine lv_aload_n hx hb dX4_hash_33 rfl (lv_at hl 1 rfl) ?_
    obtain ⟨k_10, ek_10, hf⟩ := lnk_some hf
    refine va_get (D := (dC, dI)) (ci := 4) (v := .ref (a k_10)) (C := RX4) (T := TX4) (N := 18) hx hb hts iwd_X4_hash_X4 hown hK hP h0 (Wd_ob kg_3 sg_3 (by decide)) rfl 1 (by decide) (hts _ md_X4_hash_1) (fun _ h9 => h9) (fl_q rfl ek_10) dX4_hash_34 ?_
    obtain ⟨g_11, hf⟩ := grd_some hf
    obtain ⟨kg_11, sg_11⟩ := okO_at g_11
    obtain ⟨k_12, ek_12, hf⟩ := lnk_some hf
    refine va_get (D := (dC, dI)) (ci := 1) (v := .ref (a k_12)) (C := RX1) (T := TX1) (N := 7) hx hb hts iwd_X4_hash_X1 hown hK hP k_10 (Wd_ob kg_11 sg_11 (by decide)) rfl 2 (by decide) (hts _ md_X4_hash_4) (fun _ h9 => h9) (fl_q rfl ek_12) dX4_hash_37 ?_
    refine lv_iload_n hx hb dX4_hash_40 rfl (lv_at hl 0 rfl) ?_
    obtain ⟨g_13, hf⟩ := grd_some hf
    obtain ⟨kg_13, sg_13, ig_13⟩ := okA_at g_13
    refine va_lald hx hb hK hP k_12 2 (Wd_al kg_13 sg_13) rfl ig_13 dX4_hash_41 ?_
    refine lv_ldc2 hx hb hown (hts _ md_X4_hash_5) dX4_hash_42 ?_
    refine va_mmin_long hx hb (hml.trans hl.1.symm) hown (hts _ md_X4_hash_6) (hts _ md_X4_hash_7) (hts _ md_X4_hash_8) (hts _ md_X4_hash_9) (Nat.le_of_ble_eq_true rfl) (Nat.le_of_ble_eq_true rfl) (Nat.le_of_ble_eq_true rfl) (Nat.le_of_ble_eq_true rfl) dX4_hash_45 ?_
    refine lv_topl (fun v_14 ev_14 => ?_)
    replace hf := lt_at ev_14 hf
    clear ev_14
    refine lv_l2i (v := (v_14 : Int64).toInt32) hx hb dX4_hash_48 rfl ?_
    refine lv_topi (fun v_15 ev_15 => ?_)
    replace hf := lt_at ev_15 hf
    clear ev_15
    refine lv_istore_n (lv' := [(2, .int v_15), (1, .int r_2), (0, .ref (a h0))]) hx hb dX4_hash_49 rfl hl (by decide) rfl (fun ls hl2 => ?_)
    replace hl := hl2
    clear hl2
    refine lv_aload_n hx hb dX4_hash_50 rfl (lv_at hl 2 rfl) ?_
    refine lv_bipush (v := 32) hx hb dX4_hash_51 (by decide) ?_
    refine lv_iload_n hx hb dX4_hash_53 rfl (lv_at hl 0 rfl) ?_
    refine lv_iadd hx hb dX4_hash_54 ?_
    obtain ⟨z_16, r_17, hfc, hf⟩ := cal_some hf
    have hFc := de_free hD hS hA
    refine va_calli (va_runV (As := [.int (32 + v_15)]) (rest := []) ⟨hx, hb, hml, hown, hts⟩ (de_X4_pay l dC dI cy a sh n H_4.size F z_1 h0 (32 + v_15) hfc) (cwV 1 hts gX4_hash_X4_pay rfl rfl rfl (by decide +kernel) ⟨Nat.le_of_ble_eq_true rfl, Nat.le_of_ble_eq_true rfl⟩) ⟨fun a U g mk q => by obtain ⟨q0, q1, qP, qK, qD, qN⟩ := q; exact ⟨q0, q1, qP, va_K.moved (u := U) (U := U.calling g mk a) (Vm.Alike.refl U.vm) qK, qD, qN.same rfl⟩, va_recv hK hP (ci := 4) (q0 := h0) rfl (Wd_ob kg_3 sg_3 (by decide)), fun U hU hW => ⟨rfl, by rw [hU], by rw [hU]; exact hP, va_K.moved hW.alike hK, hD.weaken (fun _ _ _ _ => trivial), hN.warm hW⟩⟩ rfl rfl hl.1 rfl (lv_room (Nat.le_of_ble_eq_true rfl)) dX4_hash_55 ⟨Nat.le_of_ble_eq_true rfl, Nat.le_of_ble_eq_true rfl⟩) hS (fun q _ h => hFc q h) hFc (fun rr u t H_18 locs ht hvm hw hB hz1 hk1 hS2 => ?_)
    rw [hw]
    clear hw
    obtain ⟨hP1, -, hD1⟩ := hB
    rw [ht] at hP1
    replace hD := hD1.weaken (fun _ _ _ h => hFc _ h)
    replace hP := hP1
    replace hS := hS2
    clear hP1 hD1 hS2 hFc hfc hz1 hk1 hvm ht
    refine lv_if_ne (tgt := 62) hx hb dX4_hash_58 (by decide) (fun c_19 => ?_) (fun c_19 => ?_)
    · skip
      rw [if_neg c_19] at hf
      refine lv_aload_n hx hb dX4_hash_62 rfl (lv_at hl 2 rfl) ?_
      obtain ⟨k_20, ek_20, hf⟩ := lnk_some hf
      refine va_get (D := (dC, dI)) (ci := 4) (v := .ref (a k_20)) (C := RX4) (T := TX4) (N := 18) hx hb hts iwd_X4_hash_X4 hown hK hP h0 (Wd_ob kg_3 sg_3 (by decide)) rfl 1 (by decide) (hts _ md_X4_hash_1) (fun _ h9 => h9) (fl_q rfl ek_20) dX4_hash_63 ?_
      obtain ⟨g_21, hf⟩ := grd_some hf
      obtain ⟨kg_21, sg_21⟩ := okO_at g_21
      obtain ⟨k_22, ek_22, hf⟩ := lnk_some hf
      refine va_get (D := (dC, dI)) (ci := 1) (v := .ref (a k_22)) (C := RX1) (T := TX1) (N := 7) hx hb hts iwd_X4_hash_X1 hown hK hP k_20 (Wd_ob kg_21 sg_21 (by decide)) rfl 1 (by decide) (hts _ md_X4_hash_10) (fun _ h9 => h9) (fl_q rfl ek_22) dX4_hash_66 ?_
      refine lv_iload_n hx hb dX4_hash_69 rfl (lv_at hl 1 rfl) ?_
      obtain ⟨g_23, hf⟩ := grd_some hf
      obtain ⟨kg_23, sg_23, ig_23⟩ := okA_at g_23
      refine va_lald hx hb hK hP k_22 2 (Wd_al kg_23 sg_23) rfl ig_23 dX4_hash_70 ?_
      refine lv_l2i (v := ((z_16.2.1 k_22 r_2.toNatClampNeg) : Int64).toInt32) hx hb dX4_hash_71 rfl ?_
      refine lv_topi (fun v_24 ev_24 => ?_)
      replace hf := lt_at ev_24 hf
      clear ev_24
      refine lv_istore_n (lv' := [(3, .int v_24), (2, .int v_15), (1, .int r_2), (0, .ref (a h0))]) hx hb dX4_hash_72 rfl hl (by decide) rfl (fun ls hl2 => ?_)
      replace hl := hl2
      clear hl2
      refine lv_iload_n hx hb dX4_hash_73 rfl (lv_at hl 1 rfl) ?_
      refine lv_iconst (v := 1) hx hb dX4_hash_74 (by decide) ?_
      refine lv_isub hx hb dX4_hash_75 ?_
      refine lv_topi (fun v_25 ev_25 => ?_)
      replace hf := lt_at ev_25 hf
      clear ev_25
      refine lv_istore (lv' := [(4, .int v_25), (3, .int v_24), (2, .int v_15), (1, .int r_2), (0, .ref (a h0))]) hx hb dX4_hash_76 hl (by decide) rfl (fun ls hl2 => ?_)
      replace hl := hl2
      clear hl2
      have hl0 : lv_has ls 8 [(4, .int v_25), (3, .int v_24), (2, .int v_15), (0, .ref (a h0))] := lv_sub hl [0, 1, 2, 4] rfl
      refine de_loop (h := 78) (fun (x : St × Int32 × Int32) ls H locs => lv_has ls 8 [(4, .int x.2.2), (3, .int x.2.1), (2, .int v_15), (0, .ref (a h0))] ∧ va_P (dC, dI) vwCl (Wd cy a sh n x.1) H ∧ va_D A (Wd cy a sh n x.1) ∧ va_S A s.heap H locs) (fun f x => fn_X4_hash_L78 F sh n h0 v_15 f x.1 x.2.1 x.2.2) (z8, r8) ?_ (fun _ => rfl) F (z_16, v_24, v_25) ls H_18 locs ⟨hl0, hP, hD, hS⟩ hf
      intro f_29 x ls H locs ih78 hI hf
      obtain ⟨z_28, p_26, p_27⟩ := x
      obtain ⟨hl2, hP2, hD2, hS2⟩ := hI
      replace hl : lv_has ls 8 [(4, .int p_27), (3, .int p_26), (2, .int v_15), (0, .ref (a h0))] := hl2
      replace hP := hP2
      replace hD := hD2
      replace hS := hS2
      clear hl2 hP2 hD2 hS2 hl0
      replace hf := fn_X4_hash_L78_s hf
      refine lv_iload hx hb dX4_hash_78 (lv_at hl 0 rfl) ?_
      refine lv_if_lt (tgt := 117) hx hb dX4_hash_80 (by decide) (fun c_30 => ?_) (fun c_30 => ?_)
      · skip
        rw [if_pos c_30] at hf
        refine lv_aload_n hx hb dX4_hash_117 rfl (lv_at hl 3 rfl) ?_
        obtain ⟨k_31, ek_31, hf⟩ := lnk_some hf
        refine va_get (D := (dC, dI)) (ci := 4) (v := .ref (a k_31)) (C := RX4) (T := TX4) (N := 18) hx hb hts iwd_X4_hash_X4 hown hK hP h0 (Wd_ob kg_3 sg_3 (by decide)) rfl 4 (by decide) (hts _ md_X4_hash_13) (fun _ h9 => h9) (fl_q rfl ek_31) dX4_hash_118 ?_
        obtain ⟨g_33, hf⟩ := grd_some hf
        obtain ⟨kg_33, sg_33⟩ := okO_at g_33
        obtain ⟨z_32, _u, hfc, hf⟩ := cal_some hf
        have hFc := de_free hD hS hA
        refine va_callv (va_runV (As := []) (rest := []) ⟨hx, hb, hml, hown, hts⟩ (de_X0_start l dC dI cy a sh n H.size F sk z_28 k_31 hfc) (cwV 0 hts gX4_hash_X0_start rfl rfl rfl (by decide +kernel) ⟨Nat.le_of_ble_eq_true rfl, Nat.le_of_ble_eq_true rfl⟩) ⟨fun a U g mk q => by obtain ⟨q0, q1, qP, qK, qD, qN, qS⟩ := q; exact ⟨q0, q1, qP, va_K.moved (u := U) (U := U.calling g mk a) (Vm.Alike.refl U.vm) qK, qD, qN.same rfl, SKs.moved (u := U) (U := U.calling g mk a) (Vm.Alike.refl U.vm) qS⟩, va_recv hK hP (ci := 0) (q0 := k_31) rfl (Wd_ob kg_33 sg_33 (by decide)), fun U hU hW => ⟨rfl, by rw [hU], by rw [hU]; exact hP, va_K.moved hW.alike hK, hD.weaken (fun _ _ _ _ => trivial), hN.warm hW, by rw [hU]; exact ((hSK.kept hS.2.1).narrow hFc).moved hW.alike⟩⟩ rfl rfl hl.1 rfl (lv_room (Nat.le_of_ble_eq_true rfl)) dX4_hash_121 ⟨Nat.le_of_ble_eq_true rfl, Nat.le_of_ble_eq_true rfl⟩) hS (fun q _ h => hFc q h) hFc (fun u t H_34 locs ht hvm hw hB hz1 hk1 hS2 => ?_)
        obtain ⟨hP1, -, hD1⟩ := hB
        rw [ht] at hP1
        replace hD := hD1.weaken (fun _ _ _ h => hFc _ h)
        replace hP := hP1
        replace hS := hS2
        clear hP1 hD1 hS2 hFc hfc hz1 hk1 hvm ht
        refine lv_iconst (v := 0) hx hb dX4_hash_124 (by decide) ?_
        refine lv_istore (lv' := [(4, .int 0), (3, .int p_26), (2, .int v_15), (0, .ref (a h0))]) hx hb dX4_hash_125 hl (by decide) rfl (fun ls hl2 => ?_)
        replace hl := hl2
        clear hl2
        have hl0 : lv_has ls 8 [(4, .int 0), (2, .int v_15), (0, .ref (a h0))] := lv_sub hl [0, 2, 3] rfl
        refine de_loop (h := 127) (fun (x : St × Int32) ls H locs => lv_has ls 8 [(4, .int x.2), (2, .int v_15), (0, .ref (a h0))] ∧ va_P (dC, dI) vwCl (Wd cy a sh n x.1) H ∧ va_D A (Wd cy a sh n x.1) ∧ va_S A s.heap H locs) (fun f x => fn_X4_hash_L127 F sh n v_15 h0 f x.1 x.2) (z8, r8) ?_ (fun _ => rfl) F (z_32, 0) ls H_34 locs ⟨hl0, hP, hD, hS⟩ hf
        intro f_37 x ls H locs ih127 hI hf
        obtain ⟨z_36, p_35⟩ := x
        obtain ⟨hl2, hP2, hD2, hS2⟩ := hI
        replace hl : lv_has ls 8 [(4, .int p_35), (2, .int v_15), (0, .ref (a h0))] := hl2
        replace hP := hP2
        replace hD := hD2
        replace hS := hS2
        clear hl2 hP2 hD2 hS2 hl0
        replace hf := fn_X4_hash_L127_s hf
        refine lv_iload hx hb dX4_hash_127 (lv_at hl 0 rfl) ?_
        refine lv_iload_n hx hb dX4_hash_129 rfl (lv_at hl 1 rfl) ?_
        refine lv_icmp_ge (tgt := 153) hx hb dX4_hash_130 (by decide) (fun c_38 => ?_) (fun c_38 => ?_)
        · skip
          rw [if_pos c_38] at hf
          refine lv_aload_n hx hb dX4_hash_153 rfl (lv_at hl 2 rfl) ?_
          obtain ⟨k_39, ek_39, hf⟩ := lnk_some hf
          refine va_get (D := (dC, dI)) (ci := 4) (v := .ref (a k_39)) (C := RX4) (T := TX4) (N := 18) hx hb hts iwd_X4_hash_X4 hown hK hP h0 (Wd_ob kg_3 sg_3 (by decide)) rfl 4 (by decide) (hts _ md_X4_hash_13) (fun _ h9 => h9) (fl_q rfl ek_39) dX4_hash_154 ?_
          obtain ⟨g_41, hf⟩ := grd_some hf
          obtain ⟨kg_41, sg_41⟩ := okO_at g_41
          obtain ⟨z_40, _u, hfc, hf⟩ := cal_some hf
          have hFc := de_free hD hS hA
          refine va_callv (va_runV (As := []) (rest := []) ⟨hx, hb, hml, hown, hts⟩ (de_X0_finish l dC dI cy a sh n H.size F sk z_36 k_39 hfc) (cwV 0 hts gX4_hash_X0_finish rfl rfl rfl (by decide +kernel) ⟨Nat.le_of_ble_eq_true rfl, Nat.le_of_ble_eq_true rfl⟩) ⟨fun a U g mk q => by obtain ⟨q0, q1, qP, qK, qD, qN, qS⟩ := q; exact ⟨q0, q1, qP, va_K.moved (u := U) (U := U.calling g mk a) (Vm.Alike.refl U.vm) qK, qD, qN.same rfl, SKs.moved (u := U) (U := U.calling g mk a) (Vm.Alike.refl U.vm) qS⟩, va_recv hK hP (ci := 0) (q0 := k_39) rfl (Wd_ob kg_41 sg_41 (by decide)), fun U hU hW => ⟨rfl, by rw [hU], by rw [hU]; exact hP, va_K.moved hW.alike hK, hD.weaken (fun _ _ _ _ => trivial), hN.warm hW, by rw [hU]; exact ((hSK.kept hS.2.1).narrow hFc).moved hW.alike⟩⟩ rfl rfl hl.1 rfl (lv_room (Nat.le_of_ble_eq_true rfl)) dX4_hash_157 ⟨Nat.le_of_ble_eq_true rfl, Nat.le_of_ble_eq_true rfl⟩) hS (fun q _ h => hFc q h) hFc (fun u t H_42 locs ht hvm hw hB hz1 hk1 hS2 => ?_)
          obtain ⟨hP1, -, hD1⟩ := hB
          rw [ht] at hP1
          replace hD := hD1.weaken (fun _ _ _ h => hFc _ h)
          replace hP := hP1
          replace hS := hS2
          clear hP1 hD1 hS2 hFc hfc hz1 hk1 hvm ht
          refine lv_aload_n hx hb dX4_hash_160 rfl (lv_at hl 2 rfl) ?_
          obtain ⟨k_43, ek_43, hf⟩ := lnk_some hf
          refine va_get (D := (dC, dI)) (ci := 4) (v := .ref (a k_43)) (C := RX4) (T := TX4) (N := 18) hx hb hts iwd_X4_hash_X4 hown hK hP h0 (Wd_ob kg_3 sg_3 (by decide)) rfl 1 (by decide) (hts _ md_X4_hash_1) (fun _ h9 => h9) (fl_q rfl ek_43) dX4_hash_161 ?_
          refine lv_bipush (v := 7) hx hb dX4_hash_164 (by decide) ?_
          refine lv_lconst (v := 0) hx hb dX4_hash_166 (by decide) ?_
          refine lv_lconst (v := 0) hx hb dX4_hash_167 (by decide) ?_
          obtain ⟨g_46, hf⟩ := grd_some hf
          obtain ⟨kg_46, sg_46⟩ := okO_at g_46
          obtain ⟨z_44, r_45, hfc, hf⟩ := cal_some hf
          have hFc := de_free hD hS hA
          refine va_calli (va_runV (As := [.int 7, .long 0, .long 0]) (rest := []) ⟨hx, hb, hml, hown, hts⟩ (de_X1_make l dC dI cy a sh n H_42.size F z_40 k_43 7 0 0 hfc) (cwV 3 hts gX4_hash_X1_make rfl rfl rfl (by decide +kernel) ⟨Nat.le_of_ble_eq_true rfl, Nat.le_of_ble_eq_true rfl⟩) ⟨fun a U g mk q => by obtain ⟨q0, q1, qP, qK, qD, qN⟩ := q; exact ⟨q0, q1, qP, va_K.moved (u := U) (U := U.calling g mk a) (Vm.Alike.refl U.vm) qK, qD, qN.same rfl⟩, va_recv hK hP (ci := 1) (q0 := k_43) rfl (Wd_ob kg_46 sg_46 (by decide)), fun U hU hW => ⟨rfl, by rw [hU], by rw [hU]; exact hP, va_K.moved hW.alike hK, hD.weaken (fun _ _ _ _ => trivial), hN.warm hW⟩⟩ rfl rfl hl.1 rfl (lv_room (Nat.le_of_ble_eq_true rfl)) dX4_hash_168 ⟨Nat.le_of_ble_eq_true rfl, Nat.le_of_ble_eq_true rfl⟩) hS (fun q _ h => hFc q h) hFc (fun rr u t H_47 locs ht hvm hw hB hz1 hk1 hS2 => ?_)
          rw [hw]
          clear hw
          obtain ⟨hP1, -, hD1⟩ := hB
          rw [ht] at hP1
          replace hD := hD1.weaken (fun _ _ _ h => hFc _ h)
          replace hP := hP1
          replace hS := hS2
          clear hP1 hD1 hS2 hFc hfc hz1 hk1 hvm ht
          refine lv_istore (lv' := [(4, .int r_45), (2, .int v_15), (0, .ref (a h0))]) hx hb dX4_hash_171 hl (by decide) rfl (fun ls hl2 => ?_)
          replace hl := hl2
          clear hl2
          refine lv_iconst (v := 0) hx hb dX4_hash_173 (by decide) ?_
          refine lv_istore (lv' := [(5, .int 0), (4, .int r_45), (2, .int v_15), (0, .ref (a h0))]) hx hb dX4_hash_174 hl (by decide) rfl (fun ls hl2 => ?_)
          replace hl := hl2
          clear hl2
          have hl0 : lv_has ls 8 [(5, .int 0), (4, .int r_45), (0, .ref (a h0))] := lv_sub hl [0, 1, 3] rfl
          refine de_loop (h := 176) (fun (x : St × Int32) ls H locs => lv_has ls 8 [(5, .int x.2), (4, .int r_45), (0, .ref (a h0))] ∧ va_P (dC, dI) vwCl (Wd cy a sh n x.1) H ∧ va_D A (Wd cy a sh n x.1) ∧ va_S A s.heap H locs) (fun f x => fn_X4_hash_L176 F sh n h0 r_45 f x.1 x.2) (z8, r8) ?_ (fun _ => rfl) F (z_44, 0) ls H_47 locs ⟨hl0, hP, hD, hS⟩ hf
          intro f_50 x ls H locs ih176 hI hf
          obtain ⟨z_49, p_48⟩ := x
          obtain ⟨hl2, hP2, hD2, hS2⟩ := hI
          replace hl : lv_has ls 8 [(5, .int p_48), (4, .int r_45), (0, .ref (a h0))] := hl2
          replace hP := hP2
          replace hD := hD2
          replace hS := hS2
          clear hl2 hP2 hD2 hS2 hl0
          replace hf := fn_X4_hash_L176_s hf
          refine lv_iload hx hb dX4_hash_176 (lv_at hl 0 rfl) ?_
          refine lv_bipush (v := 32) hx hb dX4_hash_178 (by decide) ?_
          refine lv_icmp_ge (tgt := 239) hx hb dX4_hash_180 (by decide) (fun c_51 => ?_) (fun c_51 => ?_)
          · skip
            rw [if_pos c_51] at hf
            refine lv_aload_n hx hb dX4_hash_239 rfl (lv_at hl 2 rfl) ?_
            refine lv_iload hx hb dX4_hash_240 (lv_at hl 1 rfl) ?_
            obtain ⟨z_52, _u, hfc, hf⟩ := cal_some hf
            have hFc := de_free hD hS hA
            refine va_callv (va_runV (As := [.int r_45]) (rest := []) ⟨hx, hb, hml, hown, hts⟩ (de_X4_push l dC dI cy a sh n H.size F z_49 h0 r_45 hfc) (cwV 1 hts gX4_hash_X4_push rfl rfl rfl (by decide +kernel) ⟨Nat.le_of_ble_eq_true rfl, Nat.le_of_ble_eq_true rfl⟩) ⟨fun a U g mk q => by obtain ⟨q0, q1, qP, qK, qD, qN⟩ := q; exact ⟨q0, q1, qP, va_K.moved (u := U) (U := U.calling g mk a) (Vm.Alike.refl U.vm) qK, qD, qN.same rfl⟩, va_recv hK hP (ci := 4) (q0 := h0) rfl (Wd_ob kg_3 sg_3 (by decide)), fun U hU hW => ⟨rfl, by rw [hU], by rw [hU]; exact hP, va_K.moved hW.alike hK, hD.weaken (fun _ _ _ _ => trivial), hN.warm hW⟩⟩ rfl rfl hl.1 rfl (lv_room (Nat.le_of_ble_eq_true rfl)) dX4_hash_242 ⟨Nat.le_of_ble_eq_true rfl, Nat.le_of_ble_eq_true rfl⟩) hS (fun q _ h => hFc q h) hFc (fun u t H_53 locs ht hvm hw hB hz1 hk1 hS2 => ?_)
            obtain ⟨hP1, -, hD1⟩ := hB
            rw [ht] at hP1
            replace hD := hD1.weaken (fun _ _ _ h => hFc _ h)
            replace hP := hP1
            replace hS := hS2
            clear hP1 hD1 hS2 hFc hfc hz1 hk1 hvm ht
            obtain ⟨h8, h9⟩ := ret_some hf
            rw [h8]
            exact W.vret hx hb hr (fun t ht hW => ⟨⟨(), rfl, trivial, by rw [ht]; exact hP, va_K.moved hW.alike hK, hD⟩, hS.F ht⟩) hS.2.2 dX4_hash_245
          · skip
            rw [if_neg c_51] at hf
            refine lv_aload_n hx hb dX4_hash_183 rfl (lv_at hl 2 rfl) ?_
            obtain ⟨k_54, ek_54, hf⟩ := lnk_some hf
            refine va_get (D := (dC, dI)) (ci := 4) (v := .ref (a k_54)) (C := RX4) (T := TX4) (N := 18) hx hb hts iwd_X4_hash_X4 hown hK hP h0 (Wd_ob kg_3 sg_3 (by decide)) rfl 4 (by decide) (hts _ md_X4_hash_13) (fun _ h9 => h9) (fl_q rfl ek_54) dX4_hash_184 ?_
            refine lv_iload hx hb dX4_hash_187 (lv_at hl 0 rfl) ?_
            refine lv_bipush (v := 8) hx hb dX4_hash_189 (by decide) ?_
            refine lv_idiv hx hb dX4_hash_191 (by decide) ?_
            obtain ⟨g_57, hf⟩ := grd_some hf
            obtain ⟨kg_57, sg_57⟩ := okO_at g_57
            obtain ⟨z_55, r_56, hfc, hf⟩ := cal_some hf
            have hFc := de_free hD hS hA
            refine va_calll (va_runV (As := [.int (p_48 / 8)]) (rest := []) ⟨hx, hb, hml, hown, hts⟩ (de_X0_part l dC dI cy a sh n H.size F z_49 k_54 (p_48 / 8) hfc) (cwV 1 hts gX4_hash_X0_part rfl rfl rfl (by decide +kernel) ⟨Nat.le_of_ble_eq_true rfl, Nat.le_of_ble_eq_true rfl⟩) ⟨fun a U g mk q => by obtain ⟨q0, q1, qP, qK, qD, qN⟩ := q; exact ⟨q0, q1, qP, va_K.moved (u := U) (U := U.calling g mk a) (Vm.Alike.refl U.vm) qK, qD, qN.same rfl⟩, va_recv hK hP (ci := 0) (q0 := k_54) rfl (Wd_ob kg_57 sg_57 (by decide)), fun U hU hW => ⟨rfl, by rw [hU], by rw [hU]; exact hP, va_K.moved hW.alike hK, hD.weaken (fun _ _ _ _ => trivial), hN.warm hW⟩⟩ rfl rfl hl.1 rfl (lv_room (Nat.le_of_ble_eq_true rfl)) dX4_hash_192 ⟨Nat.le_of_ble_eq_true rfl, Nat.le_of_ble_eq_true rfl⟩) hS (fun q _ h => hFc q h) hFc (fun rr u t H_58 locs ht hvm hw hB hz1 hk1 hS2 => ?_)
            rw [hw]
            clear hw
            obtain ⟨hP1, -, hD1⟩ := hB
            rw [ht] at hP1
            replace hD := hD1.weaken (fun _ _ _ h => hFc _ h)
            replace hP := hP1
            replace hS := hS2
            clear hP1 hD1 hS2 hFc hfc hz1 hk1 hvm ht
            refine lv_bipush (v := 56) hx hb dX4_hash_195 (by decide) ?_
            refine lv_iload hx hb dX4_hash_197 (lv_at hl 0 rfl) ?_
            refine lv_bipush (v := 8) hx hb dX4_hash_199 (by decide) ?_
            refine lv_irem hx hb dX4_hash_201 (by decide) ?_
            refine lv_bipush (v := 8) hx hb dX4_hash_202 (by decide) ?_
            refine lv_imul hx hb dX4_hash_204 ?_
            refine lv_isub hx hb dX4_hash_205 ?_
            refine lv_lushr (v := ((r_56 : Int64).toUInt64 >>> (((56 - ((p_48 - p_48 / 8 * 8) * 8)) : Int32).toInt64.toUInt64 &&& Int64.toUInt64 63)).toInt64) hx hb dX4_hash_206 rfl ?_
            refine lv_ldc2 hx hb hown (hts _ md_X4_hash_14) dX4_hash_207 ?_
            refine lv_land hx hb dX4_hash_210 ?_
            refine lv_topl (fun v_59 ev_59 => ?_)
            replace hf := lt_at ev_59 hf
            clear ev_59
            refine lv_lstore (lv' := [(6, .long v_59), (5, .int p_48), (4, .int r_45), (0, .ref (a h0))]) hx hb dX4_hash_211 hl (by decide) rfl (fun ls hl2 => ?_)
            replace hl := hl2
            clear hl2
            refine lv_aload_n hx hb dX4_hash_213 rfl (lv_at hl 3 rfl) ?_
            obtain ⟨k_60, ek_60, hf⟩ := lnk_some hf
            refine va_get (D := (dC, dI)) (ci := 4) (v := .ref (a k_60)) (C := RX4) (T := TX4) (N := 18) hx hb hts iwd_X4_hash_X4 hown hK hP h0 (Wd_ob kg_3 sg_3 (by decide)) rfl 1 (by decide) (hts _ md_X4_hash_1) (fun _ h9 => h9) (fl_q rfl ek_60) dX4_hash_214 ?_
            refine lv_iload hx hb dX4_hash_217 (lv_at hl 2 rfl) ?_
            refine lv_aload_n hx hb dX4_hash_219 rfl (lv_at hl 3 rfl) ?_
            obtain ⟨k_61, ek_61, hf⟩ := lnk_some hf
            refine va_get (D := (dC, dI)) (ci := 4) (v := .ref (a k_61)) (C := RX4) (T := TX4) (N := 18) hx hb hts iwd_X4_hash_X4 hown hK hP h0 (Wd_ob kg_3 sg_3 (by decide)) rfl 1 (by decide) (hts _ md_X4_hash_1) (fun _ h9 => h9) (fl_q rfl ek_61) dX4_hash_220 ?_
            refine lv_iconst (v := 2) hx hb dX4_hash_223 (by decide) ?_
            refine lv_lconst (v := 0) hx hb dX4_hash_224 (by decide) ?_
            refine lv_lload hx hb dX4_hash_225 (lv_at hl 0 rfl) ?_
            obtain ⟨g_64, hf⟩ := grd_some hf
            obtain ⟨kg_64, sg_64⟩ := okO_at g_64
            obtain ⟨z_62, r_63, hfc, hf⟩ := cal_some hf
            have hFc := de_free hD hS hA
            refine va_calli (va_runV (As := [.int 2, .long 0, .long v_59]) (rest := [.int r_45, .ref (a k_60)]) ⟨hx, hb, hml, hown, hts⟩ (de_X1_make l dC dI cy a sh n H_58.size F z_55 k_61 2 0 v_59 hfc) (cwV 3 hts gX4_hash_X1_make rfl rfl rfl (by decide +kernel) ⟨Nat.le_of_ble_eq_true rfl, Nat.le_of_ble_eq_true rfl⟩) ⟨fun a U g mk q => by obtain ⟨q0, q1, qP, qK, qD, qN⟩ := q; exact ⟨q0, q1, qP, va_K.moved (u := U) (U := U.calling g mk a) (Vm.Alike.refl U.vm) qK, qD, qN.same rfl⟩, va_recv hK hP (ci := 1) (q0 := k_61) rfl (Wd_ob kg_64 sg_64 (by decide)), fun U hU hW => ⟨rfl, by rw [hU], by rw [hU]; exact hP, va_K.moved hW.alike hK, hD.weaken (fun _ _ _ _ => trivial), hN.warm hW⟩⟩ rfl rfl hl.1 rfl (lv_room (Nat.le_of_ble_eq_true rfl)) dX4_hash_227 ⟨Nat.le_of_ble_eq_true rfl, Nat.le_of_ble_eq_true rfl⟩) hS (fun q _ h => hFc q h) hFc (fun rr u t H_65 locs ht hvm hw hB hz1 hk1 hS2 => ?_)
            rw [hw]
            clear hw
            obtain ⟨hP1, -, hD1⟩ := hB
            rw [ht] at hP1
            replace hD := hD1.weaken (fun _ _ _ h => hFc _ h)
            replace hP := hP1
            replace hS := hS2
            clear hP1 hD1 hS2 hFc hfc hz1 hk1 hvm ht
            obtain ⟨g_67, hf⟩ := grd_some hf
            obtain ⟨kg_67, sg_67⟩ := okO_at g_67
            obtain ⟨z_66, _u, hfc, hf⟩ := cal_some hf
            have hFc := de_free hD hS hA
            refine va_callv (va_runV (As := [.int r_45, .int r_63]) (rest := []) ⟨hx, hb, hml, hown, hts⟩ (de_X1_prepend l dC dI cy a sh n H_65.size F z_62 k_60 r_45 r_63 hfc) (cwV 2 hts gX4_hash_X1_prepend rfl rfl rfl (by decide +kernel) ⟨Nat.le_of_ble_eq_true rfl, Nat.le_of_ble_eq_true rfl⟩) ⟨fun a U g mk q => by obtain ⟨q0, q1, qP, qK, qD, qN⟩ := q; exact ⟨q0, q1, qP, va_K.moved (u := U) (U := U.calling g mk a) (Vm.Alike.refl U.vm) qK, qD, qN.same rfl⟩, va_recv hK hP (ci := 1) (q0 := k_60) rfl (Wd_ob kg_67 sg_67 (by decide)), fun U hU hW => ⟨rfl, by rw [hU], by rw [hU]; exact hP, va_K.moved hW.alike hK, hD.weaken (fun _ _ _ _ => trivial), hN.warm hW⟩⟩ rfl rfl hl.1 rfl (lv_room (Nat.le_of_ble_eq_true rfl)) dX4_hash_230 ⟨Nat.le_of_ble_eq_true rfl, Nat.le_of_ble_eq_true rfl⟩) hS (fun q _ h => hFc q h) hFc (fun u t H_68 locs ht hvm hw hB hz1 hk1 hS2 => ?_)
            obtain ⟨hP1, -, hD1⟩ := hB
            rw [ht] at hP1
            replace hD := hD1.weaken (fun _ _ _ h => hFc _ h)
            replace hP := hP1
            replace hS := hS2
            clear hP1 hD1 hS2 hFc hfc hz1 hk1 hvm ht
            refine lv_iinc (v := (p_48 + 1)) (lv' := [(5, .int (p_48 + 1)), (6, .long v_59), (4, .int r_45), (0, .ref (a h0))]) hx hb dX4_hash_233 hl (k := 1) rfl rfl (by decide) rfl (fun ls hl2 => ?_)
            replace hl := hl2
            clear hl2
            refine lv_goto (tgt := 176) hx hb dX4_hash_236 (by decide) ?_
            exact ih176 (z_66, (p_48 + 1)) ls H_68 locs ⟨lv_sub hl [0, 2, 3] rfl, hP, hD, hS⟩ hf
        · skip
          rw [if_neg c_38] at hf
          refine lv_aload_n hx hb dX4_hash_133 rfl (lv_at hl 2 rfl) ?_
          obtain ⟨k_69, ek_69, hf⟩ := lnk_some hf
          refine va_get (D := (dC, dI)) (ci := 4) (v := .ref (a k_69)) (C := RX4) (T := TX4) (N := 18) hx hb hts iwd_X4_hash_X4 hown hK hP h0 (Wd_ob kg_3 sg_3 (by decide)) rfl 4 (by decide) (hts _ md_X4_hash_13) (fun _ h9 => h9) (fl_q rfl ek_69) dX4_hash_134 ?_
          refine lv_aload_n hx hb dX4_hash_137 rfl (lv_at hl 2 rfl) ?_
          obtain ⟨k_70, ek_70, hf⟩ := lnk_some hf
          refine va_get (D := (dC, dI)) (ci := 4) (v := .ref (a k_70)) (C := RX4) (T := TX4) (N := 18) hx hb hts iwd_X4_hash_X4 hown hK hP h0 (Wd_ob kg_3 sg_3 (by decide)) rfl 5 (by decide) (hts _ md_X4_hash_11) (fun _ h9 => h9) (fl_q rfl ek_70) dX4_hash_138 ?_
          refine lv_iload hx hb dX4_hash_141 (lv_at hl 0 rfl) ?_
          obtain ⟨g_71, hf⟩ := grd_some hf
          obtain ⟨kg_71, sg_71, ig_71⟩ := okA_at g_71
          refine va_bald hx hb hK hP k_70 0 (Wd_ab kg_71 sg_71) rfl ig_71 dX4_hash_143 ?_
          obtain ⟨g_73, hf⟩ := grd_some hf
          obtain ⟨kg_73, sg_73⟩ := okO_at g_73
          obtain ⟨z_72, _u, hfc, hf⟩ := cal_some hf
          have hFc := de_free hD hS hA
          refine va_callv (va_runV (As := [.int (z_36.1 k_70 p_35.toNatClampNeg)]) (rest := []) ⟨hx, hb, hml, hown, hts⟩ (de_X0_put l dC dI cy a sh n H.size F sk z_36 k_69 (z_36.1 k_70 p_35.toNatClampNeg) hfc) (cwV 1 hts gX4_hash_X0_put rfl rfl rfl (by decide +kernel) ⟨Nat.le_of_ble_eq_true rfl, Nat.le_of_ble_eq_true rfl⟩) ⟨fun a U g mk q => by obtain ⟨q0, q1, qP, qK, qD, qN, qS⟩ := q; exact ⟨q0, q1, qP, va_K.moved (u := U) (U := U.calling g mk a) (Vm.Alike.refl U.vm) qK, qD, qN.same rfl, SKs.moved (u := U) (U := U.calling g mk a) (Vm.Alike.refl U.vm) qS⟩, va_recv hK hP (ci := 0) (q0 := k_69) rfl (Wd_ob kg_73 sg_73 (by decide)), fun U hU hW => ⟨rfl, by rw [hU], by rw [hU]; exact hP, va_K.moved hW.alike hK, hD.weaken (fun _ _ _ _ => trivial), hN.warm hW, by rw [hU]; exact ((hSK.kept hS.2.1).narrow hFc).moved hW.alike⟩⟩ rfl rfl hl.1 rfl (lv_room (Nat.le_of_ble_eq_true rfl)) dX4_hash_144 ⟨Nat.le_of_ble_eq_true rfl, Nat.le_of_ble_eq_true rfl⟩) hS (fun q _ h => hFc q h) hFc (fun u t H_74 locs ht hvm hw hB hz1 hk1 hS2 => ?_)
          obtain ⟨hP1, -, hD1⟩ := hB
          rw [ht] at hP1
          replace hD := hD1.weaken (fun _ _ _ h => hFc _ h)
          replace hP := hP1
          replace hS := hS2
          clear hP1 hD1 hS2 hFc hfc hz1 hk1 hvm ht
          refine lv_iinc (v := (p_35 + 1)) (lv' := [(4, .int (p_35 + 1)), (2, .int v_15), (0, .ref (a h0))]) hx hb dX4_hash_147 hl (k := 0) rfl rfl (by decide) rfl (fun ls hl2 => ?_)
          replace hl := hl2
          clear hl2
          refine lv_goto (tgt := 127) hx hb dX4_hash_150 (by decide) ?_
          exact ih127 (z_72, (p_35 + 1)) ls H_74 locs ⟨lv_sub hl [0, 1, 2] rfl, hP, hD, hS⟩ hf
      · skip
        rw [if_neg c_30] at hf
        refine lv_aload_n hx hb dX4_hash_83 rfl (lv_at hl 3 rfl) ?_
        obtain ⟨k_75, ek_75, hf⟩ := lnk_some hf
        refine va_get (D := (dC, dI)) (ci := 4) (v := .ref (a k_75)) (C := RX4) (T := TX4) (N := 18) hx hb hts iwd_X4_hash_X4 hown hK hP h0 (Wd_ob kg_3 sg_3 (by decide)) rfl 5 (by decide) (hts _ md_X4_hash_11) (fun _ h9 => h9) (fl_q rfl ek_75) dX4_hash_84 ?_
        refine lv_iload hx hb dX4_hash_87 (lv_at hl 0 rfl) ?_
        refine lv_aload_n hx hb dX4_hash_89 rfl (lv_at hl 3 rfl) ?_
        obtain ⟨k_76, ek_76, hf⟩ := lnk_some hf
        refine va_get (D := (dC, dI)) (ci := 4) (v := .ref (a k_76)) (C := RX4) (T := TX4) (N := 18) hx hb hts iwd_X4_hash_X4 hown hK hP h0 (Wd_ob kg_3 sg_3 (by decide)) rfl 1 (by decide) (hts _ md_X4_hash_1) (fun _ h9 => h9) (fl_q rfl ek_76) dX4_hash_90 ?_
        obtain ⟨g_77, hf⟩ := grd_some hf
        obtain ⟨kg_77, sg_77⟩ := okO_at g_77
        obtain ⟨k_78, ek_78, hf⟩ := lnk_some hf
        refine va_get (D := (dC, dI)) (ci := 1) (v := .ref (a k_78)) (C := RX1) (T := TX1) (N := 7) hx hb hts iwd_X4_hash_X1 hown hK hP k_76 (Wd_ob kg_77 sg_77 (by decide)) rfl 1 (by decide) (hts _ md_X4_hash_10) (fun _ h9 => h9) (fl_q rfl ek_78) dX4_hash_93 ?_
        refine lv_iload_n hx hb dX4_hash_96 rfl (lv_at hl 1 rfl) ?_
        obtain ⟨g_79, hf⟩ := grd_some hf
        obtain ⟨kg_79, sg_79, ig_79⟩ := okA_at g_79
        refine va_lald hx hb hK hP k_78 2 (Wd_al kg_79 sg_79) rfl ig_79 dX4_hash_97 ?_
        refine lv_l2i (v := ((z_28.2.1 k_78 p_26.toNatClampNeg) : Int64).toInt32) hx hb dX4_hash_98 rfl ?_
        refine lv_i2b (v := ((((z_28.2.1 k_78 p_26.toNatClampNeg) : Int64).toInt32) : Int32).toInt8.toInt32) hx hb dX4_hash_99 rfl ?_
        obtain ⟨g_80, hf⟩ := grd_some hf
        obtain ⟨kg_80, sg_80, ig_80⟩ := okA_at g_80
        refine va_bast hx hb hK hP hD hS k_75 0 (Wd_ab kg_80 sg_80) rfl ig_80 dX4_hash_100 (fun H_81 locs hP2 hD2 hS2 => ?_)
        rw [Wd_tb sg_80] at hP2 hD2
        obtain ⟨z_82, ez_82⟩ : ∃ w, w = si z_28 k_75 p_27.toNatClampNeg (vp_nar .byte (((((z_28.2.1 k_78 p_26.toNatClampNeg) : Int64).toInt32) : Int32).toInt8.toInt32)) := ⟨_, rfl⟩
        rw [← ez_82] at hP2 hD2
        replace hf := lt_at ez_82 hf
        clear ez_82
        replace hP := hP2
        replace hD := hD2
        replace hS := hS2
        clear hP2 hD2 hS2
        refine lv_aload_n hx hb dX4_hash_101 rfl (lv_at hl 3 rfl) ?_
        obtain ⟨k_83, ek_83, hf⟩ := lnk_some hf
        refine va_get (D := (dC, dI)) (ci := 4) (v := .ref (a k_83)) (C := RX4) (T := TX4) (N := 18) hx hb hts iwd_X4_hash_X4 hown hK hP h0 (Wd_ob kg_3 sg_3 (by decide)) rfl 1 (by decide) (hts _ md_X4_hash_1) (fun _ h9 => h9) (fl_q rfl ek_83) dX4_hash_102 ?_
        obtain ⟨g_84, hf⟩ := grd_some hf
        obtain ⟨kg_84, sg_84⟩ := okO_at g_84
        obtain ⟨k_85, ek_85, hf⟩ := lnk_some hf
        refine va_get (D := (dC, dI)) (ci := 1) (v := .ref (a k_85)) (C := RX1) (T := TX1) (N := 7) hx hb hts iwd_X4_hash_X1 hown hK hP k_83 (Wd_ob kg_84 sg_84 (by decide)) rfl 3 (by decide) (hts _ md_X4_hash_12) (fun _ h9 => h9) (fl_q rfl ek_85) dX4_hash_105 ?_
        refine lv_iload_n hx hb dX4_hash_108 rfl (lv_at hl 1 rfl) ?_
        obtain ⟨g_86, hf⟩ := grd_some hf
        obtain ⟨kg_86, sg_86, ig_86⟩ := okA_at g_86
        refine va_iald hx hb hK hP k_85 1 (Wd_ai kg_86 sg_86) rfl ig_86 dX4_hash_109 ?_
        refine lv_topi (fun v_87 ev_87 => ?_)
        replace hf := lt_at ev_87 hf
        clear ev_87
        refine lv_istore_n (lv' := [(3, .int v_87), (4, .int p_27), (2, .int v_15), (0, .ref (a h0))]) hx hb dX4_hash_110 rfl hl (by decide) rfl (fun ls hl2 => ?_)
        replace hl := hl2
        clear hl2
        refine lv_iinc (v := (p_27 + (-1))) (lv' := [(4, .int (p_27 + (-1))), (3, .int v_87), (2, .int v_15), (0, .ref (a h0))]) hx hb dX4_hash_111 hl (k := 1) rfl rfl (by decide) rfl (fun ls hl2 => ?_)
        replace hl := hl2
        clear hl2
        refine lv_goto (tgt := 78) hx hb dX4_hash_114 (by decide) ?_
        exact ih78 (z_82, v_87, (p_27 + (-1))) ls H_81 locs ⟨lv_sub hl [0, 1, 2, 3] rfl, hP, hD, hS⟩ hf
    · skip
      rw [if_pos c_19] at hf
      obtain ⟨h8, h9⟩ := ret_some hf
      rw [h8]
      exact W.vret hx hb hr (fun t ht hW => ⟨⟨(), rfl, trivial, by rw [ht]; exact hP, va_K.moved hW.alike hK, hD⟩, hS.F ht⟩) hS.2.2 dX4_hash_61
  · skip
    rw [if_neg c_9] at hf
    refine lv_aload_n hx hb dX4_hash_19 rfl (lv_at hl 1 rfl) ?_
    obtain ⟨k_88, ek_88, hf⟩ := lnk_some hf
    refine va_get (D := (dC, dI)) (ci := 4) (v := .ref (a k_88)) (C := RX4) (T := TX4) (N := 18) hx hb hts iwd_X4_hash_X4 hown hK hP h0 (Wd_ob kg_3 sg_3 (by decide)) rfl 1 (by decide) (hts _ md_X4_hash_1) (fun _ h9 => h9) (fl_q rfl ek_88) dX4_hash_20 ?_
    refine lv_dup hx hb dX4_hash_23 rfl ?_
    obtain ⟨g_89, hf⟩ := grd_some hf
    obtain ⟨kg_89, sg_89⟩ := okO_at g_89
    refine va_get (D := (dC, dI)) (ci := 1) (v := .int (z_1.1 k_88 6)) (C := RX1) (T := TX1) (N := 7) hx hb hts iwd_X4_hash_X1 hown hK hP k_88 (Wd_ob kg_89 sg_89 (by decide)) rfl 6 (by decide) (hts _ md_X4_hash_3) (fun _ h9 => h9) (fl_at (t := 0) rfl) dX4_hash_24 ?_
    refine lv_iconst (v := 1) hx hb dX4_hash_27 (by decide) ?_
    refine lv_iadd hx hb dX4_hash_28 ?_
    refine va_put (D := (dC, dI)) (ci := 1) (v := .int ((z_1.1 k_88 6) + 1)) (ty := .int) (C := RX1) (T := TX1) (N := 7) hx hb hts iwd_X4_hash_X1 tyX1 tyX1_ok nmX1 hown hK hP hD hS k_88 (Wd_ob kg_89 sg_89 (by decide)) rfl 6 (by decide) (hts _ md_X4_hash_3) (fun _ h9 => h9) rfl (by decide +kernel) rfl rfl (by rw [fl_len]; decide) dX4_hash_29 (fun H_90 locs hP2 hD2 hS2 => ?_)
    rw [Wd_si sg_89 (by decide) rfl] at hP2 hD2
    obtain ⟨z_91, ez_91⟩ : ∃ w, w = si z_1 k_88 6 ((z_1.1 k_88 6) + 1) := ⟨_, rfl⟩
    rw [← ez_91] at hP2 hD2
    replace hf := lt_at ez_91 hf
    clear ez_91
    replace hP := hP2
    replace hD := hD2
    replace hS := hS2
    clear hP2 hD2 hS2
    obtain ⟨h8, h9⟩ := ret_some hf
    rw [h8]
    exact W.vret hx hb hr (fun t ht hW => ⟨⟨(), rfl, trivial, by rw [ht]; exact hP, va_K.moved hW.alike hK, hD⟩, hS.F ht⟩) hS.2.2 dX4_hash_32

