theorem md_X18_publishOne_1 : (.fieldLink RX18 572 "ResourceLedgerModel" "publishedSizes" "[I" : Cond) ∈ wsX18_publishOne := List.mem_of_getElem? (i := 1) rfl
theorem iwd_X18_publishOne_X18 : ∀ w ∈ wsX180, w ∈ wsX18_publishOne := fun _ h => List.mem_cons_of_mem _ (List.mem_append_left _ (List.mem_append_left _ (List.mem_append_right _ h)))
theorem md_X18_publishOne_2 : (.fieldLink RX18 7 "ResourceLedgerModel" "modules" "I" : Cond) ∈ wsX18_publishOne := List.mem_of_getElem? (i := 2) rfl
theorem md_X18_publishOne_4 : (.fieldLink RX18 569 "ResourceLedgerModel" "published" "[B" : Cond) ∈ wsX18_publishOne := List.mem_of_getElem? (i := 4) rfl
theorem md_X18_publishOne_3 : (.constantLong RX18 283 (4) : Cond) ∈ wsX18_publishOne := List.mem_of_getElem? (i := 3) rfl
theorem md_X18_publishOne_5 : (.fieldLink RX18 581 "ResourceLedgerModel" "faultPlaces" "[I" : Cond) ∈ wsX18_publishOne := List.mem_of_getElem? (i := 5) rfl
theorem md_X18_publishOne_6 : (.fieldLink RX18 215 "ResourceLedgerModel" "faultPlace" "I" : Cond) ∈ wsX18_publishOne := List.mem_of_getElem? (i := 6) rfl
set_option maxHeartbeats 4000000 in
set_option maxRecDepth 100000 in
theorem de_X18_publishOne (l : Launch) (dC : Nat → ClassId) (dI : Nat → Nat → Nat) (cy : Nat → ClassId) (a : Nat → Nat) (sh : Nat → Nat × Nat) (n sz : Nat) (F : Nat) (z : St) (h0 : Nat) (x0 : Int32) {z8 : St} {r8 : Unit} (hf : fn_X18_publishOne F sh n z h0 x0 = some (z8, r8)) : Met l yX18_publishOne wsX18_publishOne ({ frames := 11, cells := 0, slots := 0, locals := 268 }) (va_Pc [.ref (a h0), .int x0] (fun U => U.heap.size = sz ∧ va_P (dC, dI) vwCl (Wd cy a sh n z) U.heap ∧ va_K (dC, dI) vwCl (TYS cy) U ∧ va_D (fun _ => True) (Wd cy a sh n z) ∧ NK U)) (va_Qv (fun u : Unit => True) (fun u t => va_P (dC, dI) vwCl (Wd cy a sh n z8) t.heap ∧ va_K (dC, dI) vwCl (TYS cy) t ∧ va_D (va_A (Wd cy a sh n z) sz) (Wd cy a sh n z8)) (va_A (Wd cy a sh n z) sz)) 0 0 (va_A (Wd cy a sh n z) sz) := by
  refine Met.ofW (cc := cX18_publishOne) (maxL := 5) (ret := none) (by decide) rfl ?_
  intro p e s m args below meth c s₁ B hml hv
  obtain ⟨rfl, hsz, hP, hK, hD0, hN⟩ := hv
  have hx := B.exec
  have hb := B.bytes
  have hr := B.returns
  have hts := atoms_spec (ws := wsX18_publishOne) B.pre
  have hown : s.vm.findClass RX18 = some m.cls := findClass_of_methodNamed B.named
  have hlocks := B.notSynchronized
  subst hsz
  have hD := hD0.self (sz := s.heap.size)
  clear hD0
  generalize hAe : va_A (Wd cy a sh n z) s.heap.size = A at hD ⊢
  have hA : ∀ q : Nat, s.heap.size ≤ q → A q := fun q h => by rw [← hAe]; exact Or.inr h
  clear hAe
  have hS : va_S A s.heap s.heap [] := va_S.rf
  have hl := lv_entry ([.ref (a h0), .int x0]) (n := 5) (Nat.le_of_ble_eq_true rfl)
  rw [lg_entry_eq]
  generalize (lg_sl ([.ref (a h0), .int x0]) ++ List.replicate (5 - (lg_sl ([.ref (a h0), .int x0])).length) Slot.unset).toArray = ls at hl ⊢
  replace hl : lv_has ls 5 [(0, .ref (a h0)), (1, .int x0)] := hl
  unfold fn_X18_publishOne at hf
  refine de_start hS hP (fun H locs hS hP => ?_)
  refine lv_aload_n hx hb dX18_publishOne_0 rfl (lv_at hl 0 rfl) ?_
  obtain ⟨g_1, hf⟩ := grd_some hf
  obtain ⟨kg_1, sg_1⟩ := okO_at g_1
  obtain ⟨k_2, ek_2, hf⟩ := lnk_some hf
  refine va_get (D := (dC, dI)) (ci := 18) (v := .ref (a k_2)) (C := RX18) (T := TX18) (N := 78) hx hb hts iwd_X18_publishOne_X18 hown hK hP h0 (Wd_ob kg_1 sg_1 (by decide)) rfl 65 (by decide) (hts _ md_X18_publishOne_1) (fun _ h9 => h9) (fl_q rfl ek_2) dX18_publishOne_1 ?_
  refine lv_iload_n hx hb dX18_publishOne_4 rfl (lv_at hl 1 rfl) ?_
  obtain ⟨g_3, hf⟩ := grd_some hf
  obtain ⟨kg_3, sg_3, ig_3⟩ := okA_at g_3
  refine va_iald hx hb hK hP k_2 1 (Wd_ai kg_3 sg_3) rfl ig_3 dX18_publishOne_5 ?_
  refine lv_topi (fun v_4 ev_4 => ?_)
  replace hf := lt_at ev_4 hf
  clear ev_4
  refine lv_istore_n (lv' := [(2, .int v_4), (0, .ref (a h0)), (1, .int x0)]) hx hb dX18_publishOne_6 rfl hl (by decide) rfl (fun ls hl2 => ?_)
  replace hl := hl2
  clear hl2
  refine lv_bipush (v := 10) hx hb dX18_publishOne_7 (by decide) ?_
  refine lv_iload_n hx hb dX18_publishOne_9 rfl (lv_at hl 0 rfl) ?_
  refine lv_bipush (v := 15) hx hb dX18_publishOne_10 (by decide) ?_
  refine lv_iadd hx hb dX18_publishOne_12 ?_
  refine lv_bipush (v := 16) hx hb dX18_publishOne_13 (by decide) ?_
  refine lv_idiv hx hb dX18_publishOne_15 (by decide) ?_
  refine lv_iadd hx hb dX18_publishOne_16 ?_
  refine lv_topi (fun v_5 ev_5 => ?_)
  replace hf := lt_at ev_5 hf
  clear ev_5
  refine lv_istore_n (lv' := [(3, .int v_5), (2, .int v_4), (0, .ref (a h0)), (1, .int x0)]) hx hb dX18_publishOne_17 rfl hl (by decide) rfl (fun ls hl2 => ?_)
  replace hl := hl2
  clear hl2
  refine lv_aload_n hx hb dX18_publishOne_18 rfl (lv_at hl 2 rfl) ?_
  refine lv_iload_n hx hb dX18_publishOne_19 rfl (lv_at hl 0 rfl) ?_
  obtain ⟨z_6, r_7, hfc, hf⟩ := cal_some hf
  have hFc := de_free hD hS hA
  refine va_calli (va_runV (As := [.int v_5]) (rest := []) ⟨hx, hb, hml, hown, hts⟩ (de_X18_spend l dC dI cy a sh n H.size F z h0 v_5 hfc) (cwV 1 hts gX18_publishOne_X18_spend rfl rfl rfl (by decide +kernel) ⟨Nat.le_of_ble_eq_true rfl, Nat.le_of_ble_eq_true rfl⟩) ⟨fun a U g mk q => by obtain ⟨q0, q1, qP, qK, qD, qN⟩ := q; exact ⟨q0, q1, qP, va_K.moved (u := U) (U := U.calling g mk a) (Vm.Alike.refl U.vm) qK, qD, qN.same rfl⟩, va_recv hK hP (ci := 18) (q0 := h0) rfl (Wd_ob kg_1 sg_1 (by decide)), fun U hU hW => ⟨rfl, by rw [hU], by rw [hU]; exact hP, va_K.moved hW.alike hK, hD.weaken (fun _ _ _ _ => trivial), hN.warm hW⟩⟩ rfl rfl hl.1 rfl (lv_room (Nat.le_of_ble_eq_true rfl)) dX18_publishOne_20 ⟨Nat.le_of_ble_eq_true rfl, Nat.le_of_ble_eq_true rfl⟩) hS (fun q _ h => hFc q h) hFc (fun rr u t H_8 locs ht hvm hw hB hz1 hk1 hS2 => ?_)
  rw [hw]
  clear hw
  obtain ⟨hP1, -, hD1⟩ := hB
  rw [ht] at hP1
  replace hD := hD1.weaken (fun _ _ _ h => hFc _ h)
  replace hP := hP1
  replace hS := hS2
  clear hP1 hD1 hS2 hFc hfc hz1 hk1 hvm ht
  refine lv_if_ne (tgt := 27) hx hb dX18_publishOne_23 (by decide) (fun c_9 => ?_) (fun c_9 => ?_)
  · skip
    rw [if_neg c_9] at hf
    refine lv_aload_n hx hb dX18_publishOne_27 rfl (lv_at hl 2 rfl) ?_
    refine va_get (D := (dC, dI)) (ci := 18) (v := .int (z_6.1 h0 5)) (C := RX18) (T := TX18) (N := 78) hx hb hts iwd_X18_publishOne_X18 hown hK hP h0 (Wd_ob kg_1 sg_1 (by decide)) rfl 5 (by decide) (hts _ md_X18_publishOne_2) (fun _ h9 => h9) (fl_at (t := 0) rfl) dX18_publishOne_28 ?_
    refine lv_bipush (v := 8) hx hb dX18_publishOne_31 (by decide) ?_
    refine lv_icmp_ne (tgt := 45) hx hb dX18_publishOne_33 (by decide) (fun c_10 => ?_) (fun c_10 => ?_)
    · skip
      rw [if_neg c_10] at hf
      refine lv_aload_n hx hb dX18_publishOne_45 rfl (lv_at hl 2 rfl) ?_
      refine lv_aload_n hx hb dX18_publishOne_46 rfl (lv_at hl 2 rfl) ?_
      obtain ⟨k_11, ek_11, hf⟩ := lnk_some hf
      refine va_get (D := (dC, dI)) (ci := 18) (v := .ref (a k_11)) (C := RX18) (T := TX18) (N := 78) hx hb hts iwd_X18_publishOne_X18 hown hK hP h0 (Wd_ob kg_1 sg_1 (by decide)) rfl 64 (by decide) (hts _ md_X18_publishOne_4) (fun _ h9 => h9) (fl_q rfl ek_11) dX18_publishOne_47 ?_
      refine lv_sipush (v := 2048) hx hb dX18_publishOne_50 (by decide) ?_
      refine lv_iload_n hx hb dX18_publishOne_53 rfl (lv_at hl 3 rfl) ?_
      refine lv_imul hx hb dX18_publishOne_54 ?_
      refine lv_iload_n hx hb dX18_publishOne_55 rfl (lv_at hl 1 rfl) ?_
      refine lv_aload_n hx hb dX18_publishOne_56 rfl (lv_at hl 2 rfl) ?_
      refine va_get (D := (dC, dI)) (ci := 18) (v := .int (z_6.1 h0 5)) (C := RX18) (T := TX18) (N := 78) hx hb hts iwd_X18_publishOne_X18 hown hK hP h0 (Wd_ob kg_1 sg_1 (by decide)) rfl 5 (by decide) (hts _ md_X18_publishOne_2) (fun _ h9 => h9) (fl_at (t := 0) rfl) dX18_publishOne_57 ?_
      refine lv_iconst (v := 1) hx hb dX18_publishOne_60 (by decide) ?_
      refine lv_iadd hx hb dX18_publishOne_61 ?_
      obtain ⟨z_12, r_13, hfc, hf⟩ := cal_some hf
      have hFc := de_free hD hS hA
      refine va_calli (va_runV (As := [.ref (a k_11), .int (2048 * x0), .int v_4, .int ((z_6.1 h0 5) + 1)]) (rest := []) ⟨hx, hb, hml, hown, hts⟩ (de_X18_takeModule l dC dI cy a sh n H_8.size F z_6 h0 k_11 (2048 * x0) v_4 ((z_6.1 h0 5) + 1) hfc) (cwV 4 hts gX18_publishOne_X18_takeModule rfl rfl rfl (by decide +kernel) ⟨Nat.le_of_ble_eq_true rfl, Nat.le_of_ble_eq_true rfl⟩) ⟨fun a U g mk q => by obtain ⟨q0, q1, qP, qK, qD, qN⟩ := q; exact ⟨q0, q1, qP, va_K.moved (u := U) (U := U.calling g mk a) (Vm.Alike.refl U.vm) qK, qD, qN.same rfl⟩, va_recv hK hP (ci := 18) (q0 := h0) rfl (Wd_ob kg_1 sg_1 (by decide)), fun U hU hW => ⟨rfl, by rw [hU], by rw [hU]; exact hP, va_K.moved hW.alike hK, hD.weaken (fun _ _ _ _ => trivial), hN.warm hW⟩⟩ rfl rfl hl.1 rfl (lv_room (Nat.le_of_ble_eq_true rfl)) dX18_publishOne_62 ⟨Nat.le_of_ble_eq_true rfl, Nat.le_of_ble_eq_true rfl⟩) hS (fun q _ h => hFc q h) hFc (fun rr u t H_14 locs ht hvm hw hB hz1 hk1 hS2 => ?_)
      rw [hw]
      clear hw
      obtain ⟨hP1, -, hD1⟩ := hB
      rw [ht] at hP1
      replace hD := hD1.weaken (fun _ _ _ h => hFc _ h)
      replace hP := hP1
      replace hS := hS2
      clear hP1 hD1 hS2 hFc hfc hz1 hk1 hvm ht
      refine lv_istore (lv' := [(4, .int r_13), (3, .int v_5), (2, .int v_4), (0, .ref (a h0)), (1, .int x0)]) hx hb dX18_publishOne_65 hl (by decide) rfl (fun ls hl2 => ?_)
      replace hl := hl2
      clear hl2
      refine lv_iload hx hb dX18_publishOne_67 (lv_at hl 0 rfl) ?_
      refine lv_if_eq (tgt := 93) hx hb dX18_publishOne_69 (by decide) (fun c_15 => ?_) (fun c_15 => ?_)
      · skip
        rw [if_pos c_15] at hf
        refine lv_aload_n hx hb dX18_publishOne_93 rfl (lv_at hl 3 rfl) ?_
        obtain ⟨z_16, r_17, hfc, hf⟩ := cal_some hf
        have hFc := de_free hD hS hA
        refine va_calli (va_runV (As := []) (rest := []) ⟨hx, hb, hml, hown, hts⟩ (de_X18_placeCount l dC dI cy a sh n H_14.size F z_12 h0 hfc) (cwV 0 hts gX18_publishOne_X18_placeCount rfl rfl rfl (by decide +kernel) ⟨Nat.le_of_ble_eq_true rfl, Nat.le_of_ble_eq_true rfl⟩) ⟨fun a U g mk q => by obtain ⟨q0, q1, qP, qK, qD, qN⟩ := q; exact ⟨q0, q1, qP, va_K.moved (u := U) (U := U.calling g mk a) (Vm.Alike.refl U.vm) qK, qD, qN.same rfl⟩, va_recv hK hP (ci := 18) (q0 := h0) rfl (Wd_ob kg_1 sg_1 (by decide)), fun U hU hW => ⟨rfl, by rw [hU], by rw [hU]; exact hP, va_K.moved hW.alike hK, hD.weaken (fun _ _ _ _ => trivial), hN.warm hW⟩⟩ rfl rfl hl.1 rfl (lv_room (Nat.le_of_ble_eq_true rfl)) dX18_publishOne_94 ⟨Nat.le_of_ble_eq_true rfl, Nat.le_of_ble_eq_true rfl⟩) hS (fun q _ h => hFc q h) hFc (fun rr u t H_18 locs ht hvm hw hB hz1 hk1 hS2 => ?_)
        rw [hw]
        clear hw
        obtain ⟨hP1, -, hD1⟩ := hB
        rw [ht] at hP1
        replace hD := hD1.weaken (fun _ _ _ h => hFc _ h)
        replace hP := hP1
        replace hS := hS2
        clear hP1 hD1 hS2 hFc hfc hz1 hk1 hvm ht
        refine lv_sipush (v := 256) hx hb dX18_publishOne_97 (by decide) ?_
        refine lv_icmp_ne (tgt := 114) hx hb dX18_publishOne_100 (by decide) (fun c_19 => ?_) (fun c_19 => ?_)
        · skip
          rw [if_neg c_19] at hf
          refine lv_aload_n hx hb dX18_publishOne_114 rfl (lv_at hl 3 rfl) ?_
          refine lv_dup hx hb dX18_publishOne_115 rfl ?_
          refine va_get (D := (dC, dI)) (ci := 18) (v := .int (z_16.1 h0 5)) (C := RX18) (T := TX18) (N := 78) hx hb hts iwd_X18_publishOne_X18 hown hK hP h0 (Wd_ob kg_1 sg_1 (by decide)) rfl 5 (by decide) (hts _ md_X18_publishOne_2) (fun _ h9 => h9) (fl_at (t := 0) rfl) dX18_publishOne_116 ?_
          refine lv_iconst (v := 1) hx hb dX18_publishOne_119 (by decide) ?_
          refine lv_iadd hx hb dX18_publishOne_120 ?_
          refine va_put (D := (dC, dI)) (ci := 18) (v := .int ((z_16.1 h0 5) + 1)) (ty := .int) (C := RX18) (T := TX18) (N := 78) hx hb hts iwd_X18_publishOne_X18 tyX18 tyX18_ok nmX18 hown hK hP hD hS h0 (Wd_ob kg_1 sg_1 (by decide)) rfl 5 (by decide) (hts _ md_X18_publishOne_2) (fun _ h9 => h9) rfl (by decide +kernel) rfl rfl (by rw [fl_len]; decide) dX18_publishOne_121 (fun H_20 locs hP2 hD2 hS2 => ?_)
          rw [Wd_si sg_1 (by decide) rfl] at hP2 hD2
          obtain ⟨z_21, ez_21⟩ : ∃ w, w = si z_16 h0 5 ((z_16.1 h0 5) + 1) := ⟨_, rfl⟩
          rw [← ez_21] at hP2 hD2
          replace hf := lt_at ez_21 hf
          clear ez_21
          replace hP := hP2
          replace hD := hD2
          replace hS := hS2
          clear hP2 hD2 hS2
          refine lv_aload_n hx hb dX18_publishOne_124 rfl (lv_at hl 3 rfl) ?_
          refine lv_iconst (v := 0) hx hb dX18_publishOne_125 (by decide) ?_
          refine lv_lconst (v := 0) hx hb dX18_publishOne_126 (by decide) ?_
          obtain ⟨z_22, _u, hfc, hf⟩ := cal_some hf
          have hFc := de_free hD hS hA
          refine va_callv (va_runV (As := [.int 0, .long 0]) (rest := []) ⟨hx, hb, hml, hown, hts⟩ (de_X18_end l dC dI cy a sh n H_20.size F z_21 h0 0 0 hfc) (cwV 2 hts gX18_publishOne_X18_end rfl rfl rfl (by decide +kernel) ⟨Nat.le_of_ble_eq_true rfl, Nat.le_of_ble_eq_true rfl⟩) ⟨fun a U g mk q => by obtain ⟨q0, q1, qP, qK, qD, qN⟩ := q; exact ⟨q0, q1, qP, va_K.moved (u := U) (U := U.calling g mk a) (Vm.Alike.refl U.vm) qK, qD, qN.same rfl⟩, va_recv hK hP (ci := 18) (q0 := h0) rfl (Wd_ob kg_1 sg_1 (by decide)), fun U hU hW => ⟨rfl, by rw [hU], by rw [hU]; exact hP, va_K.moved hW.alike hK, hD.weaken (fun _ _ _ _ => trivial), hN.warm hW⟩⟩ rfl rfl hl.1 rfl (lv_room (Nat.le_of_ble_eq_true rfl)) dX18_publishOne_127 ⟨Nat.le_of_ble_eq_true rfl, Nat.le_of_ble_eq_true rfl⟩) hS (fun q _ h => hFc q h) hFc (fun u t H_23 locs ht hvm hw hB hz1 hk1 hS2 => ?_)
          obtain ⟨hP1, -, hD1⟩ := hB
          rw [ht] at hP1
          replace hD := hD1.weaken (fun _ _ _ h => hFc _ h)
          replace hP := hP1
          replace hS := hS2
          clear hP1 hD1 hS2 hFc hfc hz1 hk1 hvm ht
          obtain ⟨h8, h9⟩ := ret_some hf
          rw [h8]
          exact W.vret hx hb hr (fun t ht hW => ⟨⟨(), rfl, trivial, by rw [ht]; exact hP, va_K.moved hW.alike hK, hD⟩, hS.F ht⟩) hS.2.2 dX18_publishOne_130
        · skip
          rw [if_pos c_19] at hf
          refine lv_aload_n hx hb dX18_publishOne_103 rfl (lv_at hl 3 rfl) ?_
          refine lv_iconst (v := 2) hx hb dX18_publishOne_104 (by decide) ?_
          refine lv_ldc2 hx hb hown (hts _ md_X18_publishOne_3) dX18_publishOne_105 ?_
          obtain ⟨z_24, _u, hfc, hf⟩ := cal_some hf
          have hFc := de_free hD hS hA
          refine va_callv (va_runV (As := [.int 2, .long 4]) (rest := []) ⟨hx, hb, hml, hown, hts⟩ (de_X18_end l dC dI cy a sh n H_18.size F z_16 h0 2 4 hfc) (cwV 2 hts gX18_publishOne_X18_end rfl rfl rfl (by decide +kernel) ⟨Nat.le_of_ble_eq_true rfl, Nat.le_of_ble_eq_true rfl⟩) ⟨fun a U g mk q => by obtain ⟨q0, q1, qP, qK, qD, qN⟩ := q; exact ⟨q0, q1, qP, va_K.moved (u := U) (U := U.calling g mk a) (Vm.Alike.refl U.vm) qK, qD, qN.same rfl⟩, va_recv hK hP (ci := 18) (q0 := h0) rfl (Wd_ob kg_1 sg_1 (by decide)), fun U hU hW => ⟨rfl, by rw [hU], by rw [hU]; exact hP, va_K.moved hW.alike hK, hD.weaken (fun _ _ _ _ => trivial), hN.warm hW⟩⟩ rfl rfl hl.1 rfl (lv_room (Nat.le_of_ble_eq_true rfl)) dX18_publishOne_108 ⟨Nat.le_of_ble_eq_true rfl, Nat.le_of_ble_eq_true rfl⟩) hS (fun q _ h => hFc q h) hFc (fun u t H_25 locs ht hvm hw hB hz1 hk1 hS2 => ?_)
          obtain ⟨hP1, -, hD1⟩ := hB
          rw [ht] at hP1
          replace hD := hD1.weaken (fun _ _ _ h => hFc _ h)
          replace hP := hP1
          replace hS := hS2
          clear hP1 hD1 hS2 hFc hfc hz1 hk1 hvm ht
          refine lv_goto (tgt := 130) hx hb dX18_publishOne_111 (by decide) ?_
          obtain ⟨h8, h9⟩ := ret_some hf
          rw [h8]
          exact W.vret hx hb hr (fun t ht hW => ⟨⟨(), rfl, trivial, by rw [ht]; exact hP, va_K.moved hW.alike hK, hD⟩, hS.F ht⟩) hS.2.2 dX18_publishOne_130
      · skip
        rw [if_neg c_15] at hf
        refine lv_aload_n hx hb dX18_publishOne_72 rfl (lv_at hl 3 rfl) ?_
        obtain ⟨k_26, ek_26, hf⟩ := lnk_some hf
        refine va_get (D := (dC, dI)) (ci := 18) (v := .ref (a k_26)) (C := RX18) (T := TX18) (N := 78) hx hb hts iwd_X18_publishOne_X18 hown hK hP h0 (Wd_ob kg_1 sg_1 (by decide)) rfl 68 (by decide) (hts _ md_X18_publishOne_5) (fun _ h9 => h9) (fl_q rfl ek_26) dX18_publishOne_73 ?_
        refine lv_iload_n hx hb dX18_publishOne_76 rfl (lv_at hl 4 rfl) ?_
        refine lv_aload_n hx hb dX18_publishOne_77 rfl (lv_at hl 3 rfl) ?_
        refine va_get (D := (dC, dI)) (ci := 18) (v := .int (z_12.1 h0 23)) (C := RX18) (T := TX18) (N := 78) hx hb hts iwd_X18_publishOne_X18 hown hK hP h0 (Wd_ob kg_1 sg_1 (by decide)) rfl 23 (by decide) (hts _ md_X18_publishOne_6) (fun _ h9 => h9) (fl_at (t := 0) rfl) dX18_publishOne_78 ?_
        obtain ⟨g_27, hf⟩ := grd_some hf
        obtain ⟨kg_27, sg_27, ig_27⟩ := okA_at g_27
        refine va_iast hx hb hK hP hD hS k_26 1 (Wd_ai kg_27 sg_27) rfl ig_27 dX18_publishOne_81 (fun H_28 locs hP2 hD2 hS2 => ?_)
        rw [Wd_ti sg_27] at hP2 hD2
        obtain ⟨z_29, ez_29⟩ : ∃ w, w = si z_12 k_26 x0.toNatClampNeg (z_12.1 h0 23) := ⟨_, rfl⟩
        rw [← ez_29] at hP2 hD2
        replace hf := lt_at ez_29 hf
        clear ez_29
        replace hP := hP2
        replace hD := hD2
        replace hS := hS2
        clear hP2 hD2 hS2
        refine lv_aload_n hx hb dX18_publishOne_82 rfl (lv_at hl 3 rfl) ?_
        refine lv_iconst (v := 4) hx hb dX18_publishOne_83 (by decide) ?_
        refine lv_iload hx hb dX18_publishOne_84 (lv_at hl 0 rfl) ?_
        refine lv_i2l (v := (r_13 : Int32).toInt64) hx hb dX18_publishOne_86 rfl ?_
        obtain ⟨z_30, _u, hfc, hf⟩ := cal_some hf
        have hFc := de_free hD hS hA
        refine va_callv (va_runV (As := [.int 4, .long ((r_13 : Int32).toInt64)]) (rest := []) ⟨hx, hb, hml, hown, hts⟩ (de_X18_end l dC dI cy a sh n H_28.size F z_29 h0 4 ((r_13 : Int32).toInt64) hfc) (cwV 2 hts gX18_publishOne_X18_end rfl rfl rfl (by decide +kernel) ⟨Nat.le_of_ble_eq_true rfl, Nat.le_of_ble_eq_true rfl⟩) ⟨fun a U g mk q => by obtain ⟨q0, q1, qP, qK, qD, qN⟩ := q; exact ⟨q0, q1, qP, va_K.moved (u := U) (U := U.calling g mk a) (Vm.Alike.refl U.vm) qK, qD, qN.same rfl⟩, va_recv hK hP (ci := 18) (q0 := h0) rfl (Wd_ob kg_1 sg_1 (by decide)), fun U hU hW => ⟨rfl, by rw [hU], by rw [hU]; exact hP, va_K.moved hW.alike hK, hD.weaken (fun _ _ _ _ => trivial), hN.warm hW⟩⟩ rfl rfl hl.1 rfl (lv_room (Nat.le_of_ble_eq_true rfl)) dX18_publishOne_87 ⟨Nat.le_of_ble_eq_true rfl, Nat.le_of_ble_eq_true rfl⟩) hS (fun q _ h => hFc q h) hFc (fun u t H_31 locs ht hvm hw hB hz1 hk1 hS2 => ?_)
        obtain ⟨hP1, -, hD1⟩ := hB
        rw [ht] at hP1
        replace hD := hD1.weaken (fun _ _ _ h => hFc _ h)
        replace hP := hP1
        replace hS := hS2
        clear hP1 hD1 hS2 hFc hfc hz1 hk1 hvm ht
        refine lv_goto (tgt := 130) hx hb dX18_publishOne_90 (by decide) ?_
        obtain ⟨h8, h9⟩ := ret_some hf
        rw [h8]
        exact W.vret hx hb hr (fun t ht hW => ⟨⟨(), rfl, trivial, by rw [ht]; exact hP, va_K.moved hW.alike hK, hD⟩, hS.F ht⟩) hS.2.2 dX18_publishOne_130
    · skip
      rw [if_pos c_10] at hf
      refine lv_aload_n hx hb dX18_publishOne_36 rfl (lv_at hl 2 rfl) ?_
      refine lv_iconst (v := 2) hx hb dX18_publishOne_37 (by decide) ?_
      refine lv_ldc2 hx hb hown (hts _ md_X18_publishOne_3) dX18_publishOne_38 ?_
      obtain ⟨z_32, _u, hfc, hf⟩ := cal_some hf
      have hFc := de_free hD hS hA
      refine va_callv (va_runV (As := [.int 2, .long 4]) (rest := []) ⟨hx, hb, hml, hown, hts⟩ (de_X18_end l dC dI cy a sh n H_8.size F z_6 h0 2 4 hfc) (cwV 2 hts gX18_publishOne_X18_end rfl rfl rfl (by decide +kernel) ⟨Nat.le_of_ble_eq_true rfl, Nat.le_of_ble_eq_true rfl⟩) ⟨fun a U g mk q => by obtain ⟨q0, q1, qP, qK, qD, qN⟩ := q; exact ⟨q0, q1, qP, va_K.moved (u := U) (U := U.calling g mk a) (Vm.Alike.refl U.vm) qK, qD, qN.same rfl⟩, va_recv hK hP (ci := 18) (q0 := h0) rfl (Wd_ob kg_1 sg_1 (by decide)), fun U hU hW => ⟨rfl, by rw [hU], by rw [hU]; exact hP, va_K.moved hW.alike hK, hD.weaken (fun _ _ _ _ => trivial), hN.warm hW⟩⟩ rfl rfl hl.1 rfl (lv_room (Nat.le_of_ble_eq_true rfl)) dX18_publishOne_41 ⟨Nat.le_of_ble_eq_true rfl, Nat.le_of_ble_eq_true rfl⟩) hS (fun q _ h => hFc q h) hFc (fun u t H_33 locs ht hvm hw hB hz1 hk1 hS2 => ?_)
      obtain ⟨hP1, -, hD1⟩ := hB
      rw [ht] at hP1
      replace hD := hD1.weaken (fun _ _ _ h => hFc _ h)
      replace hP := hP1
      replace hS := hS2
      clear hP1 hD1 hS2 hFc hfc hz1 hk1 hvm ht
      obtain ⟨h8, h9⟩ := ret_some hf
      rw [h8]
      exact W.vret hx hb hr (fun t ht hW => ⟨⟨(), rfl, trivial, by rw [ht]; exact hP, va_K.moved hW.alike hK, hD⟩, hS.F ht⟩) hS.2.2 dX18_publishOne_44
  · skip
    rw [if_pos c_9] at hf
    obtain ⟨h8, h9⟩ := ret_some hf
    rw [h8]
    exact W.vret hx hb hr (fun t ht hW => ⟨⟨(), rfl, trivial, by rw [ht]; exact hP, va_K.moved hW.alike hK, hD⟩, hS.F ht⟩) hS.2.2 dX18_publishOne_26

theorem md_X18_doOne_1 : (.fieldLink RX18 541 "ResourceLedgerModel" "senders" "[J" : Cond) ∈ wsX18_doOne := List.mem_of_getElem? (i := 1) rfl
theorem iwd_X18_doOne_X18 : ∀ w ∈ wsX180, w ∈ wsX18_doOne := fun _ h => List.mem_cons_of_mem _ (List.mem_append_left _ (List.mem_append_left _ (List.mem_append_left _ (List.mem_append_left _ (List.mem_append_left _ (List.mem_append_right _ h))))))
theorem md_X18_doOne_2 : (.fieldLink RX18 411 "ResourceLedgerModel" "sender" "J" : Cond) ∈ wsX18_doOne := List.mem_of_getElem? (i := 2) rfl
theorem md_X18_doOne_3 : (.fieldLink RX18 547 "ResourceLedgerModel" "limits" "[I" : Cond) ∈ wsX18_doOne := List.mem_of_getElem? (i := 3) rfl
theorem md_X18_doOne_4 : (.fieldLink RX18 264 "ResourceLedgerModel" "limit" "I" : Cond) ∈ wsX18_doOne := List.mem_of_getElem? (i := 4) rfl
theorem md_X18_doOne_5 : (.fieldLink RX18 261 "ResourceLedgerModel" "gas" "I" : Cond) ∈ wsX18_doOne := List.mem_of_getElem? (i := 5) rfl
theorem md_X18_doOne_6 : (.fieldLink RX18 250 "ResourceLedgerModel" "outcome" "I" : Cond) ∈ wsX18_doOne := List.mem_of_getElem? (i := 6) rfl
theorem md_X18_doOne_7 : (.fieldLink RX18 253 "ResourceLedgerModel" "code" "J" : Cond) ∈ wsX18_doOne := List.mem_of_getElem? (i := 7) rfl
theorem md_X18_doOne_8 : (.fieldLink RX18 587 "ResourceLedgerModel" "resultCounts" "[I" : Cond) ∈ wsX18_doOne := List.mem_of_getElem? (i := 8) rfl
theorem md_X18_doOne_9 : (.fieldLink RX18 581 "ResourceLedgerModel" "faultPlaces" "[I" : Cond) ∈ wsX18_doOne := List.mem_of_getElem? (i := 9) rfl
theorem md_X18_doOne_13 : (.fieldLink RX18 550 "ResourceLedgerModel" "modulesCalled" "[I" : Cond) ∈ wsX18_doOne := List.mem_of_getElem? (i := 13) rfl
theorem md_X18_doOne_16 : (.fieldLink RX18 575 "ResourceLedgerModel" "outcomes" "[I" : Cond) ∈ wsX18_doOne := List.mem_of_getElem? (i := 16) rfl
theorem md_X18_doOne_17 : (.fieldLink RX18 578 "ResourceLedgerModel" "gases" "[I" : Cond) ∈ wsX18_doOne := List.mem_of_getElem? (i := 17) rfl
theorem md_X18_doOne_18 : (.fieldLink RX18 584 "ResourceLedgerModel" "codes" "[J" : Cond) ∈ wsX18_doOne := List.mem_of_getElem? (i := 18) rfl
theorem md_X18_doOne_14 : (.fieldLink RX18 538 "ResourceLedgerModel" "sorts" "[I" : Cond) ∈ wsX18_doOne := List.mem_of_getElem? (i := 14) rfl
theorem md_X18_doOne_12 : (.fieldLink RX18 303 "ResourceLedgerModel" "balances" "[J" : Cond) ∈ wsX18_doOne := List.mem_of_getElem? (i := 12) rfl
theorem md_X18_doOne_10 : (.fieldLink RX18 519 "ResourceLedgerModel" "sequences" "[J" : Cond) ∈ wsX18_doOne := List.mem_of_getElem? (i := 10) rfl
theorem md_X18_doOne_15 : (.fieldLink RX18 615 "ResourceLedgerModel" "burned" "J" : Cond) ∈ wsX18_doOne := List.mem_of_getElem? (i := 15) rfl
theorem md_X18_doOne_11 : (.fieldLink RX18 544 "ResourceLedgerModel" "turns" "[J" : Cond) ∈ wsX18_doOne := List.mem_of_getElem? (i := 11) rfl
set_option maxHeartbeats 4000000 in
set_option maxRecDepth 100000 in
theorem de_X18_doOne (l : Launch) (dC : Nat → ClassId) (dI : Nat → Nat → Nat) (cy : Nat → ClassId) (a : Nat → Nat) (sh : Nat → Nat × Nat) (n sz : Nat) (F : Nat) (sk : Nat → Nat) (z : St) (h0 : Nat) (x0 : Int32) {z8 : St} {r8 : Unit} (hf : fn_X18_doOne F sh n z h0 x0 = some (z8, r8)) : Met l yX18_doOne wsX18_doOne ({ frames := 56, cells := 0, slots := 0, locals := 1304 }) (va_Pc [.ref (a h0), .int x0] (fun U => U.heap.size = sz ∧ va_P (dC, dI) vwCl (Wd cy a sh n z) U.heap ∧ va_K (dC, dI) vwCl (TYS cy) U ∧ va_D (fun _ => True) (Wd cy a sh n z) ∧ NK U ∧ SKs sk (a CBK) (va_A (Wd cy a sh n z) sz) U U.heap)) (va_Qv (fun u : Unit => True) (fun u t => va_P (dC, dI) vwCl (Wd cy a sh n z8) t.heap ∧ va_K (dC, dI) vwCl (TYS cy) t ∧ va_D (va_A (Wd cy a sh n z) sz) (Wd cy a sh n z8)) (va_A (Wd cy a sh n z) sz)) 0 0 (va_A (Wd cy a sh n z) sz) := by
  refine Met.ofW (cc := cX18_doOne) (maxL := 5) (ret := none) (by decide) rfl ?_
  intro p e s m args below meth c s₁ B hml hv
  obtain ⟨rfl, hsz, hP, hK, hD0, hN, hSK⟩ := hv
  have hx := B.exec
  have hb := B.bytes
  have hr := B.returns
  have hts := atoms_spec (ws := wsX18_doOne) B.pre
  have hown : s.vm.findClass RX18 = some m.cls := findClass_of_methodNamed B.named
  have hlocks := B.notSynchronized
  subst hsz
  have hD := hD0.self (sz := s.heap.size)
  clear hD0
  generalize hAe : va_A (Wd cy a sh n z) s.heap.size = A at hD hSK ⊢
  have hA : ∀ q : Nat, s.heap.size ≤ q → A q := fun q h => by rw [← hAe]; exact Or.inr h
  clear hAe
  have hS : va_S A s.heap s.heap [] := va_S.rf
  have hl := lv_entry ([.ref (a h0), .int x0]) (n := 5) (Nat.le_of_ble_eq_true rfl)
  rw [lg_entry_eq]
  generalize (lg_sl ([.ref (a h0), .int x0]) ++ List.replicate (5 - (lg_sl ([.ref (a h0), .int x0])).length) Slot.unset).toArray = ls at hl ⊢
  replace hl : lv_has ls 5 [(0, .ref (a h0)), (1, .int x0)] := hl
  unfold fn_X18_doOne at hf
  refine de_start hS hP (fun H locs hS hP => ?_)
  refine lv_aload_n hx hb dX18_doOne_0 rfl (lv_at hl 0 rfl) ?_
  refine lv_aload_n hx hb dX18_doOne_1 rfl (lv_at hl 0 rfl) ?_
  obtain ⟨g_1, hf⟩ := grd_some hf
  obtain ⟨kg_1, sg_1⟩ := okO_at g_1
  obtain ⟨k_2, ek_2, hf⟩ := lnk_some hf
  refine va_get (D := (dC, dI)) (ci := 18) (v := .ref (a k_2)) (C := RX18) (T := TX18) (N := 78) hx hb hts iwd_X18_doOne_X18 hown hK hP h0 (Wd_ob kg_1 sg_1 (by decide)) rfl 55 (by decide) (hts _ md_X18_doOne_1) (fun _ h9 => h9) (fl_q rfl ek_2) dX18_doOne_2 ?_
  refine lv_iload_n hx hb dX18_doOne_5 rfl (lv_at hl 1 rfl) ?_
  obtain ⟨g_3, hf⟩ := grd_some hf
  obtain ⟨kg_3, sg_3, ig_3⟩ := okA_at g_3
  refine va_lald hx hb hK hP k_2 2 (Wd_al kg_3 sg_3) rfl ig_3 dX18_doOne_6 ?_
  refine va_put (D := (dC, dI)) (ci := 18) (v := .long (z.2.1 k_2 x0.toNatClampNeg)) (ty := .long) (C := RX18) (T := TX18) (N := 78) hx hb hts iwd_X18_doOne_X18 tyX18 tyX18_ok nmX18 hown hK hP hD hS h0 (Wd_ob kg_1 sg_1 (by decide)) rfl 24 (by decide) (hts _ md_X18_doOne_2) (fun _ h9 => h9) rfl (by decide +kernel) rfl rfl (by rw [fl_len]; decide) dX18_doOne_7 (fun H_4 locs hP2 hD2 hS2 => ?_)
  rw [Wd_sl sg_1 (by decide) rfl] at hP2 hD2
  obtain ⟨z_5, ez_5⟩ : ∃ w, w = sl z h0 24 (z.2.1 k_2 x0.toNatClampNeg) := ⟨_, rfl⟩
  rw [← ez_5] at hP2 hD2
  replace hf := lt_at ez_5 hf
  clear ez_5
  replace hP := hP2
  replace hD := hD2
  replace hS := hS2
  clear hP2 hD2 hS2
  refine lv_aload_n hx hb dX18_doOne_10 rfl (lv_at hl 0 rfl) ?_
  refine lv_aload_n hx hb dX18_doOne_11 rfl (lv_at hl 0 rfl) ?_
  obtain ⟨k_6, ek_6, hf⟩ := lnk_some hf
  refine va_get (D := (dC, dI)) (ci := 18) (v := .ref (a k_6)) (C := RX18) (T := TX18) (N := 78) hx hb hts iwd_X18_doOne_X18 hown hK hP h0 (Wd_ob kg_1 sg_1 (by decide)) rfl 57 (by decide) (hts _ md_X18_doOne_3) (fun _ h9 => h9) (fl_q rfl ek_6) dX18_doOne_12 ?_
  refine lv_iload_n hx hb dX18_doOne_15 rfl (lv_at hl 1 rfl) ?_
  obtain ⟨g_7, hf⟩ := grd_some hf
  obtain ⟨kg_7, sg_7, ig_7⟩ := okA_at g_7
  refine va_iald hx hb hK hP k_6 1 (Wd_ai kg_7 sg_7) rfl ig_7 dX18_doOne_16 ?_
  refine va_put (D := (dC, dI)) (ci := 18) (v := .int (z_5.1 k_6 x0.toNatClampNeg)) (ty := .int) (C := RX18) (T := TX18) (N := 78) hx hb hts iwd_X18_doOne_X18 tyX18 tyX18_ok nmX18 hown hK hP hD hS h0 (Wd_ob kg_1 sg_1 (by decide)) rfl 25 (by decide) (hts _ md_X18_doOne_4) (fun _ h9 => h9) rfl (by decide +kernel) rfl rfl (by rw [fl_len]; decide) dX18_doOne_17 (fun H_8 locs hP2 hD2 hS2 => ?_)
  rw [Wd_si sg_1 (by decide) rfl] at hP2 hD2
  obtain ⟨z_9, ez_9⟩ : ∃ w, w = si z_5 h0 25 (z_5.1 k_6 x0.toNatClampNeg) := ⟨_, rfl⟩
  rw [← ez_9] at hP2 hD2
  replace hf := lt_at ez_9 hf
  clear ez_9
  replace hP := hP2
  replace hD := hD2
  replace hS := hS2
  clear hP2 hD2 hS2
  refine lv_aload_n hx hb dX18_doOne_20 rfl (lv_at hl 0 rfl) ?_
  refine lv_iconst (v := 0) hx hb dX18_doOne_21 (by decide) ?_
  refine va_put (D := (dC, dI)) (ci := 18) (v := .int 0) (ty := .int) (C := RX18) (T := TX18) (N := 78) hx hb hts iwd_X18_doOne_X18 tyX18 tyX18_ok nmX18 hown hK hP hD hS h0 (Wd_ob kg_1 sg_1 (by decide)) rfl 26 (by decide) (hts _ md_X18_doOne_5) (fun _ h9 => h9) rfl (by decide +kernel) rfl rfl (by rw [fl_len]; decide) dX18_doOne_22 (fun H_10 locs hP2 hD2 hS2 => ?_)
  rw [Wd_si sg_1 (by decide) rfl] at hP2 hD2
  obtain ⟨z_11, ez_11⟩ : ∃ w, w = si z_9 h0 26 0 := ⟨_, rfl⟩
  rw [← ez_11] at hP2 hD2
  replace hf := lt_at ez_11 hf
  clear ez_11
  replace hP := hP2
  replace hD := hD2
  replace hS := hS2
  clear hP2 hD2 hS2
  refine lv_aload_n hx hb dX18_doOne_25 rfl (lv_at hl 0 rfl) ?_
  refine lv_iconst (v := (-1)) hx hb dX18_doOne_26 (by decide) ?_
  refine va_put (D := (dC, dI)) (ci := 18) (v := .int (-1)) (ty := .int) (C := RX18) (T := TX18) (N := 78) hx hb hts iwd_X18_doOne_X18 tyX18 tyX18_ok nmX18 hown hK hP hD hS h0 (Wd_ob kg_1 sg_1 (by decide)) rfl 27 (by decide) (hts _ md_X18_doOne_6) (fun _ h9 => h9) rfl (by decide +kernel) rfl rfl (by rw [fl_len]; decide) dX18_doOne_27 (fun H_12 locs hP2 hD2 hS2 => ?_)
  rw [Wd_si sg_1 (by decide) rfl] at hP2 hD2
  obtain ⟨z_13, ez_13⟩ : ∃ w, w = si z_11 h0 27 (-1) := ⟨_, rfl⟩
  rw [← ez_13] at hP2 hD2
  replace hf := lt_at ez_13 hf
  clear ez_13
  replace hP := hP2
  replace hD := hD2
  replace hS := hS2
  clear hP2 hD2 hS2
  refine lv_aload_n hx hb dX18_doOne_30 rfl (lv_at hl 0 rfl) ?_
  refine lv_lconst (v := 0) hx hb dX18_doOne_31 (by decide) ?_
  refine va_put (D := (dC, dI)) (ci := 18) (v := .long 0) (ty := .long) (C := RX18) (T := TX18) (N := 78) hx hb hts iwd_X18_doOne_X18 tyX18 tyX18_ok nmX18 hown hK hP hD hS h0 (Wd_ob kg_1 sg_1 (by decide)) rfl 28 (by decide) (hts _ md_X18_doOne_7) (fun _ h9 => h9) rfl (by decide +kernel) rfl rfl (by rw [fl_len]; decide) dX18_doOne_32 (fun H_14 locs hP2 hD2 hS2 => ?_)
  rw [Wd_sl sg_1 (by decide) rfl] at hP2 hD2
  obtain ⟨z_15, ez_15⟩ : ∃ w, w = sl z_13 h0 28 0 := ⟨_, rfl⟩
  rw [← ez_15] at hP2 hD2
  replace hf := lt_at ez_15 hf
  clear ez_15
  replace hP := hP2
  replace hD := hD2
  replace hS := hS2
  clear hP2 hD2 hS2
  refine lv_aload_n hx hb dX18_doOne_35 rfl (lv_at hl 0 rfl) ?_
  obtain ⟨k_16, ek_16, hf⟩ := lnk_some hf
  refine va_get (D := (dC, dI)) (ci := 18) (v := .ref (a k_16)) (C := RX18) (T := TX18) (N := 78) hx hb hts iwd_X18_doOne_X18 hown hK hP h0 (Wd_ob kg_1 sg_1 (by decide)) rfl 70 (by decide) (hts _ md_X18_doOne_8) (fun _ h9 => h9) (fl_q rfl ek_16) dX18_doOne_36 ?_
  refine lv_iload_n hx hb dX18_doOne_39 rfl (lv_at hl 1 rfl) ?_
  refine lv_iconst (v := 0) hx hb dX18_doOne_40 (by decide) ?_
  obtain ⟨g_17, hf⟩ := grd_some hf
  obtain ⟨kg_17, sg_17, ig_17⟩ := okA_at g_17
  refine va_iast hx hb hK hP hD hS k_16 1 (Wd_ai kg_17 sg_17) rfl ig_17 dX18_doOne_41 (fun H_18 locs hP2 hD2 hS2 => ?_)
  rw [Wd_ti sg_17] at hP2 hD2
  obtain ⟨z_19, ez_19⟩ : ∃ w, w = si z_15 k_16 x0.toNatClampNeg 0 := ⟨_, rfl⟩
  rw [← ez_19] at hP2 hD2
  replace hf := lt_at ez_19 hf
  clear ez_19
  replace hP := hP2
  replace hD := hD2
  replace hS := hS2
  clear hP2 hD2 hS2
  refine lv_aload_n hx hb dX18_doOne_42 rfl (lv_at hl 0 rfl) ?_
  obtain ⟨k_20, ek_20, hf⟩ := lnk_some hf
  refine va_get (D := (dC, dI)) (ci := 18) (v := .ref (a k_20)) (C := RX18) (T := TX18) (N := 78) hx hb hts iwd_X18_doOne_X18 hown hK hP h0 (Wd_ob kg_1 sg_1 (by decide)) rfl 68 (by decide) (hts _ md_X18_doOne_9) (fun _ h9 => h9) (fl_q rfl ek_20) dX18_doOne_43 ?_
  refine lv_iload_n hx hb dX18_doOne_46 rfl (lv_at hl 1 rfl) ?_
  refine lv_iconst (v := 0) hx hb dX18_doOne_47 (by decide) ?_
  obtain ⟨g_21, hf⟩ := grd_some hf
  obtain ⟨kg_21, sg_21, ig_21⟩ := okA_at g_21
  refine va_iast hx hb hK hP hD hS k_20 1 (Wd_ai kg_21 sg_21) rfl ig_21 dX18_doOne_48 (fun H_22 locs hP2 hD2 hS2 => ?_)
  rw [Wd_ti sg_21] at hP2 hD2
  obtain ⟨z_23, ez_23⟩ : ∃ w, w = si z_19 k_20 x0.toNatClampNeg 0 := ⟨_, rfl⟩
  rw [← ez_23] at hP2 hD2
  replace hf := lt_at ez_23 hf
  clear ez_23
  replace hP := hP2
  replace hD := hD2
  replace hS := hS2
  clear hP2 hD2 hS2
  refine lv_aload_n hx hb dX18_doOne_49 rfl (lv_at hl 0 rfl) ?_
  refine lv_aload_n hx hb dX18_doOne_50 rfl (lv_at hl 0 rfl) ?_
  refine va_get (D := (dC, dI)) (ci := 18) (v := .long (z_23.2.1 h0 24)) (C := RX18) (T := TX18) (N := 78) hx hb hts iwd_X18_doOne_X18 hown hK hP h0 (Wd_ob kg_1 sg_1 (by decide)) rfl 24 (by decide) (hts _ md_X18_doOne_2) (fun _ h9 => h9) (fl_at (t := 1) rfl) dX18_doOne_51 ?_
  obtain ⟨z_24, r_25, hfc, hf⟩ := cal_some hf
  have hFc := de_free hD hS hA
  refine va_calli (va_runV (As := [.long (z_23.2.1 h0 24)]) (rest := []) ⟨hx, hb, hml, hown, hts⟩ (de_X18_findAccount l dC dI cy a sh n H_22.size F z_23 h0 (z_23.2.1 h0 24) hfc) (cwV 1 hts gX18_doOne_X18_findAccount rfl rfl rfl (by decide +kernel) ⟨Nat.le_of_ble_eq_true rfl, Nat.le_of_ble_eq_true rfl⟩) ⟨fun a U g mk q => by obtain ⟨q0, q1, qP, qK, qD, qN⟩ := q; exact ⟨q0, q1, qP, va_K.moved (u := U) (U := U.calling g mk a) (Vm.Alike.refl U.vm) qK, qD, qN.same rfl⟩, va_recv hK hP (ci := 18) (q0 := h0) rfl (Wd_ob kg_1 sg_1 (by decide)), fun U hU hW => ⟨rfl, by rw [hU], by rw [hU]; exact hP, va_K.moved hW.alike hK, hD.weaken (fun _ _ _ _ => trivial), hN.warm hW⟩⟩ rfl rfl hl.1 rfl (lv_room (Nat.le_of_ble_eq_true rfl)) dX18_doOne_54 ⟨Nat.le_of_ble_eq_true rfl, Nat.le_of_ble_eq_true rfl⟩) hS (fun q _ h => hFc q h) hFc (fun rr u t H_26 locs ht hvm hw hB hz1 hk1 hS2 => ?_)
  rw [hw]
  clear hw
  obtain ⟨hP1, -, hD1⟩ := hB
  rw [ht] at hP1
  replace hD := hD1.weaken (fun _ _ _ h => hFc _ h)
  replace hP := hP1
  replace hS := hS2
  clear hP1 hD1 hS2 hFc hfc hz1 hk1 hvm ht
  refine lv_istore_n (lv' := [(2, .int r_25), (0, .ref (a h0)), (1, .int x0)]) hx hb dX18_doOne_57 rfl hl (by decide) rfl (fun ls hl2 => ?_)
  replace hl := hl2
  clear hl2
  refine lv_iload_n hx hb dX18_doOne_58 rfl (lv_at hl 0 rfl) ?_
  refine de_cut (h := 106) (fun (x : St × Int32) => [.int x.2]) (fun x ls H locs => lv_has ls 5 [(2, .int r_25), (0, .ref (a h0)), (1, .int x0)] ∧ va_P (dC, dI) vwCl (Wd cy a sh n x.1) H ∧ va_D A (Wd cy a sh n x.1) ∧ va_S A s.heap H locs) (fun x => fn_X18_doOne_B106 F sh n h0 x0 r_25 x.1 x.2) (z8, r8) ?_ (fun B106 => ?_)
  · intro x ls H locs hI hf
    obtain ⟨z_28, p_27⟩ := x
    obtain ⟨hl2, hP2, hD2, hS2⟩ := hI
    replace hl : lv_has ls 5 [(2, .int r_25), (0, .ref (a h0)), (1, .int x0)] := hl2
    replace hP := hP2
    replace hD := hD2
    replace hS := hS2
    clear hl2 hP2 hD2 hS2
    replace hf := fn_X18_doOne_B106_s hf
    refine W.eq (g2 := F0 m 106 ls [.int p_27]) rfl ?_
    refine lv_istore_n (lv' := [(3, .int p_27), (2, .int r_25), (0, .ref (a h0)), (1, .int x0)]) hx hb dX18_doOne_106 rfl hl (by decide) rfl (fun ls hl2 => ?_)
    replace hl := hl2
    clear hl2
    refine lv_aload_n hx hb dX18_doOne_107 rfl (lv_at hl 2 rfl) ?_
    refine lv_aload_n hx hb dX18_doOne_108 rfl (lv_at hl 2 rfl) ?_
    obtain ⟨k_29, ek_29, hf⟩ := lnk_some hf
    refine va_get (D := (dC, dI)) (ci := 18) (v := .ref (a k_29)) (C := RX18) (T := TX18) (N := 78) hx hb hts iwd_X18_doOne_X18 hown hK hP h0 (Wd_ob kg_1 sg_1 (by decide)) rfl 58 (by decide) (hts _ md_X18_doOne_13) (fun _ h9 => h9) (fl_q rfl ek_29) dX18_doOne_109 ?_
    refine lv_iload_n hx hb dX18_doOne_112 rfl (lv_at hl 3 rfl) ?_
    obtain ⟨g_30, hf⟩ := grd_some hf
    obtain ⟨kg_30, sg_30, ig_30⟩ := okA_at g_30
    refine va_iald hx hb hK hP k_29 1 (Wd_ai kg_30 sg_30) rfl ig_30 dX18_doOne_113 ?_
    obtain ⟨z_31, r_32, hfc, hf⟩ := cal_some hf
    have hFc := de_free hD hS hA
    refine va_calli (va_runV (As := [.int (z_28.1 k_29 x0.toNatClampNeg)]) (rest := []) ⟨hx, hb, hml, hown, hts⟩ (de_X18_findModule l dC dI cy a sh n H.size F z_28 h0 (z_28.1 k_29 x0.toNatClampNeg) hfc) (cwV 1 hts gX18_doOne_X18_findModule rfl rfl rfl (by decide +kernel) ⟨Nat.le_of_ble_eq_true rfl, Nat.le_of_ble_eq_true rfl⟩) ⟨fun a U g mk q => by obtain ⟨q0, q1, qP, qK, qD, qN⟩ := q; exact ⟨q0, q1, qP, va_K.moved (u := U) (U := U.calling g mk a) (Vm.Alike.refl U.vm) qK, qD, qN.same rfl⟩, va_recv hK hP (ci := 18) (q0 := h0) rfl (Wd_ob kg_1 sg_1 (by decide)), fun U hU hW => ⟨rfl, by rw [hU], by rw [hU]; exact hP, va_K.moved hW.alike hK, hD.weaken (fun _ _ _ _ => trivial), hN.warm hW⟩⟩ rfl rfl hl.1 rfl (lv_room (Nat.le_of_ble_eq_true rfl)) dX18_doOne_114 ⟨Nat.le_of_ble_eq_true rfl, Nat.le_of_ble_eq_true rfl⟩) hS (fun q _ h => hFc q h) hFc (fun rr u t H_33 locs ht hvm hw hB hz1 hk1 hS2 => ?_)
    rw [hw]
    clear hw
    obtain ⟨hP1, -, hD1⟩ := hB
    rw [ht] at hP1
    replace hD := hD1.weaken (fun _ _ _ h => hFc _ h)
    replace hP := hP1
    replace hS := hS2
    clear hP1 hD1 hS2 hFc hfc hz1 hk1 hvm ht
    refine lv_istore (lv' := [(4, .int r_32), (3, .int p_27), (2, .int r_25), (0, .ref (a h0)), (1, .int x0)]) hx hb dX18_doOne_117 hl (by decide) rfl (fun ls hl2 => ?_)
    replace hl := hl2
    clear hl2
    refine lv_iload_n hx hb dX18_doOne_119 rfl (lv_at hl 1 rfl) ?_
    refine de_cut (h := 141) (fun (x : St × Int32) => []) (fun x ls H locs => lv_has ls 5 [(3, .int x.2), (4, .int r_32), (2, .int r_25), (0, .ref (a h0)), (1, .int x0)] ∧ va_P (dC, dI) vwCl (Wd cy a sh n x.1) H ∧ va_D A (Wd cy a sh n x.1) ∧ va_S A s.heap H locs) (fun x => fn_X18_doOne_B141 F sh n h0 x0 r_32 r_25 x.1 x.2) (z8, r8) ?_ (fun B141 => ?_)
    · intro x ls H locs hI hf
      obtain ⟨z_35, p_34⟩ := x
      obtain ⟨hl2, hP2, hD2, hS2⟩ := hI
      replace hl : lv_has ls 5 [(3, .int p_34), (4, .int r_32), (2, .int r_25), (0, .ref (a h0)), (1, .int x0)] := hl2
      replace hP := hP2
      replace hD := hD2
      replace hS := hS2
      clear hl2 hP2 hD2 hS2
      replace hf := fn_X18_doOne_B141_s hf
      refine W.eq (g2 := F0 m 141 ls []) rfl ?_
      refine lv_iload_n hx hb dX18_doOne_141 rfl (lv_at hl 0 rfl) ?_
      refine de_cut (h := 228) (fun (x : St) => []) (fun x ls H locs => lv_has ls 5 [(0, .ref (a h0)), (1, .int x0)] ∧ va_P (dC, dI) vwCl (Wd cy a sh n x) H ∧ va_D A (Wd cy a sh n x) ∧ va_S A s.heap H locs) (fun x => fn_X18_doOne_B228 F sh n h0 x0 x) (z8, r8) ?_ (fun B228 => ?_)
      · intro x ls H locs hI hf
        obtain ⟨z_36, ez⟩ : ∃ w, w = x := ⟨_, rfl⟩
        subst ez
        obtain ⟨hl2, hP2, hD2, hS2⟩ := hI
        replace hl : lv_has ls 5 [(0, .ref (a h0)), (1, .int x0)] := hl2
        replace hP := hP2
        replace hD := hD2
        replace hS := hS2
        clear hl2 hP2 hD2 hS2
        replace hf := fn_X18_doOne_B228_s hf
        refine W.eq (g2 := F0 m 228 ls []) rfl ?_
        refine lv_aload_n hx hb dX18_doOne_228 rfl (lv_at hl 0 rfl) ?_
        obtain ⟨k_37, ek_37, hf⟩ := lnk_some hf
        refine va_get (D := (dC, dI)) (ci := 18) (v := .ref (a k_37)) (C := RX18) (T := TX18) (N := 78) hx hb hts iwd_X18_doOne_X18 hown hK hP h0 (Wd_ob kg_1 sg_1 (by decide)) rfl 66 (by decide) (hts _ md_X18_doOne_16) (fun _ h9 => h9) (fl_q rfl ek_37) dX18_doOne_229 ?_
        refine lv_iload_n hx hb dX18_doOne_232 rfl (lv_at hl 1 rfl) ?_
        refine lv_aload_n hx hb dX18_doOne_233 rfl (lv_at hl 0 rfl) ?_
        refine va_get (D := (dC, dI)) (ci := 18) (v := .int (z_36.1 h0 27)) (C := RX18) (T := TX18) (N := 78) hx hb hts iwd_X18_doOne_X18 hown hK hP h0 (Wd_ob kg_1 sg_1 (by decide)) rfl 27 (by decide) (hts _ md_X18_doOne_6) (fun _ h9 => h9) (fl_at (t := 0) rfl) dX18_doOne_234 ?_
        obtain ⟨g_38, hf⟩ := grd_some hf
        obtain ⟨kg_38, sg_38, ig_38⟩ := okA_at g_38
        refine va_iast hx hb hK hP hD hS k_37 1 (Wd_ai kg_38 sg_38) rfl ig_38 dX18_doOne_237 (fun H_39 locs hP2 hD2 hS2 => ?_)
        rw [Wd_ti sg_38] at hP2 hD2
        obtain ⟨z_40, ez_40⟩ : ∃ w, w = si z_36 k_37 x0.toNatClampNeg (z_36.1 h0 27) := ⟨_, rfl⟩
        rw [← ez_40] at hP2 hD2
        replace hf := lt_at ez_40 hf
        clear ez_40
        replace hP := hP2
        replace hD := hD2
        replace hS := hS2
        clear hP2 hD2 hS2
        refine lv_aload_n hx hb dX18_doOne_238 rfl (lv_at hl 0 rfl) ?_
        obtain ⟨k_41, ek_41, hf⟩ := lnk_some hf
        refine va_get (D := (dC, dI)) (ci := 18) (v := .ref (a k_41)) (C := RX18) (T := TX18) (N := 78) hx hb hts iwd_X18_doOne_X18 hown hK hP h0 (Wd_ob kg_1 sg_1 (by decide)) rfl 67 (by decide) (hts _ md_X18_doOne_17) (fun _ h9 => h9) (fl_q rfl ek_41) dX18_doOne_239 ?_
        refine lv_iload_n hx hb dX18_doOne_242 rfl (lv_at hl 1 rfl) ?_
        refine lv_aload_n hx hb dX18_doOne_243 rfl (lv_at hl 0 rfl) ?_
        refine va_get (D := (dC, dI)) (ci := 18) (v := .int (z_40.1 h0 26)) (C := RX18) (T := TX18) (N := 78) hx hb hts iwd_X18_doOne_X18 hown hK hP h0 (Wd_ob kg_1 sg_1 (by decide)) rfl 26 (by decide) (hts _ md_X18_doOne_5) (fun _ h9 => h9) (fl_at (t := 0) rfl) dX18_doOne_244 ?_
        obtain ⟨g_42, hf⟩ := grd_some hf
        obtain ⟨kg_42, sg_42, ig_42⟩ := okA_at g_42
        refine va_iast hx hb hK hP hD hS k_41 1 (Wd_ai kg_42 sg_42) rfl ig_42 dX18_doOne_247 (fun H_43 locs hP2 hD2 hS2 => ?_)
        rw [Wd_ti sg_42] at hP2 hD2
        obtain ⟨z_44, ez_44⟩ : ∃ w, w = si z_40 k_41 x0.toNatClampNeg (z_40.1 h0 26) := ⟨_, rfl⟩
        rw [← ez_44] at hP2 hD2
        replace hf := lt_at ez_44 hf
        clear ez_44
        replace hP := hP2
        replace hD := hD2
        replace hS := hS2
        clear hP2 hD2 hS2
        refine lv_aload_n hx hb dX18_doOne_248 rfl (lv_at hl 0 rfl) ?_
        obtain ⟨k_45, ek_45, hf⟩ := lnk_some hf
        refine va_get (D := (dC, dI)) (ci := 18) (v := .ref (a k_45)) (C := RX18) (T := TX18) (N := 78) hx hb hts iwd_X18_doOne_X18 hown hK hP h0 (Wd_ob kg_1 sg_1 (by decide)) rfl 69 (by decide) (hts _ md_X18_doOne_18) (fun _ h9 => h9) (fl_q rfl ek_45) dX18_doOne_249 ?_
        refine lv_iload_n hx hb dX18_doOne_252 rfl (lv_at hl 1 rfl) ?_
        refine lv_aload_n hx hb dX18_doOne_253 rfl (lv_at hl 0 rfl) ?_
        refine va_get (D := (dC, dI)) (ci := 18) (v := .long (z_44.2.1 h0 28)) (C := RX18) (T := TX18) (N := 78) hx hb hts iwd_X18_doOne_X18 hown hK hP h0 (Wd_ob kg_1 sg_1 (by decide)) rfl 28 (by decide) (hts _ md_X18_doOne_7) (fun _ h9 => h9) (fl_at (t := 1) rfl) dX18_doOne_254 ?_
        obtain ⟨g_46, hf⟩ := grd_some hf
        obtain ⟨kg_46, sg_46, ig_46⟩ := okA_at g_46
        refine va_last hx hb hK hP hD hS k_45 2 (Wd_al kg_46 sg_46) rfl ig_46 dX18_doOne_257 (fun H_47 locs hP2 hD2 hS2 => ?_)
        rw [Wd_tl sg_46] at hP2 hD2
        obtain ⟨z_48, ez_48⟩ : ∃ w, w = sl z_44 k_45 x0.toNatClampNeg (z_44.2.1 h0 28) := ⟨_, rfl⟩
        rw [← ez_48] at hP2 hD2
        replace hf := lt_at ez_48 hf
        clear ez_48
        replace hP := hP2
        replace hD := hD2
        replace hS := hS2
        clear hP2 hD2 hS2
        obtain ⟨h8, h9⟩ := ret_some hf
        rw [h8]
        exact W.vret hx hb hr (fun t ht hW => ⟨⟨(), rfl, trivial, by rw [ht]; exact hP, va_K.moved hW.alike hK, hD⟩, hS.F ht⟩) hS.2.2 dX18_doOne_258
      refine lv_if_eq (tgt := 155) hx hb dX18_doOne_142 (by decide) (fun c_49 => ?_) (fun c_49 => ?_)
      · skip
        rw [if_pos c_49] at hf
        refine lv_aload_n hx hb dX18_doOne_155 rfl (lv_at hl 3 rfl) ?_
        obtain ⟨k_50, ek_50, hf⟩ := lnk_some hf
        refine va_get (D := (dC, dI)) (ci := 18) (v := .ref (a k_50)) (C := RX18) (T := TX18) (N := 78) hx hb hts iwd_X18_doOne_X18 hown hK hP h0 (Wd_ob kg_1 sg_1 (by decide)) rfl 54 (by decide) (hts _ md_X18_doOne_14) (fun _ h9 => h9) (fl_q rfl ek_50) dX18_doOne_156 ?_
        refine lv_iload_n hx hb dX18_doOne_159 rfl (lv_at hl 4 rfl) ?_
        obtain ⟨g_51, hf⟩ := grd_some hf
        obtain ⟨kg_51, sg_51, ig_51⟩ := okA_at g_51
        refine va_iald hx hb hK hP k_50 1 (Wd_ai kg_51 sg_51) rfl ig_51 dX18_doOne_160 ?_
        refine lv_iconst (v := 1) hx hb dX18_doOne_161 (by decide) ?_
        refine de_cut (h := 181) (fun (x : St) => []) (fun x ls H locs => lv_has ls 5 [(0, .ref (a h0)), (1, .int x0)] ∧ va_P (dC, dI) vwCl (Wd cy a sh n x) H ∧ va_D A (Wd cy a sh n x) ∧ va_S A s.heap H locs) (fun x => fn_X18_doOne_B181 F sh n h0 x0 x) (z8, r8) ?_ (fun B181 => ?_)
        · intro x ls H locs hI hf
          obtain ⟨z_52, ez⟩ : ∃ w, w = x := ⟨_, rfl⟩
          subst ez
          obtain ⟨hl2, hP2, hD2, hS2⟩ := hI
          replace hl : lv_has ls 5 [(0, .ref (a h0)), (1, .int x0)] := hl2
          replace hP := hP2
          replace hD := hD2
          replace hS := hS2
          clear hl2 hP2 hD2 hS2
          replace hf := fn_X18_doOne_B181_s hf
          refine W.eq (g2 := F0 m 181 ls []) rfl ?_
          refine lv_aload_n hx hb dX18_doOne_181 rfl (lv_at hl 0 rfl) ?_
          refine lv_aload_n hx hb dX18_doOne_182 rfl (lv_at hl 0 rfl) ?_
          refine va_get (D := (dC, dI)) (ci := 18) (v := .long (z_52.2.1 h0 24)) (C := RX18) (T := TX18) (N := 78) hx hb hts iwd_X18_doOne_X18 hown hK hP h0 (Wd_ob kg_1 sg_1 (by decide)) rfl 24 (by decide) (hts _ md_X18_doOne_2) (fun _ h9 => h9) (fl_at (t := 1) rfl) dX18_doOne_183 ?_
          obtain ⟨z_53, r_54, hfc, hf⟩ := cal_some hf
          have hFc := de_free hD hS hA
          refine va_calli (va_runV (As := [.long (z_52.2.1 h0 24)]) (rest := []) ⟨hx, hb, hml, hown, hts⟩ (de_X18_findAccount l dC dI cy a sh n H.size F z_52 h0 (z_52.2.1 h0 24) hfc) (cwV 1 hts gX18_doOne_X18_findAccount rfl rfl rfl (by decide +kernel) ⟨Nat.le_of_ble_eq_true rfl, Nat.le_of_ble_eq_true rfl⟩) ⟨fun a U g mk q => by obtain ⟨q0, q1, qP, qK, qD, qN⟩ := q; exact ⟨q0, q1, qP, va_K.moved (u := U) (U := U.calling g mk a) (Vm.Alike.refl U.vm) qK, qD, qN.same rfl⟩, va_recv hK hP (ci := 18) (q0 := h0) rfl (Wd_ob kg_1 sg_1 (by decide)), fun U hU hW => ⟨rfl, by rw [hU], by rw [hU]; exact hP, va_K.moved hW.alike hK, hD.weaken (fun _ _ _ _ => trivial), hN.warm hW⟩⟩ rfl rfl hl.1 rfl (lv_room (Nat.le_of_ble_eq_true rfl)) dX18_doOne_186 ⟨Nat.le_of_ble_eq_true rfl, Nat.le_of_ble_eq_true rfl⟩) hS (fun q _ h => hFc q h) hFc (fun rr u t H_55 locs ht hvm hw hB hz1 hk1 hS2 => ?_)
          rw [hw]
          clear hw
          obtain ⟨hP1, -, hD1⟩ := hB
          rw [ht] at hP1
          replace hD := hD1.weaken (fun _ _ _ h => hFc _ h)
          replace hP := hP1
          replace hS := hS2
          clear hP1 hD1 hS2 hFc hfc hz1 hk1 hvm ht
          refine lv_istore_n (lv' := [(2, .int r_54), (0, .ref (a h0)), (1, .int x0)]) hx hb dX18_doOne_189 rfl hl (by decide) rfl (fun ls hl2 => ?_)
          replace hl := hl2
          clear hl2
          refine lv_aload_n hx hb dX18_doOne_190 rfl (lv_at hl 1 rfl) ?_
          obtain ⟨k_56, ek_56, hf⟩ := lnk_some hf
          refine va_get (D := (dC, dI)) (ci := 18) (v := .ref (a k_56)) (C := RX18) (T := TX18) (N := 78) hx hb hts iwd_X18_doOne_X18 hown hK hP h0 (Wd_ob kg_1 sg_1 (by decide)) rfl 1 (by decide) (hts _ md_X18_doOne_12) (fun _ h9 => h9) (fl_q rfl ek_56) dX18_doOne_191 ?_
          refine lv_iload_n hx hb dX18_doOne_194 rfl (lv_at hl 0 rfl) ?_
          refine lv_dup2_11 hx hb dX18_doOne_195 rfl rfl ?_
          obtain ⟨g_57, hf⟩ := grd_some hf
          obtain ⟨kg_57, sg_57, ig_57⟩ := okA_at g_57
          refine va_lald hx hb hK hP k_56 2 (Wd_al kg_57 sg_57) rfl ig_57 dX18_doOne_196 ?_
          refine lv_aload_n hx hb dX18_doOne_197 rfl (lv_at hl 1 rfl) ?_
          refine va_get (D := (dC, dI)) (ci := 18) (v := .int (z_53.1 h0 26)) (C := RX18) (T := TX18) (N := 78) hx hb hts iwd_X18_doOne_X18 hown hK hP h0 (Wd_ob kg_1 sg_1 (by decide)) rfl 26 (by decide) (hts _ md_X18_doOne_5) (fun _ h9 => h9) (fl_at (t := 0) rfl) dX18_doOne_198 ?_
          refine lv_i2l (v := ((z_53.1 h0 26) : Int32).toInt64) hx hb dX18_doOne_201 rfl ?_
          refine lv_lsub hx hb dX18_doOne_202 ?_
          obtain ⟨g_58, hf⟩ := grd_some hf
          obtain ⟨kg_58, sg_58, ig_58⟩ := okA_at g_58
          refine va_last hx hb hK hP hD hS k_56 2 (Wd_al kg_58 sg_58) rfl ig_58 dX18_doOne_203 (fun H_59 locs hP2 hD2 hS2 => ?_)
          rw [Wd_tl sg_58] at hP2 hD2
          obtain ⟨z_60, ez_60⟩ : ∃ w, w = sl z_53 k_56 r_54.toNatClampNeg ((z_53.2.1 k_56 r_54.toNatClampNeg) - (((z_53.1 h0 26) : Int32).toInt64)) := ⟨_, rfl⟩
          rw [← ez_60] at hP2 hD2
          replace hf := lt_at ez_60 hf
          clear ez_60
          replace hP := hP2
          replace hD := hD2
          replace hS := hS2
          clear hP2 hD2 hS2
          refine lv_aload_n hx hb dX18_doOne_204 rfl (lv_at hl 1 rfl) ?_
          obtain ⟨k_61, ek_61, hf⟩ := lnk_some hf
          refine va_get (D := (dC, dI)) (ci := 18) (v := .ref (a k_61)) (C := RX18) (T := TX18) (N := 78) hx hb hts iwd_X18_doOne_X18 hown hK hP h0 (Wd_ob kg_1 sg_1 (by decide)) rfl 2 (by decide) (hts _ md_X18_doOne_10) (fun _ h9 => h9) (fl_q rfl ek_61) dX18_doOne_205 ?_
          refine lv_iload_n hx hb dX18_doOne_208 rfl (lv_at hl 0 rfl) ?_
          refine lv_dup2_11 hx hb dX18_doOne_209 rfl rfl ?_
          obtain ⟨g_62, hf⟩ := grd_some hf
          obtain ⟨kg_62, sg_62, ig_62⟩ := okA_at g_62
          refine va_lald hx hb hK hP k_61 2 (Wd_al kg_62 sg_62) rfl ig_62 dX18_doOne_210 ?_
          refine lv_lconst (v := 1) hx hb dX18_doOne_211 (by decide) ?_
          refine lv_ladd hx hb dX18_doOne_212 ?_
          obtain ⟨g_63, hf⟩ := grd_some hf
          obtain ⟨kg_63, sg_63, ig_63⟩ := okA_at g_63
          refine va_last hx hb hK hP hD hS k_61 2 (Wd_al kg_63 sg_63) rfl ig_63 dX18_doOne_213 (fun H_64 locs hP2 hD2 hS2 => ?_)
          rw [Wd_tl sg_63] at hP2 hD2
          obtain ⟨z_65, ez_65⟩ : ∃ w, w = sl z_60 k_61 r_54.toNatClampNeg ((z_60.2.1 k_61 r_54.toNatClampNeg) + 1) := ⟨_, rfl⟩
          rw [← ez_65] at hP2 hD2
          replace hf := lt_at ez_65 hf
          clear ez_65
          replace hP := hP2
          replace hD := hD2
          replace hS := hS2
          clear hP2 hD2 hS2
          refine lv_aload_n hx hb dX18_doOne_214 rfl (lv_at hl 1 rfl) ?_
          refine lv_dup hx hb dX18_doOne_215 rfl ?_
          refine va_get (D := (dC, dI)) (ci := 18) (v := .long (z_65.2.1 h0 21)) (C := RX18) (T := TX18) (N := 78) hx hb hts iwd_X18_doOne_X18 hown hK hP h0 (Wd_ob kg_1 sg_1 (by decide)) rfl 21 (by decide) (hts _ md_X18_doOne_15) (fun _ h9 => h9) (fl_at (t := 1) rfl) dX18_doOne_216 ?_
          refine lv_aload_n hx hb dX18_doOne_219 rfl (lv_at hl 1 rfl) ?_
          refine va_get (D := (dC, dI)) (ci := 18) (v := .int (z_65.1 h0 26)) (C := RX18) (T := TX18) (N := 78) hx hb hts iwd_X18_doOne_X18 hown hK hP h0 (Wd_ob kg_1 sg_1 (by decide)) rfl 26 (by decide) (hts _ md_X18_doOne_5) (fun _ h9 => h9) (fl_at (t := 0) rfl) dX18_doOne_220 ?_
          refine lv_i2l (v := ((z_65.1 h0 26) : Int32).toInt64) hx hb dX18_doOne_223 rfl ?_
          refine lv_ladd hx hb dX18_doOne_224 ?_
          refine va_put (D := (dC, dI)) (ci := 18) (v := .long ((z_65.2.1 h0 21) + (((z_65.1 h0 26) : Int32).toInt64))) (ty := .long) (C := RX18) (T := TX18) (N := 78) hx hb hts iwd_X18_doOne_X18 tyX18 tyX18_ok nmX18 hown hK hP hD hS h0 (Wd_ob kg_1 sg_1 (by decide)) rfl 21 (by decide) (hts _ md_X18_doOne_15) (fun _ h9 => h9) rfl (by decide +kernel) rfl rfl (by rw [fl_len]; decide) dX18_doOne_225 (fun H_66 locs hP2 hD2 hS2 => ?_)
          rw [Wd_sl sg_1 (by decide) rfl] at hP2 hD2
          obtain ⟨z_67, ez_67⟩ : ∃ w, w = sl z_65 h0 21 ((z_65.2.1 h0 21) + (((z_65.1 h0 26) : Int32).toInt64)) := ⟨_, rfl⟩
          rw [← ez_67] at hP2 hD2
          replace hf := lt_at ez_67 hf
          clear ez_67
          replace hP := hP2
          replace hD := hD2
          replace hS := hS2
          clear hP2 hD2 hS2
          exact B228 (z_67) ls H_66 locs ⟨lv_sub hl [1, 2] rfl, hP, hD, hS⟩ hf
        refine lv_icmp_ne (tgt := 173) hx hb dX18_doOne_162 (by decide) (fun c_68 => ?_) (fun c_68 => ?_)
        · skip
          rw [if_neg c_68] at hf
          refine lv_aload_n hx hb dX18_doOne_173 rfl (lv_at hl 3 rfl) ?_
          refine lv_iload_n hx hb dX18_doOne_174 rfl (lv_at hl 4 rfl) ?_
          refine lv_iload hx hb dX18_doOne_175 (lv_at hl 1 rfl) ?_
          refine lv_iload_n hx hb dX18_doOne_177 rfl (lv_at hl 2 rfl) ?_
          obtain ⟨z_69, _u, hfc, hf⟩ := cal_some hf
          have hFc := de_free hD hS hA
          refine va_callv (va_runV (As := [.int x0, .int r_32, .int r_25]) (rest := []) ⟨hx, hb, hml, hown, hts⟩ (de_X18_callOne l dC dI cy a sh n H.size F sk z_35 h0 x0 r_32 r_25 hfc) (cwV 3 hts gX18_doOne_X18_callOne rfl rfl rfl (by decide +kernel) ⟨Nat.le_of_ble_eq_true rfl, Nat.le_of_ble_eq_true rfl⟩) ⟨fun a U g mk q => by obtain ⟨q0, q1, qP, qK, qD, qN, qS⟩ := q; exact ⟨q0, q1, qP, va_K.moved (u := U) (U := U.calling g mk a) (Vm.Alike.refl U.vm) qK, qD, qN.same rfl, SKs.moved (u := U) (U := U.calling g mk a) (Vm.Alike.refl U.vm) qS⟩, va_recv hK hP (ci := 18) (q0 := h0) rfl (Wd_ob kg_1 sg_1 (by decide)), fun U hU hW => ⟨rfl, by rw [hU], by rw [hU]; exact hP, va_K.moved hW.alike hK, hD.weaken (fun _ _ _ _ => trivial), hN.warm hW, by rw [hU]; exact ((hSK.kept hS.2.1).narrow hFc).moved hW.alike⟩⟩ rfl rfl hl.1 rfl (lv_room (Nat.le_of_ble_eq_true rfl)) dX18_doOne_178 ⟨Nat.le_of_ble_eq_true rfl, Nat.le_of_ble_eq_true rfl⟩) hS (fun q _ h => hFc q h) hFc (fun u t H_70 locs ht hvm hw hB hz1 hk1 hS2 => ?_)
          obtain ⟨hP1, -, hD1⟩ := hB
          rw [ht] at hP1
          replace hD := hD1.weaken (fun _ _ _ h => hFc _ h)
          replace hP := hP1
          replace hS := hS2
          clear hP1 hD1 hS2 hFc hfc hz1 hk1 hvm ht
          exact B181 (z_69) ls H_70 locs ⟨lv_sub hl [3, 4] rfl, hP, hD, hS⟩ hf
        · skip
          rw [if_pos c_68] at hf
          refine lv_aload_n hx hb dX18_doOne_165 rfl (lv_at hl 3 rfl) ?_
          refine lv_iload_n hx hb dX18_doOne_166 rfl (lv_at hl 4 rfl) ?_
          obtain ⟨z_71, _u, hfc, hf⟩ := cal_some hf
          have hFc := de_free hD hS hA
          refine va_callv (va_runV (As := [.int x0]) (rest := []) ⟨hx, hb, hml, hown, hts⟩ (de_X18_publishOne l dC dI cy a sh n H.size F z_35 h0 x0 hfc) (cwV 1 hts gX18_doOne_X18_publishOne rfl rfl rfl (by decide +kernel) ⟨Nat.le_of_ble_eq_true rfl, Nat.le_of_ble_eq_true rfl⟩) ⟨fun a U g mk q => by obtain ⟨q0, q1, qP, qK, qD, qN⟩ := q; exact ⟨q0, q1, qP, va_K.moved (u := U) (U := U.calling g mk a) (Vm.Alike.refl U.vm) qK, qD, qN.same rfl⟩, va_recv hK hP (ci := 18) (q0 := h0) rfl (Wd_ob kg_1 sg_1 (by decide)), fun U hU hW => ⟨rfl, by rw [hU], by rw [hU]; exact hP, va_K.moved hW.alike hK, hD.weaken (fun _ _ _ _ => trivial), hN.warm hW⟩⟩ rfl rfl hl.1 rfl (lv_room (Nat.le_of_ble_eq_true rfl)) dX18_doOne_167 ⟨Nat.le_of_ble_eq_true rfl, Nat.le_of_ble_eq_true rfl⟩) hS (fun q _ h => hFc q h) hFc (fun u t H_72 locs ht hvm hw hB hz1 hk1 hS2 => ?_)
          obtain ⟨hP1, -, hD1⟩ := hB
          rw [ht] at hP1
          replace hD := hD1.weaken (fun _ _ _ h => hFc _ h)
          replace hP := hP1
          replace hS := hS2
          clear hP1 hD1 hS2 hFc hfc hz1 hk1 hvm ht
          refine lv_goto (tgt := 181) hx hb dX18_doOne_170 (by decide) ?_
          exact B181 (z_71) ls H_72 locs ⟨lv_sub hl [3, 4] rfl, hP, hD, hS⟩ hf
      · skip
        rw [if_neg c_49] at hf
        refine lv_aload_n hx hb dX18_doOne_145 rfl (lv_at hl 3 rfl) ?_
        refine lv_iconst (v := 3) hx hb dX18_doOne_146 (by decide) ?_
        refine lv_iload_n hx hb dX18_doOne_147 rfl (lv_at hl 0 rfl) ?_
        refine lv_i2l (v := (p_34 : Int32).toInt64) hx hb dX18_doOne_148 rfl ?_
        obtain ⟨z_73, _u, hfc, hf⟩ := cal_some hf
        have hFc := de_free hD hS hA
        refine va_callv (va_runV (As := [.int 3, .long ((p_34 : Int32).toInt64)]) (rest := []) ⟨hx, hb, hml, hown, hts⟩ (de_X18_end l dC dI cy a sh n H.size F z_35 h0 3 ((p_34 : Int32).toInt64) hfc) (cwV 2 hts gX18_doOne_X18_end rfl rfl rfl (by decide +kernel) ⟨Nat.le_of_ble_eq_true rfl, Nat.le_of_ble_eq_true rfl⟩) ⟨fun a U g mk q => by obtain ⟨q0, q1, qP, qK, qD, qN⟩ := q; exact ⟨q0, q1, qP, va_K.moved (u := U) (U := U.calling g mk a) (Vm.Alike.refl U.vm) qK, qD, qN.same rfl⟩, va_recv hK hP (ci := 18) (q0 := h0) rfl (Wd_ob kg_1 sg_1 (by decide)), fun U hU hW => ⟨rfl, by rw [hU], by rw [hU]; exact hP, va_K.moved hW.alike hK, hD.weaken (fun _ _ _ _ => trivial), hN.warm hW⟩⟩ rfl rfl hl.1 rfl (lv_room (Nat.le_of_ble_eq_true rfl)) dX18_doOne_149 ⟨Nat.le_of_ble_eq_true rfl, Nat.le_of_ble_eq_true rfl⟩) hS (fun q _ h => hFc q h) hFc (fun u t H_74 locs ht hvm hw hB hz1 hk1 hS2 => ?_)
        obtain ⟨hP1, -, hD1⟩ := hB
        rw [ht] at hP1
        replace hD := hD1.weaken (fun _ _ _ h => hFc _ h)
        replace hP := hP1
        replace hS := hS2
        clear hP1 hD1 hS2 hFc hfc hz1 hk1 hvm ht
        refine lv_goto (tgt := 228) hx hb dX18_doOne_152 (by decide) ?_
        exact B228 (z_73) ls H_74 locs ⟨lv_sub hl [3, 4] rfl, hP, hD, hS⟩ hf
    refine lv_if_ne (tgt := 141) hx hb dX18_doOne_120 (by decide) (fun c_75 => ?_) (fun c_75 => ?_)
    · skip
      rw [if_neg c_75] at hf
      exact B141 (z_31, p_27) ls H_33 locs ⟨lv_sub hl [1, 0, 2, 3, 4] rfl, hP, hD, hS⟩ hf
    · skip
      rw [if_pos c_75] at hf
      refine lv_aload_n hx hb dX18_doOne_123 rfl (lv_at hl 3 rfl) ?_
      obtain ⟨k_76, ek_76, hf⟩ := lnk_some hf
      refine va_get (D := (dC, dI)) (ci := 18) (v := .ref (a k_76)) (C := RX18) (T := TX18) (N := 78) hx hb hts iwd_X18_doOne_X18 hown hK hP h0 (Wd_ob kg_1 sg_1 (by decide)) rfl 54 (by decide) (hts _ md_X18_doOne_14) (fun _ h9 => h9) (fl_q rfl ek_76) dX18_doOne_124 ?_
      refine lv_iload_n hx hb dX18_doOne_127 rfl (lv_at hl 4 rfl) ?_
      obtain ⟨g_77, hf⟩ := grd_some hf
      obtain ⟨kg_77, sg_77, ig_77⟩ := okA_at g_77
      refine va_iald hx hb hK hP k_76 1 (Wd_ai kg_77 sg_77) rfl ig_77 dX18_doOne_128 ?_
      refine lv_iconst (v := 2) hx hb dX18_doOne_129 (by decide) ?_
      refine lv_icmp_ne (tgt := 141) hx hb dX18_doOne_130 (by decide) (fun c_78 => ?_) (fun c_78 => ?_)
      · skip
        rw [if_neg c_78] at hf
        exact B141 (z_31, p_27) ls H_33 locs ⟨lv_sub hl [1, 0, 2, 3, 4] rfl, hP, hD, hS⟩ hf
      · skip
        rw [if_pos c_78] at hf
        refine lv_aload_n hx hb dX18_doOne_133 rfl (lv_at hl 3 rfl) ?_
        refine lv_iload_n hx hb dX18_doOne_134 rfl (lv_at hl 4 rfl) ?_
        refine lv_iload hx hb dX18_doOne_135 (lv_at hl 0 rfl) ?_
        obtain ⟨z_79, r_80, hfc, hf⟩ := cal_some hf
        have hFc := de_free hD hS hA
        refine va_calli (va_runV (As := [.int x0, .int r_32]) (rest := []) ⟨hx, hb, hml, hown, hts⟩ (de_X18_refusal l dC dI cy a sh n H_33.size F z_31 h0 x0 r_32 hfc) (cwV 2 hts gX18_doOne_X18_refusal rfl rfl rfl (by decide +kernel) ⟨Nat.le_of_ble_eq_true rfl, Nat.le_of_ble_eq_true rfl⟩) ⟨fun a U g mk q => by obtain ⟨q0, q1, qP, qK, qD, qN⟩ := q; exact ⟨q0, q1, qP, va_K.moved (u := U) (U := U.calling g mk a) (Vm.Alike.refl U.vm) qK, qD, qN.same rfl⟩, va_recv hK hP (ci := 18) (q0 := h0) rfl (Wd_ob kg_1 sg_1 (by decide)), fun U hU hW => ⟨rfl, by rw [hU], by rw [hU]; exact hP, va_K.moved hW.alike hK, hD.weaken (fun _ _ _ _ => trivial), hN.warm hW⟩⟩ rfl rfl hl.1 rfl (lv_room (Nat.le_of_ble_eq_true rfl)) dX18_doOne_137 ⟨Nat.le_of_ble_eq_true rfl, Nat.le_of_ble_eq_true rfl⟩) hS (fun q _ h => hFc q h) hFc (fun rr u t H_81 locs ht hvm hw hB hz1 hk1 hS2 => ?_)
        rw [hw]
        clear hw
        obtain ⟨hP1, -, hD1⟩ := hB
        rw [ht] at hP1
        replace hD := hD1.weaken (fun _ _ _ h => hFc _ h)
        replace hP := hP1
        replace hS := hS2
        clear hP1 hD1 hS2 hFc hfc hz1 hk1 hvm ht
        refine lv_istore_n (lv' := [(3, .int r_80), (4, .int r_32), (2, .int r_25), (0, .ref (a h0)), (1, .int x0)]) hx hb dX18_doOne_140 rfl hl (by decide) rfl (fun ls hl2 => ?_)
        replace hl := hl2
        clear hl2
        exact B141 (z_79, r_80) ls H_81 locs ⟨lv_sub hl [0, 1, 2, 3, 4] rfl, hP, hD, hS⟩ hf
  refine lv_if_ge (tgt := 66) hx hb dX18_doOne_59 (by decide) (fun c_82 => ?_) (fun c_82 => ?_)
  · skip
    rw [if_pos c_82] at hf
    refine lv_aload_n hx hb dX18_doOne_66 rfl (lv_at hl 1 rfl) ?_
    obtain ⟨k_83, ek_83, hf⟩ := lnk_some hf
    refine va_get (D := (dC, dI)) (ci := 18) (v := .ref (a k_83)) (C := RX18) (T := TX18) (N := 78) hx hb hts iwd_X18_doOne_X18 hown hK hP h0 (Wd_ob kg_1 sg_1 (by decide)) rfl 2 (by decide) (hts _ md_X18_doOne_10) (fun _ h9 => h9) (fl_q rfl ek_83) dX18_doOne_67 ?_
    refine lv_iload_n hx hb dX18_doOne_70 rfl (lv_at hl 0 rfl) ?_
    obtain ⟨g_84, hf⟩ := grd_some hf
    obtain ⟨kg_84, sg_84, ig_84⟩ := okA_at g_84
    refine va_lald hx hb hK hP k_83 2 (Wd_al kg_84 sg_84) rfl ig_84 dX18_doOne_71 ?_
    refine lv_aload_n hx hb dX18_doOne_72 rfl (lv_at hl 1 rfl) ?_
    obtain ⟨k_85, ek_85, hf⟩ := lnk_some hf
    refine va_get (D := (dC, dI)) (ci := 18) (v := .ref (a k_85)) (C := RX18) (T := TX18) (N := 78) hx hb hts iwd_X18_doOne_X18 hown hK hP h0 (Wd_ob kg_1 sg_1 (by decide)) rfl 56 (by decide) (hts _ md_X18_doOne_11) (fun _ h9 => h9) (fl_q rfl ek_85) dX18_doOne_73 ?_
    refine lv_iload_n hx hb dX18_doOne_76 rfl (lv_at hl 2 rfl) ?_
    obtain ⟨g_86, hf⟩ := grd_some hf
    obtain ⟨kg_86, sg_86, ig_86⟩ := okA_at g_86
    refine va_lald hx hb hK hP k_85 2 (Wd_al kg_86 sg_86) rfl ig_86 dX18_doOne_77 ?_
    refine W.lcmp hx hb dX18_doOne_78 ?_
    refine lv_if_eq (tgt := 86) hx hb dX18_doOne_79 (by decide) (fun c_87 => ?_) (fun c_87 => ?_)
    · skip
      rw [lg_cmp_eq] at c_87
      rw [if_pos c_87] at hf
      refine lv_aload_n hx hb dX18_doOne_86 rfl (lv_at hl 1 rfl) ?_
      obtain ⟨k_88, ek_88, hf⟩ := lnk_some hf
      refine va_get (D := (dC, dI)) (ci := 18) (v := .ref (a k_88)) (C := RX18) (T := TX18) (N := 78) hx hb hts iwd_X18_doOne_X18 hown hK hP h0 (Wd_ob kg_1 sg_1 (by decide)) rfl 1 (by decide) (hts _ md_X18_doOne_12) (fun _ h9 => h9) (fl_q rfl ek_88) dX18_doOne_87 ?_
      refine lv_iload_n hx hb dX18_doOne_90 rfl (lv_at hl 0 rfl) ?_
      obtain ⟨g_89, hf⟩ := grd_some hf
      obtain ⟨kg_89, sg_89, ig_89⟩ := okA_at g_89
      refine va_lald hx hb hK hP k_88 2 (Wd_al kg_89 sg_89) rfl ig_89 dX18_doOne_91 ?_
      refine lv_aload_n hx hb dX18_doOne_92 rfl (lv_at hl 1 rfl) ?_
      refine va_get (D := (dC, dI)) (ci := 18) (v := .int (z_24.1 h0 25)) (C := RX18) (T := TX18) (N := 78) hx hb hts iwd_X18_doOne_X18 hown hK hP h0 (Wd_ob kg_1 sg_1 (by decide)) rfl 25 (by decide) (hts _ md_X18_doOne_4) (fun _ h9 => h9) (fl_at (t := 0) rfl) dX18_doOne_93 ?_
      refine lv_i2l (v := ((z_24.1 h0 25) : Int32).toInt64) hx hb dX18_doOne_96 rfl ?_
      refine W.lcmp hx hb dX18_doOne_97 ?_
      refine lv_if_ge (tgt := 105) hx hb dX18_doOne_98 (by decide) (fun c_90 => ?_) (fun c_90 => ?_)
      · skip
        rw [lg_cmp_ge] at c_90
        rw [if_pos c_90] at hf
        refine lv_iconst (v := 0) hx hb dX18_doOne_105 (by decide) ?_
        exact B106 (z_24, 0) ls H_26 locs ⟨lv_sub hl [0, 1, 2] rfl, hP, hD, hS⟩ hf
      · skip
        rw [lg_cmp_ge] at c_90
        rw [if_neg c_90] at hf
        refine lv_iconst (v := 3) hx hb dX18_doOne_101 (by decide) ?_
        refine lv_goto (tgt := 106) hx hb dX18_doOne_102 (by decide) ?_
        exact B106 (z_24, 3) ls H_26 locs ⟨lv_sub hl [0, 1, 2] rfl, hP, hD, hS⟩ hf
    · skip
      rw [lg_cmp_eq] at c_87
      rw [if_neg c_87] at hf
      refine lv_iconst (v := 2) hx hb dX18_doOne_82 (by decide) ?_
      refine lv_goto (tgt := 106) hx hb dX18_doOne_83 (by decide) ?_
      exact B106 (z_24, 2) ls H_26 locs ⟨lv_sub hl [0, 1, 2] rfl, hP, hD, hS⟩ hf
  · skip
    rw [if_neg c_82] at hf
    refine lv_iconst (v := 1) hx hb dX18_doOne_62 (by decide) ?_
    refine lv_goto (tgt := 106) hx hb dX18_doOne_63 (by decide) ?_
    exact B106 (z_24, 1) ls H_26 locs ⟨lv_sub hl [0, 1, 2] rfl, hP, hD, hS⟩ hf

theorem md_X18_execute_1 : (.fieldLink RX18 628 "ResourceLedgerModel" "done" "I" : Cond) ∈ wsX18_execute := List.mem_of_getElem? (i := 1) rfl
theorem iwd_X18_execute_X18 : ∀ w ∈ wsX180, w ∈ wsX18_execute := fun _ h => List.mem_cons_of_mem _ (List.mem_append_left _ (List.mem_append_left _ (List.mem_append_left _ (List.mem_append_left _ (List.mem_append_left _ (List.mem_append_right _ h))))))
theorem md_X18_execute_2 : (.fieldLink RX18 626 "ResourceLedgerModel" "count" "I" : Cond) ∈ wsX18_execute := List.mem_of_getElem? (i := 2) rfl
theorem md_X18_execute_3 : (.fieldLink RX18 575 "ResourceLedgerModel" "outcomes" "[I" : Cond) ∈ wsX18_execute := List.mem_of_getElem? (i := 3) rfl
set_option maxHeartbeats 4000000 in
set_option maxRecDepth 100000 in
theorem de_X18_execute (l : Launch) (dC : Nat → ClassId) (dI : Nat → Nat → Nat) (cy : Nat → ClassId) (a : Nat → Nat) (sh : Nat → Nat × Nat) (n sz : Nat) (F : Nat) (sk : Nat → Nat) (z : St) (h0 : Nat) {z8 : St} {r8 : Int32} (hf : fn_X18_execute F sh n z h0 = some (z8, r8)) : Met l yX18_execute wsX18_execute ({ frames := 57, cells := 0, slots := 0, locals := 1328 }) (va_Pc [.ref (a h0)] (fun U => U.heap.size = sz ∧ va_P (dC, dI) vwCl (Wd cy a sh n z) U.heap ∧ va_K (dC, dI) vwCl (TYS cy) U ∧ va_D (fun _ => True) (Wd cy a sh n z) ∧ NK U ∧ SKs sk (a CBK) (va_A (Wd cy a sh n z) sz) U U.heap)) (va_Qi (fun (r9 : Int32) (u : Unit) => r9 = r8) (fun u t => va_P (dC, dI) vwCl (Wd cy a sh n z8) t.heap ∧ va_K (dC, dI) vwCl (TYS cy) t ∧ va_D (va_A (Wd cy a sh n z) sz) (Wd cy a sh n z8)) (va_A (Wd cy a sh n z) sz)) 0 0 (va_A (Wd cy a sh n z) sz) := by
  refine Met.ofW (cc := cX18_execute) (maxL := 3) (ret := (some .int)) (by decide) rfl ?_
  intro p e s m args below meth c s₁ B hml hv
  obtain ⟨rfl, hsz, hP, hK, hD0, hN, hSK⟩ := hv
  have hx := B.exec
  have hb := B.bytes
  have hr := B.returns
  have hts := atoms_spec (ws := wsX18_execute) B.pre
  have hown : s.vm.findClass RX18 = some m.cls := findClass_of_methodNamed B.named
  have hlocks := B.notSynchronized
  subst hsz
  have hD := hD0.self (sz := s.heap.size)
  clear hD0
  generalize hAe : va_A (Wd cy a sh n z) s.heap.size = A at hD hSK ⊢
  have hA : ∀ q : Nat, s.heap.size ≤ q → A q := fun q h => by rw [← hAe]; exact Or.inr h
  clear hAe
  have hS : va_S A s.heap s.heap [] := va_S.rf
  have hl := lv_entry ([.ref (a h0)]) (n := 3) (Nat.le_of_ble_eq_true rfl)
  rw [lg_entry_eq]
  generalize (lg_sl ([.ref (a h0)]) ++ List.replicate (3 - (lg_sl ([.ref (a h0)])).length) Slot.unset).toArray = ls at hl ⊢
  replace hl : lv_has ls 3 [(0, .ref (a h0))] := hl
  unfold fn_X18_execute at hf
  refine de_start hS hP (fun H locs hS hP => ?_)
  refine lv_aload_n hx hb dX18_execute_0 rfl (lv_at hl 0 rfl) ?_
  obtain ⟨g_1, hf⟩ := grd_some hf
  obtain ⟨kg_1, sg_1⟩ := okO_at g_1
  refine va_get (D := (dC, dI)) (ci := 18) (v := .int (z.1 h0 53)) (C := RX18) (T := TX18) (N := 78) hx hb hts iwd_X18_execute_X18 hown hK hP h0 (Wd_ob kg_1 sg_1 (by decide)) rfl 53 (by decide) (hts _ md_X18_execute_1) (fun _ h9 => h9) (fl_at (t := 0) rfl) dX18_execute_1 ?_
  refine lv_aload_n hx hb dX18_execute_4 rfl (lv_at hl 0 rfl) ?_
  refine va_get (D := (dC, dI)) (ci := 18) (v := .int (z.1 h0 52)) (C := RX18) (T := TX18) (N := 78) hx hb hts iwd_X18_execute_X18 hown hK hP h0 (Wd_ob kg_1 sg_1 (by decide)) rfl 52 (by decide) (hts _ md_X18_execute_2) (fun _ h9 => h9) (fl_at (t := 0) rfl) dX18_execute_5 ?_
  refine lv_icmp_ne (tgt := 14) hx hb dX18_execute_8 (by decide) (fun c_2 => ?_) (fun c_2 => ?_)
  · skip
    rw [if_neg c_2] at hf
    refine lv_iconst (v := 0) hx hb dX18_execute_14 (by decide) ?_
    refine lv_istore_n (lv' := [(1, .int 0), (0, .ref (a h0))]) hx hb dX18_execute_15 rfl hl (by decide) rfl (fun ls hl2 => ?_)
    replace hl := hl2
    clear hl2
    refine lv_aload_n hx hb dX18_execute_16 rfl (lv_at hl 1 rfl) ?_
    refine va_get (D := (dC, dI)) (ci := 18) (v := .int (z.1 h0 53)) (C := RX18) (T := TX18) (N := 78) hx hb hts iwd_X18_execute_X18 hown hK hP h0 (Wd_ob kg_1 sg_1 (by decide)) rfl 53 (by decide) (hts _ md_X18_execute_1) (fun _ h9 => h9) (fl_at (t := 0) rfl) dX18_execute_17 ?_
    refine lv_topi (fun v_3 ev_3 => ?_)
    replace hf := lt_at ev_3 hf
    clear ev_3
    refine lv_istore_n (lv' := [(2, .int v_3), (1, .int 0), (0, .ref (a h0))]) hx hb dX18_execute_20 rfl hl (by decide) rfl (fun ls hl2 => ?_)
    replace hl := hl2
    clear hl2
    have hl0 : lv_has ls 3 [(2, .int v_3), (1, .int 0), (0, .ref (a h0))] := lv_sub hl [0, 1, 2] rfl
    refine de_loop (h := 21) (fun (x : St × Int32 × Int32) ls H locs => lv_has ls 3 [(2, .int x.2.2), (1, .int x.2.1), (0, .ref (a h0))] ∧ va_P (dC, dI) vwCl (Wd cy a sh n x.1) H ∧ va_D A (Wd cy a sh n x.1) ∧ va_S A s.heap H locs) (fun f x => fn_X18_execute_L21 F sh n h0 f x.1 x.2.1 x.2.2) (z8, r8) ?_ (fun _ => rfl) F (z, 0, v_3) ls H locs ⟨hl0, hP, hD, hS⟩ hf
    intro f_7 x ls H locs ih21 hI hf
    obtain ⟨z_6, p_4, p_5⟩ := x
    obtain ⟨hl2, hP2, hD2, hS2⟩ := hI
    replace hl : lv_has ls 3 [(2, .int p_5), (1, .int p_4), (0, .ref (a h0))] := hl2
    replace hP := hP2
    replace hD := hD2
    replace hS := hS2
    clear hl2 hP2 hD2 hS2 hl0
    replace hf := fn_X18_execute_L21_s hf
    refine lv_iload_n hx hb dX18_execute_21 rfl (lv_at hl 0 rfl) ?_
    refine lv_aload_n hx hb dX18_execute_22 rfl (lv_at hl 2 rfl) ?_
    refine va_get (D := (dC, dI)) (ci := 18) (v := .int (z_6.1 h0 52)) (C := RX18) (T := TX18) (N := 78) hx hb hts iwd_X18_execute_X18 hown hK hP h0 (Wd_ob kg_1 sg_1 (by decide)) rfl 52 (by decide) (hts _ md_X18_execute_2) (fun _ h9 => h9) (fl_at (t := 0) rfl) dX18_execute_23 ?_
    refine lv_icmp_ge (tgt := 57) hx hb dX18_execute_26 (by decide) (fun c_8 => ?_) (fun c_8 => ?_)
    · skip
      rw [if_pos c_8] at hf
      refine lv_aload_n hx hb dX18_execute_57 rfl (lv_at hl 2 rfl) ?_
      refine lv_aload_n hx hb dX18_execute_58 rfl (lv_at hl 2 rfl) ?_
      refine va_get (D := (dC, dI)) (ci := 18) (v := .int (z_6.1 h0 52)) (C := RX18) (T := TX18) (N := 78) hx hb hts iwd_X18_execute_X18 hown hK hP h0 (Wd_ob kg_1 sg_1 (by decide)) rfl 52 (by decide) (hts _ md_X18_execute_2) (fun _ h9 => h9) (fl_at (t := 0) rfl) dX18_execute_59 ?_
      refine va_put (D := (dC, dI)) (ci := 18) (v := .int (z_6.1 h0 52)) (ty := .int) (C := RX18) (T := TX18) (N := 78) hx hb hts iwd_X18_execute_X18 tyX18 tyX18_ok nmX18 hown hK hP hD hS h0 (Wd_ob kg_1 sg_1 (by decide)) rfl 53 (by decide) (hts _ md_X18_execute_1) (fun _ h9 => h9) rfl (by decide +kernel) rfl rfl (by rw [fl_len]; decide) dX18_execute_62 (fun H_9 locs hP2 hD2 hS2 => ?_)
      rw [Wd_si sg_1 (by decide) rfl] at hP2 hD2
      obtain ⟨z_10, ez_10⟩ : ∃ w, w = si z_6 h0 53 (z_6.1 h0 52) := ⟨_, rfl⟩
      rw [← ez_10] at hP2 hD2
      replace hf := lt_at ez_10 hf
      clear ez_10
      replace hP := hP2
      replace hD := hD2
      replace hS := hS2
      clear hP2 hD2 hS2
      refine lv_iload_n hx hb dX18_execute_65 rfl (lv_at hl 1 rfl) ?_
      obtain ⟨h8, h9⟩ := ret_some hf
      rw [h8, h9]
      exact W.iret (v := p_4) hx hb hr (fun t ht hW => ⟨⟨p_4, (), rfl, rfl, by rw [ht]; exact hP, va_K.moved hW.alike hK, hD⟩, hS.F ht⟩) hS.2.2 dX18_execute_66
    · skip
      rw [if_neg c_8] at hf
      refine lv_aload_n hx hb dX18_execute_29 rfl (lv_at hl 2 rfl) ?_
      refine lv_iload_n hx hb dX18_execute_30 rfl (lv_at hl 0 rfl) ?_
      obtain ⟨z_11, _u, hfc, hf⟩ := cal_some hf
      have hFc := de_free hD hS hA
      refine va_callv (va_runV (As := [.int p_5]) (rest := []) ⟨hx, hb, hml, hown, hts⟩ (de_X18_doOne l dC dI cy a sh n H.size F sk z_6 h0 p_5 hfc) (cwV 1 hts gX18_execute_X18_doOne rfl rfl rfl (by decide +kernel) ⟨Nat.le_of_ble_eq_true rfl, Nat.le_of_ble_eq_true rfl⟩) ⟨fun a U g mk q => by obtain ⟨q0, q1, qP, qK, qD, qN, qS⟩ := q; exact ⟨q0, q1, qP, va_K.moved (u := U) (U := U.calling g mk a) (Vm.Alike.refl U.vm) qK, qD, qN.same rfl, SKs.moved (u := U) (U := U.calling g mk a) (Vm.Alike.refl U.vm) qS⟩, va_recv hK hP (ci := 18) (q0 := h0) rfl (Wd_ob kg_1 sg_1 (by decide)), fun U hU hW => ⟨rfl, by rw [hU], by rw [hU]; exact hP, va_K.moved hW.alike hK, hD.weaken (fun _ _ _ _ => trivial), hN.warm hW, by rw [hU]; exact ((hSK.kept hS.2.1).narrow hFc).moved hW.alike⟩⟩ rfl rfl hl.1 rfl (lv_room (Nat.le_of_ble_eq_true rfl)) dX18_execute_31 ⟨Nat.le_of_ble_eq_true rfl, Nat.le_of_ble_eq_true rfl⟩) hS (fun q _ h => hFc q h) hFc (fun u t H_12 locs ht hvm hw hB hz1 hk1 hS2 => ?_)
      obtain ⟨hP1, -, hD1⟩ := hB
      rw [ht] at hP1
      replace hD := hD1.weaken (fun _ _ _ h => hFc _ h)
      replace hP := hP1
      replace hS := hS2
      clear hP1 hD1 hS2 hFc hfc hz1 hk1 hvm ht
      refine lv_iload_n hx hb dX18_execute_34 rfl (lv_at hl 1 rfl) ?_
      refine lv_aload_n hx hb dX18_execute_35 rfl (lv_at hl 2 rfl) ?_
      obtain ⟨k_13, ek_13, hf⟩ := lnk_some hf
      refine va_get (D := (dC, dI)) (ci := 18) (v := .ref (a k_13)) (C := RX18) (T := TX18) (N := 78) hx hb hts iwd_X18_execute_X18 hown hK hP h0 (Wd_ob kg_1 sg_1 (by decide)) rfl 66 (by decide) (hts _ md_X18_execute_3) (fun _ h9 => h9) (fl_q rfl ek_13) dX18_execute_36 ?_
      refine lv_iload_n hx hb dX18_execute_39 rfl (lv_at hl 0 rfl) ?_
      obtain ⟨g_14, hf⟩ := grd_some hf
      obtain ⟨kg_14, sg_14, ig_14⟩ := okA_at g_14
      refine va_iald hx hb hK hP k_13 1 (Wd_ai kg_14 sg_14) rfl ig_14 dX18_execute_40 ?_
      refine de_cut (h := 49) (fun (x : St × Int32) => [.int x.2, .int p_4]) (fun x ls H locs => lv_has ls 3 [(2, .int p_5), (0, .ref (a h0))] ∧ va_P (dC, dI) vwCl (Wd cy a sh n x.1) H ∧ va_D A (Wd cy a sh n x.1) ∧ va_S A s.heap H locs) (fun x => fn_X18_execute_B49 F sh n p_4 p_5 (fun z9 q1 q2 => fn_X18_execute_L21 F sh n h0 f_7 z9 q1 q2) x.1 x.2) (z8, r8) ?_ (fun B49 => ?_)
      · intro x ls H locs hI hf
        obtain ⟨z_16, p_15⟩ := x
        obtain ⟨hl2, hP2, hD2, hS2⟩ := hI
        replace hl : lv_has ls 3 [(2, .int p_5), (0, .ref (a h0))] := hl2
        replace hP := hP2
        replace hD := hD2
        replace hS := hS2
        clear hl2 hP2 hD2 hS2
        replace hf := fn_X18_execute_B49_s hf
        refine W.eq (g2 := F0 m 49 ls [.int p_15, .int p_4]) rfl ?_
        refine lv_iadd hx hb dX18_execute_49 ?_
        refine lv_topi (fun v_17 ev_17 => ?_)
        replace hf := lt_at ev_17 hf
        clear ev_17
        refine lv_istore_n (lv' := [(1, .int v_17), (2, .int p_5), (0, .ref (a h0))]) hx hb dX18_execute_50 rfl hl (by decide) rfl (fun ls hl2 => ?_)
        replace hl := hl2
        clear hl2
        refine lv_iinc (v := (p_5 + 1)) (lv' := [(2, .int (p_5 + 1)), (1, .int v_17), (0, .ref (a h0))]) hx hb dX18_execute_51 hl (k := 1) rfl rfl (by decide) rfl (fun ls hl2 => ?_)
        replace hl := hl2
        clear hl2
        refine lv_goto (tgt := 21) hx hb dX18_execute_54 (by decide) ?_
        exact ih21 (z_16, v_17, (p_5 + 1)) ls H locs ⟨lv_sub hl [0, 1, 2] rfl, hP, hD, hS⟩ hf
      refine lv_if_ne (tgt := 48) hx hb dX18_execute_41 (by decide) (fun c_18 => ?_) (fun c_18 => ?_)
      · skip
        rw [if_neg c_18] at hf
        refine lv_iconst (v := 0) hx hb dX18_execute_48 (by decide) ?_
        exact B49 (z_11, 0) ls H_12 locs ⟨lv_sub hl [0, 2] rfl, hP, hD, hS⟩ hf
      · skip
        rw [if_pos c_18] at hf
        refine lv_iconst (v := 1) hx hb dX18_execute_44 (by decide) ?_
        refine lv_goto (tgt := 49) hx hb dX18_execute_45 (by decide) ?_
        exact B49 (z_11, 1) ls H_12 locs ⟨lv_sub hl [0, 2] rfl, hP, hD, hS⟩ hf
  · skip
    rw [if_pos c_2] at hf
    refine lv_bipush (v := (-2)) hx hb dX18_execute_11 (by decide) ?_
    obtain ⟨h8, h9⟩ := ret_some hf
    rw [h8, h9]
    exact W.iret (v := (-2)) hx hb hr (fun t ht hW => ⟨⟨(-2), (), rfl, rfl, by rw [ht]; exact hP, va_K.moved hW.alike hK, hD⟩, hS.F ht⟩) hS.2.2 dX18_execute_13

