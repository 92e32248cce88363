theorem md_X13_back_1 : (.fieldLink RX13 21 "ResourceLedgerModel$Looker" "thereAt" "[Z" : Cond) ∈ wsX13_back := List.mem_of_getElem? (i := 1) rfl
theorem iwd_X13_back_X13 : ∀ w ∈ wsX130, w ∈ wsX13_back := fun _ h => List.mem_cons_of_mem _ (List.mem_append_left _ (List.mem_append_right _ h))
theorem md_X13_back_2 : (.fieldLink RX13 39 "ResourceLedgerModel$Looker" "there" "[Z" : Cond) ∈ wsX13_back := List.mem_of_getElem? (i := 2) rfl
theorem md_X13_back_8 : (.fieldLink RX13 7 "ResourceLedgerModel$Looker" "localTypes" "[J" : Cond) ∈ wsX13_back := List.mem_of_getElem? (i := 8) rfl
theorem md_X13_back_3 : (.fieldLink RX13 42 "ResourceLedgerModel$Looker" "points" "[J" : Cond) ∈ wsX13_back := List.mem_of_getElem? (i := 3) rfl
theorem md_X13_back_4 : (.fieldLink RX13 24 "ResourceLedgerModel$Looker" "originsAt" "[J" : Cond) ∈ wsX13_back := List.mem_of_getElem? (i := 4) rfl
theorem md_X13_back_5 : (.constantLong RX13 226 (-1) : Cond) ∈ wsX13_back := List.mem_of_getElem? (i := 5) rfl
theorem md_X13_back_6 : (.fieldLink RX13 45 "ResourceLedgerModel$Looker" "within" "[Z" : Cond) ∈ wsX13_back := List.mem_of_getElem? (i := 6) rfl
theorem md_X13_back_7 : (.fieldLink RX13 27 "ResourceLedgerModel$Looker" "insideAt" "[Z" : Cond) ∈ wsX13_back := List.mem_of_getElem? (i := 7) rfl
set_option maxHeartbeats 4000000 in
set_option maxRecDepth 100000 in
theorem de_X13_back (l : Launch) (dC : Nat → ClassId) (dI : Nat → Nat → Nat) (cy : Nat → ClassId) (a : Nat → Nat) (sh : Nat → Nat × Nat) (n sz : Nat) (F : Nat) (z : St) (h0 : Nat) (x0 : Int32) (x1 : Int32) {z8 : St} {r8 : Unit} (hf : fn_X13_back F sh n z h0 x0 x1 = some (z8, r8)) : Met l yX13_back wsX13_back ({ frames := 4, cells := 0, slots := 0, locals := 94 }) (va_Pc [.ref (a h0), .int x0, .int x1] (fun U => U.heap.size = sz ∧ va_P (dC, dI) vwCl (Wd cy a sh n z) U.heap ∧ va_K (dC, dI) vwCl (TYS cy) U ∧ va_D (fun _ => True) (Wd cy a sh n z) ∧ NK U)) (va_Qv (fun u : Unit => True) (fun u t => va_P (dC, dI) vwCl (Wd cy a sh n z8) t.heap ∧ va_K (dC, dI) vwCl (TYS cy) t ∧ va_D (va_A (Wd cy a sh n z) sz) (Wd cy a sh n z8)) (va_A (Wd cy a sh n z) sz)) 0 0 (va_A (Wd cy a sh n z) sz) := by
  refine Met.ofW (cc := cX13_back) (maxL := 3) (ret := none) (by decide) rfl ?_
  intro p e s m args below meth c s₁ B hml hv
  obtain ⟨rfl, hsz, hP, hK, hD0, hN⟩ := hv
  have hx := B.exec
  have hb := B.bytes
  have hr := B.returns
  have hts := atoms_spec (ws := wsX13_back) B.pre
  have hown : s.vm.findClass RX13 = some m.cls := findClass_of_methodNamed B.named
  have hlocks := B.notSynchronized
  subst hsz
  have hD := hD0.self (sz := s.heap.size)
  clear hD0
  generalize hAe : va_A (Wd cy a sh n z) s.heap.size = A at hD ⊢
  have hA : ∀ q : Nat, s.heap.size ≤ q → A q := fun q h => by rw [← hAe]; exact Or.inr h
  clear hAe
  have hS : va_S A s.heap s.heap [] := va_S.rf
  have hl := lv_entry ([.ref (a h0), .int x0, .int x1]) (n := 3) (Nat.le_of_ble_eq_true rfl)
  rw [lg_entry_eq]
  generalize (lg_sl ([.ref (a h0), .int x0, .int x1]) ++ List.replicate (3 - (lg_sl ([.ref (a h0), .int x0, .int x1])).length) Slot.unset).toArray = ls at hl ⊢
  replace hl : lv_has ls 3 [(0, .ref (a h0)), (1, .int x0), (2, .int x1)] := hl
  unfold fn_X13_back at hf
  refine de_start hS hP (fun H locs hS hP => ?_)
  refine lv_aload_n hx hb dX13_back_0 rfl (lv_at hl 0 rfl) ?_
  obtain ⟨g_1, hf⟩ := grd_some hf
  obtain ⟨kg_1, sg_1⟩ := okO_at g_1
  obtain ⟨k_2, ek_2, hf⟩ := lnk_some hf
  refine va_get (D := (dC, dI)) (ci := 13) (v := .ref (a k_2)) (C := RX13) (T := TX13) (N := 22) hx hb hts iwd_X13_back_X13 hown hK hP h0 (Wd_ob kg_1 sg_1 (by decide)) rfl 8 (by decide) (hts _ md_X13_back_1) (fun _ h9 => h9) (fl_q rfl ek_2) dX13_back_1 ?_
  refine lv_iload_n hx hb dX13_back_4 rfl (lv_at hl 1 rfl) ?_
  obtain ⟨g_3, hf⟩ := grd_some hf
  obtain ⟨kg_3, sg_3, ig_3⟩ := okA_at g_3
  refine va_zald hx hb hK hP k_2 3 (Wd_az kg_3 sg_3) rfl ig_3 dX13_back_5 ?_
  refine lv_if_eq (tgt := 72) hx hb dX13_back_6 (by decide) (fun c_4 => ?_) (fun c_4 => ?_)
  · skip
    rw [if_pos c_4] at hf
    refine lv_aload_n hx hb dX13_back_72 rfl (lv_at hl 0 rfl) ?_
    refine lv_aload_n hx hb dX13_back_73 rfl (lv_at hl 0 rfl) ?_
    obtain ⟨k_5, ek_5, hf⟩ := lnk_some hf
    refine va_get (D := (dC, dI)) (ci := 13) (v := .ref (a k_5)) (C := RX13) (T := TX13) (N := 22) hx hb hts iwd_X13_back_X13 hown hK hP h0 (Wd_ob kg_1 sg_1 (by decide)) rfl 15 (by decide) (hts _ md_X13_back_2) (fun _ h9 => h9) (fl_q rfl ek_5) dX13_back_74 ?_
    refine lv_iload_n hx hb dX13_back_77 rfl (lv_at hl 2 rfl) ?_
    obtain ⟨g_6, hf⟩ := grd_some hf
    obtain ⟨kg_6, sg_6, ig_6⟩ := okA_at g_6
    refine va_zald hx hb hK hP k_5 3 (Wd_az kg_6 sg_6) rfl ig_6 dX13_back_78 ?_
    refine lv_if_eq (tgt := 96) hx hb dX13_back_79 (by decide) (fun c_7 => ?_) (fun c_7 => ?_)
    · skip
      rw [if_pos c_7] at hf
      refine lv_iconst (v := 1) hx hb dX13_back_96 (by decide) ?_
      refine lv_goto (tgt := 101) hx hb dX13_back_97 (by decide) ?_
      refine lv_bipush (v := 9) hx hb dX13_back_101 (by decide) ?_
      obtain ⟨z_8, _u, hfc, hf⟩ := cal_some hf
      have hFc := de_free hD hS hA
      refine va_callv (va_runV (As := [.int 1, .int 9]) (rest := []) ⟨hx, hb, hml, hown, hts⟩ (de_X13_need l dC dI cy a sh n H.size F z h0 1 9 hfc) (cwV 2 hts gX13_back_X13_need rfl rfl rfl (by decide +kernel) ⟨Nat.le_of_ble_eq_true rfl, Nat.le_of_ble_eq_true rfl⟩) ⟨fun a U g mk q => by obtain ⟨q0, q1, qP, qK, qD, qN⟩ := q; exact ⟨q0, q1, qP, va_K.moved (u := U) (U := U.calling g mk a) (Vm.Alike.refl U.vm) qK, qD, qN.same rfl⟩, va_recv hK hP (ci := 13) (q0 := h0) rfl (Wd_ob kg_1 sg_1 (by decide)), fun U hU hW => ⟨rfl, by rw [hU], by rw [hU]; exact hP, va_K.moved hW.alike hK, hD.weaken (fun _ _ _ _ => trivial), hN.warm hW⟩⟩ rfl rfl hl.1 rfl (lv_room (Nat.le_of_ble_eq_true rfl)) dX13_back_103 ⟨Nat.le_of_ble_eq_true rfl, Nat.le_of_ble_eq_true rfl⟩) hS (fun q _ h => hFc q h) hFc (fun u t H_9 locs ht hvm hw hB hz1 hk1 hS2 => ?_)
      obtain ⟨hP1, -, hD1⟩ := hB
      rw [ht] at hP1
      replace hD := hD1.weaken (fun _ _ _ h => hFc _ h)
      replace hP := hP1
      replace hS := hS2
      clear hP1 hD1 hS2 hFc hfc hz1 hk1 hvm ht
      obtain ⟨h8, h9⟩ := ret_some hf
      rw [h8]
      exact W.vret hx hb hr (fun t ht hW => ⟨⟨(), rfl, trivial, by rw [ht]; exact hP, va_K.moved hW.alike hK, hD⟩, hS.F ht⟩) hS.2.2 dX13_back_106
    · skip
      rw [if_neg c_7] at hf
      refine lv_aload_n hx hb dX13_back_82 rfl (lv_at hl 0 rfl) ?_
      refine lv_aload_n hx hb dX13_back_83 rfl (lv_at hl 0 rfl) ?_
      obtain ⟨k_10, ek_10, hf⟩ := lnk_some hf
      refine va_get (D := (dC, dI)) (ci := 13) (v := .ref (a k_10)) (C := RX13) (T := TX13) (N := 22) hx hb hts iwd_X13_back_X13 hown hK hP h0 (Wd_ob kg_1 sg_1 (by decide)) rfl 3 (by decide) (hts _ md_X13_back_8) (fun _ h9 => h9) (fl_q rfl ek_10) dX13_back_84 ?_
      refine lv_iload_n hx hb dX13_back_87 rfl (lv_at hl 2 rfl) ?_
      obtain ⟨g_11, hf⟩ := grd_some hf
      obtain ⟨kg_11, sg_11, ig_11⟩ := okA_at g_11
      refine va_lald hx hb hK hP k_10 2 (Wd_al kg_11 sg_11) rfl ig_11 dX13_back_88 ?_
      refine lv_iconst (v := 2) hx hb dX13_back_89 (by decide) ?_
      obtain ⟨z_12, r_13, hfc, hf⟩ := cal_some hf
      have hFc := de_free hD hS hA
      refine va_calli (va_runV (As := [.long (z.2.1 k_10 x1.toNatClampNeg), .int 2]) (rest := [.ref (a h0)]) ⟨hx, hb, hml, hown, hts⟩ (de_X13_has l dC dI cy a sh n H.size F z h0 (z.2.1 k_10 x1.toNatClampNeg) 2 hfc) (cwV 2 hts gX13_back_X13_has rfl rfl rfl (by decide +kernel) ⟨Nat.le_of_ble_eq_true rfl, Nat.le_of_ble_eq_true rfl⟩) ⟨fun a U g mk q => by obtain ⟨q0, q1, qP, qK, qD, qN⟩ := q; exact ⟨q0, q1, qP, va_K.moved (u := U) (U := U.calling g mk a) (Vm.Alike.refl U.vm) qK, qD, qN.same rfl⟩, va_recv hK hP (ci := 13) (q0 := h0) rfl (Wd_ob kg_1 sg_1 (by decide)), fun U hU hW => ⟨rfl, by rw [hU], by rw [hU]; exact hP, va_K.moved hW.alike hK, hD.weaken (fun _ _ _ _ => trivial), hN.warm hW⟩⟩ rfl rfl hl.1 rfl (lv_room (Nat.le_of_ble_eq_true rfl)) dX13_back_90 ⟨Nat.le_of_ble_eq_true rfl, Nat.le_of_ble_eq_true rfl⟩) hS (fun q _ h => hFc q h) hFc (fun rr u t H_14 locs ht hvm hw hB hz1 hk1 hS2 => ?_)
      rw [hw]
      clear hw
      obtain ⟨hP1, -, hD1⟩ := hB
      rw [ht] at hP1
      replace hD := hD1.weaken (fun _ _ _ h => hFc _ h)
      replace hP := hP1
      replace hS := hS2
      clear hP1 hD1 hS2 hFc hfc hz1 hk1 hvm ht
      refine lv_if_eq (tgt := 100) hx hb dX13_back_93 (by decide) (fun c_15 => ?_) (fun c_15 => ?_)
      · skip
        rw [if_pos c_15] at hf
        refine lv_iconst (v := 0) hx hb dX13_back_100 (by decide) ?_
        refine lv_bipush (v := 9) hx hb dX13_back_101 (by decide) ?_
        obtain ⟨z_16, _u, hfc, hf⟩ := cal_some hf
        have hFc := de_free hD hS hA
        refine va_callv (va_runV (As := [.int 0, .int 9]) (rest := []) ⟨hx, hb, hml, hown, hts⟩ (de_X13_need l dC dI cy a sh n H_14.size F z_12 h0 0 9 hfc) (cwV 2 hts gX13_back_X13_need rfl rfl rfl (by decide +kernel) ⟨Nat.le_of_ble_eq_true rfl, Nat.le_of_ble_eq_true rfl⟩) ⟨fun a U g mk q => by obtain ⟨q0, q1, qP, qK, qD, qN⟩ := q; exact ⟨q0, q1, qP, va_K.moved (u := U) (U := U.calling g mk a) (Vm.Alike.refl U.vm) qK, qD, qN.same rfl⟩, va_recv hK hP (ci := 13) (q0 := h0) rfl (Wd_ob kg_1 sg_1 (by decide)), fun U hU hW => ⟨rfl, by rw [hU], by rw [hU]; exact hP, va_K.moved hW.alike hK, hD.weaken (fun _ _ _ _ => trivial), hN.warm hW⟩⟩ rfl rfl hl.1 rfl (lv_room (Nat.le_of_ble_eq_true rfl)) dX13_back_103 ⟨Nat.le_of_ble_eq_true rfl, Nat.le_of_ble_eq_true rfl⟩) hS (fun q _ h => hFc q h) hFc (fun u t H_17 locs ht hvm hw hB hz1 hk1 hS2 => ?_)
        obtain ⟨hP1, -, hD1⟩ := hB
        rw [ht] at hP1
        replace hD := hD1.weaken (fun _ _ _ h => hFc _ h)
        replace hP := hP1
        replace hS := hS2
        clear hP1 hD1 hS2 hFc hfc hz1 hk1 hvm ht
        obtain ⟨h8, h9⟩ := ret_some hf
        rw [h8]
        exact W.vret hx hb hr (fun t ht hW => ⟨⟨(), rfl, trivial, by rw [ht]; exact hP, va_K.moved hW.alike hK, hD⟩, hS.F ht⟩) hS.2.2 dX13_back_106
      · skip
        rw [if_neg c_15] at hf
        refine lv_iconst (v := 1) hx hb dX13_back_96 (by decide) ?_
        refine lv_goto (tgt := 101) hx hb dX13_back_97 (by decide) ?_
        refine lv_bipush (v := 9) hx hb dX13_back_101 (by decide) ?_
        obtain ⟨z_18, _u, hfc, hf⟩ := cal_some hf
        have hFc := de_free hD hS hA
        refine va_callv (va_runV (As := [.int 1, .int 9]) (rest := []) ⟨hx, hb, hml, hown, hts⟩ (de_X13_need l dC dI cy a sh n H_14.size F z_12 h0 1 9 hfc) (cwV 2 hts gX13_back_X13_need rfl rfl rfl (by decide +kernel) ⟨Nat.le_of_ble_eq_true rfl, Nat.le_of_ble_eq_true rfl⟩) ⟨fun a U g mk q => by obtain ⟨q0, q1, qP, qK, qD, qN⟩ := q; exact ⟨q0, q1, qP, va_K.moved (u := U) (U := U.calling g mk a) (Vm.Alike.refl U.vm) qK, qD, qN.same rfl⟩, va_recv hK hP (ci := 13) (q0 := h0) rfl (Wd_ob kg_1 sg_1 (by decide)), fun U hU hW => ⟨rfl, by rw [hU], by rw [hU]; exact hP, va_K.moved hW.alike hK, hD.weaken (fun _ _ _ _ => trivial), hN.warm hW⟩⟩ rfl rfl hl.1 rfl (lv_room (Nat.le_of_ble_eq_true rfl)) dX13_back_103 ⟨Nat.le_of_ble_eq_true rfl, Nat.le_of_ble_eq_true rfl⟩) hS (fun q _ h => hFc q h) hFc (fun u t H_19 locs ht hvm hw hB hz1 hk1 hS2 => ?_)
        obtain ⟨hP1, -, hD1⟩ := hB
        rw [ht] at hP1
        replace hD := hD1.weaken (fun _ _ _ h => hFc _ h)
        replace hP := hP1
        replace hS := hS2
        clear hP1 hD1 hS2 hFc hfc hz1 hk1 hvm ht
        obtain ⟨h8, h9⟩ := ret_some hf
        rw [h8]
        exact W.vret hx hb hr (fun t ht hW => ⟨⟨(), rfl, trivial, by rw [ht]; exact hP, va_K.moved hW.alike hK, hD⟩, hS.F ht⟩) hS.2.2 dX13_back_106
  · skip
    rw [if_neg c_4] at hf
    refine lv_aload_n hx hb dX13_back_9 rfl (lv_at hl 0 rfl) ?_
    refine lv_aload_n hx hb dX13_back_10 rfl (lv_at hl 0 rfl) ?_
    obtain ⟨k_20, ek_20, hf⟩ := lnk_some hf
    refine va_get (D := (dC, dI)) (ci := 13) (v := .ref (a k_20)) (C := RX13) (T := TX13) (N := 22) hx hb hts iwd_X13_back_X13 hown hK hP h0 (Wd_ob kg_1 sg_1 (by decide)) rfl 15 (by decide) (hts _ md_X13_back_2) (fun _ h9 => h9) (fl_q rfl ek_20) dX13_back_11 ?_
    refine lv_iload_n hx hb dX13_back_14 rfl (lv_at hl 2 rfl) ?_
    obtain ⟨g_21, hf⟩ := grd_some hf
    obtain ⟨kg_21, sg_21, ig_21⟩ := okA_at g_21
    refine va_zald hx hb hK hP k_20 3 (Wd_az kg_21 sg_21) rfl ig_21 dX13_back_15 ?_
    refine lv_if_eq (tgt := 63) hx hb dX13_back_16 (by decide) (fun c_22 => ?_) (fun c_22 => ?_)
    · skip
      rw [if_pos c_22] at hf
      refine lv_iconst (v := 0) hx hb dX13_back_63 (by decide) ?_
      refine lv_bipush (v := 9) hx hb dX13_back_64 (by decide) ?_
      obtain ⟨z_23, _u, hfc, hf⟩ := cal_some hf
      have hFc := de_free hD hS hA
      refine va_callv (va_runV (As := [.int 0, .int 9]) (rest := []) ⟨hx, hb, hml, hown, hts⟩ (de_X13_need l dC dI cy a sh n H.size F z h0 0 9 hfc) (cwV 2 hts gX13_back_X13_need rfl rfl rfl (by decide +kernel) ⟨Nat.le_of_ble_eq_true rfl, Nat.le_of_ble_eq_true rfl⟩) ⟨fun a U g mk q => by obtain ⟨q0, q1, qP, qK, qD, qN⟩ := q; exact ⟨q0, q1, qP, va_K.moved (u := U) (U := U.calling g mk a) (Vm.Alike.refl U.vm) qK, qD, qN.same rfl⟩, va_recv hK hP (ci := 13) (q0 := h0) rfl (Wd_ob kg_1 sg_1 (by decide)), fun U hU hW => ⟨rfl, by rw [hU], by rw [hU]; exact hP, va_K.moved hW.alike hK, hD.weaken (fun _ _ _ _ => trivial), hN.warm hW⟩⟩ rfl rfl hl.1 rfl (lv_room (Nat.le_of_ble_eq_true rfl)) dX13_back_66 ⟨Nat.le_of_ble_eq_true rfl, Nat.le_of_ble_eq_true rfl⟩) hS (fun q _ h => hFc q h) hFc (fun u t H_24 locs ht hvm hw hB hz1 hk1 hS2 => ?_)
      obtain ⟨hP1, -, hD1⟩ := hB
      rw [ht] at hP1
      replace hD := hD1.weaken (fun _ _ _ h => hFc _ h)
      replace hP := hP1
      replace hS := hS2
      clear hP1 hD1 hS2 hFc hfc hz1 hk1 hvm ht
      refine lv_goto (tgt := 106) hx hb dX13_back_69 (by decide) ?_
      obtain ⟨h8, h9⟩ := ret_some hf
      rw [h8]
      exact W.vret hx hb hr (fun t ht hW => ⟨⟨(), rfl, trivial, by rw [ht]; exact hP, va_K.moved hW.alike hK, hD⟩, hS.F ht⟩) hS.2.2 dX13_back_106
    · skip
      rw [if_neg c_22] at hf
      refine lv_aload_n hx hb dX13_back_19 rfl (lv_at hl 0 rfl) ?_
      obtain ⟨k_25, ek_25, hf⟩ := lnk_some hf
      refine va_get (D := (dC, dI)) (ci := 13) (v := .ref (a k_25)) (C := RX13) (T := TX13) (N := 22) hx hb hts iwd_X13_back_X13 hown hK hP h0 (Wd_ob kg_1 sg_1 (by decide)) rfl 16 (by decide) (hts _ md_X13_back_3) (fun _ h9 => h9) (fl_q rfl ek_25) dX13_back_20 ?_
      refine lv_iload_n hx hb dX13_back_23 rfl (lv_at hl 2 rfl) ?_
      obtain ⟨g_26, hf⟩ := grd_some hf
      obtain ⟨kg_26, sg_26, ig_26⟩ := okA_at g_26
      refine va_lald hx hb hK hP k_25 2 (Wd_al kg_26 sg_26) rfl ig_26 dX13_back_24 ?_
      refine lv_aload_n hx hb dX13_back_25 rfl (lv_at hl 0 rfl) ?_
      obtain ⟨k_27, ek_27, hf⟩ := lnk_some hf
      refine va_get (D := (dC, dI)) (ci := 13) (v := .ref (a k_27)) (C := RX13) (T := TX13) (N := 22) hx hb hts iwd_X13_back_X13 hown hK hP h0 (Wd_ob kg_1 sg_1 (by decide)) rfl 9 (by decide) (hts _ md_X13_back_4) (fun _ h9 => h9) (fl_q rfl ek_27) dX13_back_26 ?_
      refine lv_iload_n hx hb dX13_back_29 rfl (lv_at hl 1 rfl) ?_
      obtain ⟨g_28, hf⟩ := grd_some hf
      obtain ⟨kg_28, sg_28, ig_28⟩ := okA_at g_28
      refine va_lald hx hb hK hP k_27 2 (Wd_al kg_28 sg_28) rfl ig_28 dX13_back_30 ?_
      refine lv_ldc2 hx hb hown (hts _ md_X13_back_5) dX13_back_31 ?_
      refine lv_lxor hx hb dX13_back_34 ?_
      refine lv_land hx hb dX13_back_35 ?_
      refine lv_lconst (v := 0) hx hb dX13_back_36 (by decide) ?_
      refine W.lcmp hx hb dX13_back_37 ?_
      refine lv_if_ne (tgt := 63) hx hb dX13_back_38 (by decide) (fun c_29 => ?_) (fun c_29 => ?_)
      · skip
        rw [lg_cmp_eq] at c_29
        rw [if_neg c_29] at hf
        refine lv_iconst (v := 0) hx hb dX13_back_63 (by decide) ?_
        refine lv_bipush (v := 9) hx hb dX13_back_64 (by decide) ?_
        obtain ⟨z_30, _u, hfc, hf⟩ := cal_some hf
        have hFc := de_free hD hS hA
        refine va_callv (va_runV (As := [.int 0, .int 9]) (rest := []) ⟨hx, hb, hml, hown, hts⟩ (de_X13_need l dC dI cy a sh n H.size F z h0 0 9 hfc) (cwV 2 hts gX13_back_X13_need rfl rfl rfl (by decide +kernel) ⟨Nat.le_of_ble_eq_true rfl, Nat.le_of_ble_eq_true rfl⟩) ⟨fun a U g mk q => by obtain ⟨q0, q1, qP, qK, qD, qN⟩ := q; exact ⟨q0, q1, qP, va_K.moved (u := U) (U := U.calling g mk a) (Vm.Alike.refl U.vm) qK, qD, qN.same rfl⟩, va_recv hK hP (ci := 13) (q0 := h0) rfl (Wd_ob kg_1 sg_1 (by decide)), fun U hU hW => ⟨rfl, by rw [hU], by rw [hU]; exact hP, va_K.moved hW.alike hK, hD.weaken (fun _ _ _ _ => trivial), hN.warm hW⟩⟩ rfl rfl hl.1 rfl (lv_room (Nat.le_of_ble_eq_true rfl)) dX13_back_66 ⟨Nat.le_of_ble_eq_true rfl, Nat.le_of_ble_eq_true rfl⟩) hS (fun q _ h => hFc q h) hFc (fun u t H_31 locs ht hvm hw hB hz1 hk1 hS2 => ?_)
        obtain ⟨hP1, -, hD1⟩ := hB
        rw [ht] at hP1
        replace hD := hD1.weaken (fun _ _ _ h => hFc _ h)
        replace hP := hP1
        replace hS := hS2
        clear hP1 hD1 hS2 hFc hfc hz1 hk1 hvm ht
        refine lv_goto (tgt := 106) hx hb dX13_back_69 (by decide) ?_
        obtain ⟨h8, h9⟩ := ret_some hf
        rw [h8]
        exact W.vret hx hb hr (fun t ht hW => ⟨⟨(), rfl, trivial, by rw [ht]; exact hP, va_K.moved hW.alike hK, hD⟩, hS.F ht⟩) hS.2.2 dX13_back_106
      · skip
        rw [lg_cmp_eq] at c_29
        rw [if_pos c_29] at hf
        refine lv_aload_n hx hb dX13_back_41 rfl (lv_at hl 0 rfl) ?_
        obtain ⟨k_32, ek_32, hf⟩ := lnk_some hf
        refine va_get (D := (dC, dI)) (ci := 13) (v := .ref (a k_32)) (C := RX13) (T := TX13) (N := 22) hx hb hts iwd_X13_back_X13 hown hK hP h0 (Wd_ob kg_1 sg_1 (by decide)) rfl 17 (by decide) (hts _ md_X13_back_6) (fun _ h9 => h9) (fl_q rfl ek_32) dX13_back_42 ?_
        refine lv_iload_n hx hb dX13_back_45 rfl (lv_at hl 2 rfl) ?_
        obtain ⟨g_33, hf⟩ := grd_some hf
        obtain ⟨kg_33, sg_33, ig_33⟩ := okA_at g_33
        refine va_zald hx hb hK hP k_32 3 (Wd_az kg_33 sg_33) rfl ig_33 dX13_back_46 ?_
        refine lv_if_eq (tgt := 59) hx hb dX13_back_47 (by decide) (fun c_34 => ?_) (fun c_34 => ?_)
        · skip
          rw [if_pos c_34] at hf
          refine lv_iconst (v := 1) hx hb dX13_back_59 (by decide) ?_
          refine lv_goto (tgt := 64) hx hb dX13_back_60 (by decide) ?_
          refine lv_bipush (v := 9) hx hb dX13_back_64 (by decide) ?_
          obtain ⟨z_35, _u, hfc, hf⟩ := cal_some hf
          have hFc := de_free hD hS hA
          refine va_callv (va_runV (As := [.int 1, .int 9]) (rest := []) ⟨hx, hb, hml, hown, hts⟩ (de_X13_need l dC dI cy a sh n H.size F z h0 1 9 hfc) (cwV 2 hts gX13_back_X13_need rfl rfl rfl (by decide +kernel) ⟨Nat.le_of_ble_eq_true rfl, Nat.le_of_ble_eq_true rfl⟩) ⟨fun a U g mk q => by obtain ⟨q0, q1, qP, qK, qD, qN⟩ := q; exact ⟨q0, q1, qP, va_K.moved (u := U) (U := U.calling g mk a) (Vm.Alike.refl U.vm) qK, qD, qN.same rfl⟩, va_recv hK hP (ci := 13) (q0 := h0) rfl (Wd_ob kg_1 sg_1 (by decide)), fun U hU hW => ⟨rfl, by rw [hU], by rw [hU]; exact hP, va_K.moved hW.alike hK, hD.weaken (fun _ _ _ _ => trivial), hN.warm hW⟩⟩ rfl rfl hl.1 rfl (lv_room (Nat.le_of_ble_eq_true rfl)) dX13_back_66 ⟨Nat.le_of_ble_eq_true rfl, Nat.le_of_ble_eq_true rfl⟩) hS (fun q _ h => hFc q h) hFc (fun u t H_36 locs ht hvm hw hB hz1 hk1 hS2 => ?_)
          obtain ⟨hP1, -, hD1⟩ := hB
          rw [ht] at hP1
          replace hD := hD1.weaken (fun _ _ _ h => hFc _ h)
          replace hP := hP1
          replace hS := hS2
          clear hP1 hD1 hS2 hFc hfc hz1 hk1 hvm ht
          refine lv_goto (tgt := 106) hx hb dX13_back_69 (by decide) ?_
          obtain ⟨h8, h9⟩ := ret_some hf
          rw [h8]
          exact W.vret hx hb hr (fun t ht hW => ⟨⟨(), rfl, trivial, by rw [ht]; exact hP, va_K.moved hW.alike hK, hD⟩, hS.F ht⟩) hS.2.2 dX13_back_106
        · skip
          rw [if_neg c_34] at hf
          refine lv_aload_n hx hb dX13_back_50 rfl (lv_at hl 0 rfl) ?_
          obtain ⟨k_37, ek_37, hf⟩ := lnk_some hf
          refine va_get (D := (dC, dI)) (ci := 13) (v := .ref (a k_37)) (C := RX13) (T := TX13) (N := 22) hx hb hts iwd_X13_back_X13 hown hK hP h0 (Wd_ob kg_1 sg_1 (by decide)) rfl 10 (by decide) (hts _ md_X13_back_7) (fun _ h9 => h9) (fl_q rfl ek_37) dX13_back_51 ?_
          refine lv_iload_n hx hb dX13_back_54 rfl (lv_at hl 1 rfl) ?_
          obtain ⟨g_38, hf⟩ := grd_some hf
          obtain ⟨kg_38, sg_38, ig_38⟩ := okA_at g_38
          refine va_zald hx hb hK hP k_37 3 (Wd_az kg_38 sg_38) rfl ig_38 dX13_back_55 ?_
          refine lv_if_eq (tgt := 63) hx hb dX13_back_56 (by decide) (fun c_39 => ?_) (fun c_39 => ?_)
          · skip
            rw [if_pos c_39] at hf
            refine lv_iconst (v := 0) hx hb dX13_back_63 (by decide) ?_
            refine lv_bipush (v := 9) hx hb dX13_back_64 (by decide) ?_
            obtain ⟨z_40, _u, hfc, hf⟩ := cal_some hf
            have hFc := de_free hD hS hA
            refine va_callv (va_runV (As := [.int 0, .int 9]) (rest := []) ⟨hx, hb, hml, hown, hts⟩ (de_X13_need l dC dI cy a sh n H.size F z h0 0 9 hfc) (cwV 2 hts gX13_back_X13_need rfl rfl rfl (by decide +kernel) ⟨Nat.le_of_ble_eq_true rfl, Nat.le_of_ble_eq_true rfl⟩) ⟨fun a U g mk q => by obtain ⟨q0, q1, qP, qK, qD, qN⟩ := q; exact ⟨q0, q1, qP, va_K.moved (u := U) (U := U.calling g mk a) (Vm.Alike.refl U.vm) qK, qD, qN.same rfl⟩, va_recv hK hP (ci := 13) (q0 := h0) rfl (Wd_ob kg_1 sg_1 (by decide)), fun U hU hW => ⟨rfl, by rw [hU], by rw [hU]; exact hP, va_K.moved hW.alike hK, hD.weaken (fun _ _ _ _ => trivial), hN.warm hW⟩⟩ rfl rfl hl.1 rfl (lv_room (Nat.le_of_ble_eq_true rfl)) dX13_back_66 ⟨Nat.le_of_ble_eq_true rfl, Nat.le_of_ble_eq_true rfl⟩) hS (fun q _ h => hFc q h) hFc (fun u t H_41 locs ht hvm hw hB hz1 hk1 hS2 => ?_)
            obtain ⟨hP1, -, hD1⟩ := hB
            rw [ht] at hP1
            replace hD := hD1.weaken (fun _ _ _ h => hFc _ h)
            replace hP := hP1
            replace hS := hS2
            clear hP1 hD1 hS2 hFc hfc hz1 hk1 hvm ht
            refine lv_goto (tgt := 106) hx hb dX13_back_69 (by decide) ?_
            obtain ⟨h8, h9⟩ := ret_some hf
            rw [h8]
            exact W.vret hx hb hr (fun t ht hW => ⟨⟨(), rfl, trivial, by rw [ht]; exact hP, va_K.moved hW.alike hK, hD⟩, hS.F ht⟩) hS.2.2 dX13_back_106
          · skip
            rw [if_neg c_39] at hf
            refine lv_iconst (v := 1) hx hb dX13_back_59 (by decide) ?_
            refine lv_goto (tgt := 64) hx hb dX13_back_60 (by decide) ?_
            refine lv_bipush (v := 9) hx hb dX13_back_64 (by decide) ?_
            obtain ⟨z_42, _u, hfc, hf⟩ := cal_some hf
            have hFc := de_free hD hS hA
            refine va_callv (va_runV (As := [.int 1, .int 9]) (rest := []) ⟨hx, hb, hml, hown, hts⟩ (de_X13_need l dC dI cy a sh n H.size F z h0 1 9 hfc) (cwV 2 hts gX13_back_X13_need rfl rfl rfl (by decide +kernel) ⟨Nat.le_of_ble_eq_true rfl, Nat.le_of_ble_eq_true rfl⟩) ⟨fun a U g mk q => by obtain ⟨q0, q1, qP, qK, qD, qN⟩ := q; exact ⟨q0, q1, qP, va_K.moved (u := U) (U := U.calling g mk a) (Vm.Alike.refl U.vm) qK, qD, qN.same rfl⟩, va_recv hK hP (ci := 13) (q0 := h0) rfl (Wd_ob kg_1 sg_1 (by decide)), fun U hU hW => ⟨rfl, by rw [hU], by rw [hU]; exact hP, va_K.moved hW.alike hK, hD.weaken (fun _ _ _ _ => trivial), hN.warm hW⟩⟩ rfl rfl hl.1 rfl (lv_room (Nat.le_of_ble_eq_true rfl)) dX13_back_66 ⟨Nat.le_of_ble_eq_true rfl, Nat.le_of_ble_eq_true rfl⟩) hS (fun q _ h => hFc q h) hFc (fun u t H_43 locs ht hvm hw hB hz1 hk1 hS2 => ?_)
            obtain ⟨hP1, -, hD1⟩ := hB
            rw [ht] at hP1
            replace hD := hD1.weaken (fun _ _ _ h => hFc _ h)
            replace hP := hP1
            replace hS := hS2
            clear hP1 hD1 hS2 hFc hfc hz1 hk1 hvm ht
            refine lv_goto (tgt := 106) hx hb dX13_back_69 (by decide) ?_
            obtain ⟨h8, h9⟩ := ret_some hf
            rw [h8]
            exact W.vret hx hb hr (fun t ht hW => ⟨⟨(), rfl, trivial, by rw [ht]; exact hP, va_K.moved hW.alike hK, hD⟩, hS.F ht⟩) hS.2.2 dX13_back_106

theorem md_X18_pack_1 : (.fieldLink RX18 369 "ResourceLedgerModel" "unit" "LResourceLedgerModel$Unit;" : Cond) ∈ wsX18_pack := List.mem_of_getElem? (i := 1) rfl
theorem iwd_X18_pack_X18 : ∀ w ∈ wsX180, w ∈ wsX18_pack := fun _ h => List.mem_cons_of_mem _ (List.mem_append_left _ (List.mem_append_left _ (List.mem_append_right _ h)))
theorem md_X18_pack_8 : (.initialized RX16 : Cond) ∈ wsX18_pack := List.mem_of_getElem? (i := 8) rfl
theorem md_X18_pack_7 : (.instanceMethod yX16_fieldsOf : Cond) ∈ wsX18_pack := List.mem_of_getElem? (i := 7) rfl
theorem md_X18_pack_9 : (.selects RX16 yX16_fieldsOf yX16_fieldsOf : Cond) ∈ wsX18_pack := List.mem_of_getElem? (i := 9) rfl
theorem md_X18_pack_2 : (.fieldLink RX18 312 "ResourceLedgerModel" "height" "I" : Cond) ∈ wsX18_pack := List.mem_of_getElem? (i := 2) rfl
theorem md_X18_pack_3 : (.fieldLink RX18 325 "ResourceLedgerModel" "bases" "[I" : Cond) ∈ wsX18_pack := List.mem_of_getElem? (i := 3) rfl
theorem md_X18_pack_4 : (.fieldLink RX18 328 "ResourceLedgerModel" "frames" "I" : Cond) ∈ wsX18_pack := List.mem_of_getElem? (i := 4) rfl
theorem md_X18_pack_5 : (.fieldLink RX18 40 "ResourceLedgerModel" "trees" "LResourceLedgerModel$Trees;" : Cond) ∈ wsX18_pack := List.mem_of_getElem? (i := 5) rfl
theorem md_X18_pack_6 : (.fieldLink RX18 309 "ResourceLedgerModel" "stack" "[I" : Cond) ∈ wsX18_pack := List.mem_of_getElem? (i := 6) rfl
set_option maxHeartbeats 4000000 in
set_option maxRecDepth 100000 in
theorem de_X18_pack (l : Launch) (dC : Nat → ClassId) (dI : Nat → Nat → Nat) (cy : Nat → ClassId) (a : Nat → Nat) (sh : Nat → Nat × Nat) (n sz : Nat) (F : Nat) (z : St) (h0 : Nat) (x0 : Int32) {z8 : St} {r8 : Unit} (hf : fn_X18_pack F sh n z h0 x0 = some (z8, r8)) : Met l yX18_pack wsX18_pack ({ frames := 4, cells := 0, slots := 0, locals := 84 }) (va_Pc [.ref (a h0), .int x0] (fun U => U.heap.size = sz ∧ va_P (dC, dI) vwCl (Wd cy a sh n z) U.heap ∧ va_K (dC, dI) vwCl (TYS cy) U ∧ va_D (fun _ => True) (Wd cy a sh n z) ∧ NK U)) (va_Qv (fun u : Unit => True) (fun u t => va_P (dC, dI) vwCl (Wd cy a sh n z8) t.heap ∧ va_K (dC, dI) vwCl (TYS cy) t ∧ va_D (va_A (Wd cy a sh n z) sz) (Wd cy a sh n z8)) (va_A (Wd cy a sh n z) sz)) 0 0 (va_A (Wd cy a sh n z) sz) := by
  refine Met.ofW (cc := cX18_pack) (maxL := 5) (ret := none) (by decide) rfl ?_
  intro p e s m args below meth c s₁ B hml hv
  obtain ⟨rfl, hsz, hP, hK, hD0, hN⟩ := hv
  have hx := B.exec
  have hb := B.bytes
  have hr := B.returns
  have hts := atoms_spec (ws := wsX18_pack) B.pre
  have hown : s.vm.findClass RX18 = some m.cls := findClass_of_methodNamed B.named
  have hlocks := B.notSynchronized
  subst hsz
  have hD := hD0.self (sz := s.heap.size)
  clear hD0
  generalize hAe : va_A (Wd cy a sh n z) s.heap.size = A at hD ⊢
  have hA : ∀ q : Nat, s.heap.size ≤ q → A q := fun q h => by rw [← hAe]; exact Or.inr h
  clear hAe
  have hS : va_S A s.heap s.heap [] := va_S.rf
  have hl := lv_entry ([.ref (a h0), .int x0]) (n := 5) (Nat.le_of_ble_eq_true rfl)
  rw [lg_entry_eq]
  generalize (lg_sl ([.ref (a h0), .int x0]) ++ List.replicate (5 - (lg_sl ([.ref (a h0), .int x0])).length) Slot.unset).toArray = ls at hl ⊢
  replace hl : lv_has ls 5 [(0, .ref (a h0)), (1, .int x0)] := hl
  unfold fn_X18_pack at hf
  refine de_start hS hP (fun H locs hS hP => ?_)
  refine lv_aload_n hx hb dX18_pack_0 rfl (lv_at hl 0 rfl) ?_
  obtain ⟨g_1, hf⟩ := grd_some hf
  obtain ⟨kg_1, sg_1⟩ := okO_at g_1
  obtain ⟨k_2, ek_2, hf⟩ := lnk_some hf
  refine va_get (D := (dC, dI)) (ci := 18) (v := .ref (a k_2)) (C := RX18) (T := TX18) (N := 78) hx hb hts iwd_X18_pack_X18 hown hK hP h0 (Wd_ob kg_1 sg_1 (by decide)) rfl 48 (by decide) (hts _ md_X18_pack_1) (fun _ h9 => h9) (fl_q rfl ek_2) dX18_pack_1 ?_
  refine lv_iload_n hx hb dX18_pack_4 rfl (lv_at hl 1 rfl) ?_
  obtain ⟨g_5, hf⟩ := grd_some hf
  obtain ⟨kg_5, sg_5⟩ := okO_at g_5
  obtain ⟨z_3, r_4, hfc, hf⟩ := cal_some hf
  have hFc := de_free hD hS hA
  refine va_calli (va_runVN (As := [.int x0]) (rest := []) ⟨hx, hb, hml, hown, hts⟩ (de_X16_fieldsOf l dC dI cy a sh n H.size F z k_2 x0 hfc) ⟨va_cnB 1 hts ggX18_pack_X16_fieldsOf rfl rfl rfl (NK_m_X18_192 hN) (hts _ md_X18_pack_8) ⟨by decide, by decide, by decide +kernel⟩ ⟨Nat.le_of_ble_eq_true rfl, Nat.le_of_ble_eq_true rfl⟩, (hts _ md_X18_pack_7), (hts _ md_X18_pack_9)⟩ ⟨fun a U g mk q => by obtain ⟨q0, q1, qP, qK, qD, qN⟩ := q; exact ⟨q0, q1, qP, va_K.moved (u := U) (U := U.calling g mk a) (Vm.Alike.refl U.vm) qK, qD, qN.same rfl⟩, va_recv hK hP (ci := 16) (q0 := k_2) rfl (Wd_ob kg_5 sg_5 (by decide)), fun U hU hW => ⟨rfl, by rw [hU], by rw [hU]; exact hP, va_K.moved hW.alike hK, hD.weaken (fun _ _ _ _ => trivial), hN.warm hW⟩⟩ rfl rfl hl.1 rfl (lv_room (Nat.le_of_ble_eq_true rfl)) dX18_pack_5 ⟨Nat.le_of_ble_eq_true rfl, Nat.le_of_ble_eq_true rfl⟩) hS (fun q _ h => hFc q h) hFc (fun rr u t H_6 locs ht hvm hw hB hz1 hk1 hS2 => ?_)
  rw [hw]
  clear hw
  obtain ⟨hP1, -, hD1⟩ := hB
  rw [ht] at hP1
  replace hD := hD1.weaken (fun _ _ _ h => hFc _ h)
  replace hP := hP1
  replace hS := hS2
  clear hP1 hD1 hS2 hFc hfc hz1 hk1 hvm ht
  refine lv_istore_n (lv' := [(2, .int r_4), (0, .ref (a h0)), (1, .int x0)]) hx hb dX18_pack_8 rfl hl (by decide) rfl (fun ls hl2 => ?_)
  replace hl := hl2
  clear hl2
  refine lv_aload_n hx hb dX18_pack_9 rfl (lv_at hl 1 rfl) ?_
  refine va_get (D := (dC, dI)) (ci := 18) (v := .int (z_3.1 h0 45)) (C := RX18) (T := TX18) (N := 78) hx hb hts iwd_X18_pack_X18 hown hK hP h0 (Wd_ob kg_1 sg_1 (by decide)) rfl 45 (by decide) (hts _ md_X18_pack_2) (fun _ h9 => h9) (fl_at (t := 0) rfl) dX18_pack_10 ?_
  refine lv_aload_n hx hb dX18_pack_13 rfl (lv_at hl 1 rfl) ?_
  obtain ⟨k_7, ek_7, hf⟩ := lnk_some hf
  refine va_get (D := (dC, dI)) (ci := 18) (v := .ref (a k_7)) (C := RX18) (T := TX18) (N := 78) hx hb hts iwd_X18_pack_X18 hown hK hP h0 (Wd_ob kg_1 sg_1 (by decide)) rfl 40 (by decide) (hts _ md_X18_pack_3) (fun _ h9 => h9) (fl_q rfl ek_7) dX18_pack_14 ?_
  refine lv_aload_n hx hb dX18_pack_17 rfl (lv_at hl 1 rfl) ?_
  refine va_get (D := (dC, dI)) (ci := 18) (v := .int (z_3.1 h0 36)) (C := RX18) (T := TX18) (N := 78) hx hb hts iwd_X18_pack_X18 hown hK hP h0 (Wd_ob kg_1 sg_1 (by decide)) rfl 36 (by decide) (hts _ md_X18_pack_4) (fun _ h9 => h9) (fl_at (t := 0) rfl) dX18_pack_18 ?_
  refine lv_iconst (v := 1) hx hb dX18_pack_21 (by decide) ?_
  refine lv_isub hx hb dX18_pack_22 ?_
  obtain ⟨g_8, hf⟩ := grd_some hf
  obtain ⟨kg_8, sg_8, ig_8⟩ := okA_at g_8
  refine va_iald hx hb hK hP k_7 1 (Wd_ai kg_8 sg_8) rfl ig_8 dX18_pack_23 ?_
  refine lv_isub hx hb dX18_pack_24 ?_
  refine lv_iload_n hx hb dX18_pack_25 rfl (lv_at hl 0 rfl) ?_
  refine de_cut (h := 33) (fun (x : St) => []) (fun x ls H locs => lv_has ls 5 [(2, .int r_4), (0, .ref (a h0)), (1, .int x0)] ∧ va_P (dC, dI) vwCl (Wd cy a sh n x) H ∧ va_D A (Wd cy a sh n x) ∧ va_S A s.heap H locs) (fun x => fn_X18_pack_B33 F sh n h0 x0 r_4 x) (z8, r8) ?_ (fun B33 => ?_)
  · intro x ls H locs hI hf
    obtain ⟨z_9, ez⟩ : ∃ w, w = x := ⟨_, rfl⟩
    subst ez
    obtain ⟨hl2, hP2, hD2, hS2⟩ := hI
    replace hl : lv_has ls 5 [(2, .int r_4), (0, .ref (a h0)), (1, .int x0)] := hl2
    replace hP := hP2
    replace hD := hD2
    replace hS := hS2
    clear hl2 hP2 hD2 hS2
    replace hf := fn_X18_pack_B33_s hf
    refine W.eq (g2 := F0 m 33 ls []) rfl ?_
    refine lv_aload_n hx hb dX18_pack_33 rfl (lv_at hl 1 rfl) ?_
    obtain ⟨z_10, r_11, hfc, hf⟩ := cal_some hf
    have hFc := de_free hD hS hA
    refine va_calli (va_runV (As := []) (rest := []) ⟨hx, hb, hml, hown, hts⟩ (de_X18_goesOn l dC dI cy a sh n H.size F z_9 h0 hfc) (cwV 0 hts gX18_pack_X18_goesOn rfl rfl rfl (by decide +kernel) ⟨Nat.le_of_ble_eq_true rfl, Nat.le_of_ble_eq_true rfl⟩) ⟨fun a U g mk q => by obtain ⟨q0, q1, qP, qK, qD, qN⟩ := q; exact ⟨q0, q1, qP, va_K.moved (u := U) (U := U.calling g mk a) (Vm.Alike.refl U.vm) qK, qD, qN.same rfl⟩, va_recv hK hP (ci := 18) (q0 := h0) rfl (Wd_ob kg_1 sg_1 (by decide)), fun U hU hW => ⟨rfl, by rw [hU], by rw [hU]; exact hP, va_K.moved hW.alike hK, hD.weaken (fun _ _ _ _ => trivial), hN.warm hW⟩⟩ rfl rfl hl.1 rfl (lv_room (Nat.le_of_ble_eq_true rfl)) dX18_pack_34 ⟨Nat.le_of_ble_eq_true rfl, Nat.le_of_ble_eq_true rfl⟩) hS (fun q _ h => hFc q h) hFc (fun rr u t H_12 locs ht hvm hw hB hz1 hk1 hS2 => ?_)
    rw [hw]
    clear hw
    obtain ⟨hP1, -, hD1⟩ := hB
    rw [ht] at hP1
    replace hD := hD1.weaken (fun _ _ _ h => hFc _ h)
    replace hP := hP1
    replace hS := hS2
    clear hP1 hD1 hS2 hFc hfc hz1 hk1 hvm ht
    refine lv_if_ne (tgt := 41) hx hb dX18_pack_37 (by decide) (fun c_13 => ?_) (fun c_13 => ?_)
    · skip
      rw [if_neg c_13] at hf
      refine lv_aload_n hx hb dX18_pack_41 rfl (lv_at hl 1 rfl) ?_
      obtain ⟨k_14, ek_14, hf⟩ := lnk_some hf
      refine va_get (D := (dC, dI)) (ci := 18) (v := .ref (a k_14)) (C := RX18) (T := TX18) (N := 78) hx hb hts iwd_X18_pack_X18 hown hK hP h0 (Wd_ob kg_1 sg_1 (by decide)) rfl 15 (by decide) (hts _ md_X18_pack_5) (fun _ h9 => h9) (fl_q rfl ek_14) dX18_pack_42 ?_
      refine lv_bipush (v := 6) hx hb dX18_pack_45 (by decide) ?_
      refine lv_lconst (v := 0) hx hb dX18_pack_47 (by decide) ?_
      refine lv_aload_n hx hb dX18_pack_48 rfl (lv_at hl 1 rfl) ?_
      obtain ⟨k_15, ek_15, hf⟩ := lnk_some hf
      refine va_get (D := (dC, dI)) (ci := 18) (v := .ref (a k_15)) (C := RX18) (T := TX18) (N := 78) hx hb hts iwd_X18_pack_X18 hown hK hP h0 (Wd_ob kg_1 sg_1 (by decide)) rfl 48 (by decide) (hts _ md_X18_pack_1) (fun _ h9 => h9) (fl_q rfl ek_15) dX18_pack_49 ?_
      refine lv_iload_n hx hb dX18_pack_52 rfl (lv_at hl 2 rfl) ?_
      obtain ⟨g_18, hf⟩ := grd_some hf
      obtain ⟨kg_18, sg_18⟩ := okO_at g_18
      obtain ⟨z_16, r_17, hfc, hf⟩ := cal_some hf
      have hFc := de_free hD hS hA
      refine va_calli (va_runV (As := [.int x0]) (rest := [.long 0, .int 6, .ref (a k_14)]) ⟨hx, hb, hml, hown, hts⟩ (de_X16_identity l dC dI cy a sh n H_12.size F z_10 k_15 x0 hfc) (cwV 1 hts gX18_pack_X16_identity rfl rfl rfl (by decide +kernel) ⟨Nat.le_of_ble_eq_true rfl, Nat.le_of_ble_eq_true rfl⟩) ⟨fun a U g mk q => by obtain ⟨q0, q1, qP, qK, qD, qN⟩ := q; exact ⟨q0, q1, qP, va_K.moved (u := U) (U := U.calling g mk a) (Vm.Alike.refl U.vm) qK, qD, qN.same rfl⟩, va_recv hK hP (ci := 16) (q0 := k_15) rfl (Wd_ob kg_18 sg_18 (by decide)), fun U hU hW => ⟨rfl, by rw [hU], by rw [hU]; exact hP, va_K.moved hW.alike hK, hD.weaken (fun _ _ _ _ => trivial), hN.warm hW⟩⟩ rfl rfl hl.1 rfl (lv_room (Nat.le_of_ble_eq_true rfl)) dX18_pack_53 ⟨Nat.le_of_ble_eq_true rfl, Nat.le_of_ble_eq_true rfl⟩) hS (fun q _ h => hFc q h) hFc (fun rr u t H_19 locs ht hvm hw hB hz1 hk1 hS2 => ?_)
      rw [hw]
      clear hw
      obtain ⟨hP1, -, hD1⟩ := hB
      rw [ht] at hP1
      replace hD := hD1.weaken (fun _ _ _ h => hFc _ h)
      replace hP := hP1
      replace hS := hS2
      clear hP1 hD1 hS2 hFc hfc hz1 hk1 hvm ht
      refine lv_i2l (v := (r_17 : Int32).toInt64) hx hb dX18_pack_56 rfl ?_
      obtain ⟨g_22, hf⟩ := grd_some hf
      obtain ⟨kg_22, sg_22⟩ := okO_at g_22
      obtain ⟨z_20, r_21, hfc, hf⟩ := cal_some hf
      have hFc := de_free hD hS hA
      refine va_calli (va_runV (As := [.int 6, .long 0, .long ((r_17 : Int32).toInt64)]) (rest := []) ⟨hx, hb, hml, hown, hts⟩ (de_X15_make l dC dI cy a sh n H_19.size F z_16 k_14 6 0 ((r_17 : Int32).toInt64) hfc) (cwV 3 hts gX18_pack_X15_make rfl rfl rfl (by decide +kernel) ⟨Nat.le_of_ble_eq_true rfl, Nat.le_of_ble_eq_true rfl⟩) ⟨fun a U g mk q => by obtain ⟨q0, q1, qP, qK, qD, qN⟩ := q; exact ⟨q0, q1, qP, va_K.moved (u := U) (U := U.calling g mk a) (Vm.Alike.refl U.vm) qK, qD, qN.same rfl⟩, va_recv hK hP (ci := 15) (q0 := k_14) rfl (Wd_ob kg_22 sg_22 (by decide)), fun U hU hW => ⟨rfl, by rw [hU], by rw [hU]; exact hP, va_K.moved hW.alike hK, hD.weaken (fun _ _ _ _ => trivial), hN.warm hW⟩⟩ rfl rfl hl.1 rfl (lv_room (Nat.le_of_ble_eq_true rfl)) dX18_pack_57 ⟨Nat.le_of_ble_eq_true rfl, Nat.le_of_ble_eq_true rfl⟩) hS (fun q _ h => hFc q h) hFc (fun rr u t H_23 locs ht hvm hw hB hz1 hk1 hS2 => ?_)
      rw [hw]
      clear hw
      obtain ⟨hP1, -, hD1⟩ := hB
      rw [ht] at hP1
      replace hD := hD1.weaken (fun _ _ _ h => hFc _ h)
      replace hP := hP1
      replace hS := hS2
      clear hP1 hD1 hS2 hFc hfc hz1 hk1 hvm ht
      refine lv_istore_n (lv' := [(3, .int r_21), (2, .int r_4), (0, .ref (a h0)), (1, .int x0)]) hx hb dX18_pack_60 rfl hl (by decide) rfl (fun ls hl2 => ?_)
      replace hl := hl2
      clear hl2
      refine lv_aload_n hx hb dX18_pack_61 rfl (lv_at hl 2 rfl) ?_
      refine va_get (D := (dC, dI)) (ci := 18) (v := .int (z_20.1 h0 45)) (C := RX18) (T := TX18) (N := 78) hx hb hts iwd_X18_pack_X18 hown hK hP h0 (Wd_ob kg_1 sg_1 (by decide)) rfl 45 (by decide) (hts _ md_X18_pack_2) (fun _ h9 => h9) (fl_at (t := 0) rfl) dX18_pack_62 ?_
      refine lv_iload_n hx hb dX18_pack_65 rfl (lv_at hl 1 rfl) ?_
      refine lv_isub hx hb dX18_pack_66 ?_
      refine lv_topi (fun v_24 ev_24 => ?_)
      replace hf := lt_at ev_24 hf
      clear ev_24
      refine lv_istore (lv' := [(4, .int v_24), (3, .int r_21), (2, .int r_4), (0, .ref (a h0)), (1, .int x0)]) hx hb dX18_pack_67 hl (by decide) rfl (fun ls hl2 => ?_)
      replace hl := hl2
      clear hl2
      have hl0 : lv_has ls 5 [(4, .int v_24), (3, .int r_21), (2, .int r_4), (0, .ref (a h0))] := lv_sub hl [0, 1, 2, 3] rfl
      refine de_loop (h := 69) (fun (x : St × Int32) ls H locs => lv_has ls 5 [(4, .int x.2), (3, .int r_21), (2, .int r_4), (0, .ref (a h0))] ∧ va_P (dC, dI) vwCl (Wd cy a sh n x.1) H ∧ va_D A (Wd cy a sh n x.1) ∧ va_S A s.heap H locs) (fun f x => fn_X18_pack_L69 F sh n h0 r_4 r_21 f x.1 x.2) (z8, r8) ?_ (fun _ => rfl) F (z_20, v_24) ls H_23 locs ⟨hl0, hP, hD, hS⟩ hf
      intro f_27 x ls H locs ih69 hI hf
      obtain ⟨z_26, p_25⟩ := x
      obtain ⟨hl2, hP2, hD2, hS2⟩ := hI
      replace hl : lv_has ls 5 [(4, .int p_25), (3, .int r_21), (2, .int r_4), (0, .ref (a h0))] := hl2
      replace hP := hP2
      replace hD := hD2
      replace hS := hS2
      clear hl2 hP2 hD2 hS2 hl0
      replace hf := fn_X18_pack_L69_s hf
      refine lv_iload hx hb dX18_pack_69 (lv_at hl 0 rfl) ?_
      refine lv_aload_n hx hb dX18_pack_71 rfl (lv_at hl 3 rfl) ?_
      refine va_get (D := (dC, dI)) (ci := 18) (v := .int (z_26.1 h0 45)) (C := RX18) (T := TX18) (N := 78) hx hb hts iwd_X18_pack_X18 hown hK hP h0 (Wd_ob kg_1 sg_1 (by decide)) rfl 45 (by decide) (hts _ md_X18_pack_2) (fun _ h9 => h9) (fl_at (t := 0) rfl) dX18_pack_72 ?_
      refine lv_icmp_ge (tgt := 99) hx hb dX18_pack_75 (by decide) (fun c_28 => ?_) (fun c_28 => ?_)
      · skip
        rw [if_pos c_28] at hf
        refine lv_aload_n hx hb dX18_pack_99 rfl (lv_at hl 3 rfl) ?_
        refine lv_dup hx hb dX18_pack_100 rfl ?_
        refine va_get (D := (dC, dI)) (ci := 18) (v := .int (z_26.1 h0 45)) (C := RX18) (T := TX18) (N := 78) hx hb hts iwd_X18_pack_X18 hown hK hP h0 (Wd_ob kg_1 sg_1 (by decide)) rfl 45 (by decide) (hts _ md_X18_pack_2) (fun _ h9 => h9) (fl_at (t := 0) rfl) dX18_pack_101 ?_
        refine lv_iload_n hx hb dX18_pack_104 rfl (lv_at hl 2 rfl) ?_
        refine lv_isub hx hb dX18_pack_105 ?_
        refine va_put (D := (dC, dI)) (ci := 18) (v := .int ((z_26.1 h0 45) - r_4)) (ty := .int) (C := RX18) (T := TX18) (N := 78) hx hb hts iwd_X18_pack_X18 tyX18 tyX18_ok nmX18 hown hK hP hD hS h0 (Wd_ob kg_1 sg_1 (by decide)) rfl 45 (by decide) (hts _ md_X18_pack_2) (fun _ h9 => h9) rfl (by decide +kernel) rfl rfl (by rw [fl_len]; decide) dX18_pack_106 (fun H_29 locs hP2 hD2 hS2 => ?_)
        rw [Wd_si sg_1 (by decide) rfl] at hP2 hD2
        obtain ⟨z_30, ez_30⟩ : ∃ w, w = si z_26 h0 45 ((z_26.1 h0 45) - r_4) := ⟨_, rfl⟩
        rw [← ez_30] at hP2 hD2
        replace hf := lt_at ez_30 hf
        clear ez_30
        replace hP := hP2
        replace hD := hD2
        replace hS := hS2
        clear hP2 hD2 hS2
        refine lv_aload_n hx hb dX18_pack_109 rfl (lv_at hl 3 rfl) ?_
        refine lv_iload_n hx hb dX18_pack_110 rfl (lv_at hl 1 rfl) ?_
        refine lv_iconst (v := 0) hx hb dX18_pack_111 (by decide) ?_
        obtain ⟨z_31, _u, hfc, hf⟩ := cal_some hf
        have hFc := de_free hD hS hA
        refine va_callv (va_runV (As := [.int r_21, .int 0]) (rest := []) ⟨hx, hb, hml, hown, hts⟩ (de_X18_push l dC dI cy a sh n H_29.size F z_30 h0 r_21 0 hfc) (cwV 2 hts gX18_pack_X18_push rfl rfl rfl (by decide +kernel) ⟨Nat.le_of_ble_eq_true rfl, Nat.le_of_ble_eq_true rfl⟩) ⟨fun a U g mk q => by obtain ⟨q0, q1, qP, qK, qD, qN⟩ := q; exact ⟨q0, q1, qP, va_K.moved (u := U) (U := U.calling g mk a) (Vm.Alike.refl U.vm) qK, qD, qN.same rfl⟩, va_recv hK hP (ci := 18) (q0 := h0) rfl (Wd_ob kg_1 sg_1 (by decide)), fun U hU hW => ⟨rfl, by rw [hU], by rw [hU]; exact hP, va_K.moved hW.alike hK, hD.weaken (fun _ _ _ _ => trivial), hN.warm hW⟩⟩ rfl rfl hl.1 rfl (lv_room (Nat.le_of_ble_eq_true rfl)) dX18_pack_112 ⟨Nat.le_of_ble_eq_true rfl, Nat.le_of_ble_eq_true rfl⟩) hS (fun q _ h => hFc q h) hFc (fun u t H_32 locs ht hvm hw hB hz1 hk1 hS2 => ?_)
        obtain ⟨hP1, -, hD1⟩ := hB
        rw [ht] at hP1
        replace hD := hD1.weaken (fun _ _ _ h => hFc _ h)
        replace hP := hP1
        replace hS := hS2
        clear hP1 hD1 hS2 hFc hfc hz1 hk1 hvm ht
        obtain ⟨h8, h9⟩ := ret_some hf
        rw [h8]
        exact W.vret hx hb hr (fun t ht hW => ⟨⟨(), rfl, trivial, by rw [ht]; exact hP, va_K.moved hW.alike hK, hD⟩, hS.F ht⟩) hS.2.2 dX18_pack_115
      · skip
        rw [if_neg c_28] at hf
        refine lv_aload_n hx hb dX18_pack_78 rfl (lv_at hl 3 rfl) ?_
        obtain ⟨k_33, ek_33, hf⟩ := lnk_some hf
        refine va_get (D := (dC, dI)) (ci := 18) (v := .ref (a k_33)) (C := RX18) (T := TX18) (N := 78) hx hb hts iwd_X18_pack_X18 hown hK hP h0 (Wd_ob kg_1 sg_1 (by decide)) rfl 15 (by decide) (hts _ md_X18_pack_5) (fun _ h9 => h9) (fl_q rfl ek_33) dX18_pack_79 ?_
        refine lv_iload_n hx hb dX18_pack_82 rfl (lv_at hl 1 rfl) ?_
        refine lv_aload_n hx hb dX18_pack_83 rfl (lv_at hl 3 rfl) ?_
        obtain ⟨k_34, ek_34, hf⟩ := lnk_some hf
        refine va_get (D := (dC, dI)) (ci := 18) (v := .ref (a k_34)) (C := RX18) (T := TX18) (N := 78) hx hb hts iwd_X18_pack_X18 hown hK hP h0 (Wd_ob kg_1 sg_1 (by decide)) rfl 43 (by decide) (hts _ md_X18_pack_6) (fun _ h9 => h9) (fl_q rfl ek_34) dX18_pack_84 ?_
        refine lv_iload hx hb dX18_pack_87 (lv_at hl 0 rfl) ?_
        obtain ⟨g_35, hf⟩ := grd_some hf
        obtain ⟨kg_35, sg_35, ig_35⟩ := okA_at g_35
        refine va_iald hx hb hK hP k_34 1 (Wd_ai kg_35 sg_35) rfl ig_35 dX18_pack_89 ?_
        obtain ⟨g_37, hf⟩ := grd_some hf
        obtain ⟨kg_37, sg_37⟩ := okO_at g_37
        obtain ⟨z_36, _u, hfc, hf⟩ := cal_some hf
        have hFc := de_free hD hS hA
        refine va_callv (va_runV (As := [.int r_21, .int (z_26.1 k_34 p_25.toNatClampNeg)]) (rest := []) ⟨hx, hb, hml, hown, hts⟩ (de_X15_add l dC dI cy a sh n H.size F z_26 k_33 r_21 (z_26.1 k_34 p_25.toNatClampNeg) hfc) (cwV 2 hts gX18_pack_X15_add rfl rfl rfl (by decide +kernel) ⟨Nat.le_of_ble_eq_true rfl, Nat.le_of_ble_eq_true rfl⟩) ⟨fun a U g mk q => by obtain ⟨q0, q1, qP, qK, qD, qN⟩ := q; exact ⟨q0, q1, qP, va_K.moved (u := U) (U := U.calling g mk a) (Vm.Alike.refl U.vm) qK, qD, qN.same rfl⟩, va_recv hK hP (ci := 15) (q0 := k_33) rfl (Wd_ob kg_37 sg_37 (by decide)), fun U hU hW => ⟨rfl, by rw [hU], by rw [hU]; exact hP, va_K.moved hW.alike hK, hD.weaken (fun _ _ _ _ => trivial), hN.warm hW⟩⟩ rfl rfl hl.1 rfl (lv_room (Nat.le_of_ble_eq_true rfl)) dX18_pack_90 ⟨Nat.le_of_ble_eq_true rfl, Nat.le_of_ble_eq_true rfl⟩) hS (fun q _ h => hFc q h) hFc (fun u t H_38 locs ht hvm hw hB hz1 hk1 hS2 => ?_)
        obtain ⟨hP1, -, hD1⟩ := hB
        rw [ht] at hP1
        replace hD := hD1.weaken (fun _ _ _ h => hFc _ h)
        replace hP := hP1
        replace hS := hS2
        clear hP1 hD1 hS2 hFc hfc hz1 hk1 hvm ht
        refine lv_iinc (v := (p_25 + 1)) (lv' := [(4, .int (p_25 + 1)), (3, .int r_21), (2, .int r_4), (0, .ref (a h0))]) hx hb dX18_pack_93 hl (k := 0) rfl rfl (by decide) rfl (fun ls hl2 => ?_)
        replace hl := hl2
        clear hl2
        refine lv_goto (tgt := 69) hx hb dX18_pack_96 (by decide) ?_
        exact ih69 (z_36, (p_25 + 1)) ls H_38 locs ⟨lv_sub hl [0, 1, 2, 3] rfl, hP, hD, hS⟩ hf
    · skip
      rw [if_pos c_13] at hf
      obtain ⟨h8, h9⟩ := ret_some hf
      rw [h8]
      exact W.vret hx hb hr (fun t ht hW => ⟨⟨(), rfl, trivial, by rw [ht]; exact hP, va_K.moved hW.alike hK, hD⟩, hS.F ht⟩) hS.2.2 dX18_pack_40
  refine lv_icmp_ge (tgt := 33) hx hb dX18_pack_26 (by decide) (fun c_39 => ?_) (fun c_39 => ?_)
  · skip
    rw [if_pos c_39] at hf
    exact B33 (z_3) ls H_6 locs ⟨lv_sub hl [0, 1, 2] rfl, hP, hD, hS⟩ hf
  · skip
    rw [if_neg c_39] at hf
    refine lv_aload_n hx hb dX18_pack_29 rfl (lv_at hl 1 rfl) ?_
    obtain ⟨z_40, _u, hfc, hf⟩ := cal_some hf
    have hFc := de_free hD hS hA
    refine va_callv (va_runV (As := []) (rest := []) ⟨hx, hb, hml, hown, hts⟩ (de_X18_slip l dC dI cy a sh n H_6.size F z_3 h0 hfc) (cwV 0 hts gX18_pack_X18_slip rfl rfl rfl (by decide +kernel) ⟨Nat.le_of_ble_eq_true rfl, Nat.le_of_ble_eq_true rfl⟩) ⟨fun a U g mk q => by obtain ⟨q0, q1, qP, qK, qD, qN⟩ := q; exact ⟨q0, q1, qP, va_K.moved (u := U) (U := U.calling g mk a) (Vm.Alike.refl U.vm) qK, qD, qN.same rfl⟩, va_recv hK hP (ci := 18) (q0 := h0) rfl (Wd_ob kg_1 sg_1 (by decide)), fun U hU hW => ⟨rfl, by rw [hU], by rw [hU]; exact hP, va_K.moved hW.alike hK, hD.weaken (fun _ _ _ _ => trivial), hN.warm hW⟩⟩ rfl rfl hl.1 rfl (lv_room (Nat.le_of_ble_eq_true rfl)) dX18_pack_30 ⟨Nat.le_of_ble_eq_true rfl, Nat.le_of_ble_eq_true rfl⟩) hS (fun q _ h => hFc q h) hFc (fun u t H_41 locs ht hvm hw hB hz1 hk1 hS2 => ?_)
    obtain ⟨hP1, -, hD1⟩ := hB
    rw [ht] at hP1
    replace hD := hD1.weaken (fun _ _ _ h => hFc _ h)
    replace hP := hP1
    replace hS := hS2
    clear hP1 hD1 hS2 hFc hfc hz1 hk1 hvm ht
    exact B33 (z_40) ls H_41 locs ⟨lv_sub hl [0, 1, 2] rfl, hP, hD, hS⟩ hf

theorem md_X18_shift_1 : (.fieldLink RX18 40 "ResourceLedgerModel" "trees" "LResourceLedgerModel$Trees;" : Cond) ∈ wsX18_shift := List.mem_of_getElem? (i := 1) rfl
theorem iwd_X18_shift_X18 : ∀ w ∈ wsX180, w ∈ wsX18_shift := fun _ h => List.mem_cons_of_mem _ (List.mem_append_left _ (List.mem_append_left _ (List.mem_append_right _ h)))
theorem iwd_X18_shift_X15 : ∀ w ∈ wsX150, w ∈ wsX18_shift := fun _ h => List.mem_cons_of_mem _ (List.mem_append_left _ (List.mem_append_right _ h))
theorem md_X18_shift_2 : (.fieldLink RX18 373 "ResourceLedgerModel" "wide" "LResourceLedgerModel$Wide;" : Cond) ∈ wsX18_shift := List.mem_of_getElem? (i := 2) rfl
theorem iwd_X18_shift_X17 : ∀ w ∈ wsX170, w ∈ wsX18_shift := fun _ h => List.mem_cons_of_mem _ (List.mem_append_right _ h)
set_option maxHeartbeats 4000000 in
set_option maxRecDepth 100000 in
theorem de_X18_shift (l : Launch) (dC : Nat → ClassId) (dI : Nat → Nat → Nat) (cy : Nat → ClassId) (a : Nat → Nat) (sh : Nat → Nat × Nat) (n sz : Nat) (F : Nat) (z : St) (h0 : Nat) (x0 : Int32) {z8 : St} {r8 : Unit} (hf : fn_X18_shift F sh n z h0 x0 = some (z8, r8)) : Met l yX18_shift wsX18_shift ({ frames := 4, cells := 0, slots := 0, locals := 86 }) (va_Pc [.ref (a h0), .int x0] (fun U => U.heap.size = sz ∧ va_P (dC, dI) vwCl (Wd cy a sh n z) U.heap ∧ va_K (dC, dI) vwCl (TYS cy) U ∧ va_D (fun _ => True) (Wd cy a sh n z) ∧ NK U)) (va_Qv (fun u : Unit => True) (fun u t => va_P (dC, dI) vwCl (Wd cy a sh n z8) t.heap ∧ va_K (dC, dI) vwCl (TYS cy) t ∧ va_D (va_A (Wd cy a sh n z) sz) (Wd cy a sh n z8)) (va_A (Wd cy a sh n z) sz)) 0 0 (va_A (Wd cy a sh n z) sz) := by
  refine Met.ofW (cc := cX18_shift) (maxL := 5) (ret := none) (by decide) rfl ?_
  intro p e s m args below meth c s₁ B hml hv
  obtain ⟨rfl, hsz, hP, hK, hD0, hN⟩ := hv
  have hx := B.exec
  have hb := B.bytes
  have hr := B.returns
  have hts := atoms_spec (ws := wsX18_shift) B.pre
  have hown : s.vm.findClass RX18 = some m.cls := findClass_of_methodNamed B.named
  have hlocks := B.notSynchronized
  subst hsz
  have hD := hD0.self (sz := s.heap.size)
  clear hD0
  generalize hAe : va_A (Wd cy a sh n z) s.heap.size = A at hD ⊢
  have hA : ∀ q : Nat, s.heap.size ≤ q → A q := fun q h => by rw [← hAe]; exact Or.inr h
  clear hAe
  have hS : va_S A s.heap s.heap [] := va_S.rf
  have hl := lv_entry ([.ref (a h0), .int x0]) (n := 5) (Nat.le_of_ble_eq_true rfl)
  rw [lg_entry_eq]
  generalize (lg_sl ([.ref (a h0), .int x0]) ++ List.replicate (5 - (lg_sl ([.ref (a h0), .int x0])).length) Slot.unset).toArray = ls at hl ⊢
  replace hl : lv_has ls 5 [(0, .ref (a h0)), (1, .int x0)] := hl
  unfold fn_X18_shift at hf
  refine de_start hS hP (fun H locs hS hP => ?_)
  refine lv_aload_n hx hb dX18_shift_0 rfl (lv_at hl 0 rfl) ?_
  refine lv_iconst (v := 2) hx hb dX18_shift_1 (by decide) ?_
  obtain ⟨g_3, hf⟩ := grd_some hf
  obtain ⟨kg_3, sg_3⟩ := okO_at g_3
  obtain ⟨z_1, r_2, hfc, hf⟩ := cal_some hf
  have hFc := de_free hD hS hA
  refine va_calli (va_runV (As := [.int 2]) (rest := []) ⟨hx, hb, hml, hown, hts⟩ (de_X18_take l dC dI cy a sh n H.size F z h0 2 hfc) (cwV 1 hts gX18_shift_X18_take rfl rfl rfl (by decide +kernel) ⟨Nat.le_of_ble_eq_true rfl, Nat.le_of_ble_eq_true rfl⟩) ⟨fun a U g mk q => by obtain ⟨q0, q1, qP, qK, qD, qN⟩ := q; exact ⟨q0, q1, qP, va_K.moved (u := U) (U := U.calling g mk a) (Vm.Alike.refl U.vm) qK, qD, qN.same rfl⟩, va_recv hK hP (ci := 18) (q0 := h0) rfl (Wd_ob kg_3 sg_3 (by decide)), fun U hU hW => ⟨rfl, by rw [hU], by rw [hU]; exact hP, va_K.moved hW.alike hK, hD.weaken (fun _ _ _ _ => trivial), hN.warm hW⟩⟩ rfl rfl hl.1 rfl (lv_room (Nat.le_of_ble_eq_true rfl)) dX18_shift_2 ⟨Nat.le_of_ble_eq_true rfl, Nat.le_of_ble_eq_true rfl⟩) hS (fun q _ h => hFc q h) hFc (fun rr u t H_4 locs ht hvm hw hB hz1 hk1 hS2 => ?_)
  rw [hw]
  clear hw
  obtain ⟨hP1, -, hD1⟩ := hB
  rw [ht] at hP1
  replace hD := hD1.weaken (fun _ _ _ h => hFc _ h)
  replace hP := hP1
  replace hS := hS2
  clear hP1 hD1 hS2 hFc hfc hz1 hk1 hvm ht
  refine lv_istore_n (lv' := [(2, .int r_2), (0, .ref (a h0)), (1, .int x0)]) hx hb dX18_shift_5 rfl hl (by decide) rfl (fun ls hl2 => ?_)
  replace hl := hl2
  clear hl2
  refine lv_aload_n hx hb dX18_shift_6 rfl (lv_at hl 1 rfl) ?_
  refine lv_iconst (v := 0) hx hb dX18_shift_7 (by decide) ?_
  obtain ⟨z_5, r_6, hfc, hf⟩ := cal_some hf
  have hFc := de_free hD hS hA
  refine va_calli (va_runV (As := [.int 0]) (rest := []) ⟨hx, hb, hml, hown, hts⟩ (de_X18_takeAny l dC dI cy a sh n H_4.size F z_1 h0 0 hfc) (cwV 1 hts gX18_shift_X18_takeAny rfl rfl rfl (by decide +kernel) ⟨Nat.le_of_ble_eq_true rfl, Nat.le_of_ble_eq_true rfl⟩) ⟨fun a U g mk q => by obtain ⟨q0, q1, qP, qK, qD, qN⟩ := q; exact ⟨q0, q1, qP, va_K.moved (u := U) (U := U.calling g mk a) (Vm.Alike.refl U.vm) qK, qD, qN.same rfl⟩, va_recv hK hP (ci := 18) (q0 := h0) rfl (Wd_ob kg_3 sg_3 (by decide)), fun U hU hW => ⟨rfl, by rw [hU], by rw [hU]; exact hP, va_K.moved hW.alike hK, hD.weaken (fun _ _ _ _ => trivial), hN.warm hW⟩⟩ rfl rfl hl.1 rfl (lv_room (Nat.le_of_ble_eq_true rfl)) dX18_shift_8 ⟨Nat.le_of_ble_eq_true rfl, Nat.le_of_ble_eq_true rfl⟩) hS (fun q _ h => hFc q h) hFc (fun rr u t H_7 locs ht hvm hw hB hz1 hk1 hS2 => ?_)
  rw [hw]
  clear hw
  obtain ⟨hP1, -, hD1⟩ := hB
  rw [ht] at hP1
  replace hD := hD1.weaken (fun _ _ _ h => hFc _ h)
  replace hP := hP1
  replace hS := hS2
  clear hP1 hD1 hS2 hFc hfc hz1 hk1 hvm ht
  refine lv_istore_n (lv' := [(3, .int r_6), (2, .int r_2), (0, .ref (a h0)), (1, .int x0)]) hx hb dX18_shift_11 rfl hl (by decide) rfl (fun ls hl2 => ?_)
  replace hl := hl2
  clear hl2
  refine lv_aload_n hx hb dX18_shift_12 rfl (lv_at hl 2 rfl) ?_
  obtain ⟨z_8, r_9, hfc, hf⟩ := cal_some hf
  have hFc := de_free hD hS hA
  refine va_calli (va_runV (As := []) (rest := []) ⟨hx, hb, hml, hown, hts⟩ (de_X18_goesOn l dC dI cy a sh n H_7.size F z_5 h0 hfc) (cwV 0 hts gX18_shift_X18_goesOn rfl rfl rfl (by decide +kernel) ⟨Nat.le_of_ble_eq_true rfl, Nat.le_of_ble_eq_true rfl⟩) ⟨fun a U g mk q => by obtain ⟨q0, q1, qP, qK, qD, qN⟩ := q; exact ⟨q0, q1, qP, va_K.moved (u := U) (U := U.calling g mk a) (Vm.Alike.refl U.vm) qK, qD, qN.same rfl⟩, va_recv hK hP (ci := 18) (q0 := h0) rfl (Wd_ob kg_3 sg_3 (by decide)), fun U hU hW => ⟨rfl, by rw [hU], by rw [hU]; exact hP, va_K.moved hW.alike hK, hD.weaken (fun _ _ _ _ => trivial), hN.warm hW⟩⟩ rfl rfl hl.1 rfl (lv_room (Nat.le_of_ble_eq_true rfl)) dX18_shift_13 ⟨Nat.le_of_ble_eq_true rfl, Nat.le_of_ble_eq_true rfl⟩) hS (fun q _ h => hFc q h) hFc (fun rr u t H_10 locs ht hvm hw hB hz1 hk1 hS2 => ?_)
  rw [hw]
  clear hw
  obtain ⟨hP1, -, hD1⟩ := hB
  rw [ht] at hP1
  replace hD := hD1.weaken (fun _ _ _ h => hFc _ h)
  replace hP := hP1
  replace hS := hS2
  clear hP1 hD1 hS2 hFc hfc hz1 hk1 hvm ht
  refine lv_if_ne (tgt := 20) hx hb dX18_shift_16 (by decide) (fun c_11 => ?_) (fun c_11 => ?_)
  · skip
    rw [if_neg c_11] at hf
    refine lv_aload_n hx hb dX18_shift_20 rfl (lv_at hl 2 rfl) ?_
    obtain ⟨k_12, ek_12, hf⟩ := lnk_some hf
    refine va_get (D := (dC, dI)) (ci := 18) (v := .ref (a k_12)) (C := RX18) (T := TX18) (N := 78) hx hb hts iwd_X18_shift_X18 hown hK hP h0 (Wd_ob kg_3 sg_3 (by decide)) rfl 15 (by decide) (hts _ md_X18_shift_1) (fun _ h9 => h9) (fl_q rfl ek_12) dX18_shift_21 ?_
    obtain ⟨g_13, hf⟩ := grd_some hf
    obtain ⟨kg_13, sg_13⟩ := okO_at g_13
    obtain ⟨k_14, ek_14, hf⟩ := lnk_some hf
    refine va_getN (D := (dC, dI)) (ci := 15) (v := .ref (a k_14)) (C := RX15) (T := TX15) (N := 6) hx hb hts iwd_X18_shift_X15 hown hK hP k_12 (Wd_ob kg_13 sg_13 (by decide)) rfl 0 (by decide) (va_Nw.use rfl (NK_f_X18_71 hN)) (fun _ h9 => h9) (fl_q rfl ek_14) dX18_shift_24 ?_
    refine lv_iload_n hx hb dX18_shift_27 rfl (lv_at hl 0 rfl) ?_
    obtain ⟨g_15, hf⟩ := grd_some hf
    obtain ⟨kg_15, sg_15, ig_15⟩ := okA_at g_15
    refine va_bald hx hb hK hP k_14 0 (Wd_ab kg_15 sg_15) rfl ig_15 dX18_shift_28 ?_
    obtain ⟨z_16, r_17, hfc, hf⟩ := cal_some hf
    have hFc := de_free hD hS hA
    refine va_calli (va_runS (As := [.int (z_8.1 k_14 r_6.toNatClampNeg)]) (rest := []) ⟨hx, hb, hml, hown, hts⟩ (de_X18_bitsOf l dC dI cy a sh n H_10.size F z_8 (z_8.1 k_14 r_6.toNatClampNeg) hfc) (va_cwS 1 hts gX18_shift_X18_bitsOf rfl rfl rfl (by decide +kernel) ⟨Nat.le_of_ble_eq_true rfl, Nat.le_of_ble_eq_true rfl⟩) ⟨fun a U g mk q => by obtain ⟨q0, q1, qP, qK, qD, qN⟩ := q; exact ⟨q0, q1, qP, va_K.moved (u := U) (U := U.calling g mk a) (Vm.Alike.refl U.vm) qK, qD, qN.same rfl⟩, fun U hU hW => ⟨rfl, by rw [hU], by rw [hU]; exact hP, va_K.moved hW.alike hK, hD.weaken (fun _ _ _ _ => trivial), hN.warm hW⟩⟩ rfl rfl hl.1 rfl (lv_room (Nat.le_of_ble_eq_true rfl)) dX18_shift_29 ⟨Nat.le_of_ble_eq_true rfl, Nat.le_of_ble_eq_true rfl⟩) hS (fun q _ h => hFc q h) hFc (fun rr u t H_18 locs ht hvm hw hB hz1 hk1 hS2 => ?_)
    rw [hw]
    clear hw
    obtain ⟨hP1, -, hD1⟩ := hB
    rw [ht] at hP1
    replace hD := hD1.weaken (fun _ _ _ h => hFc _ h)
    replace hP := hP1
    replace hS := hS2
    clear hP1 hD1 hS2 hFc hfc hz1 hk1 hvm ht
    refine lv_istore (lv' := [(4, .int r_17), (3, .int r_6), (2, .int r_2), (0, .ref (a h0)), (1, .int x0)]) hx hb dX18_shift_32 hl (by decide) rfl (fun ls hl2 => ?_)
    replace hl := hl2
    clear hl2
    refine lv_aload_n hx hb dX18_shift_34 rfl (lv_at hl 3 rfl) ?_
    obtain ⟨k_19, ek_19, hf⟩ := lnk_some hf
    refine va_get (D := (dC, dI)) (ci := 18) (v := .ref (a k_19)) (C := RX18) (T := TX18) (N := 78) hx hb hts iwd_X18_shift_X18 hown hK hP h0 (Wd_ob kg_3 sg_3 (by decide)) rfl 15 (by decide) (hts _ md_X18_shift_1) (fun _ h9 => h9) (fl_q rfl ek_19) dX18_shift_35 ?_
    obtain ⟨g_20, hf⟩ := grd_some hf
    obtain ⟨kg_20, sg_20⟩ := okO_at g_20
    obtain ⟨k_21, ek_21, hf⟩ := lnk_some hf
    refine va_getN (D := (dC, dI)) (ci := 15) (v := .ref (a k_21)) (C := RX15) (T := TX15) (N := 6) hx hb hts iwd_X18_shift_X15 hown hK hP k_19 (Wd_ob kg_20 sg_20 (by decide)) rfl 2 (by decide) (va_Nw.use rfl (NK_f_X18_77 hN)) (fun _ h9 => h9) (fl_q rfl ek_21) dX18_shift_38 ?_
    refine lv_iload_n hx hb dX18_shift_41 rfl (lv_at hl 2 rfl) ?_
    obtain ⟨g_22, hf⟩ := grd_some hf
    obtain ⟨kg_22, sg_22, ig_22⟩ := okA_at g_22
    refine va_lald hx hb hK hP k_21 2 (Wd_al kg_22 sg_22) rfl ig_22 dX18_shift_42 ?_
    refine lv_iload hx hb dX18_shift_43 (lv_at hl 0 rfl) ?_
    refine lv_i2l (v := (r_17 : Int32).toInt64) hx hb dX18_shift_45 rfl ?_
    refine W.lcmp hx hb dX18_shift_46 ?_
    refine lv_if_lt (tgt := 57) hx hb dX18_shift_47 (by decide) (fun c_23 => ?_) (fun c_23 => ?_)
    · skip
      rw [lg_cmp_lt] at c_23
      rw [if_pos c_23] at hf
      refine lv_aload_n hx hb dX18_shift_57 rfl (lv_at hl 3 rfl) ?_
      obtain ⟨k_24, ek_24, hf⟩ := lnk_some hf
      refine va_get (D := (dC, dI)) (ci := 18) (v := .ref (a k_24)) (C := RX18) (T := TX18) (N := 78) hx hb hts iwd_X18_shift_X18 hown hK hP h0 (Wd_ob kg_3 sg_3 (by decide)) rfl 17 (by decide) (hts _ md_X18_shift_2) (fun _ h9 => h9) (fl_q rfl ek_24) dX18_shift_58 ?_
      refine lv_iload_n hx hb dX18_shift_61 rfl (lv_at hl 4 rfl) ?_
      refine lv_aload_n hx hb dX18_shift_62 rfl (lv_at hl 3 rfl) ?_
      obtain ⟨k_25, ek_25, hf⟩ := lnk_some hf
      refine va_get (D := (dC, dI)) (ci := 18) (v := .ref (a k_25)) (C := RX18) (T := TX18) (N := 78) hx hb hts iwd_X18_shift_X18 hown hK hP h0 (Wd_ob kg_3 sg_3 (by decide)) rfl 15 (by decide) (hts _ md_X18_shift_1) (fun _ h9 => h9) (fl_q rfl ek_25) dX18_shift_63 ?_
      obtain ⟨g_26, hf⟩ := grd_some hf
      obtain ⟨kg_26, sg_26⟩ := okO_at g_26
      obtain ⟨k_27, ek_27, hf⟩ := lnk_some hf
      refine va_getN (D := (dC, dI)) (ci := 15) (v := .ref (a k_27)) (C := RX15) (T := TX15) (N := 6) hx hb hts iwd_X18_shift_X15 hown hK hP k_25 (Wd_ob kg_26 sg_26 (by decide)) rfl 1 (by decide) (va_Nw.use rfl (NK_f_X18_74 hN)) (fun _ h9 => h9) (fl_q rfl ek_27) dX18_shift_66 ?_
      refine lv_iload_n hx hb dX18_shift_69 rfl (lv_at hl 1 rfl) ?_
      obtain ⟨g_28, hf⟩ := grd_some hf
      obtain ⟨kg_28, sg_28, ig_28⟩ := okA_at g_28
      refine va_lald hx hb hK hP k_27 2 (Wd_al kg_28 sg_28) rfl ig_28 dX18_shift_70 ?_
      refine lv_aload_n hx hb dX18_shift_71 rfl (lv_at hl 3 rfl) ?_
      obtain ⟨k_29, ek_29, hf⟩ := lnk_some hf
      refine va_get (D := (dC, dI)) (ci := 18) (v := .ref (a k_29)) (C := RX18) (T := TX18) (N := 78) hx hb hts iwd_X18_shift_X18 hown hK hP h0 (Wd_ob kg_3 sg_3 (by decide)) rfl 15 (by decide) (hts _ md_X18_shift_1) (fun _ h9 => h9) (fl_q rfl ek_29) dX18_shift_72 ?_
      obtain ⟨g_30, hf⟩ := grd_some hf
      obtain ⟨kg_30, sg_30⟩ := okO_at g_30
      obtain ⟨k_31, ek_31, hf⟩ := lnk_some hf
      refine va_getN (D := (dC, dI)) (ci := 15) (v := .ref (a k_31)) (C := RX15) (T := TX15) (N := 6) hx hb hts iwd_X18_shift_X15 hown hK hP k_29 (Wd_ob kg_30 sg_30 (by decide)) rfl 2 (by decide) (va_Nw.use rfl (NK_f_X18_77 hN)) (fun _ h9 => h9) (fl_q rfl ek_31) dX18_shift_75 ?_
      refine lv_iload_n hx hb dX18_shift_78 rfl (lv_at hl 1 rfl) ?_
      obtain ⟨g_32, hf⟩ := grd_some hf
      obtain ⟨kg_32, sg_32, ig_32⟩ := okA_at g_32
      refine va_lald hx hb hK hP k_31 2 (Wd_al kg_32 sg_32) rfl ig_32 dX18_shift_79 ?_
      refine lv_aload_n hx hb dX18_shift_80 rfl (lv_at hl 3 rfl) ?_
      obtain ⟨k_33, ek_33, hf⟩ := lnk_some hf
      refine va_get (D := (dC, dI)) (ci := 18) (v := .ref (a k_33)) (C := RX18) (T := TX18) (N := 78) hx hb hts iwd_X18_shift_X18 hown hK hP h0 (Wd_ob kg_3 sg_3 (by decide)) rfl 15 (by decide) (hts _ md_X18_shift_1) (fun _ h9 => h9) (fl_q rfl ek_33) dX18_shift_81 ?_
      obtain ⟨g_34, hf⟩ := grd_some hf
      obtain ⟨kg_34, sg_34⟩ := okO_at g_34
      obtain ⟨k_35, ek_35, hf⟩ := lnk_some hf
      refine va_getN (D := (dC, dI)) (ci := 15) (v := .ref (a k_35)) (C := RX15) (T := TX15) (N := 6) hx hb hts iwd_X18_shift_X15 hown hK hP k_33 (Wd_ob kg_34 sg_34 (by decide)) rfl 2 (by decide) (va_Nw.use rfl (NK_f_X18_77 hN)) (fun _ h9 => h9) (fl_q rfl ek_35) dX18_shift_84 ?_
      refine lv_iload_n hx hb dX18_shift_87 rfl (lv_at hl 2 rfl) ?_
      obtain ⟨g_36, hf⟩ := grd_some hf
      obtain ⟨kg_36, sg_36, ig_36⟩ := okA_at g_36
      refine va_lald hx hb hK hP k_35 2 (Wd_al kg_36 sg_36) rfl ig_36 dX18_shift_88 ?_
      refine lv_l2i (v := ((z_16.2.1 k_35 r_2.toNatClampNeg) : Int64).toInt32) hx hb dX18_shift_89 rfl ?_
      refine lv_iload hx hb dX18_shift_90 (lv_at hl 0 rfl) ?_
      obtain ⟨g_38, hf⟩ := grd_some hf
      obtain ⟨kg_38, sg_38⟩ := okO_at g_38
      obtain ⟨z_37, _u, hfc, hf⟩ := cal_some hf
      have hFc := de_free hD hS hA
      refine va_callv (va_runV (As := [.int x0, .long (z_16.2.1 k_27 r_6.toNatClampNeg), .long (z_16.2.1 k_31 r_6.toNatClampNeg), .int (((z_16.2.1 k_35 r_2.toNatClampNeg) : Int64).toInt32), .int r_17]) (rest := []) ⟨hx, hb, hml, hown, hts⟩ (de_X17_shift l dC dI cy a sh n H_18.size F z_16 k_24 x0 (z_16.2.1 k_27 r_6.toNatClampNeg) (z_16.2.1 k_31 r_6.toNatClampNeg) (((z_16.2.1 k_35 r_2.toNatClampNeg) : Int64).toInt32) r_17 hfc) (cwV 5 hts gX18_shift_X17_shift rfl rfl rfl (by decide +kernel) ⟨Nat.le_of_ble_eq_true rfl, Nat.le_of_ble_eq_true rfl⟩) ⟨fun a U g mk q => by obtain ⟨q0, q1, qP, qK, qD, qN⟩ := q; exact ⟨q0, q1, qP, va_K.moved (u := U) (U := U.calling g mk a) (Vm.Alike.refl U.vm) qK, qD, qN.same rfl⟩, va_recv hK hP (ci := 17) (q0 := k_24) rfl (Wd_ob kg_38 sg_38 (by decide)), fun U hU hW => ⟨rfl, by rw [hU], by rw [hU]; exact hP, va_K.moved hW.alike hK, hD.weaken (fun _ _ _ _ => trivial), hN.warm hW⟩⟩ rfl rfl hl.1 rfl (lv_room (Nat.le_of_ble_eq_true rfl)) dX18_shift_92 ⟨Nat.le_of_ble_eq_true rfl, Nat.le_of_ble_eq_true rfl⟩) hS (fun q _ h => hFc q h) hFc (fun u t H_39 locs ht hvm hw hB hz1 hk1 hS2 => ?_)
      obtain ⟨hP1, -, hD1⟩ := hB
      rw [ht] at hP1
      replace hD := hD1.weaken (fun _ _ _ h => hFc _ h)
      replace hP := hP1
      replace hS := hS2
      clear hP1 hD1 hS2 hFc hfc hz1 hk1 hvm ht
      refine lv_aload_n hx hb dX18_shift_95 rfl (lv_at hl 3 rfl) ?_
      refine lv_aload_n hx hb dX18_shift_96 rfl (lv_at hl 3 rfl) ?_
      obtain ⟨k_40, ek_40, hf⟩ := lnk_some hf
      refine va_get (D := (dC, dI)) (ci := 18) (v := .ref (a k_40)) (C := RX18) (T := TX18) (N := 78) hx hb hts iwd_X18_shift_X18 hown hK hP h0 (Wd_ob kg_3 sg_3 (by decide)) rfl 15 (by decide) (hts _ md_X18_shift_1) (fun _ h9 => h9) (fl_q rfl ek_40) dX18_shift_97 ?_
      obtain ⟨g_41, hf⟩ := grd_some hf
      obtain ⟨kg_41, sg_41⟩ := okO_at g_41
      obtain ⟨k_42, ek_42, hf⟩ := lnk_some hf
      refine va_getN (D := (dC, dI)) (ci := 15) (v := .ref (a k_42)) (C := RX15) (T := TX15) (N := 6) hx hb hts iwd_X18_shift_X15 hown hK hP k_40 (Wd_ob kg_41 sg_41 (by decide)) rfl 0 (by decide) (va_Nw.use rfl (NK_f_X18_71 hN)) (fun _ h9 => h9) (fl_q rfl ek_42) dX18_shift_100 ?_
      refine lv_iload_n hx hb dX18_shift_103 rfl (lv_at hl 1 rfl) ?_
      obtain ⟨g_43, hf⟩ := grd_some hf
      obtain ⟨kg_43, sg_43, ig_43⟩ := okA_at g_43
      refine va_bald hx hb hK hP k_42 0 (Wd_ab kg_43 sg_43) rfl ig_43 dX18_shift_104 ?_
      refine lv_aload_n hx hb dX18_shift_105 rfl (lv_at hl 3 rfl) ?_
      obtain ⟨k_44, ek_44, hf⟩ := lnk_some hf
      refine va_get (D := (dC, dI)) (ci := 18) (v := .ref (a k_44)) (C := RX18) (T := TX18) (N := 78) hx hb hts iwd_X18_shift_X18 hown hK hP h0 (Wd_ob kg_3 sg_3 (by decide)) rfl 17 (by decide) (hts _ md_X18_shift_2) (fun _ h9 => h9) (fl_q rfl ek_44) dX18_shift_106 ?_
      obtain ⟨g_45, hf⟩ := grd_some hf
      obtain ⟨kg_45, sg_45⟩ := okO_at g_45
      refine va_getN (D := (dC, dI)) (ci := 17) (v := .long (z_37.2.1 k_44 3)) (C := RX17) (T := TX17) (N := 5) hx hb hts iwd_X18_shift_X17 hown hK hP k_44 (Wd_ob kg_45 sg_45 (by decide)) rfl 3 (by decide) (va_Nw.use rfl (NK_f_X18_386 hN)) (fun _ h9 => h9) (fl_at (t := 1) rfl) dX18_shift_109 ?_
      refine lv_aload_n hx hb dX18_shift_112 rfl (lv_at hl 3 rfl) ?_
      obtain ⟨k_46, ek_46, hf⟩ := lnk_some hf
      refine va_get (D := (dC, dI)) (ci := 18) (v := .ref (a k_46)) (C := RX18) (T := TX18) (N := 78) hx hb hts iwd_X18_shift_X18 hown hK hP h0 (Wd_ob kg_3 sg_3 (by decide)) rfl 17 (by decide) (hts _ md_X18_shift_2) (fun _ h9 => h9) (fl_q rfl ek_46) dX18_shift_113 ?_
      obtain ⟨g_47, hf⟩ := grd_some hf
      obtain ⟨kg_47, sg_47⟩ := okO_at g_47
      refine va_getN (D := (dC, dI)) (ci := 17) (v := .long (z_37.2.1 k_46 4)) (C := RX17) (T := TX17) (N := 5) hx hb hts iwd_X18_shift_X17 hown hK hP k_46 (Wd_ob kg_47 sg_47 (by decide)) rfl 4 (by decide) (va_Nw.use rfl (NK_f_X18_389 hN)) (fun _ h9 => h9) (fl_at (t := 1) rfl) dX18_shift_116 ?_
      obtain ⟨z_48, _u, hfc, hf⟩ := cal_some hf
      have hFc := de_free hD hS hA
      refine va_callv (va_runV (As := [.int (z_37.1 k_42 r_6.toNatClampNeg), .long (z_37.2.1 k_44 3), .long (z_37.2.1 k_46 4)]) (rest := []) ⟨hx, hb, hml, hown, hts⟩ (de_X18_make l dC dI cy a sh n H_39.size F z_37 h0 (z_37.1 k_42 r_6.toNatClampNeg) (z_37.2.1 k_44 3) (z_37.2.1 k_46 4) hfc) (cwV 3 hts gX18_shift_X18_make rfl rfl rfl (by decide +kernel) ⟨Nat.le_of_ble_eq_true rfl, Nat.le_of_ble_eq_true rfl⟩) ⟨fun a U g mk q => by obtain ⟨q0, q1, qP, qK, qD, qN⟩ := q; exact ⟨q0, q1, qP, va_K.moved (u := U) (U := U.calling g mk a) (Vm.Alike.refl U.vm) qK, qD, qN.same rfl⟩, va_recv hK hP (ci := 18) (q0 := h0) rfl (Wd_ob kg_3 sg_3 (by decide)), fun U hU hW => ⟨rfl, by rw [hU], by rw [hU]; exact hP, va_K.moved hW.alike hK, hD.weaken (fun _ _ _ _ => trivial), hN.warm hW⟩⟩ rfl rfl hl.1 rfl (lv_room (Nat.le_of_ble_eq_true rfl)) dX18_shift_119 ⟨Nat.le_of_ble_eq_true rfl, Nat.le_of_ble_eq_true rfl⟩) hS (fun q _ h => hFc q h) hFc (fun u t H_49 locs ht hvm hw hB hz1 hk1 hS2 => ?_)
      obtain ⟨hP1, -, hD1⟩ := hB
      rw [ht] at hP1
      replace hD := hD1.weaken (fun _ _ _ h => hFc _ h)
      replace hP := hP1
      replace hS := hS2
      clear hP1 hD1 hS2 hFc hfc hz1 hk1 hvm ht
      obtain ⟨h8, h9⟩ := ret_some hf
      rw [h8]
      exact W.vret hx hb hr (fun t ht hW => ⟨⟨(), rfl, trivial, by rw [ht]; exact hP, va_K.moved hW.alike hK, hD⟩, hS.F ht⟩) hS.2.2 dX18_shift_122
    · skip
      rw [lg_cmp_lt] at c_23
      rw [if_neg c_23] at hf
      refine lv_aload_n hx hb dX18_shift_50 rfl (lv_at hl 3 rfl) ?_
      refine lv_iconst (v := 2) hx hb dX18_shift_51 (by decide) ?_
      refine lv_lconst (v := 1) hx hb dX18_shift_52 (by decide) ?_
      obtain ⟨z_50, _u, hfc, hf⟩ := cal_some hf
      have hFc := de_free hD hS hA
      refine va_callv (va_runV (As := [.int 2, .long 1]) (rest := []) ⟨hx, hb, hml, hown, hts⟩ (de_X18_end l dC dI cy a sh n H_18.size F z_16 h0 2 1 hfc) (cwV 2 hts gX18_shift_X18_end rfl rfl rfl (by decide +kernel) ⟨Nat.le_of_ble_eq_true rfl, Nat.le_of_ble_eq_true rfl⟩) ⟨fun a U g mk q => by obtain ⟨q0, q1, qP, qK, qD, qN⟩ := q; exact ⟨q0, q1, qP, va_K.moved (u := U) (U := U.calling g mk a) (Vm.Alike.refl U.vm) qK, qD, qN.same rfl⟩, va_recv hK hP (ci := 18) (q0 := h0) rfl (Wd_ob kg_3 sg_3 (by decide)), fun U hU hW => ⟨rfl, by rw [hU], by rw [hU]; exact hP, va_K.moved hW.alike hK, hD.weaken (fun _ _ _ _ => trivial), hN.warm hW⟩⟩ rfl rfl hl.1 rfl (lv_room (Nat.le_of_ble_eq_true rfl)) dX18_shift_53 ⟨Nat.le_of_ble_eq_true rfl, Nat.le_of_ble_eq_true rfl⟩) hS (fun q _ h => hFc q h) hFc (fun u t H_51 locs ht hvm hw hB hz1 hk1 hS2 => ?_)
      obtain ⟨hP1, -, hD1⟩ := hB
      rw [ht] at hP1
      replace hD := hD1.weaken (fun _ _ _ h => hFc _ h)
      replace hP := hP1
      replace hS := hS2
      clear hP1 hD1 hS2 hFc hfc hz1 hk1 hvm ht
      obtain ⟨h8, h9⟩ := ret_some hf
      rw [h8]
      exact W.vret hx hb hr (fun t ht hW => ⟨⟨(), rfl, trivial, by rw [ht]; exact hP, va_K.moved hW.alike hK, hD⟩, hS.F ht⟩) hS.2.2 dX18_shift_56
  · skip
    rw [if_pos c_11] at hf
    obtain ⟨h8, h9⟩ := ret_some hf
    rw [h8]
    exact W.vret hx hb hr (fun t ht hW => ⟨⟨(), rfl, trivial, by rw [ht]; exact hP, va_K.moved hW.alike hK, hD⟩, hS.F ht⟩) hS.2.2 dX18_shift_19

theorem md_X11_refusalOf_1 : (.fieldLink RX11 22 "ResourceLedger" "state" "LResourceLedger$State;" : Cond) ∈ wsX11_refusalOf := List.mem_of_getElem? (i := 1) rfl
theorem iwd_X11_refusalOf_X11 : ∀ w ∈ wsX110, w ∈ wsX11_refusalOf := fun _ h => List.mem_cons_of_mem _ (List.mem_append_left _ (List.mem_append_left _ (List.mem_append_left _ (List.mem_append_right _ h))))
theorem md_X11_refusalOf_2 : (.fieldLink RX11 177 "ResourceLedger$Transaction" "sender" "J" : Cond) ∈ wsX11_refusalOf := List.mem_of_getElem? (i := 2) rfl
theorem iwd_X11_refusalOf_X8 : ∀ w ∈ wsX80, w ∈ wsX11_refusalOf := fun _ h => List.mem_cons_of_mem _ (List.mem_append_left _ (List.mem_append_left _ (List.mem_append_right _ h)))
theorem md_X11_refusalOf_3 : (.fieldLink RX11 180 "ResourceLedger$State" "sequence" "[J" : Cond) ∈ wsX11_refusalOf := List.mem_of_getElem? (i := 3) rfl
theorem iwd_X11_refusalOf_X7 : ∀ w ∈ wsX70, w ∈ wsX11_refusalOf := fun _ h => List.mem_cons_of_mem _ (List.mem_append_left _ (List.mem_append_right _ h))
theorem md_X11_refusalOf_4 : (.fieldLink RX11 183 "ResourceLedger$Transaction" "sequence" "J" : Cond) ∈ wsX11_refusalOf := List.mem_of_getElem? (i := 4) rfl
theorem md_X11_refusalOf_5 : (.fieldLink RX11 104 "ResourceLedger$State" "balance" "[J" : Cond) ∈ wsX11_refusalOf := List.mem_of_getElem? (i := 5) rfl
theorem md_X11_refusalOf_6 : (.fieldLink RX11 185 "ResourceLedger$Transaction" "limit" "I" : Cond) ∈ wsX11_refusalOf := List.mem_of_getElem? (i := 6) rfl
theorem md_X11_refusalOf_7 : (.fieldLink RX11 131 "ResourceLedger$Transaction" "calls" "Z" : Cond) ∈ wsX11_refusalOf := List.mem_of_getElem? (i := 7) rfl
theorem md_X11_refusalOf_8 : (.fieldLink RX11 134 "ResourceLedger$Transaction" "module" "I" : Cond) ∈ wsX11_refusalOf := List.mem_of_getElem? (i := 8) rfl
theorem md_X11_refusalOf_9 : (.fieldLink RX11 137 "ResourceLedger$Transaction" "function" "I" : Cond) ∈ wsX11_refusalOf := List.mem_of_getElem? (i := 9) rfl
theorem md_X11_refusalOf_10 : (.fieldLink RX11 192 "ResourceLedger$Program" "ownFunctions" "I" : Cond) ∈ wsX11_refusalOf := List.mem_of_getElem? (i := 10) rfl
theorem iwd_X11_refusalOf_X5 : ∀ w ∈ wsX50, w ∈ wsX11_refusalOf := fun _ h => List.mem_cons_of_mem _ (List.mem_append_right _ h)
set_option maxHeartbeats 4000000 in
set_option maxRecDepth 100000 in
theorem de_X11_refusalOf (l : Launch) (dC : Nat → ClassId) (dI : Nat → Nat → Nat) (cy : Nat → ClassId) (a : Nat → Nat) (sh : Nat → Nat × Nat) (n sz : Nat) (F : Nat) (z : St) (h0 : Nat) (x0 : Nat) {z8 : St} {r8 : Int32} (hf : fn_X11_refusalOf F sh n z h0 x0 = some (z8, r8)) : Met l yX11_refusalOf wsX11_refusalOf ({ frames := 4, cells := 0, slots := 0, locals := 90 }) (va_Pc [.ref (a h0), .ref (a x0)] (fun U => U.heap.size = sz ∧ va_P (dC, dI) vwCl (Wd cy a sh n z) U.heap ∧ va_K (dC, dI) vwCl (TYS cy) U ∧ va_D (fun _ => True) (Wd cy a sh n z) ∧ NK U)) (va_Qi (fun (r9 : Int32) (u : Unit) => r9 = r8) (fun u t => va_P (dC, dI) vwCl (Wd cy a sh n z8) t.heap ∧ va_K (dC, dI) vwCl (TYS cy) t ∧ va_D (va_A (Wd cy a sh n z) sz) (Wd cy a sh n z8)) (va_A (Wd cy a sh n z) sz)) 0 0 (va_A (Wd cy a sh n z) sz) := by
  refine Met.ofW (cc := cX11_refusalOf) (maxL := 4) (ret := (some .int)) (by decide) rfl ?_
  intro p e s m args below meth c s₁ B hml hv
  obtain ⟨rfl, hsz, hP, hK, hD0, hN⟩ := hv
  have hx := B.exec
  have hb := B.bytes
  have hr := B.returns
  have hts := atoms_spec (ws := wsX11_refusalOf) B.pre
  have hown : s.vm.findClass RX11 = some m.cls := findClass_of_methodNamed B.named
  have hlocks := B.notSynchronized
  subst hsz
  have hD := hD0.self (sz := s.heap.size)
  clear hD0
  generalize hAe : va_A (Wd cy a sh n z) s.heap.size = A at hD ⊢
  have hA : ∀ q : Nat, s.heap.size ≤ q → A q := fun q h => by rw [← hAe]; exact Or.inr h
  clear hAe
  have hS : va_S A s.heap s.heap [] := va_S.rf
  have hl := lv_entry ([.ref (a h0), .ref (a x0)]) (n := 4) (Nat.le_of_ble_eq_true rfl)
  rw [lg_entry_eq]
  generalize (lg_sl ([.ref (a h0), .ref (a x0)]) ++ List.replicate (4 - (lg_sl ([.ref (a h0), .ref (a x0)])).length) Slot.unset).toArray = ls at hl ⊢
  replace hl : lv_has ls 4 [(0, .ref (a h0)), (1, .ref (a x0))] := hl
  unfold fn_X11_refusalOf at hf
  refine de_start hS hP (fun H locs hS hP => ?_)
  refine lv_aload_n hx hb dX11_refusalOf_0 rfl (lv_at hl 0 rfl) ?_
  obtain ⟨g_1, hf⟩ := grd_some hf
  obtain ⟨kg_1, sg_1⟩ := okO_at g_1
  obtain ⟨k_2, ek_2, hf⟩ := lnk_some hf
  refine va_get (D := (dC, dI)) (ci := 11) (v := .ref (a k_2)) (C := RX11) (T := TX11) (N := 13) hx hb hts iwd_X11_refusalOf_X11 hown hK hP h0 (Wd_ob kg_1 sg_1 (by decide)) rfl 6 (by decide) (hts _ md_X11_refusalOf_1) (fun _ h9 => h9) (fl_q rfl ek_2) dX11_refusalOf_1 ?_
  refine lv_aload_n hx hb dX11_refusalOf_4 rfl (lv_at hl 1 rfl) ?_
  obtain ⟨g_3, hf⟩ := grd_some hf
  obtain ⟨kg_3, sg_3⟩ := okO_at g_3
  refine va_get (D := (dC, dI)) (ci := 8) (v := .long (z.2.1 x0 1)) (C := RX8) (T := TX8) (N := 19) hx hb hts iwd_X11_refusalOf_X8 hown hK hP x0 (Wd_ob kg_3 sg_3 (by decide)) rfl 1 (by decide) (hts _ md_X11_refusalOf_2) (fun _ h9 => h9) (fl_at (t := 1) rfl) dX11_refusalOf_5 ?_
  obtain ⟨g_6, hf⟩ := grd_some hf
  obtain ⟨kg_6, sg_6⟩ := okO_at g_6
  obtain ⟨z_4, r_5, hfc, hf⟩ := cal_some hf
  have hFc := de_free hD hS hA
  refine va_calli (va_runV (As := [.long (z.2.1 x0 1)]) (rest := []) ⟨hx, hb, hml, hown, hts⟩ (de_X7_findAccount l dC dI cy a sh n H.size F z k_2 (z.2.1 x0 1) hfc) (cwV 1 hts gX11_refusalOf_X7_findAccount rfl rfl rfl (by decide +kernel) ⟨Nat.le_of_ble_eq_true rfl, Nat.le_of_ble_eq_true rfl⟩) ⟨fun a U g mk q => by obtain ⟨q0, q1, qP, qK, qD, qN⟩ := q; exact ⟨q0, q1, qP, va_K.moved (u := U) (U := U.calling g mk a) (Vm.Alike.refl U.vm) qK, qD, qN.same rfl⟩, va_recv hK hP (ci := 7) (q0 := k_2) rfl (Wd_ob kg_6 sg_6 (by decide)), fun U hU hW => ⟨rfl, by rw [hU], by rw [hU]; exact hP, va_K.moved hW.alike hK, hD.weaken (fun _ _ _ _ => trivial), hN.warm hW⟩⟩ rfl rfl hl.1 rfl (lv_room (Nat.le_of_ble_eq_true rfl)) dX11_refusalOf_8 ⟨Nat.le_of_ble_eq_true rfl, Nat.le_of_ble_eq_true rfl⟩) hS (fun q _ h => hFc q h) hFc (fun rr u t H_7 locs ht hvm hw hB hz1 hk1 hS2 => ?_)
  rw [hw]
  clear hw
  obtain ⟨hP1, -, hD1⟩ := hB
  rw [ht] at hP1
  replace hD := hD1.weaken (fun _ _ _ h => hFc _ h)
  replace hP := hP1
  replace hS := hS2
  clear hP1 hD1 hS2 hFc hfc hz1 hk1 hvm ht
  refine lv_istore_n (lv' := [(2, .int r_5), (0, .ref (a h0)), (1, .ref (a x0))]) hx hb dX11_refusalOf_11 rfl hl (by decide) rfl (fun ls hl2 => ?_)
  replace hl := hl2
  clear hl2
  refine lv_iload_n hx hb dX11_refusalOf_12 rfl (lv_at hl 0 rfl) ?_
  refine lv_if_ge (tgt := 18) hx hb dX11_refusalOf_13 (by decide) (fun c_8 => ?_) (fun c_8 => ?_)
  · skip
    rw [if_pos c_8] at hf
    refine lv_aload_n hx hb dX11_refusalOf_18 rfl (lv_at hl 1 rfl) ?_
    obtain ⟨k_9, ek_9, hf⟩ := lnk_some hf
    refine va_get (D := (dC, dI)) (ci := 11) (v := .ref (a k_9)) (C := RX11) (T := TX11) (N := 13) hx hb hts iwd_X11_refusalOf_X11 hown hK hP h0 (Wd_ob kg_1 sg_1 (by decide)) rfl 6 (by decide) (hts _ md_X11_refusalOf_1) (fun _ h9 => h9) (fl_q rfl ek_9) dX11_refusalOf_19 ?_
    obtain ⟨g_10, hf⟩ := grd_some hf
    obtain ⟨kg_10, sg_10⟩ := okO_at g_10
    obtain ⟨k_11, ek_11, hf⟩ := lnk_some hf
    refine va_get (D := (dC, dI)) (ci := 7) (v := .ref (a k_11)) (C := RX7) (T := TX7) (N := 16) hx hb hts iwd_X11_refusalOf_X7 hown hK hP k_9 (Wd_ob kg_10 sg_10 (by decide)) rfl 2 (by decide) (hts _ md_X11_refusalOf_3) (fun _ h9 => h9) (fl_q rfl ek_11) dX11_refusalOf_22 ?_
    refine lv_iload_n hx hb dX11_refusalOf_25 rfl (lv_at hl 0 rfl) ?_
    obtain ⟨g_12, hf⟩ := grd_some hf
    obtain ⟨kg_12, sg_12, ig_12⟩ := okA_at g_12
    refine va_lald hx hb hK hP k_11 2 (Wd_al kg_12 sg_12) rfl ig_12 dX11_refusalOf_26 ?_
    refine lv_aload_n hx hb dX11_refusalOf_27 rfl (lv_at hl 2 rfl) ?_
    refine va_get (D := (dC, dI)) (ci := 8) (v := .long (z_4.2.1 x0 2)) (C := RX8) (T := TX8) (N := 19) hx hb hts iwd_X11_refusalOf_X8 hown hK hP x0 (Wd_ob kg_3 sg_3 (by decide)) rfl 2 (by decide) (hts _ md_X11_refusalOf_4) (fun _ h9 => h9) (fl_at (t := 1) rfl) dX11_refusalOf_28 ?_
    refine W.lcmp hx hb dX11_refusalOf_31 ?_
    refine lv_if_eq (tgt := 37) hx hb dX11_refusalOf_32 (by decide) (fun c_13 => ?_) (fun c_13 => ?_)
    · skip
      rw [lg_cmp_eq] at c_13
      rw [if_pos c_13] at hf
      refine lv_aload_n hx hb dX11_refusalOf_37 rfl (lv_at hl 1 rfl) ?_
      obtain ⟨k_14, ek_14, hf⟩ := lnk_some hf
      refine va_get (D := (dC, dI)) (ci := 11) (v := .ref (a k_14)) (C := RX11) (T := TX11) (N := 13) hx hb hts iwd_X11_refusalOf_X11 hown hK hP h0 (Wd_ob kg_1 sg_1 (by decide)) rfl 6 (by decide) (hts _ md_X11_refusalOf_1) (fun _ h9 => h9) (fl_q rfl ek_14) dX11_refusalOf_38 ?_
      obtain ⟨g_15, hf⟩ := grd_some hf
      obtain ⟨kg_15, sg_15⟩ := okO_at g_15
      obtain ⟨k_16, ek_16, hf⟩ := lnk_some hf
      refine va_get (D := (dC, dI)) (ci := 7) (v := .ref (a k_16)) (C := RX7) (T := TX7) (N := 16) hx hb hts iwd_X11_refusalOf_X7 hown hK hP k_14 (Wd_ob kg_15 sg_15 (by decide)) rfl 1 (by decide) (hts _ md_X11_refusalOf_5) (fun _ h9 => h9) (fl_q rfl ek_16) dX11_refusalOf_41 ?_
      refine lv_iload_n hx hb dX11_refusalOf_44 rfl (lv_at hl 0 rfl) ?_
      obtain ⟨g_17, hf⟩ := grd_some hf
      obtain ⟨kg_17, sg_17, ig_17⟩ := okA_at g_17
      refine va_lald hx hb hK hP k_16 2 (Wd_al kg_17 sg_17) rfl ig_17 dX11_refusalOf_45 ?_
      refine lv_aload_n hx hb dX11_refusalOf_46 rfl (lv_at hl 2 rfl) ?_
      refine va_get (D := (dC, dI)) (ci := 8) (v := .int (z_4.1 x0 3)) (C := RX8) (T := TX8) (N := 19) hx hb hts iwd_X11_refusalOf_X8 hown hK hP x0 (Wd_ob kg_3 sg_3 (by decide)) rfl 3 (by decide) (hts _ md_X11_refusalOf_6) (fun _ h9 => h9) (fl_at (t := 0) rfl) dX11_refusalOf_47 ?_
      refine lv_i2l (v := ((z_4.1 x0 3) : Int32).toInt64) hx hb dX11_refusalOf_50 rfl ?_
      refine W.lcmp hx hb dX11_refusalOf_51 ?_
      refine lv_if_ge (tgt := 57) hx hb dX11_refusalOf_52 (by decide) (fun c_18 => ?_) (fun c_18 => ?_)
      · skip
        rw [lg_cmp_ge] at c_18
        rw [if_pos c_18] at hf
        refine lv_aload_n hx hb dX11_refusalOf_57 rfl (lv_at hl 2 rfl) ?_
        refine va_get (D := (dC, dI)) (ci := 8) (v := .int (z_4.1 x0 0)) (C := RX8) (T := TX8) (N := 19) hx hb hts iwd_X11_refusalOf_X8 hown hK hP x0 (Wd_ob kg_3 sg_3 (by decide)) rfl 0 (by decide) (hts _ md_X11_refusalOf_7) (fun _ h9 => h9) (fl_at (t := 0) rfl) dX11_refusalOf_58 ?_
        refine lv_if_ne (tgt := 66) hx hb dX11_refusalOf_61 (by decide) (fun c_19 => ?_) (fun c_19 => ?_)
        · skip
          rw [if_neg c_19] at hf
          refine lv_aload_n hx hb dX11_refusalOf_66 rfl (lv_at hl 1 rfl) ?_
          obtain ⟨k_20, ek_20, hf⟩ := lnk_some hf
          refine va_get (D := (dC, dI)) (ci := 11) (v := .ref (a k_20)) (C := RX11) (T := TX11) (N := 13) hx hb hts iwd_X11_refusalOf_X11 hown hK hP h0 (Wd_ob kg_1 sg_1 (by decide)) rfl 6 (by decide) (hts _ md_X11_refusalOf_1) (fun _ h9 => h9) (fl_q rfl ek_20) dX11_refusalOf_67 ?_
          refine lv_aload_n hx hb dX11_refusalOf_70 rfl (lv_at hl 2 rfl) ?_
          refine va_get (D := (dC, dI)) (ci := 8) (v := .int (z_4.1 x0 4)) (C := RX8) (T := TX8) (N := 19) hx hb hts iwd_X11_refusalOf_X8 hown hK hP x0 (Wd_ob kg_3 sg_3 (by decide)) rfl 4 (by decide) (hts _ md_X11_refusalOf_8) (fun _ h9 => h9) (fl_at (t := 0) rfl) dX11_refusalOf_71 ?_
          obtain ⟨g_23, hf⟩ := grd_some hf
          obtain ⟨kg_23, sg_23⟩ := okO_at g_23
          obtain ⟨z_21, r_22, hfc, hf⟩ := cal_some hf
          have hFc := de_free hD hS hA
          refine va_callq (va_runV (As := [.int (z_4.1 x0 4)]) (rest := []) ⟨hx, hb, hml, hown, hts⟩ (de_X7_findProgram l dC dI cy a sh n H_7.size F z_4 k_20 (z_4.1 x0 4) hfc) (cwV 1 hts gX11_refusalOf_X7_findProgram rfl rfl rfl (by decide +kernel) ⟨Nat.le_of_ble_eq_true rfl, Nat.le_of_ble_eq_true rfl⟩) ⟨fun a U g mk q => by obtain ⟨q0, q1, qP, qK, qD, qN⟩ := q; exact ⟨q0, q1, qP, va_K.moved (u := U) (U := U.calling g mk a) (Vm.Alike.refl U.vm) qK, qD, qN.same rfl⟩, va_recv hK hP (ci := 7) (q0 := k_20) rfl (Wd_ob kg_23 sg_23 (by decide)), fun U hU hW => ⟨rfl, by rw [hU], by rw [hU]; exact hP, va_K.moved hW.alike hK, hD.weaken (fun _ _ _ _ => trivial), hN.warm hW⟩⟩ rfl rfl hl.1 rfl (lv_room (Nat.le_of_ble_eq_true rfl)) dX11_refusalOf_74 ⟨Nat.le_of_ble_eq_true rfl, Nat.le_of_ble_eq_true rfl⟩) hS (fun q _ h => hFc q h) hFc (fun rr u t H_24 locs ht hvm hw hB hz1 hk1 hS2 => ?_)
          rw [hw]
          clear hw
          obtain ⟨hP1, -, hD1⟩ := hB
          rw [ht] at hP1
          replace hD := hD1.weaken (fun _ _ _ h => hFc _ h)
          replace hP := hP1
          replace hS := hS2
          clear hP1 hD1 hS2 hFc hfc hz1 hk1 hvm ht
          rcases r_22 with _ | k_25
          · skip
            replace hf := nul_none hf
            refine W.eq (g2 := F0 m 77 ls [.null]) rfl ?_
            refine lv_astore_nN (lv' := [(3, .null), (2, .int r_5), (0, .ref (a h0)), (1, .ref (a x0))]) hx hb dX11_refusalOf_77 rfl hl (by decide) rfl (fun ls hl2 => ?_)
            replace hl := hl2
            clear hl2
            refine lv_aload_nN hx hb dX11_refusalOf_78 rfl (lv_at hl 0 rfl) ?_
            refine lv_ifnonnullN hx hb dX11_refusalOf_79 ?_
            refine lv_iconst (v := 4) hx hb dX11_refusalOf_82 (by decide) ?_
            obtain ⟨h8, h9⟩ := ret_some hf
            rw [h8, h9]
            exact W.iret (v := 4) hx hb hr (fun t ht hW => ⟨⟨4, (), rfl, rfl, by rw [ht]; exact hP, va_K.moved hW.alike hK, hD⟩, hS.F ht⟩) hS.2.2 dX11_refusalOf_83
          · skip
            replace hf := nul_some hf
            refine W.eq (g2 := F0 m 77 ls [.ref (a k_25)]) rfl ?_
            refine lv_astore_n (lv' := [(3, .ref (a k_25)), (2, .int r_5), (0, .ref (a h0)), (1, .ref (a x0))]) hx hb dX11_refusalOf_77 rfl hl (by decide) rfl (fun ls hl2 => ?_)
            replace hl := hl2
            clear hl2
            refine lv_aload_n hx hb dX11_refusalOf_78 rfl (lv_at hl 0 rfl) ?_
            refine lv_ifnonnull (tgt := 84) hx hb dX11_refusalOf_79 (by decide) ?_
            refine lv_aload_n hx hb dX11_refusalOf_84 rfl (lv_at hl 3 rfl) ?_
            refine va_get (D := (dC, dI)) (ci := 8) (v := .int (z_21.1 x0 5)) (C := RX8) (T := TX8) (N := 19) hx hb hts iwd_X11_refusalOf_X8 hown hK hP x0 (Wd_ob kg_3 sg_3 (by decide)) rfl 5 (by decide) (hts _ md_X11_refusalOf_9) (fun _ h9 => h9) (fl_at (t := 0) rfl) dX11_refusalOf_85 ?_
            refine lv_aload_n hx hb dX11_refusalOf_88 rfl (lv_at hl 0 rfl) ?_
            obtain ⟨g_26, hf⟩ := grd_some hf
            obtain ⟨kg_26, sg_26⟩ := okO_at g_26
            refine va_get (D := (dC, dI)) (ci := 5) (v := .int (z_21.1 k_25 11)) (C := RX5) (T := TX5) (N := 15) hx hb hts iwd_X11_refusalOf_X5 hown hK hP k_25 (Wd_ob kg_26 sg_26 (by decide)) rfl 11 (by decide) (hts _ md_X11_refusalOf_10) (fun _ h9 => h9) (fl_at (t := 0) rfl) dX11_refusalOf_89 ?_
            refine lv_icmp_lt (tgt := 97) hx hb dX11_refusalOf_92 (by decide) (fun c_27 => ?_) (fun c_27 => ?_)
            · skip
              rw [if_pos c_27] at hf
              refine lv_aload_n hx hb dX11_refusalOf_97 rfl (lv_at hl 0 rfl) ?_
              refine lv_aload_n hx hb dX11_refusalOf_98 rfl (lv_at hl 3 rfl) ?_
              refine va_get (D := (dC, dI)) (ci := 8) (v := .int (z_21.1 x0 5)) (C := RX8) (T := TX8) (N := 19) hx hb hts iwd_X11_refusalOf_X8 hown hK hP x0 (Wd_ob kg_3 sg_3 (by decide)) rfl 5 (by decide) (hts _ md_X11_refusalOf_9) (fun _ h9 => h9) (fl_at (t := 0) rfl) dX11_refusalOf_99 ?_
              obtain ⟨z_28, r_29, hfc, hf⟩ := cal_some hf
              have hFc := de_free hD hS hA
              refine va_calli (va_runV (As := [.int (z_21.1 x0 5)]) (rest := []) ⟨hx, hb, hml, hown, hts⟩ (de_X5_flags l dC dI cy a sh n H_24.size F z_21 k_25 (z_21.1 x0 5) hfc) (cwV 1 hts gX11_refusalOf_X5_flags rfl rfl rfl (by decide +kernel) ⟨Nat.le_of_ble_eq_true rfl, Nat.le_of_ble_eq_true rfl⟩) ⟨fun a U g mk q => by obtain ⟨q0, q1, qP, qK, qD, qN⟩ := q; exact ⟨q0, q1, qP, va_K.moved (u := U) (U := U.calling g mk a) (Vm.Alike.refl U.vm) qK, qD, qN.same rfl⟩, va_recv hK hP (ci := 5) (q0 := k_25) rfl (Wd_ob kg_26 sg_26 (by decide)), fun U hU hW => ⟨rfl, by rw [hU], by rw [hU]; exact hP, va_K.moved hW.alike hK, hD.weaken (fun _ _ _ _ => trivial), hN.warm hW⟩⟩ rfl rfl hl.1 rfl (lv_room (Nat.le_of_ble_eq_true rfl)) dX11_refusalOf_102 ⟨Nat.le_of_ble_eq_true rfl, Nat.le_of_ble_eq_true rfl⟩) hS (fun q _ h => hFc q h) hFc (fun rr u t H_30 locs ht hvm hw hB hz1 hk1 hS2 => ?_)
              rw [hw]
              clear hw
              obtain ⟨hP1, -, hD1⟩ := hB
              rw [ht] at hP1
              replace hD := hD1.weaken (fun _ _ _ h => hFc _ h)
              replace hP := hP1
              replace hS := hS2
              clear hP1 hD1 hS2 hFc hfc hz1 hk1 hvm ht
              refine lv_iconst (v := 2) hx hb dX11_refusalOf_105 (by decide) ?_
              refine lv_iand hx hb dX11_refusalOf_106 ?_
              refine lv_if_ne (tgt := 113) hx hb dX11_refusalOf_107 (by decide) (fun c_31 => ?_) (fun c_31 => ?_)
              · skip
                rw [if_neg c_31] at hf
                refine lv_aload_n hx hb dX11_refusalOf_113 rfl (lv_at hl 3 rfl) ?_
                refine lv_aload_n hx hb dX11_refusalOf_114 rfl (lv_at hl 0 rfl) ?_
                obtain ⟨z_32, r_33, hfc, hf⟩ := cal_some hf
                have hFc := de_free hD hS hA
                refine va_calli (va_runV (As := [.ref (a k_25)]) (rest := []) ⟨hx, hb, hml, hown, hts⟩ (de_X8_fits l dC dI cy a sh n H_30.size F z_28 x0 k_25 hfc) (cwV 1 hts gX11_refusalOf_X8_fits rfl rfl rfl (by decide +kernel) ⟨Nat.le_of_ble_eq_true rfl, Nat.le_of_ble_eq_true rfl⟩) ⟨fun a U g mk q => by obtain ⟨q0, q1, qP, qK, qD, qN⟩ := q; exact ⟨q0, q1, qP, va_K.moved (u := U) (U := U.calling g mk a) (Vm.Alike.refl U.vm) qK, qD, qN.same rfl⟩, va_recv hK hP (ci := 8) (q0 := x0) rfl (Wd_ob kg_3 sg_3 (by decide)), fun U hU hW => ⟨rfl, by rw [hU], by rw [hU]; exact hP, va_K.moved hW.alike hK, hD.weaken (fun _ _ _ _ => trivial), hN.warm hW⟩⟩ rfl rfl hl.1 rfl (lv_room (Nat.le_of_ble_eq_true rfl)) dX11_refusalOf_115 ⟨Nat.le_of_ble_eq_true rfl, Nat.le_of_ble_eq_true rfl⟩) hS (fun q _ h => hFc q h) hFc (fun rr u t H_34 locs ht hvm hw hB hz1 hk1 hS2 => ?_)
                rw [hw]
                clear hw
                obtain ⟨hP1, -, hD1⟩ := hB
                rw [ht] at hP1
                replace hD := hD1.weaken (fun _ _ _ h => hFc _ h)
                replace hP := hP1
                replace hS := hS2
                clear hP1 hD1 hS2 hFc hfc hz1 hk1 hvm ht
                refine lv_if_ne (tgt := 124) hx hb dX11_refusalOf_118 (by decide) (fun c_35 => ?_) (fun c_35 => ?_)
                · skip
                  rw [if_neg c_35] at hf
                  refine lv_aload_n hx hb dX11_refusalOf_124 rfl (lv_at hl 0 rfl) ?_
                  refine lv_aload_n hx hb dX11_refusalOf_125 rfl (lv_at hl 3 rfl) ?_
                  refine va_get (D := (dC, dI)) (ci := 8) (v := .int (z_32.1 x0 5)) (C := RX8) (T := TX8) (N := 19) hx hb hts iwd_X11_refusalOf_X8 hown hK hP x0 (Wd_ob kg_3 sg_3 (by decide)) rfl 5 (by decide) (hts _ md_X11_refusalOf_9) (fun _ h9 => h9) (fl_at (t := 0) rfl) dX11_refusalOf_126 ?_
                  obtain ⟨z_36, r_37, hfc, hf⟩ := cal_some hf
                  have hFc := de_free hD hS hA
                  refine va_calli (va_runV (As := [.int (z_32.1 x0 5)]) (rest := []) ⟨hx, hb, hml, hown, hts⟩ (de_X5_givesPlain l dC dI cy a sh n H_34.size F z_32 k_25 (z_32.1 x0 5) hfc) (cwV 1 hts gX11_refusalOf_X5_givesPlain rfl rfl rfl (by decide +kernel) ⟨Nat.le_of_ble_eq_true rfl, Nat.le_of_ble_eq_true rfl⟩) ⟨fun a U g mk q => by obtain ⟨q0, q1, qP, qK, qD, qN⟩ := q; exact ⟨q0, q1, qP, va_K.moved (u := U) (U := U.calling g mk a) (Vm.Alike.refl U.vm) qK, qD, qN.same rfl⟩, va_recv hK hP (ci := 5) (q0 := k_25) rfl (Wd_ob kg_26 sg_26 (by decide)), fun U hU hW => ⟨rfl, by rw [hU], by rw [hU]; exact hP, va_K.moved hW.alike hK, hD.weaken (fun _ _ _ _ => trivial), hN.warm hW⟩⟩ rfl rfl hl.1 rfl (lv_room (Nat.le_of_ble_eq_true rfl)) dX11_refusalOf_129 ⟨Nat.le_of_ble_eq_true rfl, Nat.le_of_ble_eq_true rfl⟩) hS (fun q _ h => hFc q h) hFc (fun rr u t H_38 locs ht hvm hw hB hz1 hk1 hS2 => ?_)
                  rw [hw]
                  clear hw
                  obtain ⟨hP1, -, hD1⟩ := hB
                  rw [ht] at hP1
                  replace hD := hD1.weaken (fun _ _ _ h => hFc _ h)
                  replace hP := hP1
                  replace hS := hS2
                  clear hP1 hD1 hS2 hFc hfc hz1 hk1 hvm ht
                  refine lv_if_eq (tgt := 139) hx hb dX11_refusalOf_132 (by decide) (fun c_39 => ?_) (fun c_39 => ?_)
                  · skip
                    rw [if_pos c_39] at hf
                    refine lv_bipush (v := 8) hx hb dX11_refusalOf_139 (by decide) ?_
                    obtain ⟨h8, h9⟩ := ret_some hf
                    rw [h8, h9]
                    exact W.iret (v := 8) hx hb hr (fun t ht hW => ⟨⟨8, (), rfl, rfl, by rw [ht]; exact hP, va_K.moved hW.alike hK, hD⟩, hS.F ht⟩) hS.2.2 dX11_refusalOf_141
                  · skip
                    rw [if_neg c_39] at hf
                    refine lv_iconst (v := 0) hx hb dX11_refusalOf_135 (by decide) ?_
                    refine lv_goto (tgt := 141) hx hb dX11_refusalOf_136 (by decide) ?_
                    obtain ⟨h8, h9⟩ := ret_some hf
                    rw [h8, h9]
                    exact W.iret (v := 0) hx hb hr (fun t ht hW => ⟨⟨0, (), rfl, rfl, by rw [ht]; exact hP, va_K.moved hW.alike hK, hD⟩, hS.F ht⟩) hS.2.2 dX11_refusalOf_141
                · skip
                  rw [if_pos c_35] at hf
                  refine lv_bipush (v := 7) hx hb dX11_refusalOf_121 (by decide) ?_
                  obtain ⟨h8, h9⟩ := ret_some hf
                  rw [h8, h9]
                  exact W.iret (v := 7) hx hb hr (fun t ht hW => ⟨⟨7, (), rfl, rfl, by rw [ht]; exact hP, va_K.moved hW.alike hK, hD⟩, hS.F ht⟩) hS.2.2 dX11_refusalOf_123
              · skip
                rw [if_pos c_31] at hf
                refine lv_bipush (v := 6) hx hb dX11_refusalOf_110 (by decide) ?_
                obtain ⟨h8, h9⟩ := ret_some hf
                rw [h8, h9]
                exact W.iret (v := 6) hx hb hr (fun t ht hW => ⟨⟨6, (), rfl, rfl, by rw [ht]; exact hP, va_K.moved hW.alike hK, hD⟩, hS.F ht⟩) hS.2.2 dX11_refusalOf_112
            · skip
              rw [if_neg c_27] at hf
              refine lv_iconst (v := 5) hx hb dX11_refusalOf_95 (by decide) ?_
              obtain ⟨h8, h9⟩ := ret_some hf
              rw [h8, h9]
              exact W.iret (v := 5) hx hb hr (fun t ht hW => ⟨⟨5, (), rfl, rfl, by rw [ht]; exact hP, va_K.moved hW.alike hK, hD⟩, hS.F ht⟩) hS.2.2 dX11_refusalOf_96
        · skip
          rw [if_pos c_19] at hf
          refine lv_iconst (v := 0) hx hb dX11_refusalOf_64 (by decide) ?_
          obtain ⟨h8, h9⟩ := ret_some hf
          rw [h8, h9]
          exact W.iret (v := 0) hx hb hr (fun t ht hW => ⟨⟨0, (), rfl, rfl, by rw [ht]; exact hP, va_K.moved hW.alike hK, hD⟩, hS.F ht⟩) hS.2.2 dX11_refusalOf_65
      · skip
        rw [lg_cmp_ge] at c_18
        rw [if_neg c_18] at hf
        refine lv_iconst (v := 3) hx hb dX11_refusalOf_55 (by decide) ?_
        obtain ⟨h8, h9⟩ := ret_some hf
        rw [h8, h9]
        exact W.iret (v := 3) hx hb hr (fun t ht hW => ⟨⟨3, (), rfl, rfl, by rw [ht]; exact hP, va_K.moved hW.alike hK, hD⟩, hS.F ht⟩) hS.2.2 dX11_refusalOf_56
    · skip
      rw [lg_cmp_eq] at c_13
      rw [if_neg c_13] at hf
      refine lv_iconst (v := 2) hx hb dX11_refusalOf_35 (by decide) ?_
      obtain ⟨h8, h9⟩ := ret_some hf
      rw [h8, h9]
      exact W.iret (v := 2) hx hb hr (fun t ht hW => ⟨⟨2, (), rfl, rfl, by rw [ht]; exact hP, va_K.moved hW.alike hK, hD⟩, hS.F ht⟩) hS.2.2 dX11_refusalOf_36
  · skip
    rw [if_neg c_8] at hf
    refine lv_iconst (v := 1) hx hb dX11_refusalOf_16 (by decide) ?_
    obtain ⟨h8, h9⟩ := ret_some hf
    rw [h8, h9]
    exact W.iret (v := 1) hx hb hr (fun t ht hW => ⟨⟨1, (), rfl, rfl, by rw [ht]; exact hP, va_K.moved hW.alike hK, hD⟩, hS.F ht⟩) hS.2.2 dX11_refusalOf_17

theorem md_X13_meet_1 : (.fieldLink RX13 21 "ResourceLedgerModel$Looker" "thereAt" "[Z" : Cond) ∈ wsX13_meet := List.mem_of_getElem? (i := 1) rfl
theorem iwd_X13_meet_X13 : ∀ w ∈ wsX130, w ∈ wsX13_meet := fun _ h => List.mem_cons_of_mem _ (List.mem_append_left _ (List.mem_append_right _ h))
theorem md_X13_meet_2 : (.fieldLink RX13 39 "ResourceLedgerModel$Looker" "there" "[Z" : Cond) ∈ wsX13_meet := List.mem_of_getElem? (i := 2) rfl
theorem md_X13_meet_4 : (.fieldLink RX13 24 "ResourceLedgerModel$Looker" "originsAt" "[J" : Cond) ∈ wsX13_meet := List.mem_of_getElem? (i := 4) rfl
theorem md_X13_meet_6 : (.fieldLink RX13 27 "ResourceLedgerModel$Looker" "insideAt" "[Z" : Cond) ∈ wsX13_meet := List.mem_of_getElem? (i := 6) rfl
theorem md_X13_meet_7 : (.fieldLink RX13 45 "ResourceLedgerModel$Looker" "within" "[Z" : Cond) ∈ wsX13_meet := List.mem_of_getElem? (i := 7) rfl
theorem md_X13_meet_5 : (.fieldLink RX13 42 "ResourceLedgerModel$Looker" "points" "[J" : Cond) ∈ wsX13_meet := List.mem_of_getElem? (i := 5) rfl
theorem md_X13_meet_3 : (.fieldLink RX13 7 "ResourceLedgerModel$Looker" "localTypes" "[J" : Cond) ∈ wsX13_meet := List.mem_of_getElem? (i := 3) rfl
set_option maxHeartbeats 4000000 in
set_option maxRecDepth 100000 in
theorem de_X13_meet (l : Launch) (dC : Nat → ClassId) (dI : Nat → Nat → Nat) (cy : Nat → ClassId) (a : Nat → Nat) (sh : Nat → Nat × Nat) (n sz : Nat) (F : Nat) (z : St) (h0 : Nat) (x0 : Int32) (x1 : Int32) {z8 : St} {r8 : Unit} (hf : fn_X13_meet F sh n z h0 x0 x1 = some (z8, r8)) : Met l yX13_meet wsX13_meet ({ frames := 4, cells := 0, slots := 0, locals := 94 }) (va_Pc [.ref (a h0), .int x0, .int x1] (fun U => U.heap.size = sz ∧ va_P (dC, dI) vwCl (Wd cy a sh n z) U.heap ∧ va_K (dC, dI) vwCl (TYS cy) U ∧ va_D (fun _ => True) (Wd cy a sh n z) ∧ NK U)) (va_Qv (fun u : Unit => True) (fun u t => va_P (dC, dI) vwCl (Wd cy a sh n z8) t.heap ∧ va_K (dC, dI) vwCl (TYS cy) t ∧ va_D (va_A (Wd cy a sh n z) sz) (Wd cy a sh n z8)) (va_A (Wd cy a sh n z) sz)) 0 0 (va_A (Wd cy a sh n z) sz) := by
  refine Met.ofW (cc := cX13_meet) (maxL := 4) (ret := none) (by decide) rfl ?_
  intro p e s m args below meth c s₁ B hml hv
  obtain ⟨rfl, hsz, hP, hK, hD0, hN⟩ := hv
  have hx := B.exec
  have hb := B.bytes
  have hr := B.returns
  have hts := atoms_spec (ws := wsX13_meet) B.pre
  have hown : s.vm.findClass RX13 = some m.cls := findClass_of_methodNamed B.named
  have hlocks := B.notSynchronized
  subst hsz
  have hD := hD0.self (sz := s.heap.size)
  clear hD0
  generalize hAe : va_A (Wd cy a sh n z) s.heap.size = A at hD ⊢
  have hA : ∀ q : Nat, s.heap.size ≤ q → A q := fun q h => by rw [← hAe]; exact Or.inr h
  clear hAe
  have hS : va_S A s.heap s.heap [] := va_S.rf
  have hl := lv_entry ([.ref (a h0), .int x0, .int x1]) (n := 4) (Nat.le_of_ble_eq_true rfl)
  rw [lg_entry_eq]
  generalize (lg_sl ([.ref (a h0), .int x0, .int x1]) ++ List.replicate (4 - (lg_sl ([.ref (a h0), .int x0, .int x1])).length) Slot.unset).toArray = ls at hl ⊢
  replace hl : lv_has ls 4 [(0, .ref (a h0)), (1, .int x0), (2, .int x1)] := hl
  unfold fn_X13_meet at hf
  refine de_start hS hP (fun H locs hS hP => ?_)
  refine lv_aload_n hx hb dX13_meet_0 rfl (lv_at hl 0 rfl) ?_
  refine lv_aload_n hx hb dX13_meet_1 rfl (lv_at hl 0 rfl) ?_
  obtain ⟨g_1, hf⟩ := grd_some hf
  obtain ⟨kg_1, sg_1⟩ := okO_at g_1
  obtain ⟨k_2, ek_2, hf⟩ := lnk_some hf
  refine va_get (D := (dC, dI)) (ci := 13) (v := .ref (a k_2)) (C := RX13) (T := TX13) (N := 22) hx hb hts iwd_X13_meet_X13 hown hK hP h0 (Wd_ob kg_1 sg_1 (by decide)) rfl 8 (by decide) (hts _ md_X13_meet_1) (fun _ h9 => h9) (fl_q rfl ek_2) dX13_meet_2 ?_
  refine lv_iload_n hx hb dX13_meet_5 rfl (lv_at hl 1 rfl) ?_
  obtain ⟨g_3, hf⟩ := grd_some hf
  obtain ⟨kg_3, sg_3, ig_3⟩ := okA_at g_3
  refine va_zald hx hb hK hP k_2 3 (Wd_az kg_3 sg_3) rfl ig_3 dX13_meet_6 ?_
  refine lv_aload_n hx hb dX13_meet_7 rfl (lv_at hl 0 rfl) ?_
  obtain ⟨k_4, ek_4, hf⟩ := lnk_some hf
  refine va_get (D := (dC, dI)) (ci := 13) (v := .ref (a k_4)) (C := RX13) (T := TX13) (N := 22) hx hb hts iwd_X13_meet_X13 hown hK hP h0 (Wd_ob kg_1 sg_1 (by decide)) rfl 15 (by decide) (hts _ md_X13_meet_2) (fun _ h9 => h9) (fl_q rfl ek_4) dX13_meet_8 ?_
  refine lv_iload_n hx hb dX13_meet_11 rfl (lv_at hl 2 rfl) ?_
  obtain ⟨g_5, hf⟩ := grd_some hf
  obtain ⟨kg_5, sg_5, ig_5⟩ := okA_at g_5
  refine va_zald hx hb hK hP k_4 3 (Wd_az kg_5 sg_5) rfl ig_5 dX13_meet_12 ?_
  refine de_cut (h := 35) (fun (x : St × Int32) => [.int x.2, .ref (a h0)]) (fun x ls H locs => lv_has ls 4 [(0, .ref (a h0)), (1, .int x0), (2, .int x1)] ∧ va_P (dC, dI) vwCl (Wd cy a sh n x.1) H ∧ va_D A (Wd cy a sh n x.1) ∧ va_S A s.heap H locs) (fun x => fn_X13_meet_B35 F sh n h0 x0 x1 x.1 x.2) (z8, r8) ?_ (fun B35 => ?_)
  · intro x ls H locs hI hf
    obtain ⟨z_7, p_6⟩ := x
    obtain ⟨hl2, hP2, hD2, hS2⟩ := hI
    replace hl : lv_has ls 4 [(0, .ref (a h0)), (1, .int x0), (2, .int x1)] := hl2
    replace hP := hP2
    replace hD := hD2
    replace hS := hS2
    clear hl2 hP2 hD2 hS2
    replace hf := fn_X13_meet_B35_s hf
    refine W.eq (g2 := F0 m 35 ls [.int p_6, .ref (a h0)]) rfl ?_
    refine lv_bipush (v := 9) hx hb dX13_meet_35 (by decide) ?_
    obtain ⟨z_8, _u, hfc, hf⟩ := cal_some hf
    have hFc := de_free hD hS hA
    refine va_callv (va_runV (As := [.int p_6, .int 9]) (rest := []) ⟨hx, hb, hml, hown, hts⟩ (de_X13_need l dC dI cy a sh n H.size F z_7 h0 p_6 9 hfc) (cwV 2 hts gX13_meet_X13_need rfl rfl rfl (by decide +kernel) ⟨Nat.le_of_ble_eq_true rfl, Nat.le_of_ble_eq_true rfl⟩) ⟨fun a U g mk q => by obtain ⟨q0, q1, qP, qK, qD, qN⟩ := q; exact ⟨q0, q1, qP, va_K.moved (u := U) (U := U.calling g mk a) (Vm.Alike.refl U.vm) qK, qD, qN.same rfl⟩, va_recv hK hP (ci := 13) (q0 := h0) rfl (Wd_ob kg_1 sg_1 (by decide)), fun U hU hW => ⟨rfl, by rw [hU], by rw [hU]; exact hP, va_K.moved hW.alike hK, hD.weaken (fun _ _ _ _ => trivial), hN.warm hW⟩⟩ rfl rfl hl.1 rfl (lv_room (Nat.le_of_ble_eq_true rfl)) dX13_meet_37 ⟨Nat.le_of_ble_eq_true rfl, Nat.le_of_ble_eq_true rfl⟩) hS (fun q _ h => hFc q h) hFc (fun u t H_9 locs ht hvm hw hB hz1 hk1 hS2 => ?_)
    obtain ⟨hP1, -, hD1⟩ := hB
    rw [ht] at hP1
    replace hD := hD1.weaken (fun _ _ _ h => hFc _ h)
    replace hP := hP1
    replace hS := hS2
    clear hP1 hD1 hS2 hFc hfc hz1 hk1 hvm ht
    refine lv_aload_n hx hb dX13_meet_40 rfl (lv_at hl 0 rfl) ?_
    obtain ⟨k_10, ek_10, hf⟩ := lnk_some hf
    refine va_get (D := (dC, dI)) (ci := 13) (v := .ref (a k_10)) (C := RX13) (T := TX13) (N := 22) hx hb hts iwd_X13_meet_X13 hown hK hP h0 (Wd_ob kg_1 sg_1 (by decide)) rfl 8 (by decide) (hts _ md_X13_meet_1) (fun _ h9 => h9) (fl_q rfl ek_10) dX13_meet_41 ?_
    refine lv_iload_n hx hb dX13_meet_44 rfl (lv_at hl 1 rfl) ?_
    obtain ⟨g_11, hf⟩ := grd_some hf
    obtain ⟨kg_11, sg_11, ig_11⟩ := okA_at g_11
    refine va_zald hx hb hK hP k_10 3 (Wd_az kg_11 sg_11) rfl ig_11 dX13_meet_45 ?_
    refine de_cut (h := 63) (fun (x : St × Int32) => [.int x.2]) (fun x ls H locs => lv_has ls 4 [(0, .ref (a h0)), (1, .int x0), (2, .int x1)] ∧ va_P (dC, dI) vwCl (Wd cy a sh n x.1) H ∧ va_D A (Wd cy a sh n x.1) ∧ va_S A s.heap H locs) (fun x => fn_X13_meet_B63 F sh n h0 x0 x1 x.1 x.2) (z8, r8) ?_ (fun B63 => ?_)
    · intro x ls H locs hI hf
      obtain ⟨z_13, p_12⟩ := x
      obtain ⟨hl2, hP2, hD2, hS2⟩ := hI
      replace hl : lv_has ls 4 [(0, .ref (a h0)), (1, .int x0), (2, .int x1)] := hl2
      replace hP := hP2
      replace hD := hD2
      replace hS := hS2
      clear hl2 hP2 hD2 hS2
      replace hf := fn_X13_meet_B63_s hf
      refine W.eq (g2 := F0 m 63 ls [.int p_12]) rfl ?_
      refine lv_istore_n (lv' := [(3, .int p_12), (0, .ref (a h0)), (1, .int x0), (2, .int x1)]) hx hb dX13_meet_63 rfl hl (by decide) rfl (fun ls hl2 => ?_)
      replace hl := hl2
      clear hl2
      refine lv_aload_n hx hb dX13_meet_64 rfl (lv_at hl 1 rfl) ?_
      obtain ⟨k_14, ek_14, hf⟩ := lnk_some hf
      refine va_get (D := (dC, dI)) (ci := 13) (v := .ref (a k_14)) (C := RX13) (T := TX13) (N := 22) hx hb hts iwd_X13_meet_X13 hown hK hP h0 (Wd_ob kg_1 sg_1 (by decide)) rfl 8 (by decide) (hts _ md_X13_meet_1) (fun _ h9 => h9) (fl_q rfl ek_14) dX13_meet_65 ?_
      refine lv_iload_n hx hb dX13_meet_68 rfl (lv_at hl 2 rfl) ?_
      refine lv_iload_n hx hb dX13_meet_69 rfl (lv_at hl 0 rfl) ?_
      obtain ⟨g_15, hf⟩ := grd_some hf
      obtain ⟨kg_15, sg_15, ig_15⟩ := okA_at g_15
      refine va_zast hx hb hK hP hD hS k_14 3 (Wd_az kg_15 sg_15) rfl ig_15 dX13_meet_70 (fun H_16 locs hP2 hD2 hS2 => ?_)
      rw [Wd_tz sg_15] at hP2 hD2
      obtain ⟨z_17, ez_17⟩ : ∃ w, w = si z_13 k_14 x0.toNatClampNeg (vp_nar .boolean p_12) := ⟨_, rfl⟩
      rw [← ez_17] at hP2 hD2
      replace hf := lt_at ez_17 hf
      clear ez_17
      replace hP := hP2
      replace hD := hD2
      replace hS := hS2
      clear hP2 hD2 hS2
      refine lv_aload_n hx hb dX13_meet_71 rfl (lv_at hl 1 rfl) ?_
      obtain ⟨k_18, ek_18, hf⟩ := lnk_some hf
      refine va_get (D := (dC, dI)) (ci := 13) (v := .ref (a k_18)) (C := RX13) (T := TX13) (N := 22) hx hb hts iwd_X13_meet_X13 hown hK hP h0 (Wd_ob kg_1 sg_1 (by decide)) rfl 9 (by decide) (hts _ md_X13_meet_4) (fun _ h9 => h9) (fl_q rfl ek_18) dX13_meet_72 ?_
      refine lv_iload_n hx hb dX13_meet_75 rfl (lv_at hl 2 rfl) ?_
      refine lv_iload_n hx hb dX13_meet_76 rfl (lv_at hl 0 rfl) ?_
      refine de_cut (h := 97) (fun (x : St × Int64) => [.long x.2, .int x0, .ref (a k_18)]) (fun x ls H locs => lv_has ls 4 [(3, .int p_12), (0, .ref (a h0)), (1, .int x0), (2, .int x1)] ∧ va_P (dC, dI) vwCl (Wd cy a sh n x.1) H ∧ va_D A (Wd cy a sh n x.1) ∧ va_S A s.heap H locs) (fun x => fn_X13_meet_B97 F sh n k_18 x0 h0 p_12 x1 x.1 x.2) (z8, r8) ?_ (fun B97 => ?_)
      · intro x ls H locs hI hf
        obtain ⟨z_20, p_19⟩ := x
        obtain ⟨hl2, hP2, hD2, hS2⟩ := hI
        replace hl : lv_has ls 4 [(3, .int p_12), (0, .ref (a h0)), (1, .int x0), (2, .int x1)] := hl2
        replace hP := hP2
        replace hD := hD2
        replace hS := hS2
        clear hl2 hP2 hD2 hS2
        replace hf := fn_X13_meet_B97_s hf
        refine W.eq (g2 := F0 m 97 ls [.long p_19, .int x0, .ref (a k_18)]) rfl ?_
        obtain ⟨g_21, hf⟩ := grd_some hf
        obtain ⟨kg_21, sg_21, ig_21⟩ := okA_at g_21
        refine va_last hx hb hK hP hD hS k_18 2 (Wd_al kg_21 sg_21) rfl ig_21 dX13_meet_97 (fun H_22 locs hP2 hD2 hS2 => ?_)
        rw [Wd_tl sg_21] at hP2 hD2
        obtain ⟨z_23, ez_23⟩ : ∃ w, w = sl z_20 k_18 x0.toNatClampNeg p_19 := ⟨_, rfl⟩
        rw [← ez_23] at hP2 hD2
        replace hf := lt_at ez_23 hf
        clear ez_23
        replace hP := hP2
        replace hD := hD2
        replace hS := hS2
        clear hP2 hD2 hS2
        refine lv_aload_n hx hb dX13_meet_98 rfl (lv_at hl 1 rfl) ?_
        obtain ⟨k_24, ek_24, hf⟩ := lnk_some hf
        refine va_get (D := (dC, dI)) (ci := 13) (v := .ref (a k_24)) (C := RX13) (T := TX13) (N := 22) hx hb hts iwd_X13_meet_X13 hown hK hP h0 (Wd_ob kg_1 sg_1 (by decide)) rfl 10 (by decide) (hts _ md_X13_meet_6) (fun _ h9 => h9) (fl_q rfl ek_24) dX13_meet_99 ?_
        refine lv_iload_n hx hb dX13_meet_102 rfl (lv_at hl 2 rfl) ?_
        refine lv_iload_n hx hb dX13_meet_103 rfl (lv_at hl 0 rfl) ?_
        refine lv_if_eq (tgt := 129) hx hb dX13_meet_104 (by decide) (fun c_25 => ?_) (fun c_25 => ?_)
        · skip
          rw [if_pos c_25] at hf
          refine lv_iconst (v := 0) hx hb dX13_meet_129 (by decide) ?_
          obtain ⟨g_26, hf⟩ := grd_some hf
          obtain ⟨kg_26, sg_26, ig_26⟩ := okA_at g_26
          refine va_zast hx hb hK hP hD hS k_24 3 (Wd_az kg_26 sg_26) rfl ig_26 dX13_meet_130 (fun H_27 locs hP2 hD2 hS2 => ?_)
          rw [Wd_tz sg_26] at hP2 hD2
          obtain ⟨z_28, ez_28⟩ : ∃ w, w = si z_23 k_24 x0.toNatClampNeg (vp_nar .boolean 0) := ⟨_, rfl⟩
          rw [← ez_28] at hP2 hD2
          replace hf := lt_at ez_28 hf
          clear ez_28
          replace hP := hP2
          replace hD := hD2
          replace hS := hS2
          clear hP2 hD2 hS2
          obtain ⟨h8, h9⟩ := ret_some hf
          rw [h8]
          exact W.vret hx hb hr (fun t ht hW => ⟨⟨(), rfl, trivial, by rw [ht]; exact hP, va_K.moved hW.alike hK, hD⟩, hS.F ht⟩) hS.2.2 dX13_meet_131
        · skip
          rw [if_neg c_25] at hf
          refine lv_aload_n hx hb dX13_meet_107 rfl (lv_at hl 1 rfl) ?_
          obtain ⟨k_29, ek_29, hf⟩ := lnk_some hf
          refine va_get (D := (dC, dI)) (ci := 13) (v := .ref (a k_29)) (C := RX13) (T := TX13) (N := 22) hx hb hts iwd_X13_meet_X13 hown hK hP h0 (Wd_ob kg_1 sg_1 (by decide)) rfl 10 (by decide) (hts _ md_X13_meet_6) (fun _ h9 => h9) (fl_q rfl ek_29) dX13_meet_108 ?_
          refine lv_iload_n hx hb dX13_meet_111 rfl (lv_at hl 2 rfl) ?_
          obtain ⟨g_30, hf⟩ := grd_some hf
          obtain ⟨kg_30, sg_30, ig_30⟩ := okA_at g_30
          refine va_zald hx hb hK hP k_29 3 (Wd_az kg_30 sg_30) rfl ig_30 dX13_meet_112 ?_
          refine lv_if_ne (tgt := 125) hx hb dX13_meet_113 (by decide) (fun c_31 => ?_) (fun c_31 => ?_)
          · skip
            rw [if_neg c_31] at hf
            refine lv_iconst (v := 1) hx hb dX13_meet_125 (by decide) ?_
            refine lv_goto (tgt := 130) hx hb dX13_meet_126 (by decide) ?_
            obtain ⟨g_32, hf⟩ := grd_some hf
            obtain ⟨kg_32, sg_32, ig_32⟩ := okA_at g_32
            refine va_zast hx hb hK hP hD hS k_24 3 (Wd_az kg_32 sg_32) rfl ig_32 dX13_meet_130 (fun H_33 locs hP2 hD2 hS2 => ?_)
            rw [Wd_tz sg_32] at hP2 hD2
            obtain ⟨z_34, ez_34⟩ : ∃ w, w = si z_23 k_24 x0.toNatClampNeg (vp_nar .boolean 1) := ⟨_, rfl⟩
            rw [← ez_34] at hP2 hD2
            replace hf := lt_at ez_34 hf
            clear ez_34
            replace hP := hP2
            replace hD := hD2
            replace hS := hS2
            clear hP2 hD2 hS2
            obtain ⟨h8, h9⟩ := ret_some hf
            rw [h8]
            exact W.vret hx hb hr (fun t ht hW => ⟨⟨(), rfl, trivial, by rw [ht]; exact hP, va_K.moved hW.alike hK, hD⟩, hS.F ht⟩) hS.2.2 dX13_meet_131
          · skip
            rw [if_pos c_31] at hf
            refine lv_aload_n hx hb dX13_meet_116 rfl (lv_at hl 1 rfl) ?_
            obtain ⟨k_35, ek_35, hf⟩ := lnk_some hf
            refine va_get (D := (dC, dI)) (ci := 13) (v := .ref (a k_35)) (C := RX13) (T := TX13) (N := 22) hx hb hts iwd_X13_meet_X13 hown hK hP h0 (Wd_ob kg_1 sg_1 (by decide)) rfl 17 (by decide) (hts _ md_X13_meet_7) (fun _ h9 => h9) (fl_q rfl ek_35) dX13_meet_117 ?_
            refine lv_iload_n hx hb dX13_meet_120 rfl (lv_at hl 3 rfl) ?_
            obtain ⟨g_36, hf⟩ := grd_some hf
            obtain ⟨kg_36, sg_36, ig_36⟩ := okA_at g_36
            refine va_zald hx hb hK hP k_35 3 (Wd_az kg_36 sg_36) rfl ig_36 dX13_meet_121 ?_
            refine lv_if_eq (tgt := 129) hx hb dX13_meet_122 (by decide) (fun c_37 => ?_) (fun c_37 => ?_)
            · skip
              rw [if_pos c_37] at hf
              refine lv_iconst (v := 0) hx hb dX13_meet_129 (by decide) ?_
              obtain ⟨g_38, hf⟩ := grd_some hf
              obtain ⟨kg_38, sg_38, ig_38⟩ := okA_at g_38
              refine va_zast hx hb hK hP hD hS k_24 3 (Wd_az kg_38 sg_38) rfl ig_38 dX13_meet_130 (fun H_39 locs hP2 hD2 hS2 => ?_)
              rw [Wd_tz sg_38] at hP2 hD2
              obtain ⟨z_40, ez_40⟩ : ∃ w, w = si z_23 k_24 x0.toNatClampNeg (vp_nar .boolean 0) := ⟨_, rfl⟩
              rw [← ez_40] at hP2 hD2
              replace hf := lt_at ez_40 hf
              clear ez_40
              replace hP := hP2
              replace hD := hD2
              replace hS := hS2
              clear hP2 hD2 hS2
              obtain ⟨h8, h9⟩ := ret_some hf
              rw [h8]
              exact W.vret hx hb hr (fun t ht hW => ⟨⟨(), rfl, trivial, by rw [ht]; exact hP, va_K.moved hW.alike hK, hD⟩, hS.F ht⟩) hS.2.2 dX13_meet_131
            · skip
              rw [if_neg c_37] at hf
              refine lv_iconst (v := 1) hx hb dX13_meet_125 (by decide) ?_
              refine lv_goto (tgt := 130) hx hb dX13_meet_126 (by decide) ?_
              obtain ⟨g_41, hf⟩ := grd_some hf
              obtain ⟨kg_41, sg_41, ig_41⟩ := okA_at g_41
              refine va_zast hx hb hK hP hD hS k_24 3 (Wd_az kg_41 sg_41) rfl ig_41 dX13_meet_130 (fun H_42 locs hP2 hD2 hS2 => ?_)
              rw [Wd_tz sg_41] at hP2 hD2
              obtain ⟨z_43, ez_43⟩ : ∃ w, w = si z_23 k_24 x0.toNatClampNeg (vp_nar .boolean 1) := ⟨_, rfl⟩
              rw [← ez_43] at hP2 hD2
              replace hf := lt_at ez_43 hf
              clear ez_43
              replace hP := hP2
              replace hD := hD2
              replace hS := hS2
              clear hP2 hD2 hS2
              obtain ⟨h8, h9⟩ := ret_some hf
              rw [h8]
              exact W.vret hx hb hr (fun t ht hW => ⟨⟨(), rfl, trivial, by rw [ht]; exact hP, va_K.moved hW.alike hK, hD⟩, hS.F ht⟩) hS.2.2 dX13_meet_131
      refine lv_if_eq (tgt := 96) hx hb dX13_meet_77 (by decide) (fun c_44 => ?_) (fun c_44 => ?_)
      · skip
        rw [if_pos c_44] at hf
        refine lv_lconst (v := 0) hx hb dX13_meet_96 (by decide) ?_
        exact B97 (z_17, 0) ls H_16 locs ⟨lv_sub hl [0, 1, 2, 3] rfl, hP, hD, hS⟩ hf
      · skip
        rw [if_neg c_44] at hf
        refine lv_aload_n hx hb dX13_meet_80 rfl (lv_at hl 1 rfl) ?_
        obtain ⟨k_45, ek_45, hf⟩ := lnk_some hf
        refine va_get (D := (dC, dI)) (ci := 13) (v := .ref (a k_45)) (C := RX13) (T := TX13) (N := 22) hx hb hts iwd_X13_meet_X13 hown hK hP h0 (Wd_ob kg_1 sg_1 (by decide)) rfl 9 (by decide) (hts _ md_X13_meet_4) (fun _ h9 => h9) (fl_q rfl ek_45) dX13_meet_81 ?_
        refine lv_iload_n hx hb dX13_meet_84 rfl (lv_at hl 2 rfl) ?_
        obtain ⟨g_46, hf⟩ := grd_some hf
        obtain ⟨kg_46, sg_46, ig_46⟩ := okA_at g_46
        refine va_lald hx hb hK hP k_45 2 (Wd_al kg_46 sg_46) rfl ig_46 dX13_meet_85 ?_
        refine lv_aload_n hx hb dX13_meet_86 rfl (lv_at hl 1 rfl) ?_
        obtain ⟨k_47, ek_47, hf⟩ := lnk_some hf
        refine va_get (D := (dC, dI)) (ci := 13) (v := .ref (a k_47)) (C := RX13) (T := TX13) (N := 22) hx hb hts iwd_X13_meet_X13 hown hK hP h0 (Wd_ob kg_1 sg_1 (by decide)) rfl 16 (by decide) (hts _ md_X13_meet_5) (fun _ h9 => h9) (fl_q rfl ek_47) dX13_meet_87 ?_
        refine lv_iload_n hx hb dX13_meet_90 rfl (lv_at hl 3 rfl) ?_
        obtain ⟨g_48, hf⟩ := grd_some hf
        obtain ⟨kg_48, sg_48, ig_48⟩ := okA_at g_48
        refine va_lald hx hb hK hP k_47 2 (Wd_al kg_48 sg_48) rfl ig_48 dX13_meet_91 ?_
        refine lv_lor hx hb dX13_meet_92 ?_
        refine lv_goto (tgt := 97) hx hb dX13_meet_93 (by decide) ?_
        exact B97 (z_17, ((z_17.2.1 k_45 x0.toNatClampNeg) ||| (z_17.2.1 k_47 x1.toNatClampNeg))) ls H_16 locs ⟨lv_sub hl [0, 1, 2, 3] rfl, hP, hD, hS⟩ hf
    refine de_cut (h := 62) (fun (x : St) => []) (fun x ls H locs => lv_has ls 4 [(0, .ref (a h0)), (1, .int x0), (2, .int x1)] ∧ va_P (dC, dI) vwCl (Wd cy a sh n x) H ∧ va_D A (Wd cy a sh n x) ∧ va_S A s.heap H locs) (fun x => fn_X13_meet_B62 F sh n h0 x0 x1 x) (z8, r8) ?_ (fun B62 => ?_)
    · intro x ls H locs hI hf
      obtain ⟨z_49, ez⟩ : ∃ w, w = x := ⟨_, rfl⟩
      subst ez
      obtain ⟨hl2, hP2, hD2, hS2⟩ := hI
      replace hl : lv_has ls 4 [(0, .ref (a h0)), (1, .int x0), (2, .int x1)] := hl2
      replace hP := hP2
      replace hD := hD2
      replace hS := hS2
      clear hl2 hP2 hD2 hS2
      replace hf := fn_X13_meet_B62_s hf
      refine W.eq (g2 := F0 m 62 ls []) rfl ?_
      refine lv_iconst (v := 0) hx hb dX13_meet_62 (by decide) ?_
      exact B63 (z_49, 0) ls H locs ⟨lv_sub hl [0, 1, 2] rfl, hP, hD, hS⟩ hf
    refine lv_if_eq (tgt := 62) hx hb dX13_meet_46 (by decide) (fun c_50 => ?_) (fun c_50 => ?_)
    · skip
      rw [if_pos c_50] at hf
      exact B62 (z_8) ls H_9 locs ⟨lv_sub hl [0, 1, 2] rfl, hP, hD, hS⟩ hf
    · skip
      rw [if_neg c_50] at hf
      refine lv_aload_n hx hb dX13_meet_49 rfl (lv_at hl 0 rfl) ?_
      obtain ⟨k_51, ek_51, hf⟩ := lnk_some hf
      refine va_get (D := (dC, dI)) (ci := 13) (v := .ref (a k_51)) (C := RX13) (T := TX13) (N := 22) hx hb hts iwd_X13_meet_X13 hown hK hP h0 (Wd_ob kg_1 sg_1 (by decide)) rfl 15 (by decide) (hts _ md_X13_meet_2) (fun _ h9 => h9) (fl_q rfl ek_51) dX13_meet_50 ?_
      refine lv_iload_n hx hb dX13_meet_53 rfl (lv_at hl 2 rfl) ?_
      obtain ⟨g_52, hf⟩ := grd_some hf
      obtain ⟨kg_52, sg_52, ig_52⟩ := okA_at g_52
      refine va_zald hx hb hK hP k_51 3 (Wd_az kg_52 sg_52) rfl ig_52 dX13_meet_54 ?_
      refine lv_if_eq (tgt := 62) hx hb dX13_meet_55 (by decide) (fun c_53 => ?_) (fun c_53 => ?_)
      · skip
        rw [if_pos c_53] at hf
        exact B62 (z_8) ls H_9 locs ⟨lv_sub hl [0, 1, 2] rfl, hP, hD, hS⟩ hf
      · skip
        rw [if_neg c_53] at hf
        refine lv_iconst (v := 1) hx hb dX13_meet_58 (by decide) ?_
        refine lv_goto (tgt := 63) hx hb dX13_meet_59 (by decide) ?_
        exact B63 (z_8, 1) ls H_9 locs ⟨lv_sub hl [0, 1, 2] rfl, hP, hD, hS⟩ hf
  refine de_cut (h := 30) (fun (x : St) => [.ref (a h0)]) (fun x ls H locs => lv_has ls 4 [(0, .ref (a h0)), (1, .int x0), (2, .int x1)] ∧ va_P (dC, dI) vwCl (Wd cy a sh n x) H ∧ va_D A (Wd cy a sh n x) ∧ va_S A s.heap H locs) (fun x => fn_X13_meet_B30 F sh n h0 x0 x1 x) (z8, r8) ?_ (fun B30 => ?_)
  · intro x ls H locs hI hf
    obtain ⟨z_54, ez⟩ : ∃ w, w = x := ⟨_, rfl⟩
    subst ez
    obtain ⟨hl2, hP2, hD2, hS2⟩ := hI
    replace hl : lv_has ls 4 [(0, .ref (a h0)), (1, .int x0), (2, .int x1)] := hl2
    replace hP := hP2
    replace hD := hD2
    replace hS := hS2
    clear hl2 hP2 hD2 hS2
    replace hf := fn_X13_meet_B30_s hf
    refine W.eq (g2 := F0 m 30 ls [.ref (a h0)]) rfl ?_
    refine lv_iconst (v := 1) hx hb dX13_meet_30 (by decide) ?_
    refine lv_goto (tgt := 35) hx hb dX13_meet_31 (by decide) ?_
    exact B35 (z_54, 1) ls H locs ⟨lv_sub hl [0, 1, 2] rfl, hP, hD, hS⟩ hf
  refine lv_icmp_eq (tgt := 30) hx hb dX13_meet_13 (by decide) (fun c_55 => ?_) (fun c_55 => ?_)
  · skip
    rw [if_pos c_55] at hf
    exact B30 (z) ls H locs ⟨lv_sub hl [0, 1, 2] rfl, hP, hD, hS⟩ hf
  · skip
    rw [if_neg c_55] at hf
    refine lv_aload_n hx hb dX13_meet_16 rfl (lv_at hl 0 rfl) ?_
    refine lv_aload_n hx hb dX13_meet_17 rfl (lv_at hl 0 rfl) ?_
    obtain ⟨k_56, ek_56, hf⟩ := lnk_some hf
    refine va_get (D := (dC, dI)) (ci := 13) (v := .ref (a k_56)) (C := RX13) (T := TX13) (N := 22) hx hb hts iwd_X13_meet_X13 hown hK hP h0 (Wd_ob kg_1 sg_1 (by decide)) rfl 3 (by decide) (hts _ md_X13_meet_3) (fun _ h9 => h9) (fl_q rfl ek_56) dX13_meet_18 ?_
    refine lv_iload_n hx hb dX13_meet_21 rfl (lv_at hl 2 rfl) ?_
    obtain ⟨g_57, hf⟩ := grd_some hf
    obtain ⟨kg_57, sg_57, ig_57⟩ := okA_at g_57
    refine va_lald hx hb hK hP k_56 2 (Wd_al kg_57 sg_57) rfl ig_57 dX13_meet_22 ?_
    refine lv_iconst (v := 2) hx hb dX13_meet_23 (by decide) ?_
    obtain ⟨z_58, r_59, hfc, hf⟩ := cal_some hf
    have hFc := de_free hD hS hA
    refine va_calli (va_runV (As := [.long (z.2.1 k_56 x1.toNatClampNeg), .int 2]) (rest := [.ref (a h0)]) ⟨hx, hb, hml, hown, hts⟩ (de_X13_has l dC dI cy a sh n H.size F z h0 (z.2.1 k_56 x1.toNatClampNeg) 2 hfc) (cwV 2 hts gX13_meet_X13_has rfl rfl rfl (by decide +kernel) ⟨Nat.le_of_ble_eq_true rfl, Nat.le_of_ble_eq_true rfl⟩) ⟨fun a U g mk q => by obtain ⟨q0, q1, qP, qK, qD, qN⟩ := q; exact ⟨q0, q1, qP, va_K.moved (u := U) (U := U.calling g mk a) (Vm.Alike.refl U.vm) qK, qD, qN.same rfl⟩, va_recv hK hP (ci := 13) (q0 := h0) rfl (Wd_ob kg_1 sg_1 (by decide)), fun U hU hW => ⟨rfl, by rw [hU], by rw [hU]; exact hP, va_K.moved hW.alike hK, hD.weaken (fun _ _ _ _ => trivial), hN.warm hW⟩⟩ rfl rfl hl.1 rfl (lv_room (Nat.le_of_ble_eq_true rfl)) dX13_meet_24 ⟨Nat.le_of_ble_eq_true rfl, Nat.le_of_ble_eq_true rfl⟩) hS (fun q _ h => hFc q h) hFc (fun rr u t H_60 locs ht hvm hw hB hz1 hk1 hS2 => ?_)
    rw [hw]
    clear hw
    obtain ⟨hP1, -, hD1⟩ := hB
    rw [ht] at hP1
    replace hD := hD1.weaken (fun _ _ _ h => hFc _ h)
    replace hP := hP1
    replace hS := hS2
    clear hP1 hD1 hS2 hFc hfc hz1 hk1 hvm ht
    refine lv_if_eq (tgt := 34) hx hb dX13_meet_27 (by decide) (fun c_61 => ?_) (fun c_61 => ?_)
    · skip
      rw [if_pos c_61] at hf
      refine lv_iconst (v := 0) hx hb dX13_meet_34 (by decide) ?_
      exact B35 (z_58, 0) ls H_60 locs ⟨lv_sub hl [0, 1, 2] rfl, hP, hD, hS⟩ hf
    · skip
      rw [if_neg c_61] at hf
      exact B30 (z_58) ls H_60 locs ⟨lv_sub hl [0, 1, 2] rfl, hP, hD, hS⟩ hf

theorem md_X18_digest_1 : (.fieldLink RX18 40 "ResourceLedgerModel" "trees" "LResourceLedgerModel$Trees;" : Cond) ∈ wsX18_digest := List.mem_of_getElem? (i := 1) rfl
theorem iwd_X18_digest_X18 : ∀ w ∈ wsX180, w ∈ wsX18_digest := fun _ h => List.mem_cons_of_mem _ (List.mem_append_left _ (List.mem_append_left _ (List.mem_append_right _ h)))
theorem md_X18_digest_2 : (.fieldLink RX18 94 "ResourceLedgerModel" "digester" "LResourceLedgerModel$Digester;" : Cond) ∈ wsX18_digest := List.mem_of_getElem? (i := 2) rfl
theorem iwd_X18_digest_X15 : ∀ w ∈ wsX150, w ∈ wsX18_digest := fun _ h => List.mem_cons_of_mem _ (List.mem_append_left _ (List.mem_append_right _ h))
set_option maxHeartbeats 4000000 in
set_option maxRecDepth 100000 in
theorem de_X18_digest (l : Launch) (dC : Nat → ClassId) (dI : Nat → Nat → Nat) (cy : Nat → ClassId) (a : Nat → Nat) (sh : Nat → Nat × Nat) (n sz : Nat) (F : Nat) (sk : Nat → Nat) (z : St) (h0 : Nat) {z8 : St} {r8 : Unit} (hf : fn_X18_digest F sh n z h0 = some (z8, r8)) : Met l yX18_digest wsX18_digest ({ frames := 4, cells := 0, slots := 0, locals := 86 }) (va_Pc [.ref (a h0)] (fun U => U.heap.size = sz ∧ va_P (dC, dI) vwCl (Wd cy a sh n z) U.heap ∧ va_K (dC, dI) vwCl (TYS cy) U ∧ va_D (fun _ => True) (Wd cy a sh n z) ∧ NK U ∧ SKs sk (a CBK) (va_A (Wd cy a sh n z) sz) U U.heap)) (va_Qv (fun u : Unit => True) (fun u t => va_P (dC, dI) vwCl (Wd cy a sh n z8) t.heap ∧ va_K (dC, dI) vwCl (TYS cy) t ∧ va_D (va_A (Wd cy a sh n z) sz) (Wd cy a sh n z8)) (va_A (Wd cy a sh n z) sz)) 0 0 (va_A (Wd cy a sh n z) sz) := by
  refine Met.ofW (cc := cX18_digest) (maxL := 4) (ret := none) (by decide) rfl ?_
  intro p e s m args below meth c s₁ B hml hv
  obtain ⟨rfl, hsz, hP, hK, hD0, hN, hSK⟩ := hv
  have hx := B.exec
  have hb := B.bytes
  have hr := B.returns
  have hts := atoms_spec (ws := wsX18_digest) B.pre
  have hown : s.vm.findClass RX18 = some m.cls := findClass_of_methodNamed B.named
  have hlocks := B.notSynchronized
  subst hsz
  have hD := hD0.self (sz := s.heap.size)
  clear hD0
  generalize hAe : va_A (Wd cy a sh n z) s.heap.size = A at hD hSK ⊢
  have hA : ∀ q : Nat, s.heap.size ≤ q → A q := fun q h => by rw [← hAe]; exact Or.inr h
  clear hAe
  have hS : va_S A s.heap s.heap [] := va_S.rf
  have hl := lv_entry ([.ref (a h0)]) (n := 4) (Nat.le_of_ble_eq_true rfl)
  rw [lg_entry_eq]
  generalize (lg_sl ([.ref (a h0)]) ++ List.replicate (4 - (lg_sl ([.ref (a h0)])).length) Slot.unset).toArray = ls at hl ⊢
  replace hl : lv_has ls 4 [(0, .ref (a h0))] := hl
  unfold fn_X18_digest at hf
  refine de_start hS hP (fun H locs hS hP => ?_)
  refine lv_aload_n hx hb dX18_digest_0 rfl (lv_at hl 0 rfl) ?_
  refine lv_bipush (v := 7) hx hb dX18_digest_1 (by decide) ?_
  obtain ⟨g_3, hf⟩ := grd_some hf
  obtain ⟨kg_3, sg_3⟩ := okO_at g_3
  obtain ⟨z_1, r_2, hfc, hf⟩ := cal_some hf
  have hFc := de_free hD hS hA
  refine va_calli (va_runV (As := [.int 7]) (rest := []) ⟨hx, hb, hml, hown, hts⟩ (de_X18_take l dC dI cy a sh n H.size F z h0 7 hfc) (cwV 1 hts gX18_digest_X18_take rfl rfl rfl (by decide +kernel) ⟨Nat.le_of_ble_eq_true rfl, Nat.le_of_ble_eq_true rfl⟩) ⟨fun a U g mk q => by obtain ⟨q0, q1, qP, qK, qD, qN⟩ := q; exact ⟨q0, q1, qP, va_K.moved (u := U) (U := U.calling g mk a) (Vm.Alike.refl U.vm) qK, qD, qN.same rfl⟩, va_recv hK hP (ci := 18) (q0 := h0) rfl (Wd_ob kg_3 sg_3 (by decide)), fun U hU hW => ⟨rfl, by rw [hU], by rw [hU]; exact hP, va_K.moved hW.alike hK, hD.weaken (fun _ _ _ _ => trivial), hN.warm hW⟩⟩ rfl rfl hl.1 rfl (lv_room (Nat.le_of_ble_eq_true rfl)) dX18_digest_3 ⟨Nat.le_of_ble_eq_true rfl, Nat.le_of_ble_eq_true rfl⟩) hS (fun q _ h => hFc q h) hFc (fun rr u t H_4 locs ht hvm hw hB hz1 hk1 hS2 => ?_)
  rw [hw]
  clear hw
  obtain ⟨hP1, -, hD1⟩ := hB
  rw [ht] at hP1
  replace hD := hD1.weaken (fun _ _ _ h => hFc _ h)
  replace hP := hP1
  replace hS := hS2
  clear hP1 hD1 hS2 hFc hfc hz1 hk1 hvm ht
  refine lv_istore_n (lv' := [(1, .int r_2), (0, .ref (a h0))]) hx hb dX18_digest_6 rfl hl (by decide) rfl (fun ls hl2 => ?_)
  replace hl := hl2
  clear hl2
  refine lv_aload_n hx hb dX18_digest_7 rfl (lv_at hl 1 rfl) ?_
  obtain ⟨z_5, r_6, hfc, hf⟩ := cal_some hf
  have hFc := de_free hD hS hA
  refine va_calli (va_runV (As := []) (rest := []) ⟨hx, hb, hml, hown, hts⟩ (de_X18_goesOn l dC dI cy a sh n H_4.size F z_1 h0 hfc) (cwV 0 hts gX18_digest_X18_goesOn rfl rfl rfl (by decide +kernel) ⟨Nat.le_of_ble_eq_true rfl, Nat.le_of_ble_eq_true rfl⟩) ⟨fun a U g mk q => by obtain ⟨q0, q1, qP, qK, qD, qN⟩ := q; exact ⟨q0, q1, qP, va_K.moved (u := U) (U := U.calling g mk a) (Vm.Alike.refl U.vm) qK, qD, qN.same rfl⟩, va_recv hK hP (ci := 18) (q0 := h0) rfl (Wd_ob kg_3 sg_3 (by decide)), fun U hU hW => ⟨rfl, by rw [hU], by rw [hU]; exact hP, va_K.moved hW.alike hK, hD.weaken (fun _ _ _ _ => trivial), hN.warm hW⟩⟩ rfl rfl hl.1 rfl (lv_room (Nat.le_of_ble_eq_true rfl)) dX18_digest_8 ⟨Nat.le_of_ble_eq_true rfl, Nat.le_of_ble_eq_true rfl⟩) hS (fun q _ h => hFc q h) hFc (fun rr u t H_7 locs ht hvm hw hB hz1 hk1 hS2 => ?_)
  rw [hw]
  clear hw
  obtain ⟨hP1, -, hD1⟩ := hB
  rw [ht] at hP1
  replace hD := hD1.weaken (fun _ _ _ h => hFc _ h)
  replace hP := hP1
  replace hS := hS2
  clear hP1 hD1 hS2 hFc hfc hz1 hk1 hvm ht
  refine lv_if_eq (tgt := 32) hx hb dX18_digest_11 (by decide) (fun c_8 => ?_) (fun c_8 => ?_)
  · skip
    rw [if_pos c_8] at hf
    obtain ⟨h8, h9⟩ := ret_some hf
    rw [h8]
    exact W.vret hx hb hr (fun t ht hW => ⟨⟨(), rfl, trivial, by rw [ht]; exact hP, va_K.moved hW.alike hK, hD⟩, hS.F ht⟩) hS.2.2 dX18_digest_32
  · skip
    rw [if_neg c_8] at hf
    refine lv_aload_n hx hb dX18_digest_14 rfl (lv_at hl 1 rfl) ?_
    refine lv_bipush (v := 32) hx hb dX18_digest_15 (by decide) ?_
    refine lv_aload_n hx hb dX18_digest_17 rfl (lv_at hl 1 rfl) ?_
    obtain ⟨k_9, ek_9, hf⟩ := lnk_some hf
    refine va_get (D := (dC, dI)) (ci := 18) (v := .ref (a k_9)) (C := RX18) (T := TX18) (N := 78) hx hb hts iwd_X18_digest_X18 hown hK hP h0 (Wd_ob kg_3 sg_3 (by decide)) rfl 15 (by decide) (hts _ md_X18_digest_1) (fun _ h9 => h9) (fl_q rfl ek_9) dX18_digest_18 ?_
    refine lv_iload_n hx hb dX18_digest_21 rfl (lv_at hl 0 rfl) ?_
    obtain ⟨g_12, hf⟩ := grd_some hf
    obtain ⟨kg_12, sg_12⟩ := okO_at g_12
    obtain ⟨z_10, r_11, hfc, hf⟩ := cal_some hf
    have hFc := de_free hD hS hA
    refine va_calli (va_runV (As := [.int r_2]) (rest := [.int 32, .ref (a h0)]) ⟨hx, hb, hml, hown, hts⟩ (de_X15_count l dC dI cy a sh n H_7.size F z_5 k_9 r_2 hfc) (cwV 1 hts gX18_digest_X15_count rfl rfl rfl (by decide +kernel) ⟨Nat.le_of_ble_eq_true rfl, Nat.le_of_ble_eq_true rfl⟩) ⟨fun a U g mk q => by obtain ⟨q0, q1, qP, qK, qD, qN⟩ := q; exact ⟨q0, q1, qP, va_K.moved (u := U) (U := U.calling g mk a) (Vm.Alike.refl U.vm) qK, qD, qN.same rfl⟩, va_recv hK hP (ci := 15) (q0 := k_9) rfl (Wd_ob kg_12 sg_12 (by decide)), fun U hU hW => ⟨rfl, by rw [hU], by rw [hU]; exact hP, va_K.moved hW.alike hK, hD.weaken (fun _ _ _ _ => trivial), hN.warm hW⟩⟩ rfl rfl hl.1 rfl (lv_room (Nat.le_of_ble_eq_true rfl)) dX18_digest_22 ⟨Nat.le_of_ble_eq_true rfl, Nat.le_of_ble_eq_true rfl⟩) hS (fun q _ h => hFc q h) hFc (fun rr u t H_13 locs ht hvm hw hB hz1 hk1 hS2 => ?_)
    rw [hw]
    clear hw
    obtain ⟨hP1, -, hD1⟩ := hB
    rw [ht] at hP1
    replace hD := hD1.weaken (fun _ _ _ h => hFc _ h)
    replace hP := hP1
    replace hS := hS2
    clear hP1 hD1 hS2 hFc hfc hz1 hk1 hvm ht
    refine lv_iadd hx hb dX18_digest_25 ?_
    obtain ⟨z_14, r_15, hfc, hf⟩ := cal_some hf
    have hFc := de_free hD hS hA
    refine va_calli (va_runV (As := [.int (32 + r_11)]) (rest := []) ⟨hx, hb, hml, hown, hts⟩ (de_X18_spend l dC dI cy a sh n H_13.size F z_10 h0 (32 + r_11) hfc) (cwV 1 hts gX18_digest_X18_spend rfl rfl rfl (by decide +kernel) ⟨Nat.le_of_ble_eq_true rfl, Nat.le_of_ble_eq_true rfl⟩) ⟨fun a U g mk q => by obtain ⟨q0, q1, qP, qK, qD, qN⟩ := q; exact ⟨q0, q1, qP, va_K.moved (u := U) (U := U.calling g mk a) (Vm.Alike.refl U.vm) qK, qD, qN.same rfl⟩, va_recv hK hP (ci := 18) (q0 := h0) rfl (Wd_ob kg_3 sg_3 (by decide)), fun U hU hW => ⟨rfl, by rw [hU], by rw [hU]; exact hP, va_K.moved hW.alike hK, hD.weaken (fun _ _ _ _ => trivial), hN.warm hW⟩⟩ rfl rfl hl.1 rfl (lv_room (Nat.le_of_ble_eq_true rfl)) dX18_digest_26 ⟨Nat.le_of_ble_eq_true rfl, Nat.le_of_ble_eq_true rfl⟩) hS (fun q _ h => hFc q h) hFc (fun rr u t H_16 locs ht hvm hw hB hz1 hk1 hS2 => ?_)
    rw [hw]
    clear hw
    obtain ⟨hP1, -, hD1⟩ := hB
    rw [ht] at hP1
    replace hD := hD1.weaken (fun _ _ _ h => hFc _ h)
    replace hP := hP1
    replace hS := hS2
    clear hP1 hD1 hS2 hFc hfc hz1 hk1 hvm ht
    refine lv_if_ne (tgt := 33) hx hb dX18_digest_29 (by decide) (fun c_17 => ?_) (fun c_17 => ?_)
    · skip
      rw [if_neg c_17] at hf
      refine lv_aload_n hx hb dX18_digest_33 rfl (lv_at hl 1 rfl) ?_
      obtain ⟨k_18, ek_18, hf⟩ := lnk_some hf
      refine va_get (D := (dC, dI)) (ci := 18) (v := .ref (a k_18)) (C := RX18) (T := TX18) (N := 78) hx hb hts iwd_X18_digest_X18 hown hK hP h0 (Wd_ob kg_3 sg_3 (by decide)) rfl 18 (by decide) (hts _ md_X18_digest_2) (fun _ h9 => h9) (fl_q rfl ek_18) dX18_digest_34 ?_
      obtain ⟨g_20, hf⟩ := grd_some hf
      obtain ⟨kg_20, sg_20⟩ := okO_at g_20
      obtain ⟨z_19, _u, hfc, hf⟩ := cal_some hf
      have hFc := de_free hD hS hA
      refine va_callv (va_runV (As := []) (rest := []) ⟨hx, hb, hml, hown, hts⟩ (de_X12_begin l dC dI cy a sh n H_16.size F z_14 k_18 hfc) (cwV 0 hts gX18_digest_X12_begin rfl rfl rfl (by decide +kernel) ⟨Nat.le_of_ble_eq_true rfl, Nat.le_of_ble_eq_true rfl⟩) ⟨fun a U g mk q => by obtain ⟨q0, q1, qP, qK, qD, qN⟩ := q; exact ⟨q0, q1, qP, va_K.moved (u := U) (U := U.calling g mk a) (Vm.Alike.refl U.vm) qK, qD, qN.same rfl⟩, va_recv hK hP (ci := 12) (q0 := k_18) rfl (Wd_ob kg_20 sg_20 (by decide)), fun U hU hW => ⟨rfl, by rw [hU], by rw [hU]; exact hP, va_K.moved hW.alike hK, hD.weaken (fun _ _ _ _ => trivial), hN.warm hW⟩⟩ rfl rfl hl.1 rfl (lv_room (Nat.le_of_ble_eq_true rfl)) dX18_digest_37 ⟨Nat.le_of_ble_eq_true rfl, Nat.le_of_ble_eq_true rfl⟩) hS (fun q _ h => hFc q h) hFc (fun u t H_21 locs ht hvm hw hB hz1 hk1 hS2 => ?_)
      obtain ⟨hP1, -, hD1⟩ := hB
      rw [ht] at hP1
      replace hD := hD1.weaken (fun _ _ _ h => hFc _ h)
      replace hP := hP1
      replace hS := hS2
      clear hP1 hD1 hS2 hFc hfc hz1 hk1 hvm ht
      refine lv_aload_n hx hb dX18_digest_40 rfl (lv_at hl 1 rfl) ?_
      obtain ⟨k_22, ek_22, hf⟩ := lnk_some hf
      refine va_get (D := (dC, dI)) (ci := 18) (v := .ref (a k_22)) (C := RX18) (T := TX18) (N := 78) hx hb hts iwd_X18_digest_X18 hown hK hP h0 (Wd_ob kg_3 sg_3 (by decide)) rfl 15 (by decide) (hts _ md_X18_digest_1) (fun _ h9 => h9) (fl_q rfl ek_22) dX18_digest_41 ?_
      obtain ⟨g_23, hf⟩ := grd_some hf
      obtain ⟨kg_23, sg_23⟩ := okO_at g_23
      obtain ⟨k_24, ek_24, hf⟩ := lnk_some hf
      refine va_getN (D := (dC, dI)) (ci := 15) (v := .ref (a k_24)) (C := RX15) (T := TX15) (N := 6) hx hb hts iwd_X18_digest_X15 hown hK hP k_22 (Wd_ob kg_23 sg_23 (by decide)) rfl 3 (by decide) (va_Nw.use rfl (NK_f_X18_84 hN)) (fun _ h9 => h9) (fl_q rfl ek_24) dX18_digest_44 ?_
      refine lv_iload_n hx hb dX18_digest_47 rfl (lv_at hl 0 rfl) ?_
      obtain ⟨g_25, hf⟩ := grd_some hf
      obtain ⟨kg_25, sg_25, ig_25⟩ := okA_at g_25
      refine va_iald hx hb hK hP k_24 1 (Wd_ai kg_25 sg_25) rfl ig_25 dX18_digest_48 ?_
      refine lv_topi (fun v_26 ev_26 => ?_)
      replace hf := lt_at ev_26 hf
      clear ev_26
      refine lv_istore_n (lv' := [(2, .int v_26), (1, .int r_2), (0, .ref (a h0))]) hx hb dX18_digest_49 rfl hl (by decide) rfl (fun ls hl2 => ?_)
      replace hl := hl2
      clear hl2
      have hl0 : lv_has ls 4 [(2, .int v_26), (0, .ref (a h0))] := lv_sub hl [0, 2] rfl
      refine de_loop (h := 50) (fun (x : St × Int32) ls H locs => lv_has ls 4 [(2, .int x.2), (0, .ref (a h0))] ∧ va_P (dC, dI) vwCl (Wd cy a sh n x.1) H ∧ va_D A (Wd cy a sh n x.1) ∧ va_S A s.heap H locs) (fun f x => fn_X18_digest_L50 F sh n h0 f x.1 x.2) (z8, r8) ?_ (fun _ => rfl) F (z_19, v_26) ls H_21 locs ⟨hl0, hP, hD, hS⟩ hf
      intro f_29 x ls H locs ih50 hI hf
      obtain ⟨z_28, p_27⟩ := x
      obtain ⟨hl2, hP2, hD2, hS2⟩ := hI
      replace hl : lv_has ls 4 [(2, .int p_27), (0, .ref (a h0))] := hl2
      replace hP := hP2
      replace hD := hD2
      replace hS := hS2
      clear hl2 hP2 hD2 hS2 hl0
      replace hf := fn_X18_digest_L50_s hf
      refine lv_iload_n hx hb dX18_digest_50 rfl (lv_at hl 0 rfl) ?_
      refine lv_iconst (v := (-1)) hx hb dX18_digest_51 (by decide) ?_
      refine lv_icmp_eq (tgt := 85) hx hb dX18_digest_52 (by decide) (fun c_30 => ?_) (fun c_30 => ?_)
      · skip
        rw [if_pos c_30] at hf
        refine lv_aload_n hx hb dX18_digest_85 rfl (lv_at hl 1 rfl) ?_
        obtain ⟨k_31, ek_31, hf⟩ := lnk_some hf
        refine va_get (D := (dC, dI)) (ci := 18) (v := .ref (a k_31)) (C := RX18) (T := TX18) (N := 78) hx hb hts iwd_X18_digest_X18 hown hK hP h0 (Wd_ob kg_3 sg_3 (by decide)) rfl 18 (by decide) (hts _ md_X18_digest_2) (fun _ h9 => h9) (fl_q rfl ek_31) dX18_digest_86 ?_
        obtain ⟨g_33, hf⟩ := grd_some hf
        obtain ⟨kg_33, sg_33⟩ := okO_at g_33
        obtain ⟨z_32, _u, hfc, hf⟩ := cal_some hf
        have hFc := de_free hD hS hA
        refine va_callv (va_runV (As := []) (rest := []) ⟨hx, hb, hml, hown, hts⟩ (de_X12_end l dC dI cy a sh n H.size F sk z_28 k_31 hfc) (cwV 0 hts gX18_digest_X12_end rfl rfl rfl (by decide +kernel) ⟨Nat.le_of_ble_eq_true rfl, Nat.le_of_ble_eq_true rfl⟩) ⟨fun a U g mk q => by obtain ⟨q0, q1, qP, qK, qD, qN, qS⟩ := q; exact ⟨q0, q1, qP, va_K.moved (u := U) (U := U.calling g mk a) (Vm.Alike.refl U.vm) qK, qD, qN.same rfl, SKs.moved (u := U) (U := U.calling g mk a) (Vm.Alike.refl U.vm) qS⟩, va_recv hK hP (ci := 12) (q0 := k_31) rfl (Wd_ob kg_33 sg_33 (by decide)), fun U hU hW => ⟨rfl, by rw [hU], by rw [hU]; exact hP, va_K.moved hW.alike hK, hD.weaken (fun _ _ _ _ => trivial), hN.warm hW, by rw [hU]; exact ((hSK.kept hS.2.1).narrow hFc).moved hW.alike⟩⟩ rfl rfl hl.1 rfl (lv_room (Nat.le_of_ble_eq_true rfl)) dX18_digest_89 ⟨Nat.le_of_ble_eq_true rfl, Nat.le_of_ble_eq_true rfl⟩) hS (fun q _ h => hFc q h) hFc (fun u t H_34 locs ht hvm hw hB hz1 hk1 hS2 => ?_)
        obtain ⟨hP1, -, hD1⟩ := hB
        rw [ht] at hP1
        replace hD := hD1.weaken (fun _ _ _ h => hFc _ h)
        replace hP := hP1
        replace hS := hS2
        clear hP1 hD1 hS2 hFc hfc hz1 hk1 hvm ht
        refine lv_aload_n hx hb dX18_digest_92 rfl (lv_at hl 1 rfl) ?_
        obtain ⟨k_35, ek_35, hf⟩ := lnk_some hf
        refine va_get (D := (dC, dI)) (ci := 18) (v := .ref (a k_35)) (C := RX18) (T := TX18) (N := 78) hx hb hts iwd_X18_digest_X18 hown hK hP h0 (Wd_ob kg_3 sg_3 (by decide)) rfl 15 (by decide) (hts _ md_X18_digest_1) (fun _ h9 => h9) (fl_q rfl ek_35) dX18_digest_93 ?_
        refine lv_bipush (v := 7) hx hb dX18_digest_96 (by decide) ?_
        refine lv_lconst (v := 0) hx hb dX18_digest_98 (by decide) ?_
        refine lv_lconst (v := 0) hx hb dX18_digest_99 (by decide) ?_
        obtain ⟨g_38, hf⟩ := grd_some hf
        obtain ⟨kg_38, sg_38⟩ := okO_at g_38
        obtain ⟨z_36, r_37, hfc, hf⟩ := cal_some hf
        have hFc := de_free hD hS hA
        refine va_calli (va_runV (As := [.int 7, .long 0, .long 0]) (rest := []) ⟨hx, hb, hml, hown, hts⟩ (de_X15_make l dC dI cy a sh n H_34.size F z_32 k_35 7 0 0 hfc) (cwV 3 hts gX18_digest_X15_make rfl rfl rfl (by decide +kernel) ⟨Nat.le_of_ble_eq_true rfl, Nat.le_of_ble_eq_true rfl⟩) ⟨fun a U g mk q => by obtain ⟨q0, q1, qP, qK, qD, qN⟩ := q; exact ⟨q0, q1, qP, va_K.moved (u := U) (U := U.calling g mk a) (Vm.Alike.refl U.vm) qK, qD, qN.same rfl⟩, va_recv hK hP (ci := 15) (q0 := k_35) rfl (Wd_ob kg_38 sg_38 (by decide)), fun U hU hW => ⟨rfl, by rw [hU], by rw [hU]; exact hP, va_K.moved hW.alike hK, hD.weaken (fun _ _ _ _ => trivial), hN.warm hW⟩⟩ rfl rfl hl.1 rfl (lv_room (Nat.le_of_ble_eq_true rfl)) dX18_digest_100 ⟨Nat.le_of_ble_eq_true rfl, Nat.le_of_ble_eq_true rfl⟩) hS (fun q _ h => hFc q h) hFc (fun rr u t H_39 locs ht hvm hw hB hz1 hk1 hS2 => ?_)
        rw [hw]
        clear hw
        obtain ⟨hP1, -, hD1⟩ := hB
        rw [ht] at hP1
        replace hD := hD1.weaken (fun _ _ _ h => hFc _ h)
        replace hP := hP1
        replace hS := hS2
        clear hP1 hD1 hS2 hFc hfc hz1 hk1 hvm ht
        refine lv_istore_n (lv' := [(2, .int r_37), (0, .ref (a h0))]) hx hb dX18_digest_103 rfl hl (by decide) rfl (fun ls hl2 => ?_)
        replace hl := hl2
        clear hl2
        refine lv_iconst (v := 0) hx hb dX18_digest_104 (by decide) ?_
        refine lv_istore_n (lv' := [(3, .int 0), (2, .int r_37), (0, .ref (a h0))]) hx hb dX18_digest_105 rfl hl (by decide) rfl (fun ls hl2 => ?_)
        replace hl := hl2
        clear hl2
        have hl0 : lv_has ls 4 [(3, .int 0), (2, .int r_37), (0, .ref (a h0))] := lv_sub hl [0, 1, 2] rfl
        refine de_loop (h := 106) (fun (x : St × Int32) ls H locs => lv_has ls 4 [(3, .int x.2), (2, .int r_37), (0, .ref (a h0))] ∧ va_P (dC, dI) vwCl (Wd cy a sh n x.1) H ∧ va_D A (Wd cy a sh n x.1) ∧ va_S A s.heap H locs) (fun f x => fn_X18_digest_L106 F sh n h0 r_37 f x.1 x.2) (z8, r8) ?_ (fun _ => rfl) F (z_36, 0) ls H_39 locs ⟨hl0, hP, hD, hS⟩ hf
        intro f_42 x ls H locs ih106 hI hf
        obtain ⟨z_41, p_40⟩ := x
        obtain ⟨hl2, hP2, hD2, hS2⟩ := hI
        replace hl : lv_has ls 4 [(3, .int p_40), (2, .int r_37), (0, .ref (a h0))] := hl2
        replace hP := hP2
        replace hD := hD2
        replace hS := hS2
        clear hl2 hP2 hD2 hS2 hl0
        replace hf := fn_X18_digest_L106_s hf
        refine lv_iload_n hx hb dX18_digest_106 rfl (lv_at hl 0 rfl) ?_
        refine lv_bipush (v := 32) hx hb dX18_digest_107 (by decide) ?_
        refine lv_icmp_ge (tgt := 144) hx hb dX18_digest_109 (by decide) (fun c_43 => ?_) (fun c_43 => ?_)
        · skip
          rw [if_pos c_43] at hf
          refine lv_aload_n hx hb dX18_digest_144 rfl (lv_at hl 2 rfl) ?_
          refine lv_iload_n hx hb dX18_digest_145 rfl (lv_at hl 1 rfl) ?_
          refine lv_iconst (v := 0) hx hb dX18_digest_146 (by decide) ?_
          obtain ⟨z_44, _u, hfc, hf⟩ := cal_some hf
          have hFc := de_free hD hS hA
          refine va_callv (va_runV (As := [.int r_37, .int 0]) (rest := []) ⟨hx, hb, hml, hown, hts⟩ (de_X18_push l dC dI cy a sh n H.size F z_41 h0 r_37 0 hfc) (cwV 2 hts gX18_digest_X18_push rfl rfl rfl (by decide +kernel) ⟨Nat.le_of_ble_eq_true rfl, Nat.le_of_ble_eq_true rfl⟩) ⟨fun a U g mk q => by obtain ⟨q0, q1, qP, qK, qD, qN⟩ := q; exact ⟨q0, q1, qP, va_K.moved (u := U) (U := U.calling g mk a) (Vm.Alike.refl U.vm) qK, qD, qN.same rfl⟩, va_recv hK hP (ci := 18) (q0 := h0) rfl (Wd_ob kg_3 sg_3 (by decide)), fun U hU hW => ⟨rfl, by rw [hU], by rw [hU]; exact hP, va_K.moved hW.alike hK, hD.weaken (fun _ _ _ _ => trivial), hN.warm hW⟩⟩ rfl rfl hl.1 rfl (lv_room (Nat.le_of_ble_eq_true rfl)) dX18_digest_147 ⟨Nat.le_of_ble_eq_true rfl, Nat.le_of_ble_eq_true rfl⟩) hS (fun q _ h => hFc q h) hFc (fun u t H_45 locs ht hvm hw hB hz1 hk1 hS2 => ?_)
          obtain ⟨hP1, -, hD1⟩ := hB
          rw [ht] at hP1
          replace hD := hD1.weaken (fun _ _ _ h => hFc _ h)
          replace hP := hP1
          replace hS := hS2
          clear hP1 hD1 hS2 hFc hfc hz1 hk1 hvm ht
          obtain ⟨h8, h9⟩ := ret_some hf
          rw [h8]
          exact W.vret hx hb hr (fun t ht hW => ⟨⟨(), rfl, trivial, by rw [ht]; exact hP, va_K.moved hW.alike hK, hD⟩, hS.F ht⟩) hS.2.2 dX18_digest_150
        · skip
          rw [if_neg c_43] at hf
          refine lv_aload_n hx hb dX18_digest_112 rfl (lv_at hl 2 rfl) ?_
          obtain ⟨k_46, ek_46, hf⟩ := lnk_some hf
          refine va_get (D := (dC, dI)) (ci := 18) (v := .ref (a k_46)) (C := RX18) (T := TX18) (N := 78) hx hb hts iwd_X18_digest_X18 hown hK hP h0 (Wd_ob kg_3 sg_3 (by decide)) rfl 15 (by decide) (hts _ md_X18_digest_1) (fun _ h9 => h9) (fl_q rfl ek_46) dX18_digest_113 ?_
          refine lv_iload_n hx hb dX18_digest_116 rfl (lv_at hl 1 rfl) ?_
          refine lv_aload_n hx hb dX18_digest_117 rfl (lv_at hl 2 rfl) ?_
          obtain ⟨k_47, ek_47, hf⟩ := lnk_some hf
          refine va_get (D := (dC, dI)) (ci := 18) (v := .ref (a k_47)) (C := RX18) (T := TX18) (N := 78) hx hb hts iwd_X18_digest_X18 hown hK hP h0 (Wd_ob kg_3 sg_3 (by decide)) rfl 15 (by decide) (hts _ md_X18_digest_1) (fun _ h9 => h9) (fl_q rfl ek_47) dX18_digest_118 ?_
          refine lv_iconst (v := 2) hx hb dX18_digest_121 (by decide) ?_
          refine lv_lconst (v := 0) hx hb dX18_digest_122 (by decide) ?_
          refine lv_aload_n hx hb dX18_digest_123 rfl (lv_at hl 2 rfl) ?_
          obtain ⟨k_48, ek_48, hf⟩ := lnk_some hf
          refine va_get (D := (dC, dI)) (ci := 18) (v := .ref (a k_48)) (C := RX18) (T := TX18) (N := 78) hx hb hts iwd_X18_digest_X18 hown hK hP h0 (Wd_ob kg_3 sg_3 (by decide)) rfl 18 (by decide) (hts _ md_X18_digest_2) (fun _ h9 => h9) (fl_q rfl ek_48) dX18_digest_124 ?_
          refine lv_iload_n hx hb dX18_digest_127 rfl (lv_at hl 0 rfl) ?_
          obtain ⟨g_51, hf⟩ := grd_some hf
          obtain ⟨kg_51, sg_51⟩ := okO_at g_51
          obtain ⟨z_49, r_50, hfc, hf⟩ := cal_some hf
          have hFc := de_free hD hS hA
          refine va_calli (va_runV (As := [.int p_40]) (rest := [.long 0, .int 2, .ref (a k_47), .int r_37, .ref (a k_46)]) ⟨hx, hb, hml, hown, hts⟩ (de_X12_byteOf l dC dI cy a sh n H.size F z_41 k_48 p_40 hfc) (cwV 1 hts gX18_digest_X12_byteOf rfl rfl rfl (by decide +kernel) ⟨Nat.le_of_ble_eq_true rfl, Nat.le_of_ble_eq_true rfl⟩) ⟨fun a U g mk q => by obtain ⟨q0, q1, qP, qK, qD, qN⟩ := q; exact ⟨q0, q1, qP, va_K.moved (u := U) (U := U.calling g mk a) (Vm.Alike.refl U.vm) qK, qD, qN.same rfl⟩, va_recv hK hP (ci := 12) (q0 := k_48) rfl (Wd_ob kg_51 sg_51 (by decide)), fun U hU hW => ⟨rfl, by rw [hU], by rw [hU]; exact hP, va_K.moved hW.alike hK, hD.weaken (fun _ _ _ _ => trivial), hN.warm hW⟩⟩ rfl rfl hl.1 rfl (lv_room (Nat.le_of_ble_eq_true rfl)) dX18_digest_128 ⟨Nat.le_of_ble_eq_true rfl, Nat.le_of_ble_eq_true rfl⟩) hS (fun q _ h => hFc q h) hFc (fun rr u t H_52 locs ht hvm hw hB hz1 hk1 hS2 => ?_)
          rw [hw]
          clear hw
          obtain ⟨hP1, -, hD1⟩ := hB
          rw [ht] at hP1
          replace hD := hD1.weaken (fun _ _ _ h => hFc _ h)
          replace hP := hP1
          replace hS := hS2
          clear hP1 hD1 hS2 hFc hfc hz1 hk1 hvm ht
          refine lv_i2l (v := (r_50 : Int32).toInt64) hx hb dX18_digest_131 rfl ?_
          obtain ⟨g_55, hf⟩ := grd_some hf
          obtain ⟨kg_55, sg_55⟩ := okO_at g_55
          obtain ⟨z_53, r_54, hfc, hf⟩ := cal_some hf
          have hFc := de_free hD hS hA
          refine va_calli (va_runV (As := [.int 2, .long 0, .long ((r_50 : Int32).toInt64)]) (rest := [.int r_37, .ref (a k_46)]) ⟨hx, hb, hml, hown, hts⟩ (de_X15_make l dC dI cy a sh n H_52.size F z_49 k_47 2 0 ((r_50 : Int32).toInt64) hfc) (cwV 3 hts gX18_digest_X15_make rfl rfl rfl (by decide +kernel) ⟨Nat.le_of_ble_eq_true rfl, Nat.le_of_ble_eq_true rfl⟩) ⟨fun a U g mk q => by obtain ⟨q0, q1, qP, qK, qD, qN⟩ := q; exact ⟨q0, q1, qP, va_K.moved (u := U) (U := U.calling g mk a) (Vm.Alike.refl U.vm) qK, qD, qN.same rfl⟩, va_recv hK hP (ci := 15) (q0 := k_47) rfl (Wd_ob kg_55 sg_55 (by decide)), fun U hU hW => ⟨rfl, by rw [hU], by rw [hU]; exact hP, va_K.moved hW.alike hK, hD.weaken (fun _ _ _ _ => trivial), hN.warm hW⟩⟩ rfl rfl hl.1 rfl (lv_room (Nat.le_of_ble_eq_true rfl)) dX18_digest_132 ⟨Nat.le_of_ble_eq_true rfl, Nat.le_of_ble_eq_true rfl⟩) hS (fun q _ h => hFc q h) hFc (fun rr u t H_56 locs ht hvm hw hB hz1 hk1 hS2 => ?_)
          rw [hw]
          clear hw
          obtain ⟨hP1, -, hD1⟩ := hB
          rw [ht] at hP1
          replace hD := hD1.weaken (fun _ _ _ h => hFc _ h)
          replace hP := hP1
          replace hS := hS2
          clear hP1 hD1 hS2 hFc hfc hz1 hk1 hvm ht
          obtain ⟨g_58, hf⟩ := grd_some hf
          obtain ⟨kg_58, sg_58⟩ := okO_at g_58
          obtain ⟨z_57, _u, hfc, hf⟩ := cal_some hf
          have hFc := de_free hD hS hA
          refine va_callv (va_runV (As := [.int r_37, .int r_54]) (rest := []) ⟨hx, hb, hml, hown, hts⟩ (de_X15_add l dC dI cy a sh n H_56.size F z_53 k_46 r_37 r_54 hfc) (cwV 2 hts gX18_digest_X15_add rfl rfl rfl (by decide +kernel) ⟨Nat.le_of_ble_eq_true rfl, Nat.le_of_ble_eq_true rfl⟩) ⟨fun a U g mk q => by obtain ⟨q0, q1, qP, qK, qD, qN⟩ := q; exact ⟨q0, q1, qP, va_K.moved (u := U) (U := U.calling g mk a) (Vm.Alike.refl U.vm) qK, qD, qN.same rfl⟩, va_recv hK hP (ci := 15) (q0 := k_46) rfl (Wd_ob kg_58 sg_58 (by decide)), fun U hU hW => ⟨rfl, by rw [hU], by rw [hU]; exact hP, va_K.moved hW.alike hK, hD.weaken (fun _ _ _ _ => trivial), hN.warm hW⟩⟩ rfl rfl hl.1 rfl (lv_room (Nat.le_of_ble_eq_true rfl)) dX18_digest_135 ⟨Nat.le_of_ble_eq_true rfl, Nat.le_of_ble_eq_true rfl⟩) hS (fun q _ h => hFc q h) hFc (fun u t H_59 locs ht hvm hw hB hz1 hk1 hS2 => ?_)
          obtain ⟨hP1, -, hD1⟩ := hB
          rw [ht] at hP1
          replace hD := hD1.weaken (fun _ _ _ h => hFc _ h)
          replace hP := hP1
          replace hS := hS2
          clear hP1 hD1 hS2 hFc hfc hz1 hk1 hvm ht
          refine lv_iinc (v := (p_40 + 1)) (lv' := [(3, .int (p_40 + 1)), (2, .int r_37), (0, .ref (a h0))]) hx hb dX18_digest_138 hl (k := 0) rfl rfl (by decide) rfl (fun ls hl2 => ?_)
          replace hl := hl2
          clear hl2
          refine lv_goto (tgt := 106) hx hb dX18_digest_141 (by decide) ?_
          exact ih106 (z_57, (p_40 + 1)) ls H_59 locs ⟨lv_sub hl [0, 1, 2] rfl, hP, hD, hS⟩ hf
      · skip
        rw [if_neg c_30] at hf
        refine lv_aload_n hx hb dX18_digest_55 rfl (lv_at hl 1 rfl) ?_
        obtain ⟨k_60, ek_60, hf⟩ := lnk_some hf
        refine va_get (D := (dC, dI)) (ci := 18) (v := .ref (a k_60)) (C := RX18) (T := TX18) (N := 78) hx hb hts iwd_X18_digest_X18 hown hK hP h0 (Wd_ob kg_3 sg_3 (by decide)) rfl 18 (by decide) (hts _ md_X18_digest_2) (fun _ h9 => h9) (fl_q rfl ek_60) dX18_digest_56 ?_
        refine lv_aload_n hx hb dX18_digest_59 rfl (lv_at hl 1 rfl) ?_
        obtain ⟨k_61, ek_61, hf⟩ := lnk_some hf
        refine va_get (D := (dC, dI)) (ci := 18) (v := .ref (a k_61)) (C := RX18) (T := TX18) (N := 78) hx hb hts iwd_X18_digest_X18 hown hK hP h0 (Wd_ob kg_3 sg_3 (by decide)) rfl 15 (by decide) (hts _ md_X18_digest_1) (fun _ h9 => h9) (fl_q rfl ek_61) dX18_digest_60 ?_
        obtain ⟨g_62, hf⟩ := grd_some hf
        obtain ⟨kg_62, sg_62⟩ := okO_at g_62
        obtain ⟨k_63, ek_63, hf⟩ := lnk_some hf
        refine va_getN (D := (dC, dI)) (ci := 15) (v := .ref (a k_63)) (C := RX15) (T := TX15) (N := 6) hx hb hts iwd_X18_digest_X15 hown hK hP k_61 (Wd_ob kg_62 sg_62 (by decide)) rfl 2 (by decide) (va_Nw.use rfl (NK_f_X18_77 hN)) (fun _ h9 => h9) (fl_q rfl ek_63) dX18_digest_63 ?_
        refine lv_iload_n hx hb dX18_digest_66 rfl (lv_at hl 0 rfl) ?_
        obtain ⟨g_64, hf⟩ := grd_some hf
        obtain ⟨kg_64, sg_64, ig_64⟩ := okA_at g_64
        refine va_lald hx hb hK hP k_63 2 (Wd_al kg_64 sg_64) rfl ig_64 dX18_digest_67 ?_
        refine lv_l2i (v := ((z_28.2.1 k_63 p_27.toNatClampNeg) : Int64).toInt32) hx hb dX18_digest_68 rfl ?_
        obtain ⟨g_66, hf⟩ := grd_some hf
        obtain ⟨kg_66, sg_66⟩ := okO_at g_66
        obtain ⟨z_65, _u, hfc, hf⟩ := cal_some hf
        have hFc := de_free hD hS hA
        refine va_callv (va_runV (As := [.int (((z_28.2.1 k_63 p_27.toNatClampNeg) : Int64).toInt32)]) (rest := []) ⟨hx, hb, hml, hown, hts⟩ (de_X12_add l dC dI cy a sh n H.size F z_28 k_60 (((z_28.2.1 k_63 p_27.toNatClampNeg) : Int64).toInt32) hfc) (cwV 1 hts gX18_digest_X12_add rfl rfl rfl (by decide +kernel) ⟨Nat.le_of_ble_eq_true rfl, Nat.le_of_ble_eq_true rfl⟩) ⟨fun a U g mk q => by obtain ⟨q0, q1, qP, qK, qD, qN⟩ := q; exact ⟨q0, q1, qP, va_K.moved (u := U) (U := U.calling g mk a) (Vm.Alike.refl U.vm) qK, qD, qN.same rfl⟩, va_recv hK hP (ci := 12) (q0 := k_60) rfl (Wd_ob kg_66 sg_66 (by decide)), fun U hU hW => ⟨rfl, by rw [hU], by rw [hU]; exact hP, va_K.moved hW.alike hK, hD.weaken (fun _ _ _ _ => trivial), hN.warm hW⟩⟩ rfl rfl hl.1 rfl (lv_room (Nat.le_of_ble_eq_true rfl)) dX18_digest_69 ⟨Nat.le_of_ble_eq_true rfl, Nat.le_of_ble_eq_true rfl⟩) hS (fun q _ h => hFc q h) hFc (fun u t H_67 locs ht hvm hw hB hz1 hk1 hS2 => ?_)
        obtain ⟨hP1, -, hD1⟩ := hB
        rw [ht] at hP1
        replace hD := hD1.weaken (fun _ _ _ h => hFc _ h)
        replace hP := hP1
        replace hS := hS2
        clear hP1 hD1 hS2 hFc hfc hz1 hk1 hvm ht
        refine lv_aload_n hx hb dX18_digest_72 rfl (lv_at hl 1 rfl) ?_
        obtain ⟨k_68, ek_68, hf⟩ := lnk_some hf
        refine va_get (D := (dC, dI)) (ci := 18) (v := .ref (a k_68)) (C := RX18) (T := TX18) (N := 78) hx hb hts iwd_X18_digest_X18 hown hK hP h0 (Wd_ob kg_3 sg_3 (by decide)) rfl 15 (by decide) (hts _ md_X18_digest_1) (fun _ h9 => h9) (fl_q rfl ek_68) dX18_digest_73 ?_
        obtain ⟨g_69, hf⟩ := grd_some hf
        obtain ⟨kg_69, sg_69⟩ := okO_at g_69
        obtain ⟨k_70, ek_70, hf⟩ := lnk_some hf
        refine va_getN (D := (dC, dI)) (ci := 15) (v := .ref (a k_70)) (C := RX15) (T := TX15) (N := 6) hx hb hts iwd_X18_digest_X15 hown hK hP k_68 (Wd_ob kg_69 sg_69 (by decide)) rfl 4 (by decide) (va_Nw.use rfl (NK_f_X18_87 hN)) (fun _ h9 => h9) (fl_q rfl ek_70) dX18_digest_76 ?_
        refine lv_iload_n hx hb dX18_digest_79 rfl (lv_at hl 0 rfl) ?_
        obtain ⟨g_71, hf⟩ := grd_some hf
        obtain ⟨kg_71, sg_71, ig_71⟩ := okA_at g_71
        refine va_iald hx hb hK hP k_70 1 (Wd_ai kg_71 sg_71) rfl ig_71 dX18_digest_80 ?_
        refine lv_topi (fun v_72 ev_72 => ?_)
        replace hf := lt_at ev_72 hf
        clear ev_72
        refine lv_istore_n (lv' := [(2, .int v_72), (0, .ref (a h0))]) hx hb dX18_digest_81 rfl hl (by decide) rfl (fun ls hl2 => ?_)
        replace hl := hl2
        clear hl2
        refine lv_goto (tgt := 50) hx hb dX18_digest_82 (by decide) ?_
        exact ih50 (z_65, v_72) ls H_67 locs ⟨lv_sub hl [0, 1] rfl, hP, hD, hS⟩ hf
    · skip
      rw [if_pos c_17] at hf
      obtain ⟨h8, h9⟩ := ret_some hf
      rw [h8]
      exact W.vret hx hb hr (fun t ht hW => ⟨⟨(), rfl, trivial, by rw [ht]; exact hP, va_K.moved hW.alike hK, hD⟩, hS.F ht⟩) hS.2.2 dX18_digest_32

theorem md_X6_readForeignFunctions_1 : (.fieldLink RX6 17 "ResourceLedger$Reader" "p" "LResourceLedger$Program;" : Cond) ∈ wsX6_readForeignFunctions := List.mem_of_getElem? (i := 1) rfl
theorem iwd_X6_readForeignFunctions_X6 : ∀ w ∈ wsX60, w ∈ wsX6_readForeignFunctions := fun _ h => List.mem_cons_of_mem _ (List.mem_append_left _ (List.mem_append_right _ h))
theorem md_X6_readForeignFunctions_2 : (.fieldLink RX6 110 "ResourceLedger$Program" "foreignFunctions" "I" : Cond) ∈ wsX6_readForeignFunctions := List.mem_of_getElem? (i := 2) rfl
theorem iwd_X6_readForeignFunctions_X5 : ∀ w ∈ wsX50, w ∈ wsX6_readForeignFunctions := fun _ h => List.mem_cons_of_mem _ (List.mem_append_right _ h)
theorem md_X6_readForeignFunctions_3 : (.fieldLink RX6 21 "ResourceLedger$Reader" "fault" "I" : Cond) ∈ wsX6_readForeignFunctions := List.mem_of_getElem? (i := 3) rfl
theorem md_X6_readForeignFunctions_4 : (.fieldLink RX6 53 "ResourceLedger$Program" "typeCount" "I" : Cond) ∈ wsX6_readForeignFunctions := List.mem_of_getElem? (i := 4) rfl
set_option maxHeartbeats 4000000 in
set_option maxRecDepth 100000 in
theorem de_X6_readForeignFunctions (l : Launch) (dC : Nat → ClassId) (dI : Nat → Nat → Nat) (cy : Nat → ClassId) (a : Nat → Nat) (sh : Nat → Nat × Nat) (n sz : Nat) (F : Nat) (sk : Nat → Nat) (z : St) (h0 : Nat) {z8 : St} {r8 : Unit} (hf : fn_X6_readForeignFunctions F sh n z h0 = some (z8, r8)) : Met l yX6_readForeignFunctions wsX6_readForeignFunctions ({ frames := 4, cells := 0, slots := 0, locals := 93 }) (va_Pc [.ref (a h0)] (fun U => U.heap.size = sz ∧ va_P (dC, dI) vwCl (Wd cy a sh n z) U.heap ∧ va_K (dC, dI) vwCl (TYS cy) U ∧ va_D (fun _ => True) (Wd cy a sh n z) ∧ NK U ∧ SKs sk (a CBK) (va_A (Wd cy a sh n z) sz) U U.heap)) (va_Qv (fun u : Unit => True) (fun u t => va_P (dC, dI) vwCl (Wd cy a sh n z8) t.heap ∧ va_K (dC, dI) vwCl (TYS cy) t ∧ va_D (va_A (Wd cy a sh n z) sz) (Wd cy a sh n z8)) (va_A (Wd cy a sh n z) sz)) 0 0 (va_A (Wd cy a sh n z) sz) := by
  refine Met.ofW (cc := cX6_readForeignFunctions) (maxL := 3) (ret := none) (by decide) rfl ?_
  intro p e s m args below meth c s₁ B hml hv
  obtain ⟨rfl, hsz, hP, hK, hD0, hN, hSK⟩ := hv
  have hx := B.exec
  have hb := B.bytes
  have hr := B.returns
  have hts := atoms_spec (ws := wsX6_readForeignFunctions) B.pre
  have hown : s.vm.findClass RX6 = some m.cls := findClass_of_methodNamed B.named
  have hlocks := B.notSynchronized
  subst hsz
  have hD := hD0.self (sz := s.heap.size)
  clear hD0
  generalize hAe : va_A (Wd cy a sh n z) s.heap.size = A at hD hSK ⊢
  have hA : ∀ q : Nat, s.heap.size ≤ q → A q := fun q h => by rw [← hAe]; exact Or.inr h
  clear hAe
  have hS : va_S A s.heap s.heap [] := va_S.rf
  have hl := lv_entry ([.ref (a h0)]) (n := 3) (Nat.le_of_ble_eq_true rfl)
  rw [lg_entry_eq]
  generalize (lg_sl ([.ref (a h0)]) ++ List.replicate (3 - (lg_sl ([.ref (a h0)])).length) Slot.unset).toArray = ls at hl ⊢
  replace hl : lv_has ls 3 [(0, .ref (a h0))] := hl
  unfold fn_X6_readForeignFunctions at hf
  refine de_start hS hP (fun H locs hS hP => ?_)
  refine lv_aload_n hx hb dX6_readForeignFunctions_0 rfl (lv_at hl 0 rfl) ?_
  obtain ⟨g_1, hf⟩ := grd_some hf
  obtain ⟨kg_1, sg_1⟩ := okO_at g_1
  obtain ⟨k_2, ek_2, hf⟩ := lnk_some hf
  refine va_get (D := (dC, dI)) (ci := 6) (v := .ref (a k_2)) (C := RX6) (T := TX6) (N := 9) hx hb hts iwd_X6_readForeignFunctions_X6 hown hK hP h0 (Wd_ob kg_1 sg_1 (by decide)) rfl 2 (by decide) (hts _ md_X6_readForeignFunctions_1) (fun _ h9 => h9) (fl_q rfl ek_2) dX6_readForeignFunctions_1 ?_
  refine lv_aload_n hx hb dX6_readForeignFunctions_4 rfl (lv_at hl 0 rfl) ?_
  refine lv_iconst (v := 0) hx hb dX6_readForeignFunctions_5 (by decide) ?_
  refine lv_bipush (v := 32) hx hb dX6_readForeignFunctions_6 (by decide) ?_
  obtain ⟨z_3, r_4, hfc, hf⟩ := cal_some hf
  have hFc := de_free hD hS hA
  refine va_calli (va_runV (As := [.int 0, .int 32]) (rest := [.ref (a k_2)]) ⟨hx, hb, hml, hown, hts⟩ (de_X6_readNumber l dC dI cy a sh n H.size F sk z h0 0 32 hfc) (cwV 2 hts gX6_readForeignFunctions_X6_readNumber rfl rfl rfl (by decide +kernel) ⟨Nat.le_of_ble_eq_true rfl, Nat.le_of_ble_eq_true rfl⟩) ⟨fun a U g mk q => by obtain ⟨q0, q1, qP, qK, qD, qN, qS⟩ := q; exact ⟨q0, q1, qP, va_K.moved (u := U) (U := U.calling g mk a) (Vm.Alike.refl U.vm) qK, qD, qN.same rfl, SKs.moved (u := U) (U := U.calling g mk a) (Vm.Alike.refl U.vm) qS⟩, va_recv hK hP (ci := 6) (q0 := h0) rfl (Wd_ob kg_1 sg_1 (by decide)), fun U hU hW => ⟨rfl, by rw [hU], by rw [hU]; exact hP, va_K.moved hW.alike hK, hD.weaken (fun _ _ _ _ => trivial), hN.warm hW, by rw [hU]; exact ((hSK.kept hS.2.1).narrow hFc).moved hW.alike⟩⟩ rfl rfl hl.1 rfl (lv_room (Nat.le_of_ble_eq_true rfl)) dX6_readForeignFunctions_8 ⟨Nat.le_of_ble_eq_true rfl, Nat.le_of_ble_eq_true rfl⟩) hS (fun q _ h => hFc q h) hFc (fun rr u t H_5 locs ht hvm hw hB hz1 hk1 hS2 => ?_)
  rw [hw]
  clear hw
  obtain ⟨hP1, -, hD1⟩ := hB
  rw [ht] at hP1
  replace hD := hD1.weaken (fun _ _ _ h => hFc _ h)
  replace hP := hP1
  replace hS := hS2
  clear hP1 hD1 hS2 hFc hfc hz1 hk1 hvm ht
  obtain ⟨g_6, hf⟩ := grd_some hf
  obtain ⟨kg_6, sg_6⟩ := okO_at g_6
  refine va_put (D := (dC, dI)) (ci := 5) (v := .int r_4) (ty := .int) (C := RX5) (T := TX5) (N := 15) hx hb hts iwd_X6_readForeignFunctions_X5 tyX5 tyX5_ok nmX5 hown hK hP hD hS k_2 (Wd_ob kg_6 sg_6 (by decide)) rfl 12 (by decide) (hts _ md_X6_readForeignFunctions_2) (fun _ h9 => h9) rfl (by decide +kernel) rfl rfl (by rw [fl_len]; decide) dX6_readForeignFunctions_11 (fun H_7 locs hP2 hD2 hS2 => ?_)
  rw [Wd_si sg_6 (by decide) rfl] at hP2 hD2
  obtain ⟨z_8, ez_8⟩ : ∃ w, w = si z_3 k_2 12 r_4 := ⟨_, rfl⟩
  rw [← ez_8] at hP2 hD2
  replace hf := lt_at ez_8 hf
  clear ez_8
  replace hP := hP2
  replace hD := hD2
  replace hS := hS2
  clear hP2 hD2 hS2
  refine lv_iconst (v := 0) hx hb dX6_readForeignFunctions_14 (by decide) ?_
  refine lv_istore_n (lv' := [(1, .int 0), (0, .ref (a h0))]) hx hb dX6_readForeignFunctions_15 rfl hl (by decide) rfl (fun ls hl2 => ?_)
  replace hl := hl2
  clear hl2
  have hl0 : lv_has ls 3 [(1, .int 0), (0, .ref (a h0))] := lv_sub hl [0, 1] rfl
  refine de_loop (h := 16) (fun (x : St × Int32) ls H locs => lv_has ls 3 [(1, .int x.2), (0, .ref (a h0))] ∧ va_P (dC, dI) vwCl (Wd cy a sh n x.1) H ∧ va_D A (Wd cy a sh n x.1) ∧ va_S A s.heap H locs) (fun f x => fn_X6_readForeignFunctions_L16 F sh n h0 f x.1 x.2) (z8, r8) ?_ (fun _ => rfl) F (z_8, 0) ls H_7 locs ⟨hl0, hP, hD, hS⟩ hf
  intro f_11 x ls H locs ih16 hI hf
  obtain ⟨z_10, p_9⟩ := x
  obtain ⟨hl2, hP2, hD2, hS2⟩ := hI
  replace hl : lv_has ls 3 [(1, .int p_9), (0, .ref (a h0))] := hl2
  replace hP := hP2
  replace hD := hD2
  replace hS := hS2
  clear hl2 hP2 hD2 hS2 hl0
  replace hf := fn_X6_readForeignFunctions_L16_s hf
  refine lv_iload_n hx hb dX6_readForeignFunctions_16 rfl (lv_at hl 0 rfl) ?_
  refine lv_aload_n hx hb dX6_readForeignFunctions_17 rfl (lv_at hl 1 rfl) ?_
  obtain ⟨k_12, ek_12, hf⟩ := lnk_some hf
  refine va_get (D := (dC, dI)) (ci := 6) (v := .ref (a k_12)) (C := RX6) (T := TX6) (N := 9) hx hb hts iwd_X6_readForeignFunctions_X6 hown hK hP h0 (Wd_ob kg_1 sg_1 (by decide)) rfl 2 (by decide) (hts _ md_X6_readForeignFunctions_1) (fun _ h9 => h9) (fl_q rfl ek_12) dX6_readForeignFunctions_18 ?_
  obtain ⟨g_13, hf⟩ := grd_some hf
  obtain ⟨kg_13, sg_13⟩ := okO_at g_13
  refine va_get (D := (dC, dI)) (ci := 5) (v := .int (z_10.1 k_12 12)) (C := RX5) (T := TX5) (N := 15) hx hb hts iwd_X6_readForeignFunctions_X5 hown hK hP k_12 (Wd_ob kg_13 sg_13 (by decide)) rfl 12 (by decide) (hts _ md_X6_readForeignFunctions_2) (fun _ h9 => h9) (fl_at (t := 0) rfl) dX6_readForeignFunctions_21 ?_
  refine lv_icmp_ge (tgt := 156) hx hb dX6_readForeignFunctions_24 (by decide) (fun c_14 => ?_) (fun c_14 => ?_)
  · skip
    rw [if_pos c_14] at hf
    obtain ⟨h8, h9⟩ := ret_some hf
    rw [h8]
    exact W.vret hx hb hr (fun t ht hW => ⟨⟨(), rfl, trivial, by rw [ht]; exact hP, va_K.moved hW.alike hK, hD⟩, hS.F ht⟩) hS.2.2 dX6_readForeignFunctions_156
  · skip
    rw [if_neg c_14] at hf
    refine lv_aload_n hx hb dX6_readForeignFunctions_27 rfl (lv_at hl 1 rfl) ?_
    refine va_get (D := (dC, dI)) (ci := 6) (v := .int (z_10.1 h0 1)) (C := RX6) (T := TX6) (N := 9) hx hb hts iwd_X6_readForeignFunctions_X6 hown hK hP h0 (Wd_ob kg_1 sg_1 (by decide)) rfl 1 (by decide) (hts _ md_X6_readForeignFunctions_3) (fun _ h9 => h9) (fl_at (t := 0) rfl) dX6_readForeignFunctions_28 ?_
    refine lv_if_ne (tgt := 156) hx hb dX6_readForeignFunctions_31 (by decide) (fun c_15 => ?_) (fun c_15 => ?_)
    · skip
      rw [if_neg c_15] at hf
      obtain ⟨h8, h9⟩ := ret_some hf
      rw [h8]
      exact W.vret hx hb hr (fun t ht hW => ⟨⟨(), rfl, trivial, by rw [ht]; exact hP, va_K.moved hW.alike hK, hD⟩, hS.F ht⟩) hS.2.2 dX6_readForeignFunctions_156
    · skip
      rw [if_pos c_15] at hf
      refine lv_bipush (v := 64) hx hb dX6_readForeignFunctions_34 (by decide) ?_
      refine lv_iload_n hx hb dX6_readForeignFunctions_36 rfl (lv_at hl 0 rfl) ?_
      refine lv_iadd hx hb dX6_readForeignFunctions_37 ?_
      refine lv_topi (fun v_16 ev_16 => ?_)
      replace hf := lt_at ev_16 hf
      clear ev_16
      refine lv_istore_n (lv' := [(2, .int v_16), (1, .int p_9), (0, .ref (a h0))]) hx hb dX6_readForeignFunctions_38 rfl hl (by decide) rfl (fun ls hl2 => ?_)
      replace hl := hl2
      clear hl2
      refine lv_aload_n hx hb dX6_readForeignFunctions_39 rfl (lv_at hl 2 rfl) ?_
      obtain ⟨k_17, ek_17, hf⟩ := lnk_some hf
      refine va_get (D := (dC, dI)) (ci := 6) (v := .ref (a k_17)) (C := RX6) (T := TX6) (N := 9) hx hb hts iwd_X6_readForeignFunctions_X6 hown hK hP h0 (Wd_ob kg_1 sg_1 (by decide)) rfl 2 (by decide) (hts _ md_X6_readForeignFunctions_1) (fun _ h9 => h9) (fl_q rfl ek_17) dX6_readForeignFunctions_40 ?_
      refine lv_iload_n hx hb dX6_readForeignFunctions_43 rfl (lv_at hl 0 rfl) ?_
      refine lv_bipush (v := 7) hx hb dX6_readForeignFunctions_44 (by decide) ?_
      refine lv_aload_n hx hb dX6_readForeignFunctions_46 rfl (lv_at hl 2 rfl) ?_
      obtain ⟨z_18, r_19, hfc, hf⟩ := cal_some hf
      have hFc := de_free hD hS hA
      refine va_calli (va_runV (As := []) (rest := [.int 7, .int v_16, .ref (a k_17)]) ⟨hx, hb, hml, hown, hts⟩ (de_X6_readShort l dC dI cy a sh n H.size F sk z_10 h0 hfc) (cwV 0 hts gX6_readForeignFunctions_X6_readShort rfl rfl rfl (by decide +kernel) ⟨Nat.le_of_ble_eq_true rfl, Nat.le_of_ble_eq_true rfl⟩) ⟨fun a U g mk q => by obtain ⟨q0, q1, qP, qK, qD, qN, qS⟩ := q; exact ⟨q0, q1, qP, va_K.moved (u := U) (U := U.calling g mk a) (Vm.Alike.refl U.vm) qK, qD, qN.same rfl, SKs.moved (u := U) (U := U.calling g mk a) (Vm.Alike.refl U.vm) qS⟩, va_recv hK hP (ci := 6) (q0 := h0) rfl (Wd_ob kg_1 sg_1 (by decide)), fun U hU hW => ⟨rfl, by rw [hU], by rw [hU]; exact hP, va_K.moved hW.alike hK, hD.weaken (fun _ _ _ _ => trivial), hN.warm hW, by rw [hU]; exact ((hSK.kept hS.2.1).narrow hFc).moved hW.alike⟩⟩ rfl rfl hl.1 rfl (lv_room (Nat.le_of_ble_eq_true rfl)) dX6_readForeignFunctions_47 ⟨Nat.le_of_ble_eq_true rfl, Nat.le_of_ble_eq_true rfl⟩) hS (fun q _ h => hFc q h) hFc (fun rr u t H_20 locs ht hvm hw hB hz1 hk1 hS2 => ?_)
      rw [hw]
      clear hw
      obtain ⟨hP1, -, hD1⟩ := hB
      rw [ht] at hP1
      replace hD := hD1.weaken (fun _ _ _ h => hFc _ h)
      replace hP := hP1
      replace hS := hS2
      clear hP1 hD1 hS2 hFc hfc hz1 hk1 hvm ht
      obtain ⟨g_22, hf⟩ := grd_some hf
      obtain ⟨kg_22, sg_22⟩ := okO_at g_22
      obtain ⟨z_21, _u, hfc, hf⟩ := cal_some hf
      have hFc := de_free hD hS hA
      refine va_callv (va_runV (As := [.int v_16, .int 7, .int r_19]) (rest := []) ⟨hx, hb, hml, hown, hts⟩ (de_X5_setFunction l dC dI cy a sh n H_20.size F z_18 k_17 v_16 7 r_19 hfc) (cwV 3 hts gX6_readForeignFunctions_X5_setFunction rfl rfl rfl (by decide +kernel) ⟨Nat.le_of_ble_eq_true rfl, Nat.le_of_ble_eq_true rfl⟩) ⟨fun a U g mk q => by obtain ⟨q0, q1, qP, qK, qD, qN⟩ := q; exact ⟨q0, q1, qP, va_K.moved (u := U) (U := U.calling g mk a) (Vm.Alike.refl U.vm) qK, qD, qN.same rfl⟩, va_recv hK hP (ci := 5) (q0 := k_17) rfl (Wd_ob kg_22 sg_22 (by decide)), fun U hU hW => ⟨rfl, by rw [hU], by rw [hU]; exact hP, va_K.moved hW.alike hK, hD.weaken (fun _ _ _ _ => trivial), hN.warm hW⟩⟩ rfl rfl hl.1 rfl (lv_room (Nat.le_of_ble_eq_true rfl)) dX6_readForeignFunctions_50 ⟨Nat.le_of_ble_eq_true rfl, Nat.le_of_ble_eq_true rfl⟩) hS (fun q _ h => hFc q h) hFc (fun u t H_23 locs ht hvm hw hB hz1 hk1 hS2 => ?_)
      obtain ⟨hP1, -, hD1⟩ := hB
      rw [ht] at hP1
      replace hD := hD1.weaken (fun _ _ _ h => hFc _ h)
      replace hP := hP1
      replace hS := hS2
      clear hP1 hD1 hS2 hFc hfc hz1 hk1 hvm ht
      refine lv_aload_n hx hb dX6_readForeignFunctions_53 rfl (lv_at hl 2 rfl) ?_
      obtain ⟨k_24, ek_24, hf⟩ := lnk_some hf
      refine va_get (D := (dC, dI)) (ci := 6) (v := .ref (a k_24)) (C := RX6) (T := TX6) (N := 9) hx hb hts iwd_X6_readForeignFunctions_X6 hown hK hP h0 (Wd_ob kg_1 sg_1 (by decide)) rfl 2 (by decide) (hts _ md_X6_readForeignFunctions_1) (fun _ h9 => h9) (fl_q rfl ek_24) dX6_readForeignFunctions_54 ?_
      refine lv_iload_n hx hb dX6_readForeignFunctions_57 rfl (lv_at hl 0 rfl) ?_
      refine lv_bipush (v := 8) hx hb dX6_readForeignFunctions_58 (by decide) ?_
      refine lv_aload_n hx hb dX6_readForeignFunctions_60 rfl (lv_at hl 2 rfl) ?_
      obtain ⟨z_25, r_26, hfc, hf⟩ := cal_some hf
      have hFc := de_free hD hS hA
      refine va_calli (va_runV (As := []) (rest := [.int 8, .int v_16, .ref (a k_24)]) ⟨hx, hb, hml, hown, hts⟩ (de_X6_readByte l dC dI cy a sh n H_23.size F sk z_21 h0 hfc) (cwV 0 hts gX6_readForeignFunctions_X6_readByte rfl rfl rfl (by decide +kernel) ⟨Nat.le_of_ble_eq_true rfl, Nat.le_of_ble_eq_true rfl⟩) ⟨fun a U g mk q => by obtain ⟨q0, q1, qP, qK, qD, qN, qS⟩ := q; exact ⟨q0, q1, qP, va_K.moved (u := U) (U := U.calling g mk a) (Vm.Alike.refl U.vm) qK, qD, qN.same rfl, SKs.moved (u := U) (U := U.calling g mk a) (Vm.Alike.refl U.vm) qS⟩, va_recv hK hP (ci := 6) (q0 := h0) rfl (Wd_ob kg_1 sg_1 (by decide)), fun U hU hW => ⟨rfl, by rw [hU], by rw [hU]; exact hP, va_K.moved hW.alike hK, hD.weaken (fun _ _ _ _ => trivial), hN.warm hW, by rw [hU]; exact ((hSK.kept hS.2.1).narrow hFc).moved hW.alike⟩⟩ rfl rfl hl.1 rfl (lv_room (Nat.le_of_ble_eq_true rfl)) dX6_readForeignFunctions_61 ⟨Nat.le_of_ble_eq_true rfl, Nat.le_of_ble_eq_true rfl⟩) hS (fun q _ h => hFc q h) hFc (fun rr u t H_27 locs ht hvm hw hB hz1 hk1 hS2 => ?_)
      rw [hw]
      clear hw
      obtain ⟨hP1, -, hD1⟩ := hB
      rw [ht] at hP1
      replace hD := hD1.weaken (fun _ _ _ h => hFc _ h)
      replace hP := hP1
      replace hS := hS2
      clear hP1 hD1 hS2 hFc hfc hz1 hk1 hvm ht
      obtain ⟨g_29, hf⟩ := grd_some hf
      obtain ⟨kg_29, sg_29⟩ := okO_at g_29
      obtain ⟨z_28, _u, hfc, hf⟩ := cal_some hf
      have hFc := de_free hD hS hA
      refine va_callv (va_runV (As := [.int v_16, .int 8, .int r_26]) (rest := []) ⟨hx, hb, hml, hown, hts⟩ (de_X5_setFunction l dC dI cy a sh n H_27.size F z_25 k_24 v_16 8 r_26 hfc) (cwV 3 hts gX6_readForeignFunctions_X5_setFunction rfl rfl rfl (by decide +kernel) ⟨Nat.le_of_ble_eq_true rfl, Nat.le_of_ble_eq_true rfl⟩) ⟨fun a U g mk q => by obtain ⟨q0, q1, qP, qK, qD, qN⟩ := q; exact ⟨q0, q1, qP, va_K.moved (u := U) (U := U.calling g mk a) (Vm.Alike.refl U.vm) qK, qD, qN.same rfl⟩, va_recv hK hP (ci := 5) (q0 := k_24) rfl (Wd_ob kg_29 sg_29 (by decide)), fun U hU hW => ⟨rfl, by rw [hU], by rw [hU]; exact hP, va_K.moved hW.alike hK, hD.weaken (fun _ _ _ _ => trivial), hN.warm hW⟩⟩ rfl rfl hl.1 rfl (lv_room (Nat.le_of_ble_eq_true rfl)) dX6_readForeignFunctions_64 ⟨Nat.le_of_ble_eq_true rfl, Nat.le_of_ble_eq_true rfl⟩) hS (fun q _ h => hFc q h) hFc (fun u t H_30 locs ht hvm hw hB hz1 hk1 hS2 => ?_)
      obtain ⟨hP1, -, hD1⟩ := hB
      rw [ht] at hP1
      replace hD := hD1.weaken (fun _ _ _ h => hFc _ h)
      replace hP := hP1
      replace hS := hS2
      clear hP1 hD1 hS2 hFc hfc hz1 hk1 hvm ht
      refine lv_aload_n hx hb dX6_readForeignFunctions_67 rfl (lv_at hl 2 rfl) ?_
      obtain ⟨k_31, ek_31, hf⟩ := lnk_some hf
      refine va_get (D := (dC, dI)) (ci := 6) (v := .ref (a k_31)) (C := RX6) (T := TX6) (N := 9) hx hb hts iwd_X6_readForeignFunctions_X6 hown hK hP h0 (Wd_ob kg_1 sg_1 (by decide)) rfl 2 (by decide) (hts _ md_X6_readForeignFunctions_1) (fun _ h9 => h9) (fl_q rfl ek_31) dX6_readForeignFunctions_68 ?_
      refine lv_iload_n hx hb dX6_readForeignFunctions_71 rfl (lv_at hl 0 rfl) ?_
      refine lv_iconst (v := 0) hx hb dX6_readForeignFunctions_72 (by decide) ?_
      refine lv_aload_n hx hb dX6_readForeignFunctions_73 rfl (lv_at hl 2 rfl) ?_
      refine lv_iconst (v := 0) hx hb dX6_readForeignFunctions_74 (by decide) ?_
      refine lv_bipush (v := 7) hx hb dX6_readForeignFunctions_75 (by decide) ?_
      obtain ⟨z_32, r_33, hfc, hf⟩ := cal_some hf
      have hFc := de_free hD hS hA
      refine va_calli (va_runV (As := [.int 0, .int 7]) (rest := [.int 0, .int v_16, .ref (a k_31)]) ⟨hx, hb, hml, hown, hts⟩ (de_X6_readNumber l dC dI cy a sh n H_30.size F sk z_28 h0 0 7 hfc) (cwV 2 hts gX6_readForeignFunctions_X6_readNumber rfl rfl rfl (by decide +kernel) ⟨Nat.le_of_ble_eq_true rfl, Nat.le_of_ble_eq_true rfl⟩) ⟨fun a U g mk q => by obtain ⟨q0, q1, qP, qK, qD, qN, qS⟩ := q; exact ⟨q0, q1, qP, va_K.moved (u := U) (U := U.calling g mk a) (Vm.Alike.refl U.vm) qK, qD, qN.same rfl, SKs.moved (u := U) (U := U.calling g mk a) (Vm.Alike.refl U.vm) qS⟩, va_recv hK hP (ci := 6) (q0 := h0) rfl (Wd_ob kg_1 sg_1 (by decide)), fun U hU hW => ⟨rfl, by rw [hU], by rw [hU]; exact hP, va_K.moved hW.alike hK, hD.weaken (fun _ _ _ _ => trivial), hN.warm hW, by rw [hU]; exact ((hSK.kept hS.2.1).narrow hFc).moved hW.alike⟩⟩ rfl rfl hl.1 rfl (lv_room (Nat.le_of_ble_eq_true rfl)) dX6_readForeignFunctions_77 ⟨Nat.le_of_ble_eq_true rfl, Nat.le_of_ble_eq_true rfl⟩) hS (fun q _ h => hFc q h) hFc (fun rr u t H_34 locs ht hvm hw hB hz1 hk1 hS2 => ?_)
      rw [hw]
      clear hw
      obtain ⟨hP1, -, hD1⟩ := hB
      rw [ht] at hP1
      replace hD := hD1.weaken (fun _ _ _ h => hFc _ h)
      replace hP := hP1
      replace hS := hS2
      clear hP1 hD1 hS2 hFc hfc hz1 hk1 hvm ht
      obtain ⟨g_36, hf⟩ := grd_some hf
      obtain ⟨kg_36, sg_36⟩ := okO_at g_36
      obtain ⟨z_35, _u, hfc, hf⟩ := cal_some hf
      have hFc := de_free hD hS hA
      refine va_callv (va_runV (As := [.int v_16, .int 0, .int r_33]) (rest := []) ⟨hx, hb, hml, hown, hts⟩ (de_X5_setFunction l dC dI cy a sh n H_34.size F z_32 k_31 v_16 0 r_33 hfc) (cwV 3 hts gX6_readForeignFunctions_X5_setFunction rfl rfl rfl (by decide +kernel) ⟨Nat.le_of_ble_eq_true rfl, Nat.le_of_ble_eq_true rfl⟩) ⟨fun a U g mk q => by obtain ⟨q0, q1, qP, qK, qD, qN⟩ := q; exact ⟨q0, q1, qP, va_K.moved (u := U) (U := U.calling g mk a) (Vm.Alike.refl U.vm) qK, qD, qN.same rfl⟩, va_recv hK hP (ci := 5) (q0 := k_31) rfl (Wd_ob kg_36 sg_36 (by decide)), fun U hU hW => ⟨rfl, by rw [hU], by rw [hU]; exact hP, va_K.moved hW.alike hK, hD.weaken (fun _ _ _ _ => trivial), hN.warm hW⟩⟩ rfl rfl hl.1 rfl (lv_room (Nat.le_of_ble_eq_true rfl)) dX6_readForeignFunctions_80 ⟨Nat.le_of_ble_eq_true rfl, Nat.le_of_ble_eq_true rfl⟩) hS (fun q _ h => hFc q h) hFc (fun u t H_37 locs ht hvm hw hB hz1 hk1 hS2 => ?_)
      obtain ⟨hP1, -, hD1⟩ := hB
      rw [ht] at hP1
      replace hD := hD1.weaken (fun _ _ _ h => hFc _ h)
      replace hP := hP1
      replace hS := hS2
      clear hP1 hD1 hS2 hFc hfc hz1 hk1 hvm ht
      refine lv_aload_n hx hb dX6_readForeignFunctions_83 rfl (lv_at hl 2 rfl) ?_
      obtain ⟨k_38, ek_38, hf⟩ := lnk_some hf
      refine va_get (D := (dC, dI)) (ci := 6) (v := .ref (a k_38)) (C := RX6) (T := TX6) (N := 9) hx hb hts iwd_X6_readForeignFunctions_X6 hown hK hP h0 (Wd_ob kg_1 sg_1 (by decide)) rfl 2 (by decide) (hts _ md_X6_readForeignFunctions_1) (fun _ h9 => h9) (fl_q rfl ek_38) dX6_readForeignFunctions_84 ?_
      refine lv_iload_n hx hb dX6_readForeignFunctions_87 rfl (lv_at hl 0 rfl) ?_
      refine lv_iconst (v := 1) hx hb dX6_readForeignFunctions_88 (by decide) ?_
      refine lv_aload_n hx hb dX6_readForeignFunctions_89 rfl (lv_at hl 2 rfl) ?_
      obtain ⟨k_39, ek_39, hf⟩ := lnk_some hf
      refine va_get (D := (dC, dI)) (ci := 6) (v := .ref (a k_39)) (C := RX6) (T := TX6) (N := 9) hx hb hts iwd_X6_readForeignFunctions_X6 hown hK hP h0 (Wd_ob kg_1 sg_1 (by decide)) rfl 2 (by decide) (hts _ md_X6_readForeignFunctions_1) (fun _ h9 => h9) (fl_q rfl ek_39) dX6_readForeignFunctions_90 ?_
      obtain ⟨g_40, hf⟩ := grd_some hf
      obtain ⟨kg_40, sg_40⟩ := okO_at g_40
      refine va_get (D := (dC, dI)) (ci := 5) (v := .int (z_35.1 k_39 4)) (C := RX5) (T := TX5) (N := 15) hx hb hts iwd_X6_readForeignFunctions_X5 hown hK hP k_39 (Wd_ob kg_40 sg_40 (by decide)) rfl 4 (by decide) (hts _ md_X6_readForeignFunctions_4) (fun _ h9 => h9) (fl_at (t := 0) rfl) dX6_readForeignFunctions_93 ?_
      obtain ⟨g_42, hf⟩ := grd_some hf
      obtain ⟨kg_42, sg_42⟩ := okO_at g_42
      obtain ⟨z_41, _u, hfc, hf⟩ := cal_some hf
      have hFc := de_free hD hS hA
      refine va_callv (va_runV (As := [.int v_16, .int 1, .int (z_35.1 k_39 4)]) (rest := []) ⟨hx, hb, hml, hown, hts⟩ (de_X5_setFunction l dC dI cy a sh n H_37.size F z_35 k_38 v_16 1 (z_35.1 k_39 4) hfc) (cwV 3 hts gX6_readForeignFunctions_X5_setFunction rfl rfl rfl (by decide +kernel) ⟨Nat.le_of_ble_eq_true rfl, Nat.le_of_ble_eq_true rfl⟩) ⟨fun a U g mk q => by obtain ⟨q0, q1, qP, qK, qD, qN⟩ := q; exact ⟨q0, q1, qP, va_K.moved (u := U) (U := U.calling g mk a) (Vm.Alike.refl U.vm) qK, qD, qN.same rfl⟩, va_recv hK hP (ci := 5) (q0 := k_38) rfl (Wd_ob kg_42 sg_42 (by decide)), fun U hU hW => ⟨rfl, by rw [hU], by rw [hU]; exact hP, va_K.moved hW.alike hK, hD.weaken (fun _ _ _ _ => trivial), hN.warm hW⟩⟩ rfl rfl hl.1 rfl (lv_room (Nat.le_of_ble_eq_true rfl)) dX6_readForeignFunctions_96 ⟨Nat.le_of_ble_eq_true rfl, Nat.le_of_ble_eq_true rfl⟩) hS (fun q _ h => hFc q h) hFc (fun u t H_43 locs ht hvm hw hB hz1 hk1 hS2 => ?_)
      obtain ⟨hP1, -, hD1⟩ := hB
      rw [ht] at hP1
      replace hD := hD1.weaken (fun _ _ _ h => hFc _ h)
      replace hP := hP1
      replace hS := hS2
      clear hP1 hD1 hS2 hFc hfc hz1 hk1 hvm ht
      refine lv_aload_n hx hb dX6_readForeignFunctions_99 rfl (lv_at hl 2 rfl) ?_
      obtain ⟨k_44, ek_44, hf⟩ := lnk_some hf
      refine va_get (D := (dC, dI)) (ci := 6) (v := .ref (a k_44)) (C := RX6) (T := TX6) (N := 9) hx hb hts iwd_X6_readForeignFunctions_X6 hown hK hP h0 (Wd_ob kg_1 sg_1 (by decide)) rfl 2 (by decide) (hts _ md_X6_readForeignFunctions_1) (fun _ h9 => h9) (fl_q rfl ek_44) dX6_readForeignFunctions_100 ?_
      refine lv_iload_n hx hb dX6_readForeignFunctions_103 rfl (lv_at hl 0 rfl) ?_
      refine lv_iconst (v := 2) hx hb dX6_readForeignFunctions_104 (by decide) ?_
      refine lv_aload_n hx hb dX6_readForeignFunctions_105 rfl (lv_at hl 2 rfl) ?_
      refine lv_bipush (v := 8) hx hb dX6_readForeignFunctions_106 (by decide) ?_
      obtain ⟨z_45, r_46, hfc, hf⟩ := cal_some hf
      have hFc := de_free hD hS hA
      refine va_calli (va_runV (As := [.int 8]) (rest := [.int 2, .int v_16, .ref (a k_44)]) ⟨hx, hb, hml, hown, hts⟩ (de_X6_readList l dC dI cy a sh n H_43.size F sk z_41 h0 8 hfc) (cwV 1 hts gX6_readForeignFunctions_X6_readList rfl rfl rfl (by decide +kernel) ⟨Nat.le_of_ble_eq_true rfl, Nat.le_of_ble_eq_true rfl⟩) ⟨fun a U g mk q => by obtain ⟨q0, q1, qP, qK, qD, qN, qS⟩ := q; exact ⟨q0, q1, qP, va_K.moved (u := U) (U := U.calling g mk a) (Vm.Alike.refl U.vm) qK, qD, qN.same rfl, SKs.moved (u := U) (U := U.calling g mk a) (Vm.Alike.refl U.vm) qS⟩, va_recv hK hP (ci := 6) (q0 := h0) rfl (Wd_ob kg_1 sg_1 (by decide)), fun U hU hW => ⟨rfl, by rw [hU], by rw [hU]; exact hP, va_K.moved hW.alike hK, hD.weaken (fun _ _ _ _ => trivial), hN.warm hW, by rw [hU]; exact ((hSK.kept hS.2.1).narrow hFc).moved hW.alike⟩⟩ rfl rfl hl.1 rfl (lv_room (Nat.le_of_ble_eq_true rfl)) dX6_readForeignFunctions_108 ⟨Nat.le_of_ble_eq_true rfl, Nat.le_of_ble_eq_true rfl⟩) hS (fun q _ h => hFc q h) hFc (fun rr u t H_47 locs ht hvm hw hB hz1 hk1 hS2 => ?_)
      rw [hw]
      clear hw
      obtain ⟨hP1, -, hD1⟩ := hB
      rw [ht] at hP1
      replace hD := hD1.weaken (fun _ _ _ h => hFc _ h)
      replace hP := hP1
      replace hS := hS2
      clear hP1 hD1 hS2 hFc hfc hz1 hk1 hvm ht
      obtain ⟨g_49, hf⟩ := grd_some hf
      obtain ⟨kg_49, sg_49⟩ := okO_at g_49
      obtain ⟨z_48, _u, hfc, hf⟩ := cal_some hf
      have hFc := de_free hD hS hA
      refine va_callv (va_runV (As := [.int v_16, .int 2, .int r_46]) (rest := []) ⟨hx, hb, hml, hown, hts⟩ (de_X5_setFunction l dC dI cy a sh n H_47.size F z_45 k_44 v_16 2 r_46 hfc) (cwV 3 hts gX6_readForeignFunctions_X5_setFunction rfl rfl rfl (by decide +kernel) ⟨Nat.le_of_ble_eq_true rfl, Nat.le_of_ble_eq_true rfl⟩) ⟨fun a U g mk q => by obtain ⟨q0, q1, qP, qK, qD, qN⟩ := q; exact ⟨q0, q1, qP, va_K.moved (u := U) (U := U.calling g mk a) (Vm.Alike.refl U.vm) qK, qD, qN.same rfl⟩, va_recv hK hP (ci := 5) (q0 := k_44) rfl (Wd_ob kg_49 sg_49 (by decide)), fun U hU hW => ⟨rfl, by rw [hU], by rw [hU]; exact hP, va_K.moved hW.alike hK, hD.weaken (fun _ _ _ _ => trivial), hN.warm hW⟩⟩ rfl rfl hl.1 rfl (lv_room (Nat.le_of_ble_eq_true rfl)) dX6_readForeignFunctions_111 ⟨Nat.le_of_ble_eq_true rfl, Nat.le_of_ble_eq_true rfl⟩) hS (fun q _ h => hFc q h) hFc (fun u t H_50 locs ht hvm hw hB hz1 hk1 hS2 => ?_)
      obtain ⟨hP1, -, hD1⟩ := hB
      rw [ht] at hP1
      replace hD := hD1.weaken (fun _ _ _ h => hFc _ h)
      replace hP := hP1
      replace hS := hS2
      clear hP1 hD1 hS2 hFc hfc hz1 hk1 hvm ht
      refine lv_aload_n hx hb dX6_readForeignFunctions_114 rfl (lv_at hl 2 rfl) ?_
      obtain ⟨k_51, ek_51, hf⟩ := lnk_some hf
      refine va_get (D := (dC, dI)) (ci := 6) (v := .ref (a k_51)) (C := RX6) (T := TX6) (N := 9) hx hb hts iwd_X6_readForeignFunctions_X6 hown hK hP h0 (Wd_ob kg_1 sg_1 (by decide)) rfl 2 (by decide) (hts _ md_X6_readForeignFunctions_1) (fun _ h9 => h9) (fl_q rfl ek_51) dX6_readForeignFunctions_115 ?_
      refine lv_iload_n hx hb dX6_readForeignFunctions_118 rfl (lv_at hl 0 rfl) ?_
      refine lv_iconst (v := 3) hx hb dX6_readForeignFunctions_119 (by decide) ?_
      refine lv_aload_n hx hb dX6_readForeignFunctions_120 rfl (lv_at hl 2 rfl) ?_
      refine lv_bipush (v := 8) hx hb dX6_readForeignFunctions_121 (by decide) ?_
      obtain ⟨z_52, r_53, hfc, hf⟩ := cal_some hf
      have hFc := de_free hD hS hA
      refine va_calli (va_runV (As := [.int 8]) (rest := [.int 3, .int v_16, .ref (a k_51)]) ⟨hx, hb, hml, hown, hts⟩ (de_X6_readList l dC dI cy a sh n H_50.size F sk z_48 h0 8 hfc) (cwV 1 hts gX6_readForeignFunctions_X6_readList rfl rfl rfl (by decide +kernel) ⟨Nat.le_of_ble_eq_true rfl, Nat.le_of_ble_eq_true rfl⟩) ⟨fun a U g mk q => by obtain ⟨q0, q1, qP, qK, qD, qN, qS⟩ := q; exact ⟨q0, q1, qP, va_K.moved (u := U) (U := U.calling g mk a) (Vm.Alike.refl U.vm) qK, qD, qN.same rfl, SKs.moved (u := U) (U := U.calling g mk a) (Vm.Alike.refl U.vm) qS⟩, va_recv hK hP (ci := 6) (q0 := h0) rfl (Wd_ob kg_1 sg_1 (by decide)), fun U hU hW => ⟨rfl, by rw [hU], by rw [hU]; exact hP, va_K.moved hW.alike hK, hD.weaken (fun _ _ _ _ => trivial), hN.warm hW, by rw [hU]; exact ((hSK.kept hS.2.1).narrow hFc).moved hW.alike⟩⟩ rfl rfl hl.1 rfl (lv_room (Nat.le_of_ble_eq_true rfl)) dX6_readForeignFunctions_123 ⟨Nat.le_of_ble_eq_true rfl, Nat.le_of_ble_eq_true rfl⟩) hS (fun q _ h => hFc q h) hFc (fun rr u t H_54 locs ht hvm hw hB hz1 hk1 hS2 => ?_)
      rw [hw]
      clear hw
      obtain ⟨hP1, -, hD1⟩ := hB
      rw [ht] at hP1
      replace hD := hD1.weaken (fun _ _ _ h => hFc _ h)
      replace hP := hP1
      replace hS := hS2
      clear hP1 hD1 hS2 hFc hfc hz1 hk1 hvm ht
      obtain ⟨g_56, hf⟩ := grd_some hf
      obtain ⟨kg_56, sg_56⟩ := okO_at g_56
      obtain ⟨z_55, _u, hfc, hf⟩ := cal_some hf
      have hFc := de_free hD hS hA
      refine va_callv (va_runV (As := [.int v_16, .int 3, .int r_53]) (rest := []) ⟨hx, hb, hml, hown, hts⟩ (de_X5_setFunction l dC dI cy a sh n H_54.size F z_52 k_51 v_16 3 r_53 hfc) (cwV 3 hts gX6_readForeignFunctions_X5_setFunction rfl rfl rfl (by decide +kernel) ⟨Nat.le_of_ble_eq_true rfl, Nat.le_of_ble_eq_true rfl⟩) ⟨fun a U g mk q => by obtain ⟨q0, q1, qP, qK, qD, qN⟩ := q; exact ⟨q0, q1, qP, va_K.moved (u := U) (U := U.calling g mk a) (Vm.Alike.refl U.vm) qK, qD, qN.same rfl⟩, va_recv hK hP (ci := 5) (q0 := k_51) rfl (Wd_ob kg_56 sg_56 (by decide)), fun U hU hW => ⟨rfl, by rw [hU], by rw [hU]; exact hP, va_K.moved hW.alike hK, hD.weaken (fun _ _ _ _ => trivial), hN.warm hW⟩⟩ rfl rfl hl.1 rfl (lv_room (Nat.le_of_ble_eq_true rfl)) dX6_readForeignFunctions_126 ⟨Nat.le_of_ble_eq_true rfl, Nat.le_of_ble_eq_true rfl⟩) hS (fun q _ h => hFc q h) hFc (fun u t H_57 locs ht hvm hw hB hz1 hk1 hS2 => ?_)
      obtain ⟨hP1, -, hD1⟩ := hB
      rw [ht] at hP1
      replace hD := hD1.weaken (fun _ _ _ h => hFc _ h)
      replace hP := hP1
      replace hS := hS2
      clear hP1 hD1 hS2 hFc hfc hz1 hk1 hvm ht
      refine lv_aload_n hx hb dX6_readForeignFunctions_129 rfl (lv_at hl 2 rfl) ?_
      obtain ⟨k_58, ek_58, hf⟩ := lnk_some hf
      refine va_get (D := (dC, dI)) (ci := 6) (v := .ref (a k_58)) (C := RX6) (T := TX6) (N := 9) hx hb hts iwd_X6_readForeignFunctions_X6 hown hK hP h0 (Wd_ob kg_1 sg_1 (by decide)) rfl 2 (by decide) (hts _ md_X6_readForeignFunctions_1) (fun _ h9 => h9) (fl_q rfl ek_58) dX6_readForeignFunctions_130 ?_
      refine lv_iload_n hx hb dX6_readForeignFunctions_133 rfl (lv_at hl 0 rfl) ?_
      refine lv_iconst (v := 4) hx hb dX6_readForeignFunctions_134 (by decide) ?_
      refine lv_iconst (v := 0) hx hb dX6_readForeignFunctions_135 (by decide) ?_
      obtain ⟨g_60, hf⟩ := grd_some hf
      obtain ⟨kg_60, sg_60⟩ := okO_at g_60
      obtain ⟨z_59, _u, hfc, hf⟩ := cal_some hf
      have hFc := de_free hD hS hA
      refine va_callv (va_runV (As := [.int v_16, .int 4, .int 0]) (rest := []) ⟨hx, hb, hml, hown, hts⟩ (de_X5_setFunction l dC dI cy a sh n H_57.size F z_55 k_58 v_16 4 0 hfc) (cwV 3 hts gX6_readForeignFunctions_X5_setFunction rfl rfl rfl (by decide +kernel) ⟨Nat.le_of_ble_eq_true rfl, Nat.le_of_ble_eq_true rfl⟩) ⟨fun a U g mk q => by obtain ⟨q0, q1, qP, qK, qD, qN⟩ := q; exact ⟨q0, q1, qP, va_K.moved (u := U) (U := U.calling g mk a) (Vm.Alike.refl U.vm) qK, qD, qN.same rfl⟩, va_recv hK hP (ci := 5) (q0 := k_58) rfl (Wd_ob kg_60 sg_60 (by decide)), fun U hU hW => ⟨rfl, by rw [hU], by rw [hU]; exact hP, va_K.moved hW.alike hK, hD.weaken (fun _ _ _ _ => trivial), hN.warm hW⟩⟩ rfl rfl hl.1 rfl (lv_room (Nat.le_of_ble_eq_true rfl)) dX6_readForeignFunctions_136 ⟨Nat.le_of_ble_eq_true rfl, Nat.le_of_ble_eq_true rfl⟩) hS (fun q _ h => hFc q h) hFc (fun u t H_61 locs ht hvm hw hB hz1 hk1 hS2 => ?_)
      obtain ⟨hP1, -, hD1⟩ := hB
      rw [ht] at hP1
      replace hD := hD1.weaken (fun _ _ _ h => hFc _ h)
      replace hP := hP1
      replace hS := hS2
      clear hP1 hD1 hS2 hFc hfc hz1 hk1 hvm ht
      refine lv_aload_n hx hb dX6_readForeignFunctions_139 rfl (lv_at hl 2 rfl) ?_
      obtain ⟨k_62, ek_62, hf⟩ := lnk_some hf
      refine va_get (D := (dC, dI)) (ci := 6) (v := .ref (a k_62)) (C := RX6) (T := TX6) (N := 9) hx hb hts iwd_X6_readForeignFunctions_X6 hown hK hP h0 (Wd_ob kg_1 sg_1 (by decide)) rfl 2 (by decide) (hts _ md_X6_readForeignFunctions_1) (fun _ h9 => h9) (fl_q rfl ek_62) dX6_readForeignFunctions_140 ?_
      refine lv_iload_n hx hb dX6_readForeignFunctions_143 rfl (lv_at hl 0 rfl) ?_
      refine lv_bipush (v := 6) hx hb dX6_readForeignFunctions_144 (by decide) ?_
      refine lv_iconst (v := 0) hx hb dX6_readForeignFunctions_146 (by decide) ?_
      obtain ⟨g_64, hf⟩ := grd_some hf
      obtain ⟨kg_64, sg_64⟩ := okO_at g_64
      obtain ⟨z_63, _u, hfc, hf⟩ := cal_some hf
      have hFc := de_free hD hS hA
      refine va_callv (va_runV (As := [.int v_16, .int 6, .int 0]) (rest := []) ⟨hx, hb, hml, hown, hts⟩ (de_X5_setFunction l dC dI cy a sh n H_61.size F z_59 k_62 v_16 6 0 hfc) (cwV 3 hts gX6_readForeignFunctions_X5_setFunction rfl rfl rfl (by decide +kernel) ⟨Nat.le_of_ble_eq_true rfl, Nat.le_of_ble_eq_true rfl⟩) ⟨fun a U g mk q => by obtain ⟨q0, q1, qP, qK, qD, qN⟩ := q; exact ⟨q0, q1, qP, va_K.moved (u := U) (U := U.calling g mk a) (Vm.Alike.refl U.vm) qK, qD, qN.same rfl⟩, va_recv hK hP (ci := 5) (q0 := k_62) rfl (Wd_ob kg_64 sg_64 (by decide)), fun U hU hW => ⟨rfl, by rw [hU], by rw [hU]; exact hP, va_K.moved hW.alike hK, hD.weaken (fun _ _ _ _ => trivial), hN.warm hW⟩⟩ rfl rfl hl.1 rfl (lv_room (Nat.le_of_ble_eq_true rfl)) dX6_readForeignFunctions_147 ⟨Nat.le_of_ble_eq_true rfl, Nat.le_of_ble_eq_true rfl⟩) hS (fun q _ h => hFc q h) hFc (fun u t H_65 locs ht hvm hw hB hz1 hk1 hS2 => ?_)
      obtain ⟨hP1, -, hD1⟩ := hB
      rw [ht] at hP1
      replace hD := hD1.weaken (fun _ _ _ h => hFc _ h)
      replace hP := hP1
      replace hS := hS2
      clear hP1 hD1 hS2 hFc hfc hz1 hk1 hvm ht
      refine lv_iinc (v := (p_9 + 1)) (lv' := [(1, .int (p_9 + 1)), (2, .int v_16), (0, .ref (a h0))]) hx hb dX6_readForeignFunctions_150 hl (k := 1) rfl rfl (by decide) rfl (fun ls hl2 => ?_)
      replace hl := hl2
      clear hl2
      refine lv_goto (tgt := 16) hx hb dX6_readForeignFunctions_153 (by decide) ?_
      exact ih16 (z_63, (p_9 + 1)) ls H_65 locs ⟨lv_sub hl [0, 2] rfl, hP, hD, hS⟩ hf

theorem md_X4_enter_1 : (.fieldLink RX4 58 "ResourceLedger$Machine" "state" "LResourceLedger$State;" : Cond) ∈ wsX4_enter := List.mem_of_getElem? (i := 1) rfl
theorem iwd_X4_enter_X4 : ∀ w ∈ wsX40, w ∈ wsX4_enter := fun _ h => List.mem_cons_of_mem _ (List.mem_append_left _ (List.mem_append_left _ (List.mem_append_left _ (List.mem_append_left _ (List.mem_append_left _ (List.mem_append_right _ h))))))
theorem md_X4_enter_4 : (.constantLong RX4 151 (4) : Cond) ∈ wsX4_enter := List.mem_of_getElem? (i := 4) rfl
theorem md_X4_enter_2 : (.fieldLink RX4 100 "ResourceLedger$Machine" "top" "I" : Cond) ∈ wsX4_enter := List.mem_of_getElem? (i := 2) rfl
theorem md_X4_enter_3 : (.fieldLink RX4 67 "ResourceLedger$Machine" "journal" "LResourceLedger$Journal;" : Cond) ∈ wsX4_enter := List.mem_of_getElem? (i := 3) rfl
theorem md_X4_enter_5 : (.fieldLink RX4 49 "ResourceLedger$Machine" "depths" "[I" : Cond) ∈ wsX4_enter := List.mem_of_getElem? (i := 5) rfl
theorem md_X4_enter_8 : (.methodLink RX4 141 Lib.Math.min.name : Cond) ∈ wsX4_enter := List.mem_of_getElem? (i := 8) rfl
theorem md_X4_enter_9 : (.static Lib.Math.min.name : Cond) ∈ wsX4_enter := List.mem_of_getElem? (i := 9) rfl
theorem md_X4_enter_10 : (.initialized "java/lang/Math" : Cond) ∈ wsX4_enter := List.mem_of_getElem? (i := 10) rfl
theorem md_X4_enter_11 : (.code Lib.Math.min.name Lib.Math.min.code 2 (some .int) : Cond) ∈ wsX4_enter := List.mem_of_getElem? (i := 11) rfl
theorem md_X4_enter_12 : (.fieldLink RX4 55 "ResourceLedger$Machine" "stack" "[I" : Cond) ∈ wsX4_enter := List.mem_of_getElem? (i := 12) rfl
theorem md_X4_enter_13 : (.fieldLink RX4 52 "ResourceLedger$Machine" "locals" "[I" : Cond) ∈ wsX4_enter := List.mem_of_getElem? (i := 13) rfl
theorem md_X4_enter_14 : (.methodLink RX4 312 arraycopyName : Cond) ∈ wsX4_enter := List.mem_of_getElem? (i := 14) rfl
theorem md_X4_enter_15 : (.native arraycopyName : Cond) ∈ wsX4_enter := List.mem_of_getElem? (i := 15) rfl
theorem md_X4_enter_16 : (.static arraycopyName : Cond) ∈ wsX4_enter := List.mem_of_getElem? (i := 16) rfl
theorem md_X4_enter_17 : (.initialized "java/lang/System" : Cond) ∈ wsX4_enter := List.mem_of_getElem? (i := 17) rfl
theorem md_X4_enter_6 : (.fieldLink RX4 12 "ResourceLedger$Machine" "heap" "LResourceLedger$Heap;" : Cond) ∈ wsX4_enter := List.mem_of_getElem? (i := 6) rfl
theorem md_X4_enter_7 : (.fieldLink RX4 71 "ResourceLedger$Heap" "slips" "I" : Cond) ∈ wsX4_enter := List.mem_of_getElem? (i := 7) rfl
theorem iwd_X4_enter_X1 : ∀ w ∈ wsX10, w ∈ wsX4_enter := fun _ h => List.mem_cons_of_mem _ (List.mem_append_left _ (List.mem_append_left _ (List.mem_append_left _ (List.mem_append_left _ (List.mem_append_right _ h)))))
set_option maxHeartbeats 4000000 in
set_option maxRecDepth 100000 in
theorem de_X4_enter (l : Launch) (dC : Nat → ClassId) (dI : Nat → Nat → Nat) (cy : Nat → ClassId) (a : Nat → Nat) (sh : Nat → Nat × Nat) (n sz : Nat) (F : Nat) (z : St) (h0 : Nat) (x0 : Int32) (x1 : Int32) {z8 : St} {r8 : Unit} (hf : fn_X4_enter F sh n z h0 x0 x1 = some (z8, r8)) : Met l yX4_enter wsX4_enter ({ frames := 52, cells := 0, slots := 0, locals := 1446 }) (va_Pc [.ref (a h0), .int x0, .int x1] (fun U => U.heap.size = sz ∧ va_P (dC, dI) vwCl (Wd cy a sh n z) U.heap ∧ va_K (dC, dI) vwCl (TYS cy) U ∧ va_D (fun _ => True) (Wd cy a sh n z) ∧ NK U)) (va_Qv (fun u : Unit => True) (fun u t => va_P (dC, dI) vwCl (Wd cy a sh n z8) t.heap ∧ va_K (dC, dI) vwCl (TYS cy) t ∧ va_D (va_A (Wd cy a sh n z) sz) (Wd cy a sh n z8)) (va_A (Wd cy a sh n z) sz)) 0 0 (va_A (Wd cy a sh n z) sz) := by
  refine Met.ofW (cc := cX4_enter) (maxL := 6) (ret := none) (by decide) rfl ?_
  intro p e s m args below meth c s₁ B hml hv
  obtain ⟨rfl, hsz, hP, hK, hD0, hN⟩ := hv
  have hx := B.exec
  have hb := B.bytes
  have hr := B.returns
  have hts := atoms_spec (ws := wsX4_enter) B.pre
  have hown : s.vm.findClass RX4 = some m.cls := findClass_of_methodNamed B.named
  have hlocks := B.notSynchronized
  subst hsz
  have hD := hD0.self (sz := s.heap.size)
  clear hD0
  generalize hAe : va_A (Wd cy a sh n z) s.heap.size = A at hD ⊢
  have hA : ∀ q : Nat, s.heap.size ≤ q → A q := fun q h => by rw [← hAe]; exact Or.inr h
  clear hAe
  have hS : va_S A s.heap s.heap [] := va_S.rf
  have hl := lv_entry ([.ref (a h0), .int x0, .int x1]) (n := 6) (Nat.le_of_ble_eq_true rfl)
  rw [lg_entry_eq]
  generalize (lg_sl ([.ref (a h0), .int x0, .int x1]) ++ List.replicate (6 - (lg_sl ([.ref (a h0), .int x0, .int x1])).length) Slot.unset).toArray = ls at hl ⊢
  replace hl : lv_has ls 6 [(0, .ref (a h0)), (1, .int x0), (2, .int x1)] := hl
  unfold fn_X4_enter at hf
  refine de_start hS hP (fun H locs hS hP => ?_)
  refine lv_aload_n hx hb dX4_enter_0 rfl (lv_at hl 0 rfl) ?_
  obtain ⟨g_1, hf⟩ := grd_some hf
  obtain ⟨kg_1, sg_1⟩ := okO_at g_1
  obtain ⟨k_2, ek_2, hf⟩ := lnk_some hf
  refine va_get (D := (dC, dI)) (ci := 4) (v := .ref (a k_2)) (C := RX4) (T := TX4) (N := 18) hx hb hts iwd_X4_enter_X4 hown hK hP h0 (Wd_ob kg_1 sg_1 (by decide)) rfl 0 (by decide) (hts _ md_X4_enter_1) (fun _ h9 => h9) (fl_q rfl ek_2) dX4_enter_1 ?_
  refine lv_iload_n hx hb dX4_enter_4 rfl (lv_at hl 1 rfl) ?_
  obtain ⟨g_5, hf⟩ := grd_some hf
  obtain ⟨kg_5, sg_5⟩ := okO_at g_5
  obtain ⟨z_3, r_4, hfc, hf⟩ := cal_some hf
  have hFc := de_free hD hS hA
  refine va_callq (va_runV (As := [.int x0]) (rest := []) ⟨hx, hb, hml, hown, hts⟩ (de_X7_findProgram l dC dI cy a sh n H.size F z k_2 x0 hfc) (cwV 1 hts gX4_enter_X7_findProgram rfl rfl rfl (by decide +kernel) ⟨Nat.le_of_ble_eq_true rfl, Nat.le_of_ble_eq_true rfl⟩) ⟨fun a U g mk q => by obtain ⟨q0, q1, qP, qK, qD, qN⟩ := q; exact ⟨q0, q1, qP, va_K.moved (u := U) (U := U.calling g mk a) (Vm.Alike.refl U.vm) qK, qD, qN.same rfl⟩, va_recv hK hP (ci := 7) (q0 := k_2) rfl (Wd_ob kg_5 sg_5 (by decide)), fun U hU hW => ⟨rfl, by rw [hU], by rw [hU]; exact hP, va_K.moved hW.alike hK, hD.weaken (fun _ _ _ _ => trivial), hN.warm hW⟩⟩ rfl rfl hl.1 rfl (lv_room (Nat.le_of_ble_eq_true rfl)) dX4_enter_5 ⟨Nat.le_of_ble_eq_true rfl, Nat.le_of_ble_eq_true rfl⟩) hS (fun q _ h => hFc q h) hFc (fun rr u t H_6 locs ht hvm hw hB hz1 hk1 hS2 => ?_)
  rw [hw]
  clear hw
  obtain ⟨hP1, -, hD1⟩ := hB
  rw [ht] at hP1
  replace hD := hD1.weaken (fun _ _ _ h => hFc _ h)
  replace hP := hP1
  replace hS := hS2
  clear hP1 hD1 hS2 hFc hfc hz1 hk1 hvm ht
  rcases r_4 with _ | k_7
  · skip
    replace hf := nul_none hf
    refine W.eq (g2 := F0 m 8 ls [.null]) rfl ?_
    refine lv_astore_nN (lv' := [(3, .null), (0, .ref (a h0)), (1, .int x0), (2, .int x1)]) hx hb dX4_enter_8 rfl hl (by decide) rfl (fun ls hl2 => ?_)
    replace hl := hl2
    clear hl2
    refine lv_aload_nN hx hb dX4_enter_9 rfl (lv_at hl 0 rfl) ?_
    refine lv_ifnullN (tgt := 38) hx hb dX4_enter_10 (by decide) ?_
    refine lv_aload_n hx hb dX4_enter_38 rfl (lv_at hl 1 rfl) ?_
    refine lv_iconst (v := 2) hx hb dX4_enter_39 (by decide) ?_
    refine lv_ldc2 hx hb hown (hts _ md_X4_enter_4) dX4_enter_40 ?_
    obtain ⟨z_8, _u, hfc, hf⟩ := cal_some hf
    have hFc := de_free hD hS hA
    refine va_callv (va_runV (As := [.int 2, .long 4]) (rest := []) ⟨hx, hb, hml, hown, hts⟩ (de_X4_end l dC dI cy a sh n H_6.size F z_3 h0 2 4 hfc) (cwV 2 hts gX4_enter_X4_end rfl rfl rfl (by decide +kernel) ⟨Nat.le_of_ble_eq_true rfl, Nat.le_of_ble_eq_true rfl⟩) ⟨fun a U g mk q => by obtain ⟨q0, q1, qP, qK, qD, qN⟩ := q; exact ⟨q0, q1, qP, va_K.moved (u := U) (U := U.calling g mk a) (Vm.Alike.refl U.vm) qK, qD, qN.same rfl⟩, va_recv hK hP (ci := 4) (q0 := h0) rfl (Wd_ob kg_1 sg_1 (by decide)), fun U hU hW => ⟨rfl, by rw [hU], by rw [hU]; exact hP, va_K.moved hW.alike hK, hD.weaken (fun _ _ _ _ => trivial), hN.warm hW⟩⟩ rfl rfl hl.1 rfl (lv_room (Nat.le_of_ble_eq_true rfl)) dX4_enter_43 ⟨Nat.le_of_ble_eq_true rfl, Nat.le_of_ble_eq_true rfl⟩) hS (fun q _ h => hFc q h) hFc (fun u t H_9 locs ht hvm hw hB hz1 hk1 hS2 => ?_)
    obtain ⟨hP1, -, hD1⟩ := hB
    rw [ht] at hP1
    replace hD := hD1.weaken (fun _ _ _ h => hFc _ h)
    replace hP := hP1
    replace hS := hS2
    clear hP1 hD1 hS2 hFc hfc hz1 hk1 hvm ht
    obtain ⟨h8, h9⟩ := ret_some hf
    rw [h8]
    exact W.vret hx hb hr (fun t ht hW => ⟨⟨(), rfl, trivial, by rw [ht]; exact hP, va_K.moved hW.alike hK, hD⟩, hS.F ht⟩) hS.2.2 dX4_enter_46
  · skip
    replace hf := nul_some hf
    refine W.eq (g2 := F0 m 8 ls [.ref (a k_7)]) rfl ?_
    refine lv_astore_n (lv' := [(3, .ref (a k_7)), (0, .ref (a h0)), (1, .int x0), (2, .int x1)]) hx hb dX4_enter_8 rfl hl (by decide) rfl (fun ls hl2 => ?_)
    replace hl := hl2
    clear hl2
    refine lv_aload_n hx hb dX4_enter_9 rfl (lv_at hl 0 rfl) ?_
    refine lv_ifnull hx hb dX4_enter_10 ?_
    refine lv_aload_n hx hb dX4_enter_13 rfl (lv_at hl 1 rfl) ?_
    refine va_get (D := (dC, dI)) (ci := 4) (v := .int (z_3.1 h0 12)) (C := RX4) (T := TX4) (N := 18) hx hb hts iwd_X4_enter_X4 hown hK hP h0 (Wd_ob kg_1 sg_1 (by decide)) rfl 12 (by decide) (hts _ md_X4_enter_2) (fun _ h9 => h9) (fl_at (t := 0) rfl) dX4_enter_14 ?_
    refine lv_iconst (v := 1) hx hb dX4_enter_17 (by decide) ?_
    refine lv_iadd hx hb dX4_enter_18 ?_
    refine lv_bipush (v := 32) hx hb dX4_enter_19 (by decide) ?_
    refine lv_icmp_ge (tgt := 38) hx hb dX4_enter_21 (by decide) (fun c_10 => ?_) (fun c_10 => ?_)
    · skip
      rw [if_pos c_10] at hf
      refine lv_aload_n hx hb dX4_enter_38 rfl (lv_at hl 1 rfl) ?_
      refine lv_iconst (v := 2) hx hb dX4_enter_39 (by decide) ?_
      refine lv_ldc2 hx hb hown (hts _ md_X4_enter_4) dX4_enter_40 ?_
      obtain ⟨z_11, _u, hfc, hf⟩ := cal_some hf
      have hFc := de_free hD hS hA
      refine va_callv (va_runV (As := [.int 2, .long 4]) (rest := []) ⟨hx, hb, hml, hown, hts⟩ (de_X4_end l dC dI cy a sh n H_6.size F z_3 h0 2 4 hfc) (cwV 2 hts gX4_enter_X4_end rfl rfl rfl (by decide +kernel) ⟨Nat.le_of_ble_eq_true rfl, Nat.le_of_ble_eq_true rfl⟩) ⟨fun a U g mk q => by obtain ⟨q0, q1, qP, qK, qD, qN⟩ := q; exact ⟨q0, q1, qP, va_K.moved (u := U) (U := U.calling g mk a) (Vm.Alike.refl U.vm) qK, qD, qN.same rfl⟩, va_recv hK hP (ci := 4) (q0 := h0) rfl (Wd_ob kg_1 sg_1 (by decide)), fun U hU hW => ⟨rfl, by rw [hU], by rw [hU]; exact hP, va_K.moved hW.alike hK, hD.weaken (fun _ _ _ _ => trivial), hN.warm hW⟩⟩ rfl rfl hl.1 rfl (lv_room (Nat.le_of_ble_eq_true rfl)) dX4_enter_43 ⟨Nat.le_of_ble_eq_true rfl, Nat.le_of_ble_eq_true rfl⟩) hS (fun q _ h => hFc q h) hFc (fun u t H_12 locs ht hvm hw hB hz1 hk1 hS2 => ?_)
      obtain ⟨hP1, -, hD1⟩ := hB
      rw [ht] at hP1
      replace hD := hD1.weaken (fun _ _ _ h => hFc _ h)
      replace hP := hP1
      replace hS := hS2
      clear hP1 hD1 hS2 hFc hfc hz1 hk1 hvm ht
      obtain ⟨h8, h9⟩ := ret_some hf
      rw [h8]
      exact W.vret hx hb hr (fun t ht hW => ⟨⟨(), rfl, trivial, by rw [ht]; exact hP, va_K.moved hW.alike hK, hD⟩, hS.F ht⟩) hS.2.2 dX4_enter_46
    · skip
      rw [if_neg c_10] at hf
      refine lv_aload_n hx hb dX4_enter_24 rfl (lv_at hl 1 rfl) ?_
      obtain ⟨k_13, ek_13, hf⟩ := lnk_some hf
      refine va_get (D := (dC, dI)) (ci := 4) (v := .ref (a k_13)) (C := RX4) (T := TX4) (N := 18) hx hb hts iwd_X4_enter_X4 hown hK hP h0 (Wd_ob kg_1 sg_1 (by decide)) rfl 2 (by decide) (hts _ md_X4_enter_3) (fun _ h9 => h9) (fl_q rfl ek_13) dX4_enter_25 ?_
      refine lv_iconst (v := 2) hx hb dX4_enter_28 (by decide) ?_
      refine lv_lconst (v := 0) hx hb dX4_enter_29 (by decide) ?_
      refine lv_iload_n hx hb dX4_enter_30 rfl (lv_at hl 2 rfl) ?_
      refine lv_iconst (v := 0) hx hb dX4_enter_31 (by decide) ?_
      obtain ⟨g_16, hf⟩ := grd_some hf
      obtain ⟨kg_16, sg_16⟩ := okO_at g_16
      obtain ⟨z_14, r_15, hfc, hf⟩ := cal_some hf
      have hFc := de_free hD hS hA
      refine va_calli (va_runV (As := [.int 2, .long 0, .int x0, .int 0]) (rest := []) ⟨hx, hb, hml, hown, hts⟩ (de_X2_ask l dC dI cy a sh n H_6.size F z_3 k_13 2 0 x0 0 hfc) (cwV 4 hts gX4_enter_X2_ask rfl rfl rfl (by decide +kernel) ⟨Nat.le_of_ble_eq_true rfl, Nat.le_of_ble_eq_true rfl⟩) ⟨fun a U g mk q => by obtain ⟨q0, q1, qP, qK, qD, qN⟩ := q; exact ⟨q0, q1, qP, va_K.moved (u := U) (U := U.calling g mk a) (Vm.Alike.refl U.vm) qK, qD, qN.same rfl⟩, va_recv hK hP (ci := 2) (q0 := k_13) rfl (Wd_ob kg_16 sg_16 (by decide)), fun U hU hW => ⟨rfl, by rw [hU], by rw [hU]; exact hP, va_K.moved hW.alike hK, hD.weaken (fun _ _ _ _ => trivial), hN.warm hW⟩⟩ rfl rfl hl.1 rfl (lv_room (Nat.le_of_ble_eq_true rfl)) dX4_enter_32 ⟨Nat.le_of_ble_eq_true rfl, Nat.le_of_ble_eq_true rfl⟩) hS (fun q _ h => hFc q h) hFc (fun rr u t H_17 locs ht hvm hw hB hz1 hk1 hS2 => ?_)
      rw [hw]
      clear hw
      obtain ⟨hP1, -, hD1⟩ := hB
      rw [ht] at hP1
      replace hD := hD1.weaken (fun _ _ _ h => hFc _ h)
      replace hP := hP1
      replace hS := hS2
      clear hP1 hD1 hS2 hFc hfc hz1 hk1 hvm ht
      refine lv_if_ge (tgt := 47) hx hb dX4_enter_35 (by decide) (fun c_18 => ?_) (fun c_18 => ?_)
      · skip
        rw [if_pos c_18] at hf
        refine lv_aload_n hx hb dX4_enter_47 rfl (lv_at hl 1 rfl) ?_
        refine lv_iconst (v := 5) hx hb dX4_enter_48 (by decide) ?_
        obtain ⟨z_19, r_20, hfc, hf⟩ := cal_some hf
        have hFc := de_free hD hS hA
        refine va_calli (va_runV (As := [.int 5]) (rest := []) ⟨hx, hb, hml, hown, hts⟩ (de_X4_pay l dC dI cy a sh n H_17.size F z_14 h0 5 hfc) (cwV 1 hts gX4_enter_X4_pay rfl rfl rfl (by decide +kernel) ⟨Nat.le_of_ble_eq_true rfl, Nat.le_of_ble_eq_true rfl⟩) ⟨fun a U g mk q => by obtain ⟨q0, q1, qP, qK, qD, qN⟩ := q; exact ⟨q0, q1, qP, va_K.moved (u := U) (U := U.calling g mk a) (Vm.Alike.refl U.vm) qK, qD, qN.same rfl⟩, va_recv hK hP (ci := 4) (q0 := h0) rfl (Wd_ob kg_1 sg_1 (by decide)), fun U hU hW => ⟨rfl, by rw [hU], by rw [hU]; exact hP, va_K.moved hW.alike hK, hD.weaken (fun _ _ _ _ => trivial), hN.warm hW⟩⟩ rfl rfl hl.1 rfl (lv_room (Nat.le_of_ble_eq_true rfl)) dX4_enter_49 ⟨Nat.le_of_ble_eq_true rfl, Nat.le_of_ble_eq_true rfl⟩) hS (fun q _ h => hFc q h) hFc (fun rr u t H_21 locs ht hvm hw hB hz1 hk1 hS2 => ?_)
        rw [hw]
        clear hw
        obtain ⟨hP1, -, hD1⟩ := hB
        rw [ht] at hP1
        replace hD := hD1.weaken (fun _ _ _ h => hFc _ h)
        replace hP := hP1
        replace hS := hS2
        clear hP1 hD1 hS2 hFc hfc hz1 hk1 hvm ht
        refine lv_if_ne (tgt := 56) hx hb dX4_enter_52 (by decide) (fun c_22 => ?_) (fun c_22 => ?_)
        · skip
          rw [if_neg c_22] at hf
          refine lv_aload_n hx hb dX4_enter_56 rfl (lv_at hl 0 rfl) ?_
          refine lv_iload_n hx hb dX4_enter_57 rfl (lv_at hl 3 rfl) ?_
          obtain ⟨g_25, hf⟩ := grd_some hf
          obtain ⟨kg_25, sg_25⟩ := okO_at g_25
          obtain ⟨z_23, r_24, hfc, hf⟩ := cal_some hf
          have hFc := de_free hD hS hA
          refine va_calli (va_runV (As := [.int x1]) (rest := []) ⟨hx, hb, hml, hown, hts⟩ (de_X5_takes l dC dI cy a sh n H_21.size F z_19 k_7 x1 hfc) (cwV 1 hts gX4_enter_X5_takes rfl rfl rfl (by decide +kernel) ⟨Nat.le_of_ble_eq_true rfl, Nat.le_of_ble_eq_true rfl⟩) ⟨fun a U g mk q => by obtain ⟨q0, q1, qP, qK, qD, qN⟩ := q; exact ⟨q0, q1, qP, va_K.moved (u := U) (U := U.calling g mk a) (Vm.Alike.refl U.vm) qK, qD, qN.same rfl⟩, va_recv hK hP (ci := 5) (q0 := k_7) rfl (Wd_ob kg_25 sg_25 (by decide)), fun U hU hW => ⟨rfl, by rw [hU], by rw [hU]; exact hP, va_K.moved hW.alike hK, hD.weaken (fun _ _ _ _ => trivial), hN.warm hW⟩⟩ rfl rfl hl.1 rfl (lv_room (Nat.le_of_ble_eq_true rfl)) dX4_enter_58 ⟨Nat.le_of_ble_eq_true rfl, Nat.le_of_ble_eq_true rfl⟩) hS (fun q _ h => hFc q h) hFc (fun rr u t H_26 locs ht hvm hw hB hz1 hk1 hS2 => ?_)
          rw [hw]
          clear hw
          obtain ⟨hP1, -, hD1⟩ := hB
          rw [ht] at hP1
          replace hD := hD1.weaken (fun _ _ _ h => hFc _ h)
          replace hP := hP1
          replace hS := hS2
          clear hP1 hD1 hS2 hFc hfc hz1 hk1 hvm ht
          refine lv_aload_n hx hb dX4_enter_61 rfl (lv_at hl 1 rfl) ?_
          obtain ⟨k_27, ek_27, hf⟩ := lnk_some hf
          refine va_get (D := (dC, dI)) (ci := 4) (v := .ref (a k_27)) (C := RX4) (T := TX4) (N := 18) hx hb hts iwd_X4_enter_X4 hown hK hP h0 (Wd_ob kg_1 sg_1 (by decide)) rfl 9 (by decide) (hts _ md_X4_enter_5) (fun _ h9 => h9) (fl_q rfl ek_27) dX4_enter_62 ?_
          refine lv_aload_n hx hb dX4_enter_65 rfl (lv_at hl 1 rfl) ?_
          refine va_get (D := (dC, dI)) (ci := 4) (v := .int (z_23.1 h0 12)) (C := RX4) (T := TX4) (N := 18) hx hb hts iwd_X4_enter_X4 hown hK hP h0 (Wd_ob kg_1 sg_1 (by decide)) rfl 12 (by decide) (hts _ md_X4_enter_2) (fun _ h9 => h9) (fl_at (t := 0) rfl) dX4_enter_66 ?_
          obtain ⟨g_28, hf⟩ := grd_some hf
          obtain ⟨kg_28, sg_28, ig_28⟩ := okA_at g_28
          refine va_iald hx hb hK hP k_27 1 (Wd_ai kg_28 sg_28) rfl ig_28 dX4_enter_69 ?_
          refine de_cut (h := 86) (fun (x : St) => []) (fun x ls H locs => lv_has ls 6 [(3, .ref (a k_7)), (0, .ref (a h0)), (2, .int x1)] ∧ va_P (dC, dI) vwCl (Wd cy a sh n x) H ∧ va_D A (Wd cy a sh n x) ∧ va_S A s.heap H locs) (fun x => fn_X4_enter_B86 F sh n k_7 x1 h0 x) (z8, r8) ?_ (fun B86 => ?_)
          · intro x ls H locs hI hf
            obtain ⟨z_29, ez⟩ : ∃ w, w = x := ⟨_, rfl⟩
            subst ez
            obtain ⟨hl2, hP2, hD2, hS2⟩ := hI
            replace hl : lv_has ls 6 [(3, .ref (a k_7)), (0, .ref (a h0)), (2, .int x1)] := hl2
            replace hP := hP2
            replace hD := hD2
            replace hS := hS2
            clear hl2 hP2 hD2 hS2
            replace hf := fn_X4_enter_B86_s hf
            refine W.eq (g2 := F0 m 86 ls []) rfl ?_
            refine lv_aload_n hx hb dX4_enter_86 rfl (lv_at hl 0 rfl) ?_
            refine lv_iload_n hx hb dX4_enter_87 rfl (lv_at hl 2 rfl) ?_
            obtain ⟨z_30, r_31, hfc, hf⟩ := cal_some hf
            have hFc := de_free hD hS hA
            refine va_calli (va_runV (As := [.int x1]) (rest := []) ⟨hx, hb, hml, hown, hts⟩ (de_X5_takes l dC dI cy a sh n H.size F z_29 k_7 x1 hfc) (cwV 1 hts gX4_enter_X5_takes rfl rfl rfl (by decide +kernel) ⟨Nat.le_of_ble_eq_true rfl, Nat.le_of_ble_eq_true rfl⟩) ⟨fun a U g mk q => by obtain ⟨q0, q1, qP, qK, qD, qN⟩ := q; exact ⟨q0, q1, qP, va_K.moved (u := U) (U := U.calling g mk a) (Vm.Alike.refl U.vm) qK, qD, qN.same rfl⟩, va_recv hK hP (ci := 5) (q0 := k_7) rfl (Wd_ob kg_25 sg_25 (by decide)), fun U hU hW => ⟨rfl, by rw [hU], by rw [hU]; exact hP, va_K.moved hW.alike hK, hD.weaken (fun _ _ _ _ => trivial), hN.warm hW⟩⟩ rfl rfl hl.1 rfl (lv_room (Nat.le_of_ble_eq_true rfl)) dX4_enter_88 ⟨Nat.le_of_ble_eq_true rfl, Nat.le_of_ble_eq_true rfl⟩) hS (fun q _ h => hFc q h) hFc (fun rr u t H_32 locs ht hvm hw hB hz1 hk1 hS2 => ?_)
            rw [hw]
            clear hw
            obtain ⟨hP1, -, hD1⟩ := hB
            rw [ht] at hP1
            replace hD := hD1.weaken (fun _ _ _ h => hFc _ h)
            replace hP := hP1
            replace hS := hS2
            clear hP1 hD1 hS2 hFc hfc hz1 hk1 hvm ht
            refine lv_aload_n hx hb dX4_enter_91 rfl (lv_at hl 1 rfl) ?_
            obtain ⟨k_33, ek_33, hf⟩ := lnk_some hf
            refine va_get (D := (dC, dI)) (ci := 4) (v := .ref (a k_33)) (C := RX4) (T := TX4) (N := 18) hx hb hts iwd_X4_enter_X4 hown hK hP h0 (Wd_ob kg_1 sg_1 (by decide)) rfl 9 (by decide) (hts _ md_X4_enter_5) (fun _ h9 => h9) (fl_q rfl ek_33) dX4_enter_92 ?_
            refine lv_aload_n hx hb dX4_enter_95 rfl (lv_at hl 1 rfl) ?_
            refine va_get (D := (dC, dI)) (ci := 4) (v := .int (z_30.1 h0 12)) (C := RX4) (T := TX4) (N := 18) hx hb hts iwd_X4_enter_X4 hown hK hP h0 (Wd_ob kg_1 sg_1 (by decide)) rfl 12 (by decide) (hts _ md_X4_enter_2) (fun _ h9 => h9) (fl_at (t := 0) rfl) dX4_enter_96 ?_
            obtain ⟨g_34, hf⟩ := grd_some hf
            obtain ⟨kg_34, sg_34, ig_34⟩ := okA_at g_34
            refine va_iald hx hb hK hP k_33 1 (Wd_ai kg_34 sg_34) rfl ig_34 dX4_enter_99 ?_
            refine va_mmin hx hb (hml.trans hl.1.symm) hown (hts _ md_X4_enter_8) (hts _ md_X4_enter_9) (hts _ md_X4_enter_10) (hts _ md_X4_enter_11) (Nat.le_of_ble_eq_true rfl) (Nat.le_of_ble_eq_true rfl) (Nat.le_of_ble_eq_true rfl) (Nat.le_of_ble_eq_true rfl) dX4_enter_100 ?_
            refine lv_topi (fun v_35 ev_35 => ?_)
            replace hf := lt_at ev_35 hf
            clear ev_35
            refine lv_istore (lv' := [(4, .int v_35), (3, .ref (a k_7)), (0, .ref (a h0)), (2, .int x1)]) hx hb dX4_enter_103 hl (by decide) rfl (fun ls hl2 => ?_)
            replace hl := hl2
            clear hl2
            refine lv_aload_n hx hb dX4_enter_105 rfl (lv_at hl 2 rfl) ?_
            refine va_get (D := (dC, dI)) (ci := 4) (v := .int (z_30.1 h0 12)) (C := RX4) (T := TX4) (N := 18) hx hb hts iwd_X4_enter_X4 hown hK hP h0 (Wd_ob kg_1 sg_1 (by decide)) rfl 12 (by decide) (hts _ md_X4_enter_2) (fun _ h9 => h9) (fl_at (t := 0) rfl) dX4_enter_106 ?_
            refine lv_bipush (v := 64) hx hb dX4_enter_109 (by decide) ?_
            refine lv_imul hx hb dX4_enter_111 ?_
            refine lv_aload_n hx hb dX4_enter_112 rfl (lv_at hl 2 rfl) ?_
            obtain ⟨k_36, ek_36, hf⟩ := lnk_some hf
            refine va_get (D := (dC, dI)) (ci := 4) (v := .ref (a k_36)) (C := RX4) (T := TX4) (N := 18) hx hb hts iwd_X4_enter_X4 hown hK hP h0 (Wd_ob kg_1 sg_1 (by decide)) rfl 9 (by decide) (hts _ md_X4_enter_5) (fun _ h9 => h9) (fl_q rfl ek_36) dX4_enter_113 ?_
            refine lv_aload_n hx hb dX4_enter_116 rfl (lv_at hl 2 rfl) ?_
            refine va_get (D := (dC, dI)) (ci := 4) (v := .int (z_30.1 h0 12)) (C := RX4) (T := TX4) (N := 18) hx hb hts iwd_X4_enter_X4 hown hK hP h0 (Wd_ob kg_1 sg_1 (by decide)) rfl 12 (by decide) (hts _ md_X4_enter_2) (fun _ h9 => h9) (fl_at (t := 0) rfl) dX4_enter_117 ?_
            obtain ⟨g_37, hf⟩ := grd_some hf
            obtain ⟨kg_37, sg_37, ig_37⟩ := okA_at g_37
            refine va_iald hx hb hK hP k_36 1 (Wd_ai kg_37 sg_37) rfl ig_37 dX4_enter_120 ?_
            refine lv_iadd hx hb dX4_enter_121 ?_
            refine lv_iload hx hb dX4_enter_122 (lv_at hl 0 rfl) ?_
            refine lv_isub hx hb dX4_enter_124 ?_
            refine lv_topi (fun v_38 ev_38 => ?_)
            replace hf := lt_at ev_38 hf
            clear ev_38
            refine lv_istore (lv' := [(5, .int v_38), (4, .int v_35), (3, .ref (a k_7)), (0, .ref (a h0)), (2, .int x1)]) hx hb dX4_enter_125 hl (by decide) rfl (fun ls hl2 => ?_)
            replace hl := hl2
            clear hl2
            refine lv_aload_n hx hb dX4_enter_127 rfl (lv_at hl 3 rfl) ?_
            obtain ⟨k_39, ek_39, hf⟩ := lnk_some hf
            refine va_get (D := (dC, dI)) (ci := 4) (v := .ref (a k_39)) (C := RX4) (T := TX4) (N := 18) hx hb hts iwd_X4_enter_X4 hown hK hP h0 (Wd_ob kg_1 sg_1 (by decide)) rfl 9 (by decide) (hts _ md_X4_enter_5) (fun _ h9 => h9) (fl_q rfl ek_39) dX4_enter_128 ?_
            refine lv_aload_n hx hb dX4_enter_131 rfl (lv_at hl 3 rfl) ?_
            refine va_get (D := (dC, dI)) (ci := 4) (v := .int (z_30.1 h0 12)) (C := RX4) (T := TX4) (N := 18) hx hb hts iwd_X4_enter_X4 hown hK hP h0 (Wd_ob kg_1 sg_1 (by decide)) rfl 12 (by decide) (hts _ md_X4_enter_2) (fun _ h9 => h9) (fl_at (t := 0) rfl) dX4_enter_132 ?_
            refine lv_dup2_11 hx hb dX4_enter_135 rfl rfl ?_
            obtain ⟨g_40, hf⟩ := grd_some hf
            obtain ⟨kg_40, sg_40, ig_40⟩ := okA_at g_40
            refine va_iald hx hb hK hP k_39 1 (Wd_ai kg_40 sg_40) rfl ig_40 dX4_enter_136 ?_
            refine lv_iload hx hb dX4_enter_137 (lv_at hl 1 rfl) ?_
            refine lv_isub hx hb dX4_enter_139 ?_
            obtain ⟨g_41, hf⟩ := grd_some hf
            obtain ⟨kg_41, sg_41, ig_41⟩ := okA_at g_41
            refine va_iast hx hb hK hP hD hS k_39 1 (Wd_ai kg_41 sg_41) rfl ig_41 dX4_enter_140 (fun H_42 locs hP2 hD2 hS2 => ?_)
            rw [Wd_ti sg_41] at hP2 hD2
            obtain ⟨z_43, ez_43⟩ : ∃ w, w = si z_30 k_39 (z_30.1 h0 12).toNatClampNeg ((z_30.1 k_39 (z_30.1 h0 12).toNatClampNeg) - v_35) := ⟨_, rfl⟩
            rw [← ez_43] at hP2 hD2
            replace hf := lt_at ez_43 hf
            clear ez_43
            replace hP := hP2
            replace hD := hD2
            replace hS := hS2
            clear hP2 hD2 hS2
            refine lv_aload_n hx hb dX4_enter_141 rfl (lv_at hl 3 rfl) ?_
            refine lv_aload_n hx hb dX4_enter_142 rfl (lv_at hl 2 rfl) ?_
            refine lv_iload_n hx hb dX4_enter_143 rfl (lv_at hl 4 rfl) ?_
            obtain ⟨z_44, _u, hfc, hf⟩ := cal_some hf
            have hFc := de_free hD hS hA
            refine va_callv (va_runV (As := [.ref (a k_7), .int x1]) (rest := []) ⟨hx, hb, hml, hown, hts⟩ (de_X4_pushFrame l dC dI cy a sh n H_42.size F z_43 h0 k_7 x1 hfc) (cwV 2 hts gX4_enter_X4_pushFrame rfl rfl rfl (by decide +kernel) ⟨Nat.le_of_ble_eq_true rfl, Nat.le_of_ble_eq_true rfl⟩) ⟨fun a U g mk q => by obtain ⟨q0, q1, qP, qK, qD, qN⟩ := q; exact ⟨q0, q1, qP, va_K.moved (u := U) (U := U.calling g mk a) (Vm.Alike.refl U.vm) qK, qD, qN.same rfl⟩, va_recv hK hP (ci := 4) (q0 := h0) rfl (Wd_ob kg_1 sg_1 (by decide)), fun U hU hW => ⟨rfl, by rw [hU], by rw [hU]; exact hP, va_K.moved hW.alike hK, hD.weaken (fun _ _ _ _ => trivial), hN.warm hW⟩⟩ rfl rfl hl.1 rfl (lv_room (Nat.le_of_ble_eq_true rfl)) dX4_enter_144 ⟨Nat.le_of_ble_eq_true rfl, Nat.le_of_ble_eq_true rfl⟩) hS (fun q _ h => hFc q h) hFc (fun u t H_45 locs ht hvm hw hB hz1 hk1 hS2 => ?_)
            obtain ⟨hP1, -, hD1⟩ := hB
            rw [ht] at hP1
            replace hD := hD1.weaken (fun _ _ _ h => hFc _ h)
            replace hP := hP1
            replace hS := hS2
            clear hP1 hD1 hS2 hFc hfc hz1 hk1 hvm ht
            refine lv_aload_n hx hb dX4_enter_147 rfl (lv_at hl 3 rfl) ?_
            obtain ⟨k_46, ek_46, hf⟩ := lnk_some hf
            refine va_get (D := (dC, dI)) (ci := 4) (v := .ref (a k_46)) (C := RX4) (T := TX4) (N := 18) hx hb hts iwd_X4_enter_X4 hown hK hP h0 (Wd_ob kg_1 sg_1 (by decide)) rfl 11 (by decide) (hts _ md_X4_enter_12) (fun _ h9 => h9) (fl_q rfl ek_46) dX4_enter_148 ?_
            refine lv_iload hx hb dX4_enter_151 (lv_at hl 0 rfl) ?_
            refine lv_aload_n hx hb dX4_enter_153 rfl (lv_at hl 3 rfl) ?_
            obtain ⟨k_47, ek_47, hf⟩ := lnk_some hf
            refine va_get (D := (dC, dI)) (ci := 4) (v := .ref (a k_47)) (C := RX4) (T := TX4) (N := 18) hx hb hts iwd_X4_enter_X4 hown hK hP h0 (Wd_ob kg_1 sg_1 (by decide)) rfl 10 (by decide) (hts _ md_X4_enter_13) (fun _ h9 => h9) (fl_q rfl ek_47) dX4_enter_154 ?_
            refine lv_aload_n hx hb dX4_enter_157 rfl (lv_at hl 3 rfl) ?_
            refine va_get (D := (dC, dI)) (ci := 4) (v := .int (z_44.1 h0 12)) (C := RX4) (T := TX4) (N := 18) hx hb hts iwd_X4_enter_X4 hown hK hP h0 (Wd_ob kg_1 sg_1 (by decide)) rfl 12 (by decide) (hts _ md_X4_enter_2) (fun _ h9 => h9) (fl_at (t := 0) rfl) dX4_enter_158 ?_
            refine lv_bipush (v := 40) hx hb dX4_enter_161 (by decide) ?_
            refine lv_imul hx hb dX4_enter_163 ?_
            refine lv_iload hx hb dX4_enter_164 (lv_at hl 1 rfl) ?_
            obtain ⟨g_48, hf⟩ := grd_some hf
            obtain ⟨kg_48, sg_48⟩ := okO_at g_48
            obtain ⟨g_50, hf⟩ := grd_some hf
            obtain ⟨kg_50, sg_50⟩ := okO_at g_50
            obtain ⟨g_49, hf⟩ := grd_some hf
            obtain ⟨ag_49, bg_49, cg_49, dg_49, eg_49⟩ := okC_at g_49
            refine va_copyi (ty := .int) hx hb (hml.trans hl.1.symm) hown (hts _ md_X4_enter_14) (hts _ md_X4_enter_15) (hts _ md_X4_enter_16) (hts _ md_X4_enter_17) hK hP hD hS k_46 k_47 1 1 (Wd_ai kg_50 sg_50) (Wd_ai kg_48 sg_48) rfl rfl rfl ag_49 bg_49 cg_49 dg_49 eg_49 (fun _ _ => rfl) (Nat.le_of_ble_eq_true rfl) (Nat.le_of_ble_eq_true rfl) dX4_enter_166 (fun H_51 locs hP2 hD2 hS2 => ?_)
            rw [Wd_sc sg_48] at hP2 hD2
            obtain ⟨z_52, ez_52⟩ : ∃ w, w = sc z_44 k_47 (z_44.1 k_46) v_38.toNatClampNeg ((z_44.1 h0 12) * 40).toNatClampNeg v_35.toNatClampNeg := ⟨_, rfl⟩
            rw [← ez_52] at hP2 hD2
            replace hf := lt_at ez_52 hf
            clear ez_52
            replace hP := hP2
            replace hD := hD2
            replace hS := hS2
            clear hP2 hD2 hS2
            obtain ⟨h8, h9⟩ := ret_some hf
            rw [h8]
            exact W.vret hx hb hr (fun t ht hW => ⟨⟨(), rfl, trivial, by rw [ht]; exact hP, va_K.moved hW.alike hK, hD⟩, hS.F ht⟩) hS.2.2 dX4_enter_169
          refine lv_icmp_le (tgt := 86) hx hb dX4_enter_70 (by decide) (fun c_53 => ?_) (fun c_53 => ?_)
          · skip
            rw [if_pos c_53] at hf
            exact B86 (z_23) ls H_26 locs ⟨lv_sub hl [0, 1, 3] rfl, hP, hD, hS⟩ hf
          · skip
            rw [if_neg c_53] at hf
            refine lv_aload_n hx hb dX4_enter_73 rfl (lv_at hl 1 rfl) ?_
            obtain ⟨k_54, ek_54, hf⟩ := lnk_some hf
            refine va_get (D := (dC, dI)) (ci := 4) (v := .ref (a k_54)) (C := RX4) (T := TX4) (N := 18) hx hb hts iwd_X4_enter_X4 hown hK hP h0 (Wd_ob kg_1 sg_1 (by decide)) rfl 1 (by decide) (hts _ md_X4_enter_6) (fun _ h9 => h9) (fl_q rfl ek_54) dX4_enter_74 ?_
            refine lv_dup hx hb dX4_enter_77 rfl ?_
            obtain ⟨g_55, hf⟩ := grd_some hf
            obtain ⟨kg_55, sg_55⟩ := okO_at g_55
            refine va_get (D := (dC, dI)) (ci := 1) (v := .int (z_23.1 k_54 6)) (C := RX1) (T := TX1) (N := 7) hx hb hts iwd_X4_enter_X1 hown hK hP k_54 (Wd_ob kg_55 sg_55 (by decide)) rfl 6 (by decide) (hts _ md_X4_enter_7) (fun _ h9 => h9) (fl_at (t := 0) rfl) dX4_enter_78 ?_
            refine lv_iconst (v := 1) hx hb dX4_enter_81 (by decide) ?_
            refine lv_iadd hx hb dX4_enter_82 ?_
            refine va_put (D := (dC, dI)) (ci := 1) (v := .int ((z_23.1 k_54 6) + 1)) (ty := .int) (C := RX1) (T := TX1) (N := 7) hx hb hts iwd_X4_enter_X1 tyX1 tyX1_ok nmX1 hown hK hP hD hS k_54 (Wd_ob kg_55 sg_55 (by decide)) rfl 6 (by decide) (hts _ md_X4_enter_7) (fun _ h9 => h9) rfl (by decide +kernel) rfl rfl (by rw [fl_len]; decide) dX4_enter_83 (fun H_56 locs hP2 hD2 hS2 => ?_)
            rw [Wd_si sg_55 (by decide) rfl] at hP2 hD2
            obtain ⟨z_57, ez_57⟩ : ∃ w, w = si z_23 k_54 6 ((z_23.1 k_54 6) + 1) := ⟨_, rfl⟩
            rw [← ez_57] at hP2 hD2
            replace hf := lt_at ez_57 hf
            clear ez_57
            replace hP := hP2
            replace hD := hD2
            replace hS := hS2
            clear hP2 hD2 hS2
            exact B86 (z_57) ls H_56 locs ⟨lv_sub hl [0, 1, 3] rfl, hP, hD, hS⟩ hf
        · skip
          rw [if_pos c_22] at hf
          obtain ⟨h8, h9⟩ := ret_some hf
          rw [h8]
          exact W.vret hx hb hr (fun t ht hW => ⟨⟨(), rfl, trivial, by rw [ht]; exact hP, va_K.moved hW.alike hK, hD⟩, hS.F ht⟩) hS.2.2 dX4_enter_55
      · skip
        rw [if_neg c_18] at hf
        refine lv_aload_n hx hb dX4_enter_38 rfl (lv_at hl 1 rfl) ?_
        refine lv_iconst (v := 2) hx hb dX4_enter_39 (by decide) ?_
        refine lv_ldc2 hx hb hown (hts _ md_X4_enter_4) dX4_enter_40 ?_
        obtain ⟨z_58, _u, hfc, hf⟩ := cal_some hf
        have hFc := de_free hD hS hA
        refine va_callv (va_runV (As := [.int 2, .long 4]) (rest := []) ⟨hx, hb, hml, hown, hts⟩ (de_X4_end l dC dI cy a sh n H_17.size F z_14 h0 2 4 hfc) (cwV 2 hts gX4_enter_X4_end rfl rfl rfl (by decide +kernel) ⟨Nat.le_of_ble_eq_true rfl, Nat.le_of_ble_eq_true rfl⟩) ⟨fun a U g mk q => by obtain ⟨q0, q1, qP, qK, qD, qN⟩ := q; exact ⟨q0, q1, qP, va_K.moved (u := U) (U := U.calling g mk a) (Vm.Alike.refl U.vm) qK, qD, qN.same rfl⟩, va_recv hK hP (ci := 4) (q0 := h0) rfl (Wd_ob kg_1 sg_1 (by decide)), fun U hU hW => ⟨rfl, by rw [hU], by rw [hU]; exact hP, va_K.moved hW.alike hK, hD.weaken (fun _ _ _ _ => trivial), hN.warm hW⟩⟩ rfl rfl hl.1 rfl (lv_room (Nat.le_of_ble_eq_true rfl)) dX4_enter_43 ⟨Nat.le_of_ble_eq_true rfl, Nat.le_of_ble_eq_true rfl⟩) hS (fun q _ h => hFc q h) hFc (fun u t H_59 locs ht hvm hw hB hz1 hk1 hS2 => ?_)
        obtain ⟨hP1, -, hD1⟩ := hB
        rw [ht] at hP1
        replace hD := hD1.weaken (fun _ _ _ h => hFc _ h)
        replace hP := hP1
        replace hS := hS2
        clear hP1 hD1 hS2 hFc hfc hz1 hk1 hvm ht
        obtain ⟨h8, h9⟩ := ret_some hf
        rw [h8]
        exact W.vret hx hb hr (fun t ht hW => ⟨⟨(), rfl, trivial, by rw [ht]; exact hP, va_K.moved hW.alike hK, hD⟩, hS.F ht⟩) hS.2.2 dX4_enter_46

theorem md_X18_measure_1 : (.fieldLink RX18 17 "ResourceLedgerModel" "units" "[LResourceLedgerModel$Unit;" : Cond) ∈ wsX18_measure := List.mem_of_getElem? (i := 1) rfl
theorem iwd_X18_measure_X18 : ∀ w ∈ wsX180, w ∈ wsX18_measure := fun _ h => List.mem_cons_of_mem _ (List.mem_append_left _ (List.mem_append_right _ h))
theorem iwd_X18_measure_X16 : ∀ w ∈ wsX160, w ∈ wsX18_measure := fun _ h => List.mem_cons_of_mem _ (List.mem_append_right _ h)
theorem md_X18_measure_10 : (.initialized RX16 : Cond) ∈ wsX18_measure := List.mem_of_getElem? (i := 10) rfl
theorem md_X18_measure_40 : (.instanceMethod yX16_fieldsOf : Cond) ∈ wsX18_measure := List.mem_of_getElem? (i := 40) rfl
theorem md_X18_measure_41 : (.selects RX16 yX16_fieldsOf yX16_fieldsOf : Cond) ∈ wsX18_measure := List.mem_of_getElem? (i := 41) rfl
theorem md_X18_measure_2 : (.fieldLink RX18 189 "ResourceLedgerModel" "depths" "[I" : Cond) ∈ wsX18_measure := List.mem_of_getElem? (i := 2) rfl
theorem md_X18_measure_3 : (.methodLink RX18 203 Lib.Math.max.name : Cond) ∈ wsX18_measure := List.mem_of_getElem? (i := 3) rfl
theorem md_X18_measure_4 : (.static Lib.Math.max.name : Cond) ∈ wsX18_measure := List.mem_of_getElem? (i := 4) rfl
theorem md_X18_measure_5 : (.initialized "java/lang/Math" : Cond) ∈ wsX18_measure := List.mem_of_getElem? (i := 5) rfl
theorem md_X18_measure_6 : (.code Lib.Math.max.name Lib.Math.max.code 2 (some .int) : Cond) ∈ wsX18_measure := List.mem_of_getElem? (i := 6) rfl
set_option maxHeartbeats 4000000 in
set_option maxRecDepth 100000 in
theorem de_X18_measure (l : Launch) (dC : Nat → ClassId) (dI : Nat → Nat → Nat) (cy : Nat → ClassId) (a : Nat → Nat) (sh : Nat → Nat × Nat) (n sz : Nat) (F : Nat) (z : St) (h0 : Nat) (x0 : Int32) {z8 : St} {r8 : Unit} (hf : fn_X18_measure F sh n z h0 x0 = some (z8, r8)) : Met l yX18_measure wsX18_measure ({ frames := 4, cells := 0, slots := 0, locals := 91 }) (va_Pc [.ref (a h0), .int x0] (fun U => U.heap.size = sz ∧ va_P (dC, dI) vwCl (Wd cy a sh n z) U.heap ∧ va_K (dC, dI) vwCl (TYS cy) U ∧ va_D (fun _ => True) (Wd cy a sh n z) ∧ NK U)) (va_Qv (fun u : Unit => True) (fun u t => va_P (dC, dI) vwCl (Wd cy a sh n z8) t.heap ∧ va_K (dC, dI) vwCl (TYS cy) t ∧ va_D (va_A (Wd cy a sh n z) sz) (Wd cy a sh n z8)) (va_A (Wd cy a sh n z) sz)) 0 0 (va_A (Wd cy a sh n z) sz) := by
  refine Met.ofW (cc := cX18_measure) (maxL := 7) (ret := none) (by decide) rfl ?_
  intro p e s m args below meth c s₁ B hml hv
  obtain ⟨rfl, hsz, hP, hK, hD0, hN⟩ := hv
  have hx := B.exec
  have hb := B.bytes
  have hr := B.returns
  have hts := atoms_spec (ws := wsX18_measure) B.pre
  have hown : s.vm.findClass RX18 = some m.cls := findClass_of_methodNamed B.named
  have hlocks := B.notSynchronized
  subst hsz
  have hD := hD0.self (sz := s.heap.size)
  clear hD0
  generalize hAe : va_A (Wd cy a sh n z) s.heap.size = A at hD ⊢
  have hA : ∀ q : Nat, s.heap.size ≤ q → A q := fun q h => by rw [← hAe]; exact Or.inr h
  clear hAe
  have hS : va_S A s.heap s.heap [] := va_S.rf
  have hl := lv_entry ([.ref (a h0), .int x0]) (n := 7) (Nat.le_of_ble_eq_true rfl)
  rw [lg_entry_eq]
  generalize (lg_sl ([.ref (a h0), .int x0]) ++ List.replicate (7 - (lg_sl ([.ref (a h0), .int x0])).length) Slot.unset).toArray = ls at hl ⊢
  replace hl : lv_has ls 7 [(0, .ref (a h0)), (1, .int x0)] := hl
  unfold fn_X18_measure at hf
  refine de_start hS hP (fun H locs hS hP => ?_)
  refine lv_aload_n hx hb dX18_measure_0 rfl (lv_at hl 0 rfl) ?_
  obtain ⟨g_1, hf⟩ := grd_some hf
  obtain ⟨kg_1, sg_1⟩ := okO_at g_1
  obtain ⟨k_2, ek_2, hf⟩ := lnk_some hf
  refine va_get (D := (dC, dI)) (ci := 18) (v := .ref (a k_2)) (C := RX18) (T := TX18) (N := 78) hx hb hts iwd_X18_measure_X18 hown hK hP h0 (Wd_ob kg_1 sg_1 (by decide)) rfl 4 (by decide) (hts _ md_X18_measure_1) (fun _ h9 => h9) (fl_q rfl ek_2) dX18_measure_1 ?_
  refine lv_iload_n hx hb dX18_measure_4 rfl (lv_at hl 1 rfl) ?_
  obtain ⟨g_3, hf⟩ := grd_some hf
  obtain ⟨kg_3, sg_3, ig_3⟩ := okA_at g_3
  obtain ⟨k_4, ek_4, hf⟩ := lnk_some hf
  refine va_aldq (C := RX16) hx hb hK hP k_2 6 (Wd_aq kg_3 sg_3 (by decide)) rfl ig_3 dX18_measure_5 ?_
  refine W.eq (g2 := F0 m 6 ls [.ref (a k_4)]) (by rw [ek_4]; rfl) ?_
  refine lv_astore_n (lv' := [(2, .ref (a k_4)), (0, .ref (a h0)), (1, .int x0)]) hx hb dX18_measure_6 rfl hl (by decide) rfl (fun ls hl2 => ?_)
  replace hl := hl2
  clear hl2
  refine lv_iconst (v := 0) hx hb dX18_measure_7 (by decide) ?_
  refine lv_istore_n (lv' := [(3, .int 0), (2, .ref (a k_4)), (0, .ref (a h0)), (1, .int x0)]) hx hb dX18_measure_8 rfl hl (by decide) rfl (fun ls hl2 => ?_)
  replace hl := hl2
  clear hl2
  have hl0 : lv_has ls 7 [(3, .int 0), (2, .ref (a k_4)), (0, .ref (a h0)), (1, .int x0)] := lv_sub hl [0, 1, 2, 3] rfl
  refine de_loop (h := 9) (fun (x : St × Int32) ls H locs => lv_has ls 7 [(3, .int x.2), (2, .ref (a k_4)), (0, .ref (a h0)), (1, .int x0)] ∧ va_P (dC, dI) vwCl (Wd cy a sh n x.1) H ∧ va_D A (Wd cy a sh n x.1) ∧ va_S A s.heap H locs) (fun f x => fn_X18_measure_L9 F sh n k_4 h0 x0 f x.1 x.2) (z8, r8) ?_ (fun _ => rfl) F (z, 0) ls H locs ⟨hl0, hP, hD, hS⟩ hf
  intro f_7 x ls H locs ih9 hI hf
  obtain ⟨z_6, p_5⟩ := x
  obtain ⟨hl2, hP2, hD2, hS2⟩ := hI
  replace hl : lv_has ls 7 [(3, .int p_5), (2, .ref (a k_4)), (0, .ref (a h0)), (1, .int x0)] := hl2
  replace hP := hP2
  replace hD := hD2
  replace hS := hS2
  clear hl2 hP2 hD2 hS2 hl0
  replace hf := fn_X18_measure_L9_s hf
  refine lv_iload_n hx hb dX18_measure_9 rfl (lv_at hl 0 rfl) ?_
  refine lv_aload_n hx hb dX18_measure_10 rfl (lv_at hl 1 rfl) ?_
  obtain ⟨g_10, hf⟩ := grd_some hf
  obtain ⟨kg_10, sg_10⟩ := okO_at g_10
  obtain ⟨z_8, r_9, hfc, hf⟩ := cal_some hf
  have hFc := de_free hD hS hA
  refine va_calli (va_runV (As := []) (rest := [.int p_5]) ⟨hx, hb, hml, hown, hts⟩ (de_X16_structureCount l dC dI cy a sh n H.size F z_6 k_4 hfc) (cwV 0 hts gX18_measure_X16_structureCount rfl rfl rfl (by decide +kernel) ⟨Nat.le_of_ble_eq_true rfl, Nat.le_of_ble_eq_true rfl⟩) ⟨fun a U g mk q => by obtain ⟨q0, q1, qP, qK, qD, qN⟩ := q; exact ⟨q0, q1, qP, va_K.moved (u := U) (U := U.calling g mk a) (Vm.Alike.refl U.vm) qK, qD, qN.same rfl⟩, va_recv hK hP (ci := 16) (q0 := k_4) rfl (Wd_ob kg_10 sg_10 (by decide)), fun U hU hW => ⟨rfl, by rw [hU], by rw [hU]; exact hP, va_K.moved hW.alike hK, hD.weaken (fun _ _ _ _ => trivial), hN.warm hW⟩⟩ rfl rfl hl.1 rfl (lv_room (Nat.le_of_ble_eq_true rfl)) dX18_measure_11 ⟨Nat.le_of_ble_eq_true rfl, Nat.le_of_ble_eq_true rfl⟩) hS (fun q _ h => hFc q h) hFc (fun rr u t H_11 locs ht hvm hw hB hz1 hk1 hS2 => ?_)
  rw [hw]
  clear hw
  obtain ⟨hP1, -, hD1⟩ := hB
  rw [ht] at hP1
  replace hD := hD1.weaken (fun _ _ _ h => hFc _ h)
  replace hP := hP1
  replace hS := hS2
  clear hP1 hD1 hS2 hFc hfc hz1 hk1 hvm ht
  refine lv_icmp_ge (tgt := 101) hx hb dX18_measure_14 (by decide) (fun c_12 => ?_) (fun c_12 => ?_)
  · skip
    rw [if_pos c_12] at hf
    refine lv_iconst (v := 0) hx hb dX18_measure_101 (by decide) ?_
    refine lv_istore_n (lv' := [(3, .int 0), (2, .ref (a k_4)), (0, .ref (a h0)), (1, .int x0)]) hx hb dX18_measure_102 rfl hl (by decide) rfl (fun ls hl2 => ?_)
    replace hl := hl2
    clear hl2
    have hl0 : lv_has ls 7 [(3, .int 0), (2, .ref (a k_4)), (0, .ref (a h0)), (1, .int x0)] := lv_sub hl [0, 1, 2, 3] rfl
    refine de_loop (h := 103) (fun (x : St × Int32) ls H locs => lv_has ls 7 [(3, .int x.2), (2, .ref (a k_4)), (0, .ref (a h0)), (1, .int x0)] ∧ va_P (dC, dI) vwCl (Wd cy a sh n x.1) H ∧ va_D A (Wd cy a sh n x.1) ∧ va_S A s.heap H locs) (fun f x => fn_X18_measure_L103 F sh n k_4 h0 x0 f x.1 x.2) (z8, r8) ?_ (fun _ => rfl) F (z_8, 0) ls H_11 locs ⟨hl0, hP, hD, hS⟩ hf
    intro f_15 x ls H locs ih103 hI hf
    obtain ⟨z_14, p_13⟩ := x
    obtain ⟨hl2, hP2, hD2, hS2⟩ := hI
    replace hl : lv_has ls 7 [(3, .int p_13), (2, .ref (a k_4)), (0, .ref (a h0)), (1, .int x0)] := hl2
    replace hP := hP2
    replace hD := hD2
    replace hS := hS2
    clear hl2 hP2 hD2 hS2 hl0
    replace hf := fn_X18_measure_L103_s hf
    refine lv_iload_n hx hb dX18_measure_103 rfl (lv_at hl 0 rfl) ?_
    refine lv_aload_n hx hb dX18_measure_104 rfl (lv_at hl 1 rfl) ?_
    refine va_getN (D := (dC, dI)) (ci := 16) (v := .int (z_14.1 k_4 5)) (C := RX16) (T := TX16) (N := 18) hx hb hts iwd_X18_measure_X16 hown hK hP k_4 (Wd_ob kg_10 sg_10 (by decide)) rfl 5 (by decide) (va_Nw.use rfl (NK_f_X18_109 hN)) (fun _ h9 => h9) (fl_at (t := 0) rfl) dX18_measure_105 ?_
    refine lv_icmp_ge (tgt := 194) hx hb dX18_measure_108 (by decide) (fun c_16 => ?_) (fun c_16 => ?_)
    · skip
      rw [if_pos c_16] at hf
      obtain ⟨h8, h9⟩ := ret_some hf
      rw [h8]
      exact W.vret hx hb hr (fun t ht hW => ⟨⟨(), rfl, trivial, by rw [ht]; exact hP, va_K.moved hW.alike hK, hD⟩, hS.F ht⟩) hS.2.2 dX18_measure_194
    · skip
      rw [if_neg c_16] at hf
      refine lv_iconst (v := 0) hx hb dX18_measure_111 (by decide) ?_
      refine lv_istore (lv' := [(4, .int 0), (3, .int p_13), (2, .ref (a k_4)), (0, .ref (a h0)), (1, .int x0)]) hx hb dX18_measure_112 hl (by decide) rfl (fun ls hl2 => ?_)
      replace hl := hl2
      clear hl2
      have hl0 : lv_has ls 7 [(4, .int 0), (3, .int p_13), (2, .ref (a k_4)), (0, .ref (a h0)), (1, .int x0)] := lv_sub hl [0, 1, 2, 3, 4] rfl
      refine de_loop (h := 114) (fun (x : St × Int32) ls H locs => lv_has ls 7 [(4, .int x.2), (3, .int p_13), (2, .ref (a k_4)), (0, .ref (a h0)), (1, .int x0)] ∧ va_P (dC, dI) vwCl (Wd cy a sh n x.1) H ∧ va_D A (Wd cy a sh n x.1) ∧ va_S A s.heap H locs) (fun f x => fn_X18_measure_L114 F sh n k_4 p_13 h0 x0 (fun z9 q3 => fn_X18_measure_L103 F sh n k_4 h0 x0 f_15 z9 q3) f x.1 x.2) (z8, r8) ?_ (fun _ => rfl) F (z_14, 0) ls H locs ⟨hl0, hP, hD, hS⟩ hf
      intro f_19 x ls H locs ih114 hI hf
      obtain ⟨z_18, p_17⟩ := x
      obtain ⟨hl2, hP2, hD2, hS2⟩ := hI
      replace hl : lv_has ls 7 [(4, .int p_17), (3, .int p_13), (2, .ref (a k_4)), (0, .ref (a h0)), (1, .int x0)] := hl2
      replace hP := hP2
      replace hD := hD2
      replace hS := hS2
      clear hl2 hP2 hD2 hS2 hl0
      replace hf := fn_X18_measure_L114_s hf
      refine lv_iload hx hb dX18_measure_114 (lv_at hl 0 rfl) ?_
      refine lv_aload_n hx hb dX18_measure_116 rfl (lv_at hl 2 rfl) ?_
      refine va_getN (D := (dC, dI)) (ci := 16) (v := .int (z_18.1 k_4 5)) (C := RX16) (T := TX16) (N := 18) hx hb hts iwd_X18_measure_X16 hown hK hP k_4 (Wd_ob kg_10 sg_10 (by decide)) rfl 5 (by decide) (va_Nw.use rfl (NK_f_X18_109 hN)) (fun _ h9 => h9) (fl_at (t := 0) rfl) dX18_measure_117 ?_
      refine lv_icmp_ge (tgt := 188) hx hb dX18_measure_120 (by decide) (fun c_20 => ?_) (fun c_20 => ?_)
      · skip
        rw [if_pos c_20] at hf
        refine lv_iinc (v := (p_13 + 1)) (lv' := [(3, .int (p_13 + 1)), (4, .int p_17), (2, .ref (a k_4)), (0, .ref (a h0)), (1, .int x0)]) hx hb dX18_measure_188 hl (k := 1) rfl rfl (by decide) rfl (fun ls hl2 => ?_)
        replace hl := hl2
        clear hl2
        refine lv_goto (tgt := 103) hx hb dX18_measure_191 (by decide) ?_
        exact ih103 (z_18, (p_13 + 1)) ls H locs ⟨lv_sub hl [0, 2, 3, 4] rfl, hP, hD, hS⟩ hf
      · skip
        rw [if_neg c_20] at hf
        refine lv_iconst (v := 0) hx hb dX18_measure_123 (by decide) ?_
        refine lv_istore (lv' := [(5, .int 0), (4, .int p_17), (3, .int p_13), (2, .ref (a k_4)), (0, .ref (a h0)), (1, .int x0)]) hx hb dX18_measure_124 hl (by decide) rfl (fun ls hl2 => ?_)
        replace hl := hl2
        clear hl2
        refine lv_iconst (v := 0) hx hb dX18_measure_126 (by decide) ?_
        refine lv_istore (lv' := [(6, .int 0), (5, .int 0), (4, .int p_17), (3, .int p_13), (2, .ref (a k_4)), (0, .ref (a h0)), (1, .int x0)]) hx hb dX18_measure_127 hl (by decide) rfl (fun ls hl2 => ?_)
        replace hl := hl2
        clear hl2
        have hl0 : lv_has ls 7 [(6, .int 0), (5, .int 0), (4, .int p_17), (3, .int p_13), (2, .ref (a k_4)), (0, .ref (a h0)), (1, .int x0)] := lv_sub hl [0, 1, 2, 3, 4, 5, 6] rfl
        refine de_loop (h := 129) (fun (x : St × Int32 × Int32) ls H locs => lv_has ls 7 [(6, .int x.2.2), (5, .int x.2.1), (4, .int p_17), (3, .int p_13), (2, .ref (a k_4)), (0, .ref (a h0)), (1, .int x0)] ∧ va_P (dC, dI) vwCl (Wd cy a sh n x.1) H ∧ va_D A (Wd cy a sh n x.1) ∧ va_S A s.heap H locs) (fun f x => fn_X18_measure_L129 F sh n k_4 p_17 h0 x0 (fun z9 q4 => fn_X18_measure_L114 F sh n k_4 p_13 h0 x0 (fun z9 q3 => fn_X18_measure_L103 F sh n k_4 h0 x0 f_15 z9 q3) f_19 z9 q4) f x.1 x.2.1 x.2.2) (z8, r8) ?_ (fun _ => rfl) F (z_18, 0, 0) ls H locs ⟨hl0, hP, hD, hS⟩ hf
        intro f_24 x ls H locs ih129 hI hf
        obtain ⟨z_23, p_21, p_22⟩ := x
        obtain ⟨hl2, hP2, hD2, hS2⟩ := hI
        replace hl : lv_has ls 7 [(6, .int p_22), (5, .int p_21), (4, .int p_17), (3, .int p_13), (2, .ref (a k_4)), (0, .ref (a h0)), (1, .int x0)] := hl2
        replace hP := hP2
        replace hD := hD2
        replace hS := hS2
        clear hl2 hP2 hD2 hS2 hl0
        replace hf := fn_X18_measure_L129_s hf
        refine lv_iload hx hb dX18_measure_129 (lv_at hl 0 rfl) ?_
        refine lv_aload_n hx hb dX18_measure_131 rfl (lv_at hl 4 rfl) ?_
        refine lv_iload hx hb dX18_measure_132 (lv_at hl 2 rfl) ?_
        obtain ⟨z_25, r_26, hfc, hf⟩ := cal_some hf
        have hFc := de_free hD hS hA
        refine va_calli (va_runVN (As := [.int p_17]) (rest := [.int p_22]) ⟨hx, hb, hml, hown, hts⟩ (de_X16_fieldsOf l dC dI cy a sh n H.size F z_23 k_4 p_17 hfc) ⟨va_cnB 1 hts ggX18_measure_X16_fieldsOf rfl rfl rfl (NK_m_X18_192 hN) (hts _ md_X18_measure_10) ⟨by decide, by decide, by decide +kernel⟩ ⟨Nat.le_of_ble_eq_true rfl, Nat.le_of_ble_eq_true rfl⟩, (hts _ md_X18_measure_40), (hts _ md_X18_measure_41)⟩ ⟨fun a U g mk q => by obtain ⟨q0, q1, qP, qK, qD, qN⟩ := q; exact ⟨q0, q1, qP, va_K.moved (u := U) (U := U.calling g mk a) (Vm.Alike.refl U.vm) qK, qD, qN.same rfl⟩, va_recv hK hP (ci := 16) (q0 := k_4) rfl (Wd_ob kg_10 sg_10 (by decide)), fun U hU hW => ⟨rfl, by rw [hU], by rw [hU]; exact hP, va_K.moved hW.alike hK, hD.weaken (fun _ _ _ _ => trivial), hN.warm hW⟩⟩ rfl rfl hl.1 rfl (lv_room (Nat.le_of_ble_eq_true rfl)) dX18_measure_134 ⟨Nat.le_of_ble_eq_true rfl, Nat.le_of_ble_eq_true rfl⟩) hS (fun q _ h => hFc q h) hFc (fun rr u t H_27 locs ht hvm hw hB hz1 hk1 hS2 => ?_)
        rw [hw]
        clear hw
        obtain ⟨hP1, -, hD1⟩ := hB
        rw [ht] at hP1
        replace hD := hD1.weaken (fun _ _ _ h => hFc _ h)
        replace hP := hP1
        replace hS := hS2
        clear hP1 hD1 hS2 hFc hfc hz1 hk1 hvm ht
        refine lv_icmp_ge (tgt := 166) hx hb dX18_measure_137 (by decide) (fun c_28 => ?_) (fun c_28 => ?_)
        · skip
          rw [if_pos c_28] at hf
          refine lv_aload_n hx hb dX18_measure_166 rfl (lv_at hl 5 rfl) ?_
          obtain ⟨k_29, ek_29, hf⟩ := lnk_some hf
          refine va_get (D := (dC, dI)) (ci := 18) (v := .ref (a k_29)) (C := RX18) (T := TX18) (N := 78) hx hb hts iwd_X18_measure_X18 hown hK hP h0 (Wd_ob kg_1 sg_1 (by decide)) rfl 6 (by decide) (hts _ md_X18_measure_2) (fun _ h9 => h9) (fl_q rfl ek_29) dX18_measure_167 ?_
          refine lv_bipush (v := 64) hx hb dX18_measure_170 (by decide) ?_
          refine lv_iload_n hx hb dX18_measure_172 rfl (lv_at hl 6 rfl) ?_
          refine lv_imul hx hb dX18_measure_173 ?_
          refine lv_iload hx hb dX18_measure_174 (lv_at hl 2 rfl) ?_
          refine lv_iadd hx hb dX18_measure_176 ?_
          refine lv_iconst (v := 1) hx hb dX18_measure_177 (by decide) ?_
          refine lv_iload hx hb dX18_measure_178 (lv_at hl 1 rfl) ?_
          refine lv_iadd hx hb dX18_measure_180 ?_
          obtain ⟨g_30, hf⟩ := grd_some hf
          obtain ⟨kg_30, sg_30, ig_30⟩ := okA_at g_30
          refine va_iast hx hb hK hP hD hS k_29 1 (Wd_ai kg_30 sg_30) rfl ig_30 dX18_measure_181 (fun H_31 locs hP2 hD2 hS2 => ?_)
          rw [Wd_ti sg_30] at hP2 hD2
          obtain ⟨z_32, ez_32⟩ : ∃ w, w = si z_25 k_29 ((64 * x0) + p_17).toNatClampNeg (1 + p_21) := ⟨_, rfl⟩
          rw [← ez_32] at hP2 hD2
          replace hf := lt_at ez_32 hf
          clear ez_32
          replace hP := hP2
          replace hD := hD2
          replace hS := hS2
          clear hP2 hD2 hS2
          refine lv_iinc (v := (p_17 + 1)) (lv' := [(4, .int (p_17 + 1)), (6, .int p_22), (5, .int p_21), (3, .int p_13), (2, .ref (a k_4)), (0, .ref (a h0)), (1, .int x0)]) hx hb dX18_measure_182 hl (k := 2) rfl rfl (by decide) rfl (fun ls hl2 => ?_)
          replace hl := hl2
          clear hl2
          refine lv_goto (tgt := 114) hx hb dX18_measure_185 (by decide) ?_
          exact ih114 (z_32, (p_17 + 1)) ls H_31 locs ⟨lv_sub hl [0, 3, 4, 5, 6] rfl, hP, hD, hS⟩ hf
        · skip
          rw [if_neg c_28] at hf
          refine lv_iload hx hb dX18_measure_140 (lv_at hl 1 rfl) ?_
          refine lv_aload_n hx hb dX18_measure_142 rfl (lv_at hl 5 rfl) ?_
          refine lv_iload_n hx hb dX18_measure_143 rfl (lv_at hl 6 rfl) ?_
          refine lv_aload_n hx hb dX18_measure_144 rfl (lv_at hl 4 rfl) ?_
          refine lv_iload hx hb dX18_measure_145 (lv_at hl 2 rfl) ?_
          refine lv_iload hx hb dX18_measure_147 (lv_at hl 0 rfl) ?_
          obtain ⟨z_33, r_34, hfc, hf⟩ := cal_some hf
          have hFc := de_free hD hS hA
          refine va_calll (va_runV (As := [.int p_17, .int p_22]) (rest := [.int x0, .ref (a h0), .int p_21]) ⟨hx, hb, hml, hown, hts⟩ (de_X16_field l dC dI cy a sh n H_27.size F z_25 k_4 p_17 p_22 hfc) (cwV 2 hts gX18_measure_X16_field rfl rfl rfl (by decide +kernel) ⟨Nat.le_of_ble_eq_true rfl, Nat.le_of_ble_eq_true rfl⟩) ⟨fun a U g mk q => by obtain ⟨q0, q1, qP, qK, qD, qN⟩ := q; exact ⟨q0, q1, qP, va_K.moved (u := U) (U := U.calling g mk a) (Vm.Alike.refl U.vm) qK, qD, qN.same rfl⟩, va_recv hK hP (ci := 16) (q0 := k_4) rfl (Wd_ob kg_10 sg_10 (by decide)), fun U hU hW => ⟨rfl, by rw [hU], by rw [hU]; exact hP, va_K.moved hW.alike hK, hD.weaken (fun _ _ _ _ => trivial), hN.warm hW⟩⟩ rfl rfl hl.1 rfl (lv_room (Nat.le_of_ble_eq_true rfl)) dX18_measure_149 ⟨Nat.le_of_ble_eq_true rfl, Nat.le_of_ble_eq_true rfl⟩) hS (fun q _ h => hFc q h) hFc (fun rr u t H_35 locs ht hvm hw hB hz1 hk1 hS2 => ?_)
          rw [hw]
          clear hw
          obtain ⟨hP1, -, hD1⟩ := hB
          rw [ht] at hP1
          replace hD := hD1.weaken (fun _ _ _ h => hFc _ h)
          replace hP := hP1
          replace hS := hS2
          clear hP1 hD1 hS2 hFc hfc hz1 hk1 hvm ht
          obtain ⟨z_36, r_37, hfc, hf⟩ := cal_some hf
          have hFc := de_free hD hS hA
          refine va_calli (va_runV (As := [.int x0, .long r_34]) (rest := [.int p_21]) ⟨hx, hb, hml, hown, hts⟩ (de_X18_depthOf l dC dI cy a sh n H_35.size F z_33 h0 x0 r_34 hfc) (cwV 2 hts gX18_measure_X18_depthOf rfl rfl rfl (by decide +kernel) ⟨Nat.le_of_ble_eq_true rfl, Nat.le_of_ble_eq_true rfl⟩) ⟨fun a U g mk q => by obtain ⟨q0, q1, qP, qK, qD, qN⟩ := q; exact ⟨q0, q1, qP, va_K.moved (u := U) (U := U.calling g mk a) (Vm.Alike.refl U.vm) qK, qD, qN.same rfl⟩, va_recv hK hP (ci := 18) (q0 := h0) rfl (Wd_ob kg_1 sg_1 (by decide)), fun U hU hW => ⟨rfl, by rw [hU], by rw [hU]; exact hP, va_K.moved hW.alike hK, hD.weaken (fun _ _ _ _ => trivial), hN.warm hW⟩⟩ rfl rfl hl.1 rfl (lv_room (Nat.le_of_ble_eq_true rfl)) dX18_measure_152 ⟨Nat.le_of_ble_eq_true rfl, Nat.le_of_ble_eq_true rfl⟩) hS (fun q _ h => hFc q h) hFc (fun rr u t H_38 locs ht hvm hw hB hz1 hk1 hS2 => ?_)
          rw [hw]
          clear hw
          obtain ⟨hP1, -, hD1⟩ := hB
          rw [ht] at hP1
          replace hD := hD1.weaken (fun _ _ _ h => hFc _ h)
          replace hP := hP1
          replace hS := hS2
          clear hP1 hD1 hS2 hFc hfc hz1 hk1 hvm ht
          refine va_mmax hx hb (hml.trans hl.1.symm) hown (hts _ md_X18_measure_3) (hts _ md_X18_measure_4) (hts _ md_X18_measure_5) (hts _ md_X18_measure_6) (Nat.le_of_ble_eq_true rfl) (Nat.le_of_ble_eq_true rfl) (Nat.le_of_ble_eq_true rfl) (Nat.le_of_ble_eq_true rfl) dX18_measure_155 ?_
          refine lv_topi (fun v_39 ev_39 => ?_)
          replace hf := lt_at ev_39 hf
          clear ev_39
          refine lv_istore (lv' := [(5, .int v_39), (6, .int p_22), (4, .int p_17), (3, .int p_13), (2, .ref (a k_4)), (0, .ref (a h0)), (1, .int x0)]) hx hb dX18_measure_158 hl (by decide) rfl (fun ls hl2 => ?_)
          replace hl := hl2
          clear hl2
          refine lv_iinc (v := (p_22 + 1)) (lv' := [(6, .int (p_22 + 1)), (5, .int v_39), (4, .int p_17), (3, .int p_13), (2, .ref (a k_4)), (0, .ref (a h0)), (1, .int x0)]) hx hb dX18_measure_160 hl (k := 1) rfl rfl (by decide) rfl (fun ls hl2 => ?_)
          replace hl := hl2
          clear hl2
          refine lv_goto (tgt := 129) hx hb dX18_measure_163 (by decide) ?_
          exact ih129 (z_36, v_39, (p_22 + 1)) ls H_38 locs ⟨lv_sub hl [0, 1, 2, 3, 4, 5, 6] rfl, hP, hD, hS⟩ hf
  · skip
    rw [if_neg c_12] at hf
    refine lv_iload_n hx hb dX18_measure_17 rfl (lv_at hl 0 rfl) ?_
    refine lv_aload_n hx hb dX18_measure_18 rfl (lv_at hl 1 rfl) ?_
    refine va_getN (D := (dC, dI)) (ci := 16) (v := .int (z_8.1 k_4 5)) (C := RX16) (T := TX16) (N := 18) hx hb hts iwd_X18_measure_X16 hown hK hP k_4 (Wd_ob kg_10 sg_10 (by decide)) rfl 5 (by decide) (va_Nw.use rfl (NK_f_X18_109 hN)) (fun _ h9 => h9) (fl_at (t := 0) rfl) dX18_measure_19 ?_
    refine de_cut (h := 34) (fun (x : St × Int32) => [.int x.2]) (fun x ls H locs => lv_has ls 7 [(3, .int p_5), (2, .ref (a k_4)), (0, .ref (a h0)), (1, .int x0)] ∧ va_P (dC, dI) vwCl (Wd cy a sh n x.1) H ∧ va_D A (Wd cy a sh n x.1) ∧ va_S A s.heap H locs) (fun x => fn_X18_measure_B34 F sh n h0 k_4 p_5 x0 (fun z9 q3 => fn_X18_measure_L9 F sh n k_4 h0 x0 f_7 z9 q3) x.1 x.2) (z8, r8) ?_ (fun B34 => ?_)
    · intro x ls H locs hI hf
      obtain ⟨z_41, p_40⟩ := x
      obtain ⟨hl2, hP2, hD2, hS2⟩ := hI
      replace hl : lv_has ls 7 [(3, .int p_5), (2, .ref (a k_4)), (0, .ref (a h0)), (1, .int x0)] := hl2
      replace hP := hP2
      replace hD := hD2
      replace hS := hS2
      clear hl2 hP2 hD2 hS2
      replace hf := fn_X18_measure_B34_s hf
      refine W.eq (g2 := F0 m 34 ls [.int p_40]) rfl ?_
      refine lv_istore (lv' := [(4, .int p_40), (3, .int p_5), (2, .ref (a k_4)), (0, .ref (a h0)), (1, .int x0)]) hx hb dX18_measure_34 hl (by decide) rfl (fun ls hl2 => ?_)
      replace hl := hl2
      clear hl2
      refine lv_aload_n hx hb dX18_measure_36 rfl (lv_at hl 3 rfl) ?_
      obtain ⟨k_42, ek_42, hf⟩ := lnk_some hf
      refine va_get (D := (dC, dI)) (ci := 18) (v := .ref (a k_42)) (C := RX18) (T := TX18) (N := 78) hx hb hts iwd_X18_measure_X18 hown hK hP h0 (Wd_ob kg_1 sg_1 (by decide)) rfl 6 (by decide) (hts _ md_X18_measure_2) (fun _ h9 => h9) (fl_q rfl ek_42) dX18_measure_37 ?_
      refine lv_bipush (v := 64) hx hb dX18_measure_40 (by decide) ?_
      refine lv_iload_n hx hb dX18_measure_42 rfl (lv_at hl 4 rfl) ?_
      refine lv_imul hx hb dX18_measure_43 ?_
      refine lv_iload_n hx hb dX18_measure_44 rfl (lv_at hl 1 rfl) ?_
      refine lv_iadd hx hb dX18_measure_45 ?_
      refine lv_iload_n hx hb dX18_measure_46 rfl (lv_at hl 1 rfl) ?_
      refine lv_aload_n hx hb dX18_measure_47 rfl (lv_at hl 2 rfl) ?_
      refine va_getN (D := (dC, dI)) (ci := 16) (v := .int (z_41.1 k_4 5)) (C := RX16) (T := TX16) (N := 18) hx hb hts iwd_X18_measure_X16 hown hK hP k_4 (Wd_ob kg_10 sg_10 (by decide)) rfl 5 (by decide) (va_Nw.use rfl (NK_f_X18_109 hN)) (fun _ h9 => h9) (fl_at (t := 0) rfl) dX18_measure_48 ?_
      refine de_cut (h := 94) (fun (x : St × Int32) => [.int x.2, .int ((64 * x0) + p_5), .ref (a k_42)]) (fun x ls H locs => lv_has ls 7 [(3, .int p_5), (2, .ref (a k_4)), (0, .ref (a h0)), (1, .int x0)] ∧ va_P (dC, dI) vwCl (Wd cy a sh n x.1) H ∧ va_D A (Wd cy a sh n x.1) ∧ va_S A s.heap H locs) (fun x => fn_X18_measure_B94 F sh n k_42 x0 p_5 (fun z9 q3 => fn_X18_measure_L9 F sh n k_4 h0 x0 f_7 z9 q3) x.1 x.2) (z8, r8) ?_ (fun B94 => ?_)
      · intro x ls H locs hI hf
        obtain ⟨z_44, p_43⟩ := x
        obtain ⟨hl2, hP2, hD2, hS2⟩ := hI
        replace hl : lv_has ls 7 [(3, .int p_5), (2, .ref (a k_4)), (0, .ref (a h0)), (1, .int x0)] := hl2
        replace hP := hP2
        replace hD := hD2
        replace hS := hS2
        clear hl2 hP2 hD2 hS2
        replace hf := fn_X18_measure_B94_s hf
        refine W.eq (g2 := F0 m 94 ls [.int p_43, .int ((64 * x0) + p_5), .ref (a k_42)]) rfl ?_
        obtain ⟨g_45, hf⟩ := grd_some hf
        obtain ⟨kg_45, sg_45, ig_45⟩ := okA_at g_45
        refine va_iast hx hb hK hP hD hS k_42 1 (Wd_ai kg_45 sg_45) rfl ig_45 dX18_measure_94 (fun H_46 locs hP2 hD2 hS2 => ?_)
        rw [Wd_ti sg_45] at hP2 hD2
        obtain ⟨z_47, ez_47⟩ : ∃ w, w = si z_44 k_42 ((64 * x0) + p_5).toNatClampNeg p_43 := ⟨_, rfl⟩
        rw [← ez_47] at hP2 hD2
        replace hf := lt_at ez_47 hf
        clear ez_47
        replace hP := hP2
        replace hD := hD2
        replace hS := hS2
        clear hP2 hD2 hS2
        refine lv_iinc (v := (p_5 + 1)) (lv' := [(3, .int (p_5 + 1)), (2, .ref (a k_4)), (0, .ref (a h0)), (1, .int x0)]) hx hb dX18_measure_95 hl (k := 0) rfl rfl (by decide) rfl (fun ls hl2 => ?_)
        replace hl := hl2
        clear hl2
        refine lv_goto (tgt := 9) hx hb dX18_measure_98 (by decide) ?_
        exact ih9 (z_47, (p_5 + 1)) ls H_46 locs ⟨lv_sub hl [0, 1, 2, 3] rfl, hP, hD, hS⟩ hf
      refine lv_icmp_ge (tgt := 58) hx hb dX18_measure_51 (by decide) (fun c_48 => ?_) (fun c_48 => ?_)
      · skip
        rw [if_pos c_48] at hf
        refine lv_iload hx hb dX18_measure_58 (lv_at hl 0 rfl) ?_
        refine lv_bipush (v := 8) hx hb dX18_measure_60 (by decide) ?_
        refine lv_ishr hx hb dX18_measure_62 ?_
        refine lv_if_ne (tgt := 70) hx hb dX18_measure_63 (by decide) (fun c_49 => ?_) (fun c_49 => ?_)
        · skip
          rw [if_neg c_49] at hf
          refine lv_aload_n hx hb dX18_measure_70 rfl (lv_at hl 3 rfl) ?_
          obtain ⟨k_50, ek_50, hf⟩ := lnk_some hf
          refine va_get (D := (dC, dI)) (ci := 18) (v := .ref (a k_50)) (C := RX18) (T := TX18) (N := 78) hx hb hts iwd_X18_measure_X18 hown hK hP h0 (Wd_ob kg_1 sg_1 (by decide)) rfl 6 (by decide) (hts _ md_X18_measure_2) (fun _ h9 => h9) (fl_q rfl ek_50) dX18_measure_71 ?_
          refine lv_bipush (v := 64) hx hb dX18_measure_74 (by decide) ?_
          refine lv_aload_n hx hb dX18_measure_76 rfl (lv_at hl 3 rfl) ?_
          refine lv_iload hx hb dX18_measure_77 (lv_at hl 0 rfl) ?_
          refine lv_bipush (v := 8) hx hb dX18_measure_79 (by decide) ?_
          refine lv_ishr hx hb dX18_measure_81 ?_
          obtain ⟨z_51, r_52, hfc, hf⟩ := cal_some hf
          have hFc := de_free hD hS hA
          refine va_calli (va_runV (As := [.int (p_40 >>> (8 &&& 31))]) (rest := [.int 64, .ref (a k_50), .int ((64 * x0) + p_5), .ref (a k_42)]) ⟨hx, hb, hml, hown, hts⟩ (de_X18_findModule l dC dI cy a sh n H.size F z_41 h0 (p_40 >>> (8 &&& 31)) hfc) (cwV 1 hts gX18_measure_X18_findModule rfl rfl rfl (by decide +kernel) ⟨Nat.le_of_ble_eq_true rfl, Nat.le_of_ble_eq_true rfl⟩) ⟨fun a U g mk q => by obtain ⟨q0, q1, qP, qK, qD, qN⟩ := q; exact ⟨q0, q1, qP, va_K.moved (u := U) (U := U.calling g mk a) (Vm.Alike.refl U.vm) qK, qD, qN.same rfl⟩, va_recv hK hP (ci := 18) (q0 := h0) rfl (Wd_ob kg_1 sg_1 (by decide)), fun U hU hW => ⟨rfl, by rw [hU], by rw [hU]; exact hP, va_K.moved hW.alike hK, hD.weaken (fun _ _ _ _ => trivial), hN.warm hW⟩⟩ rfl rfl hl.1 rfl (lv_room (Nat.le_of_ble_eq_true rfl)) dX18_measure_82 ⟨Nat.le_of_ble_eq_true rfl, Nat.le_of_ble_eq_true rfl⟩) hS (fun q _ h => hFc q h) hFc (fun rr u t H_53 locs ht hvm hw hB hz1 hk1 hS2 => ?_)
          rw [hw]
          clear hw
          obtain ⟨hP1, -, hD1⟩ := hB
          rw [ht] at hP1
          replace hD := hD1.weaken (fun _ _ _ h => hFc _ h)
          replace hP := hP1
          replace hS := hS2
          clear hP1 hD1 hS2 hFc hfc hz1 hk1 hvm ht
          refine lv_imul hx hb dX18_measure_85 ?_
          refine lv_iload hx hb dX18_measure_86 (lv_at hl 0 rfl) ?_
          refine lv_sipush (v := 255) hx hb dX18_measure_88 (by decide) ?_
          refine lv_iand hx hb dX18_measure_91 ?_
          refine lv_iadd hx hb dX18_measure_92 ?_
          obtain ⟨g_54, hf⟩ := grd_some hf
          obtain ⟨kg_54, sg_54, ig_54⟩ := okA_at g_54
          refine va_iald hx hb hK hP k_50 1 (Wd_ai kg_54 sg_54) rfl ig_54 dX18_measure_93 ?_
          exact B94 (z_51, (z_51.1 k_50 ((64 * r_52) + (p_40 &&& 255)).toNatClampNeg)) ls H_53 locs ⟨lv_sub hl [1, 2, 3, 4] rfl, hP, hD, hS⟩ hf
        · skip
          rw [if_pos c_49] at hf
          refine lv_iconst (v := 2) hx hb dX18_measure_66 (by decide) ?_
          refine lv_goto (tgt := 94) hx hb dX18_measure_67 (by decide) ?_
          exact B94 (z_41, 2) ls H locs ⟨lv_sub hl [1, 2, 3, 4] rfl, hP, hD, hS⟩ hf
      · skip
        rw [if_neg c_48] at hf
        refine lv_iconst (v := 0) hx hb dX18_measure_54 (by decide) ?_
        refine lv_goto (tgt := 94) hx hb dX18_measure_55 (by decide) ?_
        exact B94 (z_41, 0) ls H locs ⟨lv_sub hl [1, 2, 3, 4] rfl, hP, hD, hS⟩ hf
    refine lv_icmp_ge (tgt := 29) hx hb dX18_measure_22 (by decide) (fun c_55 => ?_) (fun c_55 => ?_)
    · skip
      rw [if_pos c_55] at hf
      refine lv_aload_n hx hb dX18_measure_29 rfl (lv_at hl 1 rfl) ?_
      refine lv_iload_n hx hb dX18_measure_30 rfl (lv_at hl 0 rfl) ?_
      obtain ⟨z_56, r_57, hfc, hf⟩ := cal_some hf
      have hFc := de_free hD hS hA
      refine va_calli (va_runV (As := [.int p_5]) (rest := []) ⟨hx, hb, hml, hown, hts⟩ (de_X16_identity l dC dI cy a sh n H_11.size F z_8 k_4 p_5 hfc) (cwV 1 hts gX18_measure_X16_identity rfl rfl rfl (by decide +kernel) ⟨Nat.le_of_ble_eq_true rfl, Nat.le_of_ble_eq_true rfl⟩) ⟨fun a U g mk q => by obtain ⟨q0, q1, qP, qK, qD, qN⟩ := q; exact ⟨q0, q1, qP, va_K.moved (u := U) (U := U.calling g mk a) (Vm.Alike.refl U.vm) qK, qD, qN.same rfl⟩, va_recv hK hP (ci := 16) (q0 := k_4) rfl (Wd_ob kg_10 sg_10 (by decide)), fun U hU hW => ⟨rfl, by rw [hU], by rw [hU]; exact hP, va_K.moved hW.alike hK, hD.weaken (fun _ _ _ _ => trivial), hN.warm hW⟩⟩ rfl rfl hl.1 rfl (lv_room (Nat.le_of_ble_eq_true rfl)) dX18_measure_31 ⟨Nat.le_of_ble_eq_true rfl, Nat.le_of_ble_eq_true rfl⟩) hS (fun q _ h => hFc q h) hFc (fun rr u t H_58 locs ht hvm hw hB hz1 hk1 hS2 => ?_)
      rw [hw]
      clear hw
      obtain ⟨hP1, -, hD1⟩ := hB
      rw [ht] at hP1
      replace hD := hD1.weaken (fun _ _ _ h => hFc _ h)
      replace hP := hP1
      replace hS := hS2
      clear hP1 hD1 hS2 hFc hfc hz1 hk1 hvm ht
      exact B34 (z_56, r_57) ls H_58 locs ⟨lv_sub hl [0, 1, 2, 3] rfl, hP, hD, hS⟩ hf
    · skip
      rw [if_neg c_55] at hf
      refine lv_iconst (v := 0) hx hb dX18_measure_25 (by decide) ?_
      refine lv_goto (tgt := 34) hx hb dX18_measure_26 (by decide) ?_
      exact B34 (z_8, 0) ls H_11 locs ⟨lv_sub hl [0, 1, 2, 3] rfl, hP, hD, hS⟩ hf

theorem md_X13_onResource_2 : (.fieldLink RX13 72 "ResourceLedgerModel$Looker" "unit" "LResourceLedgerModel$Unit;" : Cond) ∈ wsX13_onResource := List.mem_of_getElem? (i := 2) rfl
theorem iwd_X13_onResource_X13 : ∀ w ∈ wsX130, w ∈ wsX13_onResource := fun _ h => List.mem_cons_of_mem _ (List.mem_append_left _ (List.mem_append_right _ h))
theorem md_X13_onResource_3 : (.fieldLink RX13 176 "ResourceLedgerModel$Looker" "now" "I" : Cond) ∈ wsX13_onResource := List.mem_of_getElem? (i := 3) rfl
theorem md_X13_onResource_4 : (.fieldLink RX13 48 "ResourceLedgerModel$Looker" "fault" "I" : Cond) ∈ wsX13_onResource := List.mem_of_getElem? (i := 4) rfl
theorem md_X13_onResource_1 : (.constantLong RX13 185 (5) : Cond) ∈ wsX13_onResource := List.mem_of_getElem? (i := 1) rfl
set_option maxHeartbeats 4000000 in
set_option maxRecDepth 100000 in
theorem de_X13_onResource (l : Launch) (dC : Nat → ClassId) (dI : Nat → Nat → Nat) (cy : Nat → ClassId) (a : Nat → Nat) (sh : Nat → Nat × Nat) (n sz : Nat) (F : Nat) (z : St) (h0 : Nat) (x0 : Int32) (x1 : Int32) {z8 : St} {r8 : Unit} (hf : fn_X13_onResource F sh n z h0 x0 x1 = some (z8, r8)) : Met l yX13_onResource wsX13_onResource ({ frames := 4, cells := 0, slots := 0, locals := 91 }) (va_Pc [.ref (a h0), .int x0, .int x1] (fun U => U.heap.size = sz ∧ va_P (dC, dI) vwCl (Wd cy a sh n z) U.heap ∧ va_K (dC, dI) vwCl (TYS cy) U ∧ va_D (fun _ => True) (Wd cy a sh n z) ∧ NK U)) (va_Qv (fun u : Unit => True) (fun u t => va_P (dC, dI) vwCl (Wd cy a sh n z8) t.heap ∧ va_K (dC, dI) vwCl (TYS cy) t ∧ va_D (va_A (Wd cy a sh n z) sz) (Wd cy a sh n z8)) (va_A (Wd cy a sh n z) sz)) 0 0 (va_A (Wd cy a sh n z) sz) := by
  refine Met.ofW (cc := cX13_onResource) (maxL := 6) (ret := none) (by decide) rfl ?_
  intro p e s m args below meth c s₁ B hml hv
  obtain ⟨rfl, hsz, hP, hK, hD0, hN⟩ := hv
  have hx := B.exec
  have hb := B.bytes
  have hr := B.returns
  have hts := atoms_spec (ws := wsX13_onResource) B.pre
  have hown : s.vm.findClass RX13 = some m.cls := findClass_of_methodNamed B.named
  have hlocks := B.notSynchronized
  subst hsz
  have hD := hD0.self (sz := s.heap.size)
  clear hD0
  generalize hAe : va_A (Wd cy a sh n z) s.heap.size = A at hD ⊢
  have hA : ∀ q : Nat, s.heap.size ≤ q → A q := fun q h => by rw [← hAe]; exact Or.inr h
  clear hAe
  have hS : va_S A s.heap s.heap [] := va_S.rf
  have hl := lv_entry ([.ref (a h0), .int x0, .int x1]) (n := 6) (Nat.le_of_ble_eq_true rfl)
  rw [lg_entry_eq]
  generalize (lg_sl ([.ref (a h0), .int x0, .int x1]) ++ List.replicate (6 - (lg_sl ([.ref (a h0), .int x0, .int x1])).length) Slot.unset).toArray = ls at hl ⊢
  replace hl : lv_has ls 6 [(0, .ref (a h0)), (1, .int x0), (2, .int x1)] := hl
  unfold fn_X13_onResource at hf
  refine de_start hS hP (fun H locs hS hP => ?_)
  refine lv_iload_n hx hb dX13_onResource_0 rfl (lv_at hl 2 rfl) ?_
  obtain ⟨z_1, r_2, hfc, hf⟩ := cal_some hf
  have hFc := de_free hD hS hA
  refine va_calll (va_runS (As := [.int x1]) (rest := []) ⟨hx, hb, hml, hown, hts⟩ (de_X13_structureType l dC dI cy a sh n H.size F z x1 hfc) (va_cwS 1 hts gX13_onResource_X13_structureType rfl rfl rfl (by decide +kernel) ⟨Nat.le_of_ble_eq_true rfl, Nat.le_of_ble_eq_true rfl⟩) ⟨fun a U g mk q => by obtain ⟨q0, q1, qP, qK, qD, qN⟩ := q; exact ⟨q0, q1, qP, va_K.moved (u := U) (U := U.calling g mk a) (Vm.Alike.refl U.vm) qK, qD, qN.same rfl⟩, fun U hU hW => ⟨rfl, by rw [hU], by rw [hU]; exact hP, va_K.moved hW.alike hK, hD.weaken (fun _ _ _ _ => trivial), hN.warm hW⟩⟩ rfl rfl hl.1 rfl (lv_room (Nat.le_of_ble_eq_true rfl)) dX13_onResource_1 ⟨Nat.le_of_ble_eq_true rfl, Nat.le_of_ble_eq_true rfl⟩) hS (fun q _ h => hFc q h) hFc (fun rr u t H_3 locs ht hvm hw hB hz1 hk1 hS2 => ?_)
  rw [hw]
  clear hw
  obtain ⟨hP1, -, hD1⟩ := hB
  rw [ht] at hP1
  replace hD := hD1.weaken (fun _ _ _ h => hFc _ h)
  replace hP := hP1
  replace hS := hS2
  clear hP1 hD1 hS2 hFc hfc hz1 hk1 hvm ht
  refine lv_lstore_n (lv' := [(3, .long r_2), (0, .ref (a h0)), (1, .int x0), (2, .int x1)]) hx hb dX13_onResource_4 rfl hl (by decide) rfl (fun ls hl2 => ?_)
  replace hl := hl2
  clear hl2
  refine lv_bipush (v := 48) hx hb dX13_onResource_5 (by decide) ?_
  refine lv_iload_n hx hb dX13_onResource_7 rfl (lv_at hl 3 rfl) ?_
  refine lv_bipush (v := 15) hx hb dX13_onResource_8 (by decide) ?_
  refine lv_irem hx hb dX13_onResource_10 (by decide) ?_
  refine lv_iadd hx hb dX13_onResource_11 ?_
  refine lv_topi (fun v_4 ev_4 => ?_)
  replace hf := lt_at ev_4 hf
  clear ev_4
  refine lv_istore (lv' := [(5, .int v_4), (3, .long r_2), (0, .ref (a h0)), (1, .int x0), (2, .int x1)]) hx hb dX13_onResource_12 hl (by decide) rfl (fun ls hl2 => ?_)
  replace hl := hl2
  clear hl2
  refine lv_iload_n hx hb dX13_onResource_14 rfl (lv_at hl 3 rfl) ?_
  refine lv_bipush (v := 47) hx hb dX13_onResource_15 (by decide) ?_
  refine de_cut (h := 35) (fun (x : St) => []) (fun x ls H locs => lv_has ls 6 [(5, .int v_4), (3, .long r_2), (0, .ref (a h0)), (1, .int x0), (2, .int x1)] ∧ va_P (dC, dI) vwCl (Wd cy a sh n x) H ∧ va_D A (Wd cy a sh n x) ∧ va_S A s.heap H locs) (fun x => fn_X13_onResource_B35 F sh n h0 x1 x0 v_4 r_2 x) (z8, r8) ?_ (fun B35 => ?_)
  · intro x ls H locs hI hf
    obtain ⟨z_5, ez⟩ : ∃ w, w = x := ⟨_, rfl⟩
    subst ez
    obtain ⟨hl2, hP2, hD2, hS2⟩ := hI
    replace hl : lv_has ls 6 [(5, .int v_4), (3, .long r_2), (0, .ref (a h0)), (1, .int x0), (2, .int x1)] := hl2
    replace hP := hP2
    replace hD := hD2
    replace hS := hS2
    clear hl2 hP2 hD2 hS2
    replace hf := fn_X13_onResource_B35_s hf
    refine W.eq (g2 := F0 m 35 ls []) rfl ?_
    refine lv_aload_n hx hb dX13_onResource_35 rfl (lv_at hl 2 rfl) ?_
    refine lv_aload_n hx hb dX13_onResource_36 rfl (lv_at hl 2 rfl) ?_
    obtain ⟨g_6, hf⟩ := grd_some hf
    obtain ⟨kg_6, sg_6⟩ := okO_at g_6
    obtain ⟨k_7, ek_7, hf⟩ := lnk_some hf
    refine va_get (D := (dC, dI)) (ci := 13) (v := .ref (a k_7)) (C := RX13) (T := TX13) (N := 22) hx hb hts iwd_X13_onResource_X13 hown hK hP h0 (Wd_ob kg_6 sg_6 (by decide)) rfl 0 (by decide) (hts _ md_X13_onResource_2) (fun _ h9 => h9) (fl_q rfl ek_7) dX13_onResource_37 ?_
    refine lv_aload_n hx hb dX13_onResource_40 rfl (lv_at hl 2 rfl) ?_
    refine va_get (D := (dC, dI)) (ci := 13) (v := .int (z_5.1 h0 1)) (C := RX13) (T := TX13) (N := 22) hx hb hts iwd_X13_onResource_X13 hown hK hP h0 (Wd_ob kg_6 sg_6 (by decide)) rfl 1 (by decide) (hts _ md_X13_onResource_3) (fun _ h9 => h9) (fl_at (t := 0) rfl) dX13_onResource_41 ?_
    obtain ⟨g_10, hf⟩ := grd_some hf
    obtain ⟨kg_10, sg_10⟩ := okO_at g_10
    obtain ⟨z_8, r_9, hfc, hf⟩ := cal_some hf
    have hFc := de_free hD hS hA
    refine va_calli (va_runV (As := [.int (z_5.1 h0 1)]) (rest := [.ref (a h0)]) ⟨hx, hb, hml, hown, hts⟩ (de_X16_flags l dC dI cy a sh n H.size F z_5 k_7 (z_5.1 h0 1) hfc) (cwV 1 hts gX13_onResource_X16_flags rfl rfl rfl (by decide +kernel) ⟨Nat.le_of_ble_eq_true rfl, Nat.le_of_ble_eq_true rfl⟩) ⟨fun a U g mk q => by obtain ⟨q0, q1, qP, qK, qD, qN⟩ := q; exact ⟨q0, q1, qP, va_K.moved (u := U) (U := U.calling g mk a) (Vm.Alike.refl U.vm) qK, qD, qN.same rfl⟩, va_recv hK hP (ci := 16) (q0 := k_7) rfl (Wd_ob kg_10 sg_10 (by decide)), fun U hU hW => ⟨rfl, by rw [hU], by rw [hU]; exact hP, va_K.moved hW.alike hK, hD.weaken (fun _ _ _ _ => trivial), hN.warm hW⟩⟩ rfl rfl hl.1 rfl (lv_room (Nat.le_of_ble_eq_true rfl)) dX13_onResource_44 ⟨Nat.le_of_ble_eq_true rfl, Nat.le_of_ble_eq_true rfl⟩) hS (fun q _ h => hFc q h) hFc (fun rr u t H_11 locs ht hvm hw hB hz1 hk1 hS2 => ?_)
    rw [hw]
    clear hw
    obtain ⟨hP1, -, hD1⟩ := hB
    rw [ht] at hP1
    replace hD := hD1.weaken (fun _ _ _ h => hFc _ h)
    replace hP := hP1
    replace hS := hS2
    clear hP1 hD1 hS2 hFc hfc hz1 hk1 hvm ht
    refine lv_iconst (v := 4) hx hb dX13_onResource_47 (by decide) ?_
    refine lv_iand hx hb dX13_onResource_48 ?_
    refine de_cut (h := 57) (fun (x : St × Int32) => [.int x.2, .ref (a h0)]) (fun x ls H locs => lv_has ls 6 [(5, .int v_4), (3, .long r_2), (0, .ref (a h0)), (1, .int x0), (2, .int x1)] ∧ va_P (dC, dI) vwCl (Wd cy a sh n x.1) H ∧ va_D A (Wd cy a sh n x.1) ∧ va_S A s.heap H locs) (fun x => fn_X13_onResource_B57 F sh n h0 x1 x0 v_4 r_2 x.1 x.2) (z8, r8) ?_ (fun B57 => ?_)
    · intro x ls H locs hI hf
      obtain ⟨z_13, p_12⟩ := x
      obtain ⟨hl2, hP2, hD2, hS2⟩ := hI
      replace hl : lv_has ls 6 [(5, .int v_4), (3, .long r_2), (0, .ref (a h0)), (1, .int x0), (2, .int x1)] := hl2
      replace hP := hP2
      replace hD := hD2
      replace hS := hS2
      clear hl2 hP2 hD2 hS2
      replace hf := fn_X13_onResource_B57_s hf
      refine W.eq (g2 := F0 m 57 ls [.int p_12, .ref (a h0)]) rfl ?_
      refine lv_bipush (v := 15) hx hb dX13_onResource_57 (by decide) ?_
      obtain ⟨z_14, _u, hfc, hf⟩ := cal_some hf
      have hFc := de_free hD hS hA
      refine va_callv (va_runV (As := [.int p_12, .int 15]) (rest := []) ⟨hx, hb, hml, hown, hts⟩ (de_X13_need l dC dI cy a sh n H.size F z_13 h0 p_12 15 hfc) (cwV 2 hts gX13_onResource_X13_need rfl rfl rfl (by decide +kernel) ⟨Nat.le_of_ble_eq_true rfl, Nat.le_of_ble_eq_true rfl⟩) ⟨fun a U g mk q => by obtain ⟨q0, q1, qP, qK, qD, qN⟩ := q; exact ⟨q0, q1, qP, va_K.moved (u := U) (U := U.calling g mk a) (Vm.Alike.refl U.vm) qK, qD, qN.same rfl⟩, va_recv hK hP (ci := 13) (q0 := h0) rfl (Wd_ob kg_6 sg_6 (by decide)), fun U hU hW => ⟨rfl, by rw [hU], by rw [hU]; exact hP, va_K.moved hW.alike hK, hD.weaken (fun _ _ _ _ => trivial), hN.warm hW⟩⟩ rfl rfl hl.1 rfl (lv_room (Nat.le_of_ble_eq_true rfl)) dX13_onResource_59 ⟨Nat.le_of_ble_eq_true rfl, Nat.le_of_ble_eq_true rfl⟩) hS (fun q _ h => hFc q h) hFc (fun u t H_15 locs ht hvm hw hB hz1 hk1 hS2 => ?_)
      obtain ⟨hP1, -, hD1⟩ := hB
      rw [ht] at hP1
      replace hD := hD1.weaken (fun _ _ _ h => hFc _ h)
      replace hP := hP1
      replace hS := hS2
      clear hP1 hD1 hS2 hFc hfc hz1 hk1 hvm ht
      refine lv_aload_n hx hb dX13_onResource_62 rfl (lv_at hl 2 rfl) ?_
      refine lv_aload_n hx hb dX13_onResource_63 rfl (lv_at hl 2 rfl) ?_
      obtain ⟨k_16, ek_16, hf⟩ := lnk_some hf
      refine va_get (D := (dC, dI)) (ci := 13) (v := .ref (a k_16)) (C := RX13) (T := TX13) (N := 22) hx hb hts iwd_X13_onResource_X13 hown hK hP h0 (Wd_ob kg_6 sg_6 (by decide)) rfl 0 (by decide) (hts _ md_X13_onResource_2) (fun _ h9 => h9) (fl_q rfl ek_16) dX13_onResource_64 ?_
      refine lv_iload_n hx hb dX13_onResource_67 rfl (lv_at hl 4 rfl) ?_
      obtain ⟨g_19, hf⟩ := grd_some hf
      obtain ⟨kg_19, sg_19⟩ := okO_at g_19
      obtain ⟨z_17, r_18, hfc, hf⟩ := cal_some hf
      have hFc := de_free hD hS hA
      refine va_calli (va_runV (As := [.int x1]) (rest := [.ref (a h0)]) ⟨hx, hb, hml, hown, hts⟩ (de_X16_abilitiesOf l dC dI cy a sh n H_15.size F z_14 k_16 x1 hfc) (cwV 1 hts gX13_onResource_X16_abilitiesOf rfl rfl rfl (by decide +kernel) ⟨Nat.le_of_ble_eq_true rfl, Nat.le_of_ble_eq_true rfl⟩) ⟨fun a U g mk q => by obtain ⟨q0, q1, qP, qK, qD, qN⟩ := q; exact ⟨q0, q1, qP, va_K.moved (u := U) (U := U.calling g mk a) (Vm.Alike.refl U.vm) qK, qD, qN.same rfl⟩, va_recv hK hP (ci := 16) (q0 := k_16) rfl (Wd_ob kg_19 sg_19 (by decide)), fun U hU hW => ⟨rfl, by rw [hU], by rw [hU]; exact hP, va_K.moved hW.alike hK, hD.weaken (fun _ _ _ _ => trivial), hN.warm hW⟩⟩ rfl rfl hl.1 rfl (lv_room (Nat.le_of_ble_eq_true rfl)) dX13_onResource_68 ⟨Nat.le_of_ble_eq_true rfl, Nat.le_of_ble_eq_true rfl⟩) hS (fun q _ h => hFc q h) hFc (fun rr u t H_20 locs ht hvm hw hB hz1 hk1 hS2 => ?_)
      rw [hw]
      clear hw
      obtain ⟨hP1, -, hD1⟩ := hB
      rw [ht] at hP1
      replace hD := hD1.weaken (fun _ _ _ h => hFc _ h)
      replace hP := hP1
      replace hS := hS2
      clear hP1 hD1 hS2 hFc hfc hz1 hk1 hvm ht
      refine lv_bipush (v := 8) hx hb dX13_onResource_71 (by decide) ?_
      refine lv_iand hx hb dX13_onResource_73 ?_
      refine de_cut (h := 82) (fun (x : St × Int32) => [.int x.2, .ref (a h0)]) (fun x ls H locs => lv_has ls 6 [(5, .int v_4), (3, .long r_2), (0, .ref (a h0)), (1, .int x0)] ∧ va_P (dC, dI) vwCl (Wd cy a sh n x.1) H ∧ va_D A (Wd cy a sh n x.1) ∧ va_S A s.heap H locs) (fun x => fn_X13_onResource_B82 F sh n h0 x0 v_4 r_2 x.1 x.2) (z8, r8) ?_ (fun B82 => ?_)
      · intro x ls H locs hI hf
        obtain ⟨z_22, p_21⟩ := x
        obtain ⟨hl2, hP2, hD2, hS2⟩ := hI
        replace hl : lv_has ls 6 [(5, .int v_4), (3, .long r_2), (0, .ref (a h0)), (1, .int x0)] := hl2
        replace hP := hP2
        replace hD := hD2
        replace hS := hS2
        clear hl2 hP2 hD2 hS2
        replace hf := fn_X13_onResource_B82_s hf
        refine W.eq (g2 := F0 m 82 ls [.int p_21, .ref (a h0)]) rfl ?_
        refine lv_iconst (v := 4) hx hb dX13_onResource_82 (by decide) ?_
        obtain ⟨z_23, _u, hfc, hf⟩ := cal_some hf
        have hFc := de_free hD hS hA
        refine va_callv (va_runV (As := [.int p_21, .int 4]) (rest := []) ⟨hx, hb, hml, hown, hts⟩ (de_X13_need l dC dI cy a sh n H.size F z_22 h0 p_21 4 hfc) (cwV 2 hts gX13_onResource_X13_need rfl rfl rfl (by decide +kernel) ⟨Nat.le_of_ble_eq_true rfl, Nat.le_of_ble_eq_true rfl⟩) ⟨fun a U g mk q => by obtain ⟨q0, q1, qP, qK, qD, qN⟩ := q; exact ⟨q0, q1, qP, va_K.moved (u := U) (U := U.calling g mk a) (Vm.Alike.refl U.vm) qK, qD, qN.same rfl⟩, va_recv hK hP (ci := 13) (q0 := h0) rfl (Wd_ob kg_6 sg_6 (by decide)), fun U hU hW => ⟨rfl, by rw [hU], by rw [hU]; exact hP, va_K.moved hW.alike hK, hD.weaken (fun _ _ _ _ => trivial), hN.warm hW⟩⟩ rfl rfl hl.1 rfl (lv_room (Nat.le_of_ble_eq_true rfl)) dX13_onResource_83 ⟨Nat.le_of_ble_eq_true rfl, Nat.le_of_ble_eq_true rfl⟩) hS (fun q _ h => hFc q h) hFc (fun u t H_24 locs ht hvm hw hB hz1 hk1 hS2 => ?_)
        obtain ⟨hP1, -, hD1⟩ := hB
        rw [ht] at hP1
        replace hD := hD1.weaken (fun _ _ _ h => hFc _ h)
        replace hP := hP1
        replace hS := hS2
        clear hP1 hD1 hS2 hFc hfc hz1 hk1 hvm ht
        refine lv_aload_n hx hb dX13_onResource_86 rfl (lv_at hl 2 rfl) ?_
        refine va_get (D := (dC, dI)) (ci := 13) (v := .int (z_23.1 h0 18)) (C := RX13) (T := TX13) (N := 22) hx hb hts iwd_X13_onResource_X13 hown hK hP h0 (Wd_ob kg_6 sg_6 (by decide)) rfl 18 (by decide) (hts _ md_X13_onResource_4) (fun _ h9 => h9) (fl_at (t := 0) rfl) dX13_onResource_87 ?_
        refine lv_if_eq (tgt := 94) hx hb dX13_onResource_90 (by decide) (fun c_25 => ?_) (fun c_25 => ?_)
        · skip
          rw [if_pos c_25] at hf
          refine lv_iload_n hx hb dX13_onResource_94 rfl (lv_at hl 3 rfl) ?_
          refine lv_bipush (v := 48) hx hb dX13_onResource_95 (by decide) ?_
          refine de_cut (h := 127) (fun (x : St) => []) (fun x ls H locs => lv_has ls 6 [(5, .int v_4), (3, .long r_2), (0, .ref (a h0)), (1, .int x0)] ∧ va_P (dC, dI) vwCl (Wd cy a sh n x) H ∧ va_D A (Wd cy a sh n x) ∧ va_S A s.heap H locs) (fun x => fn_X13_onResource_B127 F sh n x0 h0 v_4 r_2 x) (z8, r8) ?_ (fun B127 => ?_)
          · intro x ls H locs hI hf
            obtain ⟨z_26, ez⟩ : ∃ w, w = x := ⟨_, rfl⟩
            subst ez
            obtain ⟨hl2, hP2, hD2, hS2⟩ := hI
            replace hl : lv_has ls 6 [(5, .int v_4), (3, .long r_2), (0, .ref (a h0)), (1, .int x0)] := hl2
            replace hP := hP2
            replace hD := hD2
            replace hS := hS2
            clear hl2 hP2 hD2 hS2
            replace hf := fn_X13_onResource_B127_s hf
            refine W.eq (g2 := F0 m 127 ls []) rfl ?_
            refine lv_iload_n hx hb dX13_onResource_127 rfl (lv_at hl 3 rfl) ?_
            refine lv_bipush (v := 50) hx hb dX13_onResource_128 (by decide) ?_
            refine de_cut (h := 154) (fun (x : St) => []) (fun x ls H locs => lv_has ls 6 [(5, .int v_4), (3, .long r_2), (0, .ref (a h0)), (1, .int x0)] ∧ va_P (dC, dI) vwCl (Wd cy a sh n x) H ∧ va_D A (Wd cy a sh n x) ∧ va_S A s.heap H locs) (fun x => fn_X13_onResource_B154 F sh n x0 h0 r_2 v_4 x) (z8, r8) ?_ (fun B154 => ?_)
            · intro x ls H locs hI hf
              obtain ⟨z_27, ez⟩ : ∃ w, w = x := ⟨_, rfl⟩
              subst ez
              obtain ⟨hl2, hP2, hD2, hS2⟩ := hI
              replace hl : lv_has ls 6 [(5, .int v_4), (3, .long r_2), (0, .ref (a h0)), (1, .int x0)] := hl2
              replace hP := hP2
              replace hD := hD2
              replace hS := hS2
              clear hl2 hP2 hD2 hS2
              replace hf := fn_X13_onResource_B154_s hf
              refine W.eq (g2 := F0 m 154 ls []) rfl ?_
              refine lv_iload_n hx hb dX13_onResource_154 rfl (lv_at hl 3 rfl) ?_
              refine lv_bipush (v := 48) hx hb dX13_onResource_155 (by decide) ?_
              refine de_cut (h := 165) (fun (x : St) => []) (fun x ls H locs => lv_has ls 6 [(5, .int v_4), (3, .long r_2), (0, .ref (a h0)), (1, .int x0)] ∧ va_P (dC, dI) vwCl (Wd cy a sh n x) H ∧ va_D A (Wd cy a sh n x) ∧ va_S A s.heap H locs) (fun x => fn_X13_onResource_B165 F sh n x0 h0 r_2 v_4 x) (z8, r8) ?_ (fun B165 => ?_)
              · intro x ls H locs hI hf
                obtain ⟨z_28, ez⟩ : ∃ w, w = x := ⟨_, rfl⟩
                subst ez
                obtain ⟨hl2, hP2, hD2, hS2⟩ := hI
                replace hl : lv_has ls 6 [(5, .int v_4), (3, .long r_2), (0, .ref (a h0)), (1, .int x0)] := hl2
                replace hP := hP2
                replace hD := hD2
                replace hS := hS2
                clear hl2 hP2 hD2 hS2
                replace hf := fn_X13_onResource_B165_s hf
                refine W.eq (g2 := F0 m 165 ls []) rfl ?_
                refine lv_iload_n hx hb dX13_onResource_165 rfl (lv_at hl 3 rfl) ?_
                refine lv_bipush (v := 49) hx hb dX13_onResource_166 (by decide) ?_
                refine de_cut (h := 176) (fun (x : St) => []) (fun x ls H locs => lv_has ls 6 [(5, .int v_4), (3, .long r_2), (0, .ref (a h0)), (1, .int x0)] ∧ va_P (dC, dI) vwCl (Wd cy a sh n x) H ∧ va_D A (Wd cy a sh n x) ∧ va_S A s.heap H locs) (fun x => fn_X13_onResource_B176 F sh n x0 r_2 h0 v_4 x) (z8, r8) ?_ (fun B176 => ?_)
                · intro x ls H locs hI hf
                  obtain ⟨z_29, ez⟩ : ∃ w, w = x := ⟨_, rfl⟩
                  subst ez
                  obtain ⟨hl2, hP2, hD2, hS2⟩ := hI
                  replace hl : lv_has ls 6 [(5, .int v_4), (3, .long r_2), (0, .ref (a h0)), (1, .int x0)] := hl2
                  replace hP := hP2
                  replace hD := hD2
                  replace hS := hS2
                  clear hl2 hP2 hD2 hS2
                  replace hf := fn_X13_onResource_B176_s hf
                  refine W.eq (g2 := F0 m 176 ls []) rfl ?_
                  refine lv_iload_n hx hb dX13_onResource_176 rfl (lv_at hl 3 rfl) ?_
                  refine lv_bipush (v := 49) hx hb dX13_onResource_177 (by decide) ?_
                  refine lv_icmp_le (tgt := 208) hx hb dX13_onResource_179 (by decide) (fun c_30 => ?_) (fun c_30 => ?_)
                  · skip
                    rw [if_pos c_30] at hf
                    obtain ⟨h8, h9⟩ := ret_some hf
                    rw [h8]
                    exact W.vret hx hb hr (fun t ht hW => ⟨⟨(), rfl, trivial, by rw [ht]; exact hP, va_K.moved hW.alike hK, hD⟩, hS.F ht⟩) hS.2.2 dX13_onResource_208
                  · skip
                    rw [if_neg c_30] at hf
                    refine lv_aload_n hx hb dX13_onResource_182 rfl (lv_at hl 2 rfl) ?_
                    refine lv_iload_n hx hb dX13_onResource_183 rfl (lv_at hl 3 rfl) ?_
                    refine lv_bipush (v := 50) hx hb dX13_onResource_184 (by decide) ?_
                    refine de_cut (h := 196) (fun (x : St × Int32) => [.int x.2, .ref (a h0)]) (fun x ls H locs => lv_has ls 6 [(5, .int v_4), (3, .long r_2)] ∧ va_P (dC, dI) vwCl (Wd cy a sh n x.1) H ∧ va_D A (Wd cy a sh n x.1) ∧ va_S A s.heap H locs) (fun x => fn_X13_onResource_B196 F sh n r_2 h0 v_4 x.1 x.2) (z8, r8) ?_ (fun B196 => ?_)
                    · intro x ls H locs hI hf
                      obtain ⟨z_32, p_31⟩ := x
                      obtain ⟨hl2, hP2, hD2, hS2⟩ := hI
                      replace hl : lv_has ls 6 [(5, .int v_4), (3, .long r_2)] := hl2
                      replace hP := hP2
                      replace hD := hD2
                      replace hS := hS2
                      clear hl2 hP2 hD2 hS2
                      replace hf := fn_X13_onResource_B196_s hf
                      refine W.eq (g2 := F0 m 196 ls [.int p_31, .ref (a h0)]) rfl ?_
                      refine lv_lload_n hx hb dX13_onResource_196 rfl (lv_at hl 1 rfl) ?_
                      obtain ⟨z_33, r_34, hfc, hf⟩ := cal_some hf
                      have hFc := de_free hD hS hA
                      refine va_calll (va_runS (As := [.int p_31, .long r_2]) (rest := [.ref (a h0)]) ⟨hx, hb, hml, hown, hts⟩ (de_X13_before l dC dI cy a sh n H.size F z_32 p_31 r_2 hfc) (va_cwS 2 hts gX13_onResource_X13_before rfl rfl rfl (by decide +kernel) ⟨Nat.le_of_ble_eq_true rfl, Nat.le_of_ble_eq_true rfl⟩) ⟨fun a U g mk q => by obtain ⟨q0, q1, qP, qK, qD, qN⟩ := q; exact ⟨q0, q1, qP, va_K.moved (u := U) (U := U.calling g mk a) (Vm.Alike.refl U.vm) qK, qD, qN.same rfl⟩, fun U hU hW => ⟨rfl, by rw [hU], by rw [hU]; exact hP, va_K.moved hW.alike hK, hD.weaken (fun _ _ _ _ => trivial), hN.warm hW⟩⟩ rfl rfl hl.1 rfl (lv_room (Nat.le_of_ble_eq_true rfl)) dX13_onResource_197 ⟨Nat.le_of_ble_eq_true rfl, Nat.le_of_ble_eq_true rfl⟩) hS (fun q _ h => hFc q h) hFc (fun rr u t H_35 locs ht hvm hw hB hz1 hk1 hS2 => ?_)
                      rw [hw]
                      clear hw
                      obtain ⟨hP1, -, hD1⟩ := hB
                      rw [ht] at hP1
                      replace hD := hD1.weaken (fun _ _ _ h => hFc _ h)
                      replace hP := hP1
                      replace hS := hS2
                      clear hP1 hD1 hS2 hFc hfc hz1 hk1 hvm ht
                      refine lv_lconst (v := 1) hx hb dX13_onResource_200 (by decide) ?_
                      refine lv_iload hx hb dX13_onResource_201 (lv_at hl 0 rfl) ?_
                      refine lv_lshl (v := (1 <<< ((v_4 : Int32).toInt64 &&& 63))) hx hb dX13_onResource_203 rfl ?_
                      refine lv_iconst (v := 0) hx hb dX13_onResource_204 (by decide) ?_
                      obtain ⟨z_36, _u, hfc, hf⟩ := cal_some hf
                      have hFc := de_free hD hS hA
                      refine va_callv (va_runV (As := [.long r_34, .long ((1 <<< ((v_4 : Int32).toInt64 &&& 63))), .int 0]) (rest := []) ⟨hx, hb, hml, hown, hts⟩ (de_X13_push l dC dI cy a sh n H_35.size F z_33 h0 r_34 ((1 <<< ((v_4 : Int32).toInt64 &&& 63))) 0 hfc) (cwV 3 hts gX13_onResource_X13_push rfl rfl rfl (by decide +kernel) ⟨Nat.le_of_ble_eq_true rfl, Nat.le_of_ble_eq_true rfl⟩) ⟨fun a U g mk q => by obtain ⟨q0, q1, qP, qK, qD, qN⟩ := q; exact ⟨q0, q1, qP, va_K.moved (u := U) (U := U.calling g mk a) (Vm.Alike.refl U.vm) qK, qD, qN.same rfl⟩, va_recv hK hP (ci := 13) (q0 := h0) rfl (Wd_ob kg_6 sg_6 (by decide)), fun U hU hW => ⟨rfl, by rw [hU], by rw [hU]; exact hP, va_K.moved hW.alike hK, hD.weaken (fun _ _ _ _ => trivial), hN.warm hW⟩⟩ rfl rfl hl.1 rfl (lv_room (Nat.le_of_ble_eq_true rfl)) dX13_onResource_205 ⟨Nat.le_of_ble_eq_true rfl, Nat.le_of_ble_eq_true rfl⟩) hS (fun q _ h => hFc q h) hFc (fun u t H_37 locs ht hvm hw hB hz1 hk1 hS2 => ?_)
                      obtain ⟨hP1, -, hD1⟩ := hB
                      rw [ht] at hP1
                      replace hD := hD1.weaken (fun _ _ _ h => hFc _ h)
                      replace hP := hP1
                      replace hS := hS2
                      clear hP1 hD1 hS2 hFc hfc hz1 hk1 hvm ht
                      obtain ⟨h8, h9⟩ := ret_some hf
                      rw [h8]
                      exact W.vret hx hb hr (fun t ht hW => ⟨⟨(), rfl, trivial, by rw [ht]; exact hP, va_K.moved hW.alike hK, hD⟩, hS.F ht⟩) hS.2.2 dX13_onResource_208
                    refine lv_icmp_ne (tgt := 194) hx hb dX13_onResource_186 (by decide) (fun c_38 => ?_) (fun c_38 => ?_)
                    · skip
                      rw [if_neg c_38] at hf
                      refine lv_bipush (v := 9) hx hb dX13_onResource_194 (by decide) ?_
                      exact B196 (z_29, 9) ls H locs ⟨lv_sub hl [0, 1] rfl, hP, hD, hS⟩ hf
                    · skip
                      rw [if_pos c_38] at hf
                      refine lv_bipush (v := 8) hx hb dX13_onResource_189 (by decide) ?_
                      refine lv_goto (tgt := 196) hx hb dX13_onResource_191 (by decide) ?_
                      exact B196 (z_29, 8) ls H locs ⟨lv_sub hl [0, 1] rfl, hP, hD, hS⟩ hf
                refine lv_icmp_ne (tgt := 176) hx hb dX13_onResource_168 (by decide) (fun c_39 => ?_) (fun c_39 => ?_)
                · skip
                  rw [if_neg c_39] at hf
                  exact B176 (z_28) ls H locs ⟨lv_sub hl [0, 1, 2, 3] rfl, hP, hD, hS⟩ hf
                · skip
                  rw [if_pos c_39] at hf
                  refine lv_aload_n hx hb dX13_onResource_171 rfl (lv_at hl 2 rfl) ?_
                  refine lv_lconst (v := 1) hx hb dX13_onResource_172 (by decide) ?_
                  obtain ⟨z_40, _u, hfc, hf⟩ := cal_some hf
                  have hFc := de_free hD hS hA
                  refine va_callv (va_runV (As := [.long 1]) (rest := []) ⟨hx, hb, hml, hown, hts⟩ (de_X13_give l dC dI cy a sh n H.size F z_28 h0 1 hfc) (cwV 1 hts gX13_onResource_X13_give rfl rfl rfl (by decide +kernel) ⟨Nat.le_of_ble_eq_true rfl, Nat.le_of_ble_eq_true rfl⟩) ⟨fun a U g mk q => by obtain ⟨q0, q1, qP, qK, qD, qN⟩ := q; exact ⟨q0, q1, qP, va_K.moved (u := U) (U := U.calling g mk a) (Vm.Alike.refl U.vm) qK, qD, qN.same rfl⟩, va_recv hK hP (ci := 13) (q0 := h0) rfl (Wd_ob kg_6 sg_6 (by decide)), fun U hU hW => ⟨rfl, by rw [hU], by rw [hU]; exact hP, va_K.moved hW.alike hK, hD.weaken (fun _ _ _ _ => trivial), hN.warm hW⟩⟩ rfl rfl hl.1 rfl (lv_room (Nat.le_of_ble_eq_true rfl)) dX13_onResource_173 ⟨Nat.le_of_ble_eq_true rfl, Nat.le_of_ble_eq_true rfl⟩) hS (fun q _ h => hFc q h) hFc (fun u t H_41 locs ht hvm hw hB hz1 hk1 hS2 => ?_)
                  obtain ⟨hP1, -, hD1⟩ := hB
                  rw [ht] at hP1
                  replace hD := hD1.weaken (fun _ _ _ h => hFc _ h)
                  replace hP := hP1
                  replace hS := hS2
                  clear hP1 hD1 hS2 hFc hfc hz1 hk1 hvm ht
                  exact B176 (z_40) ls H_41 locs ⟨lv_sub hl [0, 1, 2, 3] rfl, hP, hD, hS⟩ hf
              refine lv_icmp_ne (tgt := 165) hx hb dX13_onResource_157 (by decide) (fun c_42 => ?_) (fun c_42 => ?_)
              · skip
                rw [if_neg c_42] at hf
                exact B165 (z_27) ls H locs ⟨lv_sub hl [0, 1, 2, 3] rfl, hP, hD, hS⟩ hf
              · skip
                rw [if_pos c_42] at hf
                refine lv_aload_n hx hb dX13_onResource_160 rfl (lv_at hl 2 rfl) ?_
                refine lv_lload_n hx hb dX13_onResource_161 rfl (lv_at hl 1 rfl) ?_
                obtain ⟨z_43, _u, hfc, hf⟩ := cal_some hf
                have hFc := de_free hD hS hA
                refine va_callv (va_runV (As := [.long r_2]) (rest := []) ⟨hx, hb, hml, hown, hts⟩ (de_X13_give l dC dI cy a sh n H.size F z_27 h0 r_2 hfc) (cwV 1 hts gX13_onResource_X13_give rfl rfl rfl (by decide +kernel) ⟨Nat.le_of_ble_eq_true rfl, Nat.le_of_ble_eq_true rfl⟩) ⟨fun a U g mk q => by obtain ⟨q0, q1, qP, qK, qD, qN⟩ := q; exact ⟨q0, q1, qP, va_K.moved (u := U) (U := U.calling g mk a) (Vm.Alike.refl U.vm) qK, qD, qN.same rfl⟩, va_recv hK hP (ci := 13) (q0 := h0) rfl (Wd_ob kg_6 sg_6 (by decide)), fun U hU hW => ⟨rfl, by rw [hU], by rw [hU]; exact hP, va_K.moved hW.alike hK, hD.weaken (fun _ _ _ _ => trivial), hN.warm hW⟩⟩ rfl rfl hl.1 rfl (lv_room (Nat.le_of_ble_eq_true rfl)) dX13_onResource_162 ⟨Nat.le_of_ble_eq_true rfl, Nat.le_of_ble_eq_true rfl⟩) hS (fun q _ h => hFc q h) hFc (fun u t H_44 locs ht hvm hw hB hz1 hk1 hS2 => ?_)
                obtain ⟨hP1, -, hD1⟩ := hB
                rw [ht] at hP1
                replace hD := hD1.weaken (fun _ _ _ h => hFc _ h)
                replace hP := hP1
                replace hS := hS2
                clear hP1 hD1 hS2 hFc hfc hz1 hk1 hvm ht
                exact B165 (z_43) ls H_44 locs ⟨lv_sub hl [0, 1, 2, 3] rfl, hP, hD, hS⟩ hf
            refine lv_icmp_ne (tgt := 154) hx hb dX13_onResource_130 (by decide) (fun c_45 => ?_) (fun c_45 => ?_)
            · skip
              rw [if_neg c_45] at hf
              exact B154 (z_26) ls H locs ⟨lv_sub hl [0, 1, 2, 3] rfl, hP, hD, hS⟩ hf
            · skip
              rw [if_pos c_45] at hf
              refine lv_aload_n hx hb dX13_onResource_133 rfl (lv_at hl 2 rfl) ?_
              refine lv_aload_n hx hb dX13_onResource_134 rfl (lv_at hl 2 rfl) ?_
              refine lv_iload hx hb dX13_onResource_135 (lv_at hl 0 rfl) ?_
              refine lv_iconst (v := 1) hx hb dX13_onResource_137 (by decide) ?_
              obtain ⟨z_46, r_47, hfc, hf⟩ := cal_some hf
              have hFc := de_free hD hS hA
              refine va_calli (va_runV (As := [.int v_4, .int 1]) (rest := [.ref (a h0)]) ⟨hx, hb, hml, hown, hts⟩ (de_X13_isPointed l dC dI cy a sh n H.size F z_26 h0 v_4 1 hfc) (cwV 2 hts gX13_onResource_X13_isPointed rfl rfl rfl (by decide +kernel) ⟨Nat.le_of_ble_eq_true rfl, Nat.le_of_ble_eq_true rfl⟩) ⟨fun a U g mk q => by obtain ⟨q0, q1, qP, qK, qD, qN⟩ := q; exact ⟨q0, q1, qP, va_K.moved (u := U) (U := U.calling g mk a) (Vm.Alike.refl U.vm) qK, qD, qN.same rfl⟩, va_recv hK hP (ci := 13) (q0 := h0) rfl (Wd_ob kg_6 sg_6 (by decide)), fun U hU hW => ⟨rfl, by rw [hU], by rw [hU]; exact hP, va_K.moved hW.alike hK, hD.weaken (fun _ _ _ _ => trivial), hN.warm hW⟩⟩ rfl rfl hl.1 rfl (lv_room (Nat.le_of_ble_eq_true rfl)) dX13_onResource_138 ⟨Nat.le_of_ble_eq_true rfl, Nat.le_of_ble_eq_true rfl⟩) hS (fun q _ h => hFc q h) hFc (fun rr u t H_48 locs ht hvm hw hB hz1 hk1 hS2 => ?_)
              rw [hw]
              clear hw
              obtain ⟨hP1, -, hD1⟩ := hB
              rw [ht] at hP1
              replace hD := hD1.weaken (fun _ _ _ h => hFc _ h)
              replace hP := hP1
              replace hS := hS2
              clear hP1 hD1 hS2 hFc hfc hz1 hk1 hvm ht
              refine de_cut (h := 149) (fun (x : St × Int32) => [.int x.2, .ref (a h0)]) (fun x ls H locs => lv_has ls 6 [(5, .int v_4), (3, .long r_2), (0, .ref (a h0)), (1, .int x0)] ∧ va_P (dC, dI) vwCl (Wd cy a sh n x.1) H ∧ va_D A (Wd cy a sh n x.1) ∧ va_S A s.heap H locs) (fun x => fn_X13_onResource_B149 F sh n h0 x0 r_2 v_4 x.1 x.2) (z8, r8) ?_ (fun B149 => ?_)
              · intro x ls H locs hI hf
                obtain ⟨z_50, p_49⟩ := x
                obtain ⟨hl2, hP2, hD2, hS2⟩ := hI
                replace hl : lv_has ls 6 [(5, .int v_4), (3, .long r_2), (0, .ref (a h0)), (1, .int x0)] := hl2
                replace hP := hP2
                replace hD := hD2
                replace hS := hS2
                clear hl2 hP2 hD2 hS2
                replace hf := fn_X13_onResource_B149_s hf
                refine W.eq (g2 := F0 m 149 ls [.int p_49, .ref (a h0)]) rfl ?_
                refine lv_bipush (v := 6) hx hb dX13_onResource_149 (by decide) ?_
                obtain ⟨z_51, _u, hfc, hf⟩ := cal_some hf
                have hFc := de_free hD hS hA
                refine va_callv (va_runV (As := [.int p_49, .int 6]) (rest := []) ⟨hx, hb, hml, hown, hts⟩ (de_X13_need l dC dI cy a sh n H.size F z_50 h0 p_49 6 hfc) (cwV 2 hts gX13_onResource_X13_need rfl rfl rfl (by decide +kernel) ⟨Nat.le_of_ble_eq_true rfl, Nat.le_of_ble_eq_true rfl⟩) ⟨fun a U g mk q => by obtain ⟨q0, q1, qP, qK, qD, qN⟩ := q; exact ⟨q0, q1, qP, va_K.moved (u := U) (U := U.calling g mk a) (Vm.Alike.refl U.vm) qK, qD, qN.same rfl⟩, va_recv hK hP (ci := 13) (q0 := h0) rfl (Wd_ob kg_6 sg_6 (by decide)), fun U hU hW => ⟨rfl, by rw [hU], by rw [hU]; exact hP, va_K.moved hW.alike hK, hD.weaken (fun _ _ _ _ => trivial), hN.warm hW⟩⟩ rfl rfl hl.1 rfl (lv_room (Nat.le_of_ble_eq_true rfl)) dX13_onResource_151 ⟨Nat.le_of_ble_eq_true rfl, Nat.le_of_ble_eq_true rfl⟩) hS (fun q _ h => hFc q h) hFc (fun u t H_52 locs ht hvm hw hB hz1 hk1 hS2 => ?_)
                obtain ⟨hP1, -, hD1⟩ := hB
                rw [ht] at hP1
                replace hD := hD1.weaken (fun _ _ _ h => hFc _ h)
                replace hP := hP1
                replace hS := hS2
                clear hP1 hD1 hS2 hFc hfc hz1 hk1 hvm ht
                exact B154 (z_51) ls H_52 locs ⟨lv_sub hl [0, 1, 2, 3] rfl, hP, hD, hS⟩ hf
              refine lv_if_ne (tgt := 148) hx hb dX13_onResource_141 (by decide) (fun c_53 => ?_) (fun c_53 => ?_)
              · skip
                rw [if_neg c_53] at hf
                refine lv_iconst (v := 0) hx hb dX13_onResource_148 (by decide) ?_
                exact B149 (z_46, 0) ls H_48 locs ⟨lv_sub hl [0, 1, 2, 3] rfl, hP, hD, hS⟩ hf
              · skip
                rw [if_pos c_53] at hf
                refine lv_iconst (v := 1) hx hb dX13_onResource_144 (by decide) ?_
                refine lv_goto (tgt := 149) hx hb dX13_onResource_145 (by decide) ?_
                exact B149 (z_46, 1) ls H_48 locs ⟨lv_sub hl [0, 1, 2, 3] rfl, hP, hD, hS⟩ hf
          refine de_cut (h := 106) (fun (x : St) => []) (fun x ls H locs => lv_has ls 6 [(5, .int v_4), (3, .long r_2), (0, .ref (a h0)), (1, .int x0)] ∧ va_P (dC, dI) vwCl (Wd cy a sh n x) H ∧ va_D A (Wd cy a sh n x) ∧ va_S A s.heap H locs) (fun x => fn_X13_onResource_B106 F sh n h0 v_4 x0 r_2 x) (z8, r8) ?_ (fun B106 => ?_)
          · intro x ls H locs hI hf
            obtain ⟨z_54, ez⟩ : ∃ w, w = x := ⟨_, rfl⟩
            subst ez
            obtain ⟨hl2, hP2, hD2, hS2⟩ := hI
            replace hl : lv_has ls 6 [(5, .int v_4), (3, .long r_2), (0, .ref (a h0)), (1, .int x0)] := hl2
            replace hP := hP2
            replace hD := hD2
            replace hS := hS2
            clear hl2 hP2 hD2 hS2
            replace hf := fn_X13_onResource_B106_s hf
            refine W.eq (g2 := F0 m 106 ls []) rfl ?_
            refine lv_aload_n hx hb dX13_onResource_106 rfl (lv_at hl 2 rfl) ?_
            refine lv_aload_n hx hb dX13_onResource_107 rfl (lv_at hl 2 rfl) ?_
            refine lv_iload hx hb dX13_onResource_108 (lv_at hl 0 rfl) ?_
            refine lv_iconst (v := 0) hx hb dX13_onResource_110 (by decide) ?_
            obtain ⟨z_55, r_56, hfc, hf⟩ := cal_some hf
            have hFc := de_free hD hS hA
            refine va_calli (va_runV (As := [.int v_4, .int 0]) (rest := [.ref (a h0)]) ⟨hx, hb, hml, hown, hts⟩ (de_X13_isPointed l dC dI cy a sh n H.size F z_54 h0 v_4 0 hfc) (cwV 2 hts gX13_onResource_X13_isPointed rfl rfl rfl (by decide +kernel) ⟨Nat.le_of_ble_eq_true rfl, Nat.le_of_ble_eq_true rfl⟩) ⟨fun a U g mk q => by obtain ⟨q0, q1, qP, qK, qD, qN⟩ := q; exact ⟨q0, q1, qP, va_K.moved (u := U) (U := U.calling g mk a) (Vm.Alike.refl U.vm) qK, qD, qN.same rfl⟩, va_recv hK hP (ci := 13) (q0 := h0) rfl (Wd_ob kg_6 sg_6 (by decide)), fun U hU hW => ⟨rfl, by rw [hU], by rw [hU]; exact hP, va_K.moved hW.alike hK, hD.weaken (fun _ _ _ _ => trivial), hN.warm hW⟩⟩ rfl rfl hl.1 rfl (lv_room (Nat.le_of_ble_eq_true rfl)) dX13_onResource_111 ⟨Nat.le_of_ble_eq_true rfl, Nat.le_of_ble_eq_true rfl⟩) hS (fun q _ h => hFc q h) hFc (fun rr u t H_57 locs ht hvm hw hB hz1 hk1 hS2 => ?_)
            rw [hw]
            clear hw
            obtain ⟨hP1, -, hD1⟩ := hB
            rw [ht] at hP1
            replace hD := hD1.weaken (fun _ _ _ h => hFc _ h)
            replace hP := hP1
            replace hS := hS2
            clear hP1 hD1 hS2 hFc hfc hz1 hk1 hvm ht
            refine de_cut (h := 122) (fun (x : St × Int32) => [.int x.2, .ref (a h0)]) (fun x ls H locs => lv_has ls 6 [(5, .int v_4), (3, .long r_2), (0, .ref (a h0)), (1, .int x0)] ∧ va_P (dC, dI) vwCl (Wd cy a sh n x.1) H ∧ va_D A (Wd cy a sh n x.1) ∧ va_S A s.heap H locs) (fun x => fn_X13_onResource_B122 F sh n h0 x0 v_4 r_2 x.1 x.2) (z8, r8) ?_ (fun B122 => ?_)
            · intro x ls H locs hI hf
              obtain ⟨z_59, p_58⟩ := x
              obtain ⟨hl2, hP2, hD2, hS2⟩ := hI
              replace hl : lv_has ls 6 [(5, .int v_4), (3, .long r_2), (0, .ref (a h0)), (1, .int x0)] := hl2
              replace hP := hP2
              replace hD := hD2
              replace hS := hS2
              clear hl2 hP2 hD2 hS2
              replace hf := fn_X13_onResource_B122_s hf
              refine W.eq (g2 := F0 m 122 ls [.int p_58, .ref (a h0)]) rfl ?_
              refine lv_bipush (v := 6) hx hb dX13_onResource_122 (by decide) ?_
              obtain ⟨z_60, _u, hfc, hf⟩ := cal_some hf
              have hFc := de_free hD hS hA
              refine va_callv (va_runV (As := [.int p_58, .int 6]) (rest := []) ⟨hx, hb, hml, hown, hts⟩ (de_X13_need l dC dI cy a sh n H.size F z_59 h0 p_58 6 hfc) (cwV 2 hts gX13_onResource_X13_need rfl rfl rfl (by decide +kernel) ⟨Nat.le_of_ble_eq_true rfl, Nat.le_of_ble_eq_true rfl⟩) ⟨fun a U g mk q => by obtain ⟨q0, q1, qP, qK, qD, qN⟩ := q; exact ⟨q0, q1, qP, va_K.moved (u := U) (U := U.calling g mk a) (Vm.Alike.refl U.vm) qK, qD, qN.same rfl⟩, va_recv hK hP (ci := 13) (q0 := h0) rfl (Wd_ob kg_6 sg_6 (by decide)), fun U hU hW => ⟨rfl, by rw [hU], by rw [hU]; exact hP, va_K.moved hW.alike hK, hD.weaken (fun _ _ _ _ => trivial), hN.warm hW⟩⟩ rfl rfl hl.1 rfl (lv_room (Nat.le_of_ble_eq_true rfl)) dX13_onResource_124 ⟨Nat.le_of_ble_eq_true rfl, Nat.le_of_ble_eq_true rfl⟩) hS (fun q _ h => hFc q h) hFc (fun u t H_61 locs ht hvm hw hB hz1 hk1 hS2 => ?_)
              obtain ⟨hP1, -, hD1⟩ := hB
              rw [ht] at hP1
              replace hD := hD1.weaken (fun _ _ _ h => hFc _ h)
              replace hP := hP1
              replace hS := hS2
              clear hP1 hD1 hS2 hFc hfc hz1 hk1 hvm ht
              exact B127 (z_60) ls H_61 locs ⟨lv_sub hl [0, 1, 2, 3] rfl, hP, hD, hS⟩ hf
            refine lv_if_ne (tgt := 121) hx hb dX13_onResource_114 (by decide) (fun c_62 => ?_) (fun c_62 => ?_)
            · skip
              rw [if_neg c_62] at hf
              refine lv_iconst (v := 0) hx hb dX13_onResource_121 (by decide) ?_
              exact B122 (z_55, 0) ls H_57 locs ⟨lv_sub hl [0, 1, 2, 3] rfl, hP, hD, hS⟩ hf
            · skip
              rw [if_pos c_62] at hf
              refine lv_iconst (v := 1) hx hb dX13_onResource_117 (by decide) ?_
              refine lv_goto (tgt := 122) hx hb dX13_onResource_118 (by decide) ?_
              exact B122 (z_55, 1) ls H_57 locs ⟨lv_sub hl [0, 1, 2, 3] rfl, hP, hD, hS⟩ hf
          refine lv_icmp_eq (tgt := 106) hx hb dX13_onResource_97 (by decide) (fun c_63 => ?_) (fun c_63 => ?_)
          · skip
            rw [if_pos c_63] at hf
            exact B106 (z_23) ls H_24 locs ⟨lv_sub hl [0, 1, 2, 3] rfl, hP, hD, hS⟩ hf
          · skip
            rw [if_neg c_63] at hf
            refine lv_iload_n hx hb dX13_onResource_100 rfl (lv_at hl 3 rfl) ?_
            refine lv_bipush (v := 51) hx hb dX13_onResource_101 (by decide) ?_
            refine lv_icmp_ne (tgt := 127) hx hb dX13_onResource_103 (by decide) (fun c_64 => ?_) (fun c_64 => ?_)
            · skip
              rw [if_neg c_64] at hf
              exact B127 (z_23) ls H_24 locs ⟨lv_sub hl [0, 1, 2, 3] rfl, hP, hD, hS⟩ hf
            · skip
              rw [if_pos c_64] at hf
              exact B106 (z_23) ls H_24 locs ⟨lv_sub hl [0, 1, 2, 3] rfl, hP, hD, hS⟩ hf
        · skip
          rw [if_neg c_25] at hf
          obtain ⟨h8, h9⟩ := ret_some hf
          rw [h8]
          exact W.vret hx hb hr (fun t ht hW => ⟨⟨(), rfl, trivial, by rw [ht]; exact hP, va_K.moved hW.alike hK, hD⟩, hS.F ht⟩) hS.2.2 dX13_onResource_93
      refine lv_if_eq (tgt := 81) hx hb dX13_onResource_74 (by decide) (fun c_65 => ?_) (fun c_65 => ?_)
      · skip
        rw [if_pos c_65] at hf
        refine lv_iconst (v := 0) hx hb dX13_onResource_81 (by decide) ?_
        exact B82 (z_17, 0) ls H_20 locs ⟨lv_sub hl [0, 1, 2, 3] rfl, hP, hD, hS⟩ hf
      · skip
        rw [if_neg c_65] at hf
        refine lv_iconst (v := 1) hx hb dX13_onResource_77 (by decide) ?_
        refine lv_goto (tgt := 82) hx hb dX13_onResource_78 (by decide) ?_
        exact B82 (z_17, 1) ls H_20 locs ⟨lv_sub hl [0, 1, 2, 3] rfl, hP, hD, hS⟩ hf
    refine lv_if_eq (tgt := 56) hx hb dX13_onResource_49 (by decide) (fun c_66 => ?_) (fun c_66 => ?_)
    · skip
      rw [if_pos c_66] at hf
      refine lv_iconst (v := 0) hx hb dX13_onResource_56 (by decide) ?_
      exact B57 (z_8, 0) ls H_11 locs ⟨lv_sub hl [0, 1, 2, 3, 4] rfl, hP, hD, hS⟩ hf
    · skip
      rw [if_neg c_66] at hf
      refine lv_iconst (v := 1) hx hb dX13_onResource_52 (by decide) ?_
      refine lv_goto (tgt := 57) hx hb dX13_onResource_53 (by decide) ?_
      exact B57 (z_8, 1) ls H_11 locs ⟨lv_sub hl [0, 1, 2, 3, 4] rfl, hP, hD, hS⟩ hf
  refine lv_icmp_ne (tgt := 28) hx hb dX13_onResource_17 (by decide) (fun c_67 => ?_) (fun c_67 => ?_)
  · skip
    rw [if_neg c_67] at hf
    refine lv_aload_n hx hb dX13_onResource_28 rfl (lv_at hl 2 rfl) ?_
    refine lv_ldc2 hx hb hown (hts _ md_X13_onResource_1) dX13_onResource_29 ?_
    obtain ⟨g_69, hf⟩ := grd_some hf
    obtain ⟨kg_69, sg_69⟩ := okO_at g_69
    obtain ⟨z_68, _u, hfc, hf⟩ := cal_some hf
    have hFc := de_free hD hS hA
    refine va_callv (va_runV (As := [.long 5]) (rest := []) ⟨hx, hb, hml, hown, hts⟩ (de_X13_take_ l dC dI cy a sh n H_3.size F z_1 h0 5 hfc) (cwV 1 hts gX13_onResource_X13_take_ rfl rfl rfl (by decide +kernel) ⟨Nat.le_of_ble_eq_true rfl, Nat.le_of_ble_eq_true rfl⟩) ⟨fun a U g mk q => by obtain ⟨q0, q1, qP, qK, qD, qN⟩ := q; exact ⟨q0, q1, qP, va_K.moved (u := U) (U := U.calling g mk a) (Vm.Alike.refl U.vm) qK, qD, qN.same rfl⟩, va_recv hK hP (ci := 13) (q0 := h0) rfl (Wd_ob kg_69 sg_69 (by decide)), fun U hU hW => ⟨rfl, by rw [hU], by rw [hU]; exact hP, va_K.moved hW.alike hK, hD.weaken (fun _ _ _ _ => trivial), hN.warm hW⟩⟩ rfl rfl hl.1 rfl (lv_room (Nat.le_of_ble_eq_true rfl)) dX13_onResource_32 ⟨Nat.le_of_ble_eq_true rfl, Nat.le_of_ble_eq_true rfl⟩) hS (fun q _ h => hFc q h) hFc (fun u t H_70 locs ht hvm hw hB hz1 hk1 hS2 => ?_)
    obtain ⟨hP1, -, hD1⟩ := hB
    rw [ht] at hP1
    replace hD := hD1.weaken (fun _ _ _ h => hFc _ h)
    replace hP := hP1
    replace hS := hS2
    clear hP1 hD1 hS2 hFc hfc hz1 hk1 hvm ht
    exact B35 (z_68) ls H_70 locs ⟨lv_sub hl [0, 1, 2, 3, 4] rfl, hP, hD, hS⟩ hf
  · skip
    rw [if_pos c_67] at hf
    refine lv_aload_n hx hb dX13_onResource_20 rfl (lv_at hl 2 rfl) ?_
    refine lv_lload_n hx hb dX13_onResource_21 rfl (lv_at hl 1 rfl) ?_
    obtain ⟨g_72, hf⟩ := grd_some hf
    obtain ⟨kg_72, sg_72⟩ := okO_at g_72
    obtain ⟨z_71, _u, hfc, hf⟩ := cal_some hf
    have hFc := de_free hD hS hA
    refine va_callv (va_runV (As := [.long r_2]) (rest := []) ⟨hx, hb, hml, hown, hts⟩ (de_X13_take_ l dC dI cy a sh n H_3.size F z_1 h0 r_2 hfc) (cwV 1 hts gX13_onResource_X13_take_ rfl rfl rfl (by decide +kernel) ⟨Nat.le_of_ble_eq_true rfl, Nat.le_of_ble_eq_true rfl⟩) ⟨fun a U g mk q => by obtain ⟨q0, q1, qP, qK, qD, qN⟩ := q; exact ⟨q0, q1, qP, va_K.moved (u := U) (U := U.calling g mk a) (Vm.Alike.refl U.vm) qK, qD, qN.same rfl⟩, va_recv hK hP (ci := 13) (q0 := h0) rfl (Wd_ob kg_72 sg_72 (by decide)), fun U hU hW => ⟨rfl, by rw [hU], by rw [hU]; exact hP, va_K.moved hW.alike hK, hD.weaken (fun _ _ _ _ => trivial), hN.warm hW⟩⟩ rfl rfl hl.1 rfl (lv_room (Nat.le_of_ble_eq_true rfl)) dX13_onResource_22 ⟨Nat.le_of_ble_eq_true rfl, Nat.le_of_ble_eq_true rfl⟩) hS (fun q _ h => hFc q h) hFc (fun u t H_73 locs ht hvm hw hB hz1 hk1 hS2 => ?_)
    obtain ⟨hP1, -, hD1⟩ := hB
    rw [ht] at hP1
    replace hD := hD1.weaken (fun _ _ _ h => hFc _ h)
    replace hP := hP1
    replace hS := hS2
    clear hP1 hD1 hS2 hFc hfc hz1 hk1 hvm ht
    refine lv_goto (tgt := 35) hx hb dX13_onResource_25 (by decide) ?_
    exact B35 (z_71) ls H_73 locs ⟨lv_sub hl [0, 1, 2, 3, 4] rfl, hP, hD, hS⟩ hf

theorem md_X13_onNumbers_3 : (.fieldLink RX13 48 "ResourceLedgerModel$Looker" "fault" "I" : Cond) ∈ wsX13_onNumbers := List.mem_of_getElem? (i := 3) rfl
theorem iwd_X13_onNumbers_X13 : ∀ w ∈ wsX130, w ∈ wsX13_onNumbers := fun _ h => List.mem_cons_of_mem _ (List.mem_append_left _ (List.mem_append_right _ h))
theorem md_X13_onNumbers_4 : (.constantLong RX13 183 (40) : Cond) ∈ wsX13_onNumbers := List.mem_of_getElem? (i := 4) rfl
theorem md_X13_onNumbers_1 : (.fieldLink RX13 99 "ResourceLedgerModel$Looker" "taken" "J" : Cond) ∈ wsX13_onNumbers := List.mem_of_getElem? (i := 1) rfl
theorem md_X13_onNumbers_2 : (.constantLong RX13 124 (2) : Cond) ∈ wsX13_onNumbers := List.mem_of_getElem? (i := 2) rfl
set_option maxHeartbeats 4000000 in
set_option maxRecDepth 100000 in
theorem de_X13_onNumbers (l : Launch) (dC : Nat → ClassId) (dI : Nat → Nat → Nat) (cy : Nat → ClassId) (a : Nat → Nat) (sh : Nat → Nat × Nat) (n sz : Nat) (F : Nat) (z : St) (h0 : Nat) (x0 : Int32) {z8 : St} {r8 : Unit} (hf : fn_X13_onNumbers F sh n z h0 x0 = some (z8, r8)) : Met l yX13_onNumbers wsX13_onNumbers ({ frames := 4, cells := 0, slots := 0, locals := 94 }) (va_Pc [.ref (a h0), .int x0] (fun U => U.heap.size = sz ∧ va_P (dC, dI) vwCl (Wd cy a sh n z) U.heap ∧ va_K (dC, dI) vwCl (TYS cy) U ∧ va_D (fun _ => True) (Wd cy a sh n z) ∧ NK U)) (va_Qv (fun u : Unit => True) (fun u t => va_P (dC, dI) vwCl (Wd cy a sh n z8) t.heap ∧ va_K (dC, dI) vwCl (TYS cy) t ∧ va_D (va_A (Wd cy a sh n z) sz) (Wd cy a sh n z8)) (va_A (Wd cy a sh n z) sz)) 0 0 (va_A (Wd cy a sh n z) sz) := by
  refine Met.ofW (cc := cX13_onNumbers) (maxL := 2) (ret := none) (by decide) rfl ?_
  intro p e s m args below meth c s₁ B hml hv
  obtain ⟨rfl, hsz, hP, hK, hD0, hN⟩ := hv
  have hx := B.exec
  have hb := B.bytes
  have hr := B.returns
  have hts := atoms_spec (ws := wsX13_onNumbers) B.pre
  have hown : s.vm.findClass RX13 = some m.cls := findClass_of_methodNamed B.named
  have hlocks := B.notSynchronized
  subst hsz
  have hD := hD0.self (sz := s.heap.size)
  clear hD0
  generalize hAe : va_A (Wd cy a sh n z) s.heap.size = A at hD ⊢
  have hA : ∀ q : Nat, s.heap.size ≤ q → A q := fun q h => by rw [← hAe]; exact Or.inr h
  clear hAe
  have hS : va_S A s.heap s.heap [] := va_S.rf
  have hl := lv_entry ([.ref (a h0), .int x0]) (n := 2) (Nat.le_of_ble_eq_true rfl)
  rw [lg_entry_eq]
  generalize (lg_sl ([.ref (a h0), .int x0]) ++ List.replicate (2 - (lg_sl ([.ref (a h0), .int x0])).length) Slot.unset).toArray = ls at hl ⊢
  replace hl : lv_has ls 2 [(0, .ref (a h0)), (1, .int x0)] := hl
  unfold fn_X13_onNumbers at hf
  refine de_start hS hP (fun H locs hS hP => ?_)
  refine lv_iload_n hx hb dX13_onNumbers_0 rfl (lv_at hl 1 rfl) ?_
  refine lv_bipush (v := 32) hx hb dX13_onNumbers_1 (by decide) ?_
  refine lv_icmp_ge (tgt := 32) hx hb dX13_onNumbers_3 (by decide) (fun c_1 => ?_) (fun c_1 => ?_)
  · skip
    rw [if_pos c_1] at hf
    refine lv_iload_n hx hb dX13_onNumbers_32 rfl (lv_at hl 1 rfl) ?_
    refine lv_bipush (v := 34) hx hb dX13_onNumbers_33 (by decide) ?_
    refine lv_icmp_ge (tgt := 79) hx hb dX13_onNumbers_35 (by decide) (fun c_2 => ?_) (fun c_2 => ?_)
    · skip
      rw [if_pos c_2] at hf
      refine lv_iload_n hx hb dX13_onNumbers_79 rfl (lv_at hl 1 rfl) ?_
      refine lv_bipush (v := 34) hx hb dX13_onNumbers_80 (by decide) ?_
      refine lv_icmp_ne (tgt := 98) hx hb dX13_onNumbers_82 (by decide) (fun c_3 => ?_) (fun c_3 => ?_)
      · skip
        rw [if_neg c_3] at hf
        refine lv_iload_n hx hb dX13_onNumbers_98 rfl (lv_at hl 1 rfl) ?_
        refine lv_bipush (v := 38) hx hb dX13_onNumbers_99 (by decide) ?_
        refine lv_icmp_ge (tgt := 172) hx hb dX13_onNumbers_101 (by decide) (fun c_4 => ?_) (fun c_4 => ?_)
        · skip
          rw [if_pos c_4] at hf
          refine lv_iload_n hx hb dX13_onNumbers_172 rfl (lv_at hl 1 rfl) ?_
          refine lv_bipush (v := 42) hx hb dX13_onNumbers_173 (by decide) ?_
          refine lv_icmp_ge (tgt := 191) hx hb dX13_onNumbers_175 (by decide) (fun c_5 => ?_) (fun c_5 => ?_)
          · skip
            rw [if_pos c_5] at hf
            refine lv_aload_n hx hb dX13_onNumbers_191 rfl (lv_at hl 0 rfl) ?_
            obtain ⟨g_7, hf⟩ := grd_some hf
            obtain ⟨kg_7, sg_7⟩ := okO_at g_7
            obtain ⟨z_6, _u, hfc, hf⟩ := cal_some hf
            have hFc := de_free hD hS hA
            refine va_callv (va_runV (As := []) (rest := []) ⟨hx, hb, hml, hown, hts⟩ (de_X13_take l dC dI cy a sh n H.size F z h0 hfc) (cwV 0 hts gX13_onNumbers_X13_take rfl rfl rfl (by decide +kernel) ⟨Nat.le_of_ble_eq_true rfl, Nat.le_of_ble_eq_true rfl⟩) ⟨fun a U g mk q => by obtain ⟨q0, q1, qP, qK, qD, qN⟩ := q; exact ⟨q0, q1, qP, va_K.moved (u := U) (U := U.calling g mk a) (Vm.Alike.refl U.vm) qK, qD, qN.same rfl⟩, va_recv hK hP (ci := 13) (q0 := h0) rfl (Wd_ob kg_7 sg_7 (by decide)), fun U hU hW => ⟨rfl, by rw [hU], by rw [hU]; exact hP, va_K.moved hW.alike hK, hD.weaken (fun _ _ _ _ => trivial), hN.warm hW⟩⟩ rfl rfl hl.1 rfl (lv_room (Nat.le_of_ble_eq_true rfl)) dX13_onNumbers_192 ⟨Nat.le_of_ble_eq_true rfl, Nat.le_of_ble_eq_true rfl⟩) hS (fun q _ h => hFc q h) hFc (fun u t H_8 locs ht hvm hw hB hz1 hk1 hS2 => ?_)
            obtain ⟨hP1, -, hD1⟩ := hB
            rw [ht] at hP1
            replace hD := hD1.weaken (fun _ _ _ h => hFc _ h)
            replace hP := hP1
            replace hS := hS2
            clear hP1 hD1 hS2 hFc hfc hz1 hk1 hvm ht
            refine lv_aload_n hx hb dX13_onNumbers_195 rfl (lv_at hl 0 rfl) ?_
            refine va_get (D := (dC, dI)) (ci := 13) (v := .int (z_6.1 h0 18)) (C := RX13) (T := TX13) (N := 22) hx hb hts iwd_X13_onNumbers_X13 hown hK hP h0 (Wd_ob kg_7 sg_7 (by decide)) rfl 18 (by decide) (hts _ md_X13_onNumbers_3) (fun _ h9 => h9) (fl_at (t := 0) rfl) dX13_onNumbers_196 ?_
            refine lv_if_ne (tgt := 214) hx hb dX13_onNumbers_199 (by decide) (fun c_9 => ?_) (fun c_9 => ?_)
            · skip
              rw [if_neg c_9] at hf
              refine lv_aload_n hx hb dX13_onNumbers_214 rfl (lv_at hl 0 rfl) ?_
              refine lv_iload_n hx hb dX13_onNumbers_215 rfl (lv_at hl 1 rfl) ?_
              refine lv_i2l (v := (x0 : Int32).toInt64) hx hb dX13_onNumbers_216 rfl ?_
              refine lv_ldc2 hx hb hown (hts _ md_X13_onNumbers_4) dX13_onNumbers_217 ?_
              refine lv_lsub hx hb dX13_onNumbers_220 ?_
              obtain ⟨z_10, _u, hfc, hf⟩ := cal_some hf
              have hFc := de_free hD hS hA
              refine va_callv (va_runV (As := [.long (((x0 : Int32).toInt64) - 40)]) (rest := []) ⟨hx, hb, hml, hown, hts⟩ (de_X13_give l dC dI cy a sh n H_8.size F z_6 h0 (((x0 : Int32).toInt64) - 40) hfc) (cwV 1 hts gX13_onNumbers_X13_give rfl rfl rfl (by decide +kernel) ⟨Nat.le_of_ble_eq_true rfl, Nat.le_of_ble_eq_true rfl⟩) ⟨fun a U g mk q => by obtain ⟨q0, q1, qP, qK, qD, qN⟩ := q; exact ⟨q0, q1, qP, va_K.moved (u := U) (U := U.calling g mk a) (Vm.Alike.refl U.vm) qK, qD, qN.same rfl⟩, va_recv hK hP (ci := 13) (q0 := h0) rfl (Wd_ob kg_7 sg_7 (by decide)), fun U hU hW => ⟨rfl, by rw [hU], by rw [hU]; exact hP, va_K.moved hW.alike hK, hD.weaken (fun _ _ _ _ => trivial), hN.warm hW⟩⟩ rfl rfl hl.1 rfl (lv_room (Nat.le_of_ble_eq_true rfl)) dX13_onNumbers_221 ⟨Nat.le_of_ble_eq_true rfl, Nat.le_of_ble_eq_true rfl⟩) hS (fun q _ h => hFc q h) hFc (fun u t H_11 locs ht hvm hw hB hz1 hk1 hS2 => ?_)
              obtain ⟨hP1, -, hD1⟩ := hB
              rw [ht] at hP1
              replace hD := hD1.weaken (fun _ _ _ h => hFc _ h)
              replace hP := hP1
              replace hS := hS2
              clear hP1 hD1 hS2 hFc hfc hz1 hk1 hvm ht
              obtain ⟨h8, h9⟩ := ret_some hf
              rw [h8]
              exact W.vret hx hb hr (fun t ht hW => ⟨⟨(), rfl, trivial, by rw [ht]; exact hP, va_K.moved hW.alike hK, hD⟩, hS.F ht⟩) hS.2.2 dX13_onNumbers_224
            · skip
              rw [if_pos c_9] at hf
              refine lv_aload_n hx hb dX13_onNumbers_202 rfl (lv_at hl 0 rfl) ?_
              refine lv_aload_n hx hb dX13_onNumbers_203 rfl (lv_at hl 0 rfl) ?_
              refine va_get (D := (dC, dI)) (ci := 13) (v := .long (z_6.2.1 h0 19)) (C := RX13) (T := TX13) (N := 22) hx hb hts iwd_X13_onNumbers_X13 hown hK hP h0 (Wd_ob kg_7 sg_7 (by decide)) rfl 19 (by decide) (hts _ md_X13_onNumbers_1) (fun _ h9 => h9) (fl_at (t := 1) rfl) dX13_onNumbers_204 ?_
              obtain ⟨z_12, r_13, hfc, hf⟩ := cal_some hf
              have hFc := de_free hD hS hA
              refine va_calli (va_runS (As := [.long (z_6.2.1 h0 19)]) (rest := [.ref (a h0)]) ⟨hx, hb, hml, hown, hts⟩ (de_X13_isNumber l dC dI cy a sh n H_8.size F z_6 (z_6.2.1 h0 19) hfc) (va_cwS 1 hts gX13_onNumbers_X13_isNumber rfl rfl rfl (by decide +kernel) ⟨Nat.le_of_ble_eq_true rfl, Nat.le_of_ble_eq_true rfl⟩) ⟨fun a U g mk q => by obtain ⟨q0, q1, qP, qK, qD, qN⟩ := q; exact ⟨q0, q1, qP, va_K.moved (u := U) (U := U.calling g mk a) (Vm.Alike.refl U.vm) qK, qD, qN.same rfl⟩, fun U hU hW => ⟨rfl, by rw [hU], by rw [hU]; exact hP, va_K.moved hW.alike hK, hD.weaken (fun _ _ _ _ => trivial), hN.warm hW⟩⟩ rfl rfl hl.1 rfl (lv_room (Nat.le_of_ble_eq_true rfl)) dX13_onNumbers_207 ⟨Nat.le_of_ble_eq_true rfl, Nat.le_of_ble_eq_true rfl⟩) hS (fun q _ h => hFc q h) hFc (fun rr u t H_14 locs ht hvm hw hB hz1 hk1 hS2 => ?_)
              rw [hw]
              clear hw
              obtain ⟨hP1, -, hD1⟩ := hB
              rw [ht] at hP1
              replace hD := hD1.weaken (fun _ _ _ h => hFc _ h)
              replace hP := hP1
              replace hS := hS2
              clear hP1 hD1 hS2 hFc hfc hz1 hk1 hvm ht
              refine lv_iconst (v := 3) hx hb dX13_onNumbers_210 (by decide) ?_
              obtain ⟨z_15, _u, hfc, hf⟩ := cal_some hf
              have hFc := de_free hD hS hA
              refine va_callv (va_runV (As := [.int r_13, .int 3]) (rest := []) ⟨hx, hb, hml, hown, hts⟩ (de_X13_need l dC dI cy a sh n H_14.size F z_12 h0 r_13 3 hfc) (cwV 2 hts gX13_onNumbers_X13_need rfl rfl rfl (by decide +kernel) ⟨Nat.le_of_ble_eq_true rfl, Nat.le_of_ble_eq_true rfl⟩) ⟨fun a U g mk q => by obtain ⟨q0, q1, qP, qK, qD, qN⟩ := q; exact ⟨q0, q1, qP, va_K.moved (u := U) (U := U.calling g mk a) (Vm.Alike.refl U.vm) qK, qD, qN.same rfl⟩, va_recv hK hP (ci := 13) (q0 := h0) rfl (Wd_ob kg_7 sg_7 (by decide)), fun U hU hW => ⟨rfl, by rw [hU], by rw [hU]; exact hP, va_K.moved hW.alike hK, hD.weaken (fun _ _ _ _ => trivial), hN.warm hW⟩⟩ rfl rfl hl.1 rfl (lv_room (Nat.le_of_ble_eq_true rfl)) dX13_onNumbers_211 ⟨Nat.le_of_ble_eq_true rfl, Nat.le_of_ble_eq_true rfl⟩) hS (fun q _ h => hFc q h) hFc (fun u t H_16 locs ht hvm hw hB hz1 hk1 hS2 => ?_)
              obtain ⟨hP1, -, hD1⟩ := hB
              rw [ht] at hP1
              replace hD := hD1.weaken (fun _ _ _ h => hFc _ h)
              replace hP := hP1
              replace hS := hS2
              clear hP1 hD1 hS2 hFc hfc hz1 hk1 hvm ht
              refine lv_aload_n hx hb dX13_onNumbers_214 rfl (lv_at hl 0 rfl) ?_
              refine lv_iload_n hx hb dX13_onNumbers_215 rfl (lv_at hl 1 rfl) ?_
              refine lv_i2l (v := (x0 : Int32).toInt64) hx hb dX13_onNumbers_216 rfl ?_
              refine lv_ldc2 hx hb hown (hts _ md_X13_onNumbers_4) dX13_onNumbers_217 ?_
              refine lv_lsub hx hb dX13_onNumbers_220 ?_
              obtain ⟨z_17, _u, hfc, hf⟩ := cal_some hf
              have hFc := de_free hD hS hA
              refine va_callv (va_runV (As := [.long (((x0 : Int32).toInt64) - 40)]) (rest := []) ⟨hx, hb, hml, hown, hts⟩ (de_X13_give l dC dI cy a sh n H_16.size F z_15 h0 (((x0 : Int32).toInt64) - 40) hfc) (cwV 1 hts gX13_onNumbers_X13_give rfl rfl rfl (by decide +kernel) ⟨Nat.le_of_ble_eq_true rfl, Nat.le_of_ble_eq_true rfl⟩) ⟨fun a U g mk q => by obtain ⟨q0, q1, qP, qK, qD, qN⟩ := q; exact ⟨q0, q1, qP, va_K.moved (u := U) (U := U.calling g mk a) (Vm.Alike.refl U.vm) qK, qD, qN.same rfl⟩, va_recv hK hP (ci := 13) (q0 := h0) rfl (Wd_ob kg_7 sg_7 (by decide)), fun U hU hW => ⟨rfl, by rw [hU], by rw [hU]; exact hP, va_K.moved hW.alike hK, hD.weaken (fun _ _ _ _ => trivial), hN.warm hW⟩⟩ rfl rfl hl.1 rfl (lv_room (Nat.le_of_ble_eq_true rfl)) dX13_onNumbers_221 ⟨Nat.le_of_ble_eq_true rfl, Nat.le_of_ble_eq_true rfl⟩) hS (fun q _ h => hFc q h) hFc (fun u t H_18 locs ht hvm hw hB hz1 hk1 hS2 => ?_)
              obtain ⟨hP1, -, hD1⟩ := hB
              rw [ht] at hP1
              replace hD := hD1.weaken (fun _ _ _ h => hFc _ h)
              replace hP := hP1
              replace hS := hS2
              clear hP1 hD1 hS2 hFc hfc hz1 hk1 hvm ht
              obtain ⟨h8, h9⟩ := ret_some hf
              rw [h8]
              exact W.vret hx hb hr (fun t ht hW => ⟨⟨(), rfl, trivial, by rw [ht]; exact hP, va_K.moved hW.alike hK, hD⟩, hS.F ht⟩) hS.2.2 dX13_onNumbers_224
          · skip
            rw [if_neg c_5] at hf
            refine lv_aload_n hx hb dX13_onNumbers_178 rfl (lv_at hl 0 rfl) ?_
            refine lv_iconst (v := 0) hx hb dX13_onNumbers_179 (by decide) ?_
            obtain ⟨g_20, hf⟩ := grd_some hf
            obtain ⟨kg_20, sg_20⟩ := okO_at g_20
            obtain ⟨z_19, _u, hfc, hf⟩ := cal_some hf
            have hFc := de_free hD hS hA
            refine va_callv (va_runV (As := [.int 0]) (rest := []) ⟨hx, hb, hml, hown, hts⟩ (de_X13_takeNumbers l dC dI cy a sh n H.size F z h0 0 hfc) (cwV 1 hts gX13_onNumbers_X13_takeNumbers rfl rfl rfl (by decide +kernel) ⟨Nat.le_of_ble_eq_true rfl, Nat.le_of_ble_eq_true rfl⟩) ⟨fun a U g mk q => by obtain ⟨q0, q1, qP, qK, qD, qN⟩ := q; exact ⟨q0, q1, qP, va_K.moved (u := U) (U := U.calling g mk a) (Vm.Alike.refl U.vm) qK, qD, qN.same rfl⟩, va_recv hK hP (ci := 13) (q0 := h0) rfl (Wd_ob kg_20 sg_20 (by decide)), fun U hU hW => ⟨rfl, by rw [hU], by rw [hU]; exact hP, va_K.moved hW.alike hK, hD.weaken (fun _ _ _ _ => trivial), hN.warm hW⟩⟩ rfl rfl hl.1 rfl (lv_room (Nat.le_of_ble_eq_true rfl)) dX13_onNumbers_180 ⟨Nat.le_of_ble_eq_true rfl, Nat.le_of_ble_eq_true rfl⟩) hS (fun q _ h => hFc q h) hFc (fun u t H_21 locs ht hvm hw hB hz1 hk1 hS2 => ?_)
            obtain ⟨hP1, -, hD1⟩ := hB
            rw [ht] at hP1
            replace hD := hD1.weaken (fun _ _ _ h => hFc _ h)
            replace hP := hP1
            replace hS := hS2
            clear hP1 hD1 hS2 hFc hfc hz1 hk1 hvm ht
            refine lv_aload_n hx hb dX13_onNumbers_183 rfl (lv_at hl 0 rfl) ?_
            refine lv_lconst (v := 1) hx hb dX13_onNumbers_184 (by decide) ?_
            obtain ⟨z_22, _u, hfc, hf⟩ := cal_some hf
            have hFc := de_free hD hS hA
            refine va_callv (va_runV (As := [.long 1]) (rest := []) ⟨hx, hb, hml, hown, hts⟩ (de_X13_give l dC dI cy a sh n H_21.size F z_19 h0 1 hfc) (cwV 1 hts gX13_onNumbers_X13_give rfl rfl rfl (by decide +kernel) ⟨Nat.le_of_ble_eq_true rfl, Nat.le_of_ble_eq_true rfl⟩) ⟨fun a U g mk q => by obtain ⟨q0, q1, qP, qK, qD, qN⟩ := q; exact ⟨q0, q1, qP, va_K.moved (u := U) (U := U.calling g mk a) (Vm.Alike.refl U.vm) qK, qD, qN.same rfl⟩, va_recv hK hP (ci := 13) (q0 := h0) rfl (Wd_ob kg_20 sg_20 (by decide)), fun U hU hW => ⟨rfl, by rw [hU], by rw [hU]; exact hP, va_K.moved hW.alike hK, hD.weaken (fun _ _ _ _ => trivial), hN.warm hW⟩⟩ rfl rfl hl.1 rfl (lv_room (Nat.le_of_ble_eq_true rfl)) dX13_onNumbers_185 ⟨Nat.le_of_ble_eq_true rfl, Nat.le_of_ble_eq_true rfl⟩) hS (fun q _ h => hFc q h) hFc (fun u t H_23 locs ht hvm hw hB hz1 hk1 hS2 => ?_)
            obtain ⟨hP1, -, hD1⟩ := hB
            rw [ht] at hP1
            replace hD := hD1.weaken (fun _ _ _ h => hFc _ h)
            replace hP := hP1
            replace hS := hS2
            clear hP1 hD1 hS2 hFc hfc hz1 hk1 hvm ht
            refine lv_goto (tgt := 224) hx hb dX13_onNumbers_188 (by decide) ?_
            obtain ⟨h8, h9⟩ := ret_some hf
            rw [h8]
            exact W.vret hx hb hr (fun t ht hW => ⟨⟨(), rfl, trivial, by rw [ht]; exact hP, va_K.moved hW.alike hK, hD⟩, hS.F ht⟩) hS.2.2 dX13_onNumbers_224
        · skip
          rw [if_neg c_4] at hf
          refine lv_aload_n hx hb dX13_onNumbers_104 rfl (lv_at hl 0 rfl) ?_
          obtain ⟨g_25, hf⟩ := grd_some hf
          obtain ⟨kg_25, sg_25⟩ := okO_at g_25
          obtain ⟨z_24, _u, hfc, hf⟩ := cal_some hf
          have hFc := de_free hD hS hA
          refine va_callv (va_runV (As := []) (rest := []) ⟨hx, hb, hml, hown, hts⟩ (de_X13_take l dC dI cy a sh n H.size F z h0 hfc) (cwV 0 hts gX13_onNumbers_X13_take rfl rfl rfl (by decide +kernel) ⟨Nat.le_of_ble_eq_true rfl, Nat.le_of_ble_eq_true rfl⟩) ⟨fun a U g mk q => by obtain ⟨q0, q1, qP, qK, qD, qN⟩ := q; exact ⟨q0, q1, qP, va_K.moved (u := U) (U := U.calling g mk a) (Vm.Alike.refl U.vm) qK, qD, qN.same rfl⟩, va_recv hK hP (ci := 13) (q0 := h0) rfl (Wd_ob kg_25 sg_25 (by decide)), fun U hU hW => ⟨rfl, by rw [hU], by rw [hU]; exact hP, va_K.moved hW.alike hK, hD.weaken (fun _ _ _ _ => trivial), hN.warm hW⟩⟩ rfl rfl hl.1 rfl (lv_room (Nat.le_of_ble_eq_true rfl)) dX13_onNumbers_105 ⟨Nat.le_of_ble_eq_true rfl, Nat.le_of_ble_eq_true rfl⟩) hS (fun q _ h => hFc q h) hFc (fun u t H_26 locs ht hvm hw hB hz1 hk1 hS2 => ?_)
          obtain ⟨hP1, -, hD1⟩ := hB
          rw [ht] at hP1
          replace hD := hD1.weaken (fun _ _ _ h => hFc _ h)
          replace hP := hP1
          replace hS := hS2
          clear hP1 hD1 hS2 hFc hfc hz1 hk1 hvm ht
          refine lv_aload_n hx hb dX13_onNumbers_108 rfl (lv_at hl 0 rfl) ?_
          refine va_get (D := (dC, dI)) (ci := 13) (v := .int (z_24.1 h0 18)) (C := RX13) (T := TX13) (N := 22) hx hb hts iwd_X13_onNumbers_X13 hown hK hP h0 (Wd_ob kg_25 sg_25 (by decide)) rfl 18 (by decide) (hts _ md_X13_onNumbers_3) (fun _ h9 => h9) (fl_at (t := 0) rfl) dX13_onNumbers_109 ?_
          refine de_cut (h := 135) (fun (x : St) => []) (fun x ls H locs => lv_has ls 2 [(0, .ref (a h0))] ∧ va_P (dC, dI) vwCl (Wd cy a sh n x) H ∧ va_D A (Wd cy a sh n x) ∧ va_S A s.heap H locs) (fun x => fn_X13_onNumbers_B135 F sh n h0 x) (z8, r8) ?_ (fun B135 => ?_)
          · intro x ls H locs hI hf
            obtain ⟨z_27, ez⟩ : ∃ w, w = x := ⟨_, rfl⟩
            subst ez
            obtain ⟨hl2, hP2, hD2, hS2⟩ := hI
            replace hl : lv_has ls 2 [(0, .ref (a h0))] := hl2
            replace hP := hP2
            replace hD := hD2
            replace hS := hS2
            clear hl2 hP2 hD2 hS2
            replace hf := fn_X13_onNumbers_B135_s hf
            refine W.eq (g2 := F0 m 135 ls []) rfl ?_
            refine lv_aload_n hx hb dX13_onNumbers_135 rfl (lv_at hl 0 rfl) ?_
            refine lv_aload_n hx hb dX13_onNumbers_136 rfl (lv_at hl 0 rfl) ?_
            refine va_get (D := (dC, dI)) (ci := 13) (v := .long (z_27.2.1 h0 19)) (C := RX13) (T := TX13) (N := 22) hx hb hts iwd_X13_onNumbers_X13 hown hK hP h0 (Wd_ob kg_25 sg_25 (by decide)) rfl 19 (by decide) (hts _ md_X13_onNumbers_1) (fun _ h9 => h9) (fl_at (t := 1) rfl) dX13_onNumbers_137 ?_
            obtain ⟨z_28, _u, hfc, hf⟩ := cal_some hf
            have hFc := de_free hD hS hA
            refine va_callv (va_runV (As := [.long (z_27.2.1 h0 19)]) (rest := []) ⟨hx, hb, hml, hown, hts⟩ (de_X13_take_ l dC dI cy a sh n H.size F z_27 h0 (z_27.2.1 h0 19) hfc) (cwV 1 hts gX13_onNumbers_X13_take_ rfl rfl rfl (by decide +kernel) ⟨Nat.le_of_ble_eq_true rfl, Nat.le_of_ble_eq_true rfl⟩) ⟨fun a U g mk q => by obtain ⟨q0, q1, qP, qK, qD, qN⟩ := q; exact ⟨q0, q1, qP, va_K.moved (u := U) (U := U.calling g mk a) (Vm.Alike.refl U.vm) qK, qD, qN.same rfl⟩, va_recv hK hP (ci := 13) (q0 := h0) rfl (Wd_ob kg_25 sg_25 (by decide)), fun U hU hW => ⟨rfl, by rw [hU], by rw [hU]; exact hP, va_K.moved hW.alike hK, hD.weaken (fun _ _ _ _ => trivial), hN.warm hW⟩⟩ rfl rfl hl.1 rfl (lv_room (Nat.le_of_ble_eq_true rfl)) dX13_onNumbers_140 ⟨Nat.le_of_ble_eq_true rfl, Nat.le_of_ble_eq_true rfl⟩) hS (fun q _ h => hFc q h) hFc (fun u t H_29 locs ht hvm hw hB hz1 hk1 hS2 => ?_)
            obtain ⟨hP1, -, hD1⟩ := hB
            rw [ht] at hP1
            replace hD := hD1.weaken (fun _ _ _ h => hFc _ h)
            replace hP := hP1
            replace hS := hS2
            clear hP1 hD1 hS2 hFc hfc hz1 hk1 hvm ht
            refine lv_aload_n hx hb dX13_onNumbers_143 rfl (lv_at hl 0 rfl) ?_
            refine va_get (D := (dC, dI)) (ci := 13) (v := .int (z_28.1 h0 18)) (C := RX13) (T := TX13) (N := 22) hx hb hts iwd_X13_onNumbers_X13 hown hK hP h0 (Wd_ob kg_25 sg_25 (by decide)) rfl 18 (by decide) (hts _ md_X13_onNumbers_3) (fun _ h9 => h9) (fl_at (t := 0) rfl) dX13_onNumbers_144 ?_
            refine lv_if_ne (tgt := 164) hx hb dX13_onNumbers_147 (by decide) (fun c_30 => ?_) (fun c_30 => ?_)
            · skip
              rw [if_neg c_30] at hf
              refine lv_aload_n hx hb dX13_onNumbers_164 rfl (lv_at hl 0 rfl) ?_
              refine lv_lconst (v := 1) hx hb dX13_onNumbers_165 (by decide) ?_
              obtain ⟨z_31, _u, hfc, hf⟩ := cal_some hf
              have hFc := de_free hD hS hA
              refine va_callv (va_runV (As := [.long 1]) (rest := []) ⟨hx, hb, hml, hown, hts⟩ (de_X13_give l dC dI cy a sh n H_29.size F z_28 h0 1 hfc) (cwV 1 hts gX13_onNumbers_X13_give rfl rfl rfl (by decide +kernel) ⟨Nat.le_of_ble_eq_true rfl, Nat.le_of_ble_eq_true rfl⟩) ⟨fun a U g mk q => by obtain ⟨q0, q1, qP, qK, qD, qN⟩ := q; exact ⟨q0, q1, qP, va_K.moved (u := U) (U := U.calling g mk a) (Vm.Alike.refl U.vm) qK, qD, qN.same rfl⟩, va_recv hK hP (ci := 13) (q0 := h0) rfl (Wd_ob kg_25 sg_25 (by decide)), fun U hU hW => ⟨rfl, by rw [hU], by rw [hU]; exact hP, va_K.moved hW.alike hK, hD.weaken (fun _ _ _ _ => trivial), hN.warm hW⟩⟩ rfl rfl hl.1 rfl (lv_room (Nat.le_of_ble_eq_true rfl)) dX13_onNumbers_166 ⟨Nat.le_of_ble_eq_true rfl, Nat.le_of_ble_eq_true rfl⟩) hS (fun q _ h => hFc q h) hFc (fun u t H_32 locs ht hvm hw hB hz1 hk1 hS2 => ?_)
              obtain ⟨hP1, -, hD1⟩ := hB
              rw [ht] at hP1
              replace hD := hD1.weaken (fun _ _ _ h => hFc _ h)
              replace hP := hP1
              replace hS := hS2
              clear hP1 hD1 hS2 hFc hfc hz1 hk1 hvm ht
              refine lv_goto (tgt := 224) hx hb dX13_onNumbers_169 (by decide) ?_
              obtain ⟨h8, h9⟩ := ret_some hf
              rw [h8]
              exact W.vret hx hb hr (fun t ht hW => ⟨⟨(), rfl, trivial, by rw [ht]; exact hP, va_K.moved hW.alike hK, hD⟩, hS.F ht⟩) hS.2.2 dX13_onNumbers_224
            · skip
              rw [if_pos c_30] at hf
              refine lv_aload_n hx hb dX13_onNumbers_150 rfl (lv_at hl 0 rfl) ?_
              refine lv_aload_n hx hb dX13_onNumbers_151 rfl (lv_at hl 0 rfl) ?_
              refine lv_aload_n hx hb dX13_onNumbers_152 rfl (lv_at hl 0 rfl) ?_
              refine va_get (D := (dC, dI)) (ci := 13) (v := .long (z_28.2.1 h0 19)) (C := RX13) (T := TX13) (N := 22) hx hb hts iwd_X13_onNumbers_X13 hown hK hP h0 (Wd_ob kg_25 sg_25 (by decide)) rfl 19 (by decide) (hts _ md_X13_onNumbers_1) (fun _ h9 => h9) (fl_at (t := 1) rfl) dX13_onNumbers_153 ?_
              refine lv_iconst (v := 2) hx hb dX13_onNumbers_156 (by decide) ?_
              obtain ⟨z_33, r_34, hfc, hf⟩ := cal_some hf
              have hFc := de_free hD hS hA
              refine va_calli (va_runV (As := [.long (z_28.2.1 h0 19), .int 2]) (rest := [.ref (a h0)]) ⟨hx, hb, hml, hown, hts⟩ (de_X13_has l dC dI cy a sh n H_29.size F z_28 h0 (z_28.2.1 h0 19) 2 hfc) (cwV 2 hts gX13_onNumbers_X13_has rfl rfl rfl (by decide +kernel) ⟨Nat.le_of_ble_eq_true rfl, Nat.le_of_ble_eq_true rfl⟩) ⟨fun a U g mk q => by obtain ⟨q0, q1, qP, qK, qD, qN⟩ := q; exact ⟨q0, q1, qP, va_K.moved (u := U) (U := U.calling g mk a) (Vm.Alike.refl U.vm) qK, qD, qN.same rfl⟩, va_recv hK hP (ci := 13) (q0 := h0) rfl (Wd_ob kg_25 sg_25 (by decide)), fun U hU hW => ⟨rfl, by rw [hU], by rw [hU]; exact hP, va_K.moved hW.alike hK, hD.weaken (fun _ _ _ _ => trivial), hN.warm hW⟩⟩ rfl rfl hl.1 rfl (lv_room (Nat.le_of_ble_eq_true rfl)) dX13_onNumbers_157 ⟨Nat.le_of_ble_eq_true rfl, Nat.le_of_ble_eq_true rfl⟩) hS (fun q _ h => hFc q h) hFc (fun rr u t H_35 locs ht hvm hw hB hz1 hk1 hS2 => ?_)
              rw [hw]
              clear hw
              obtain ⟨hP1, -, hD1⟩ := hB
              rw [ht] at hP1
              replace hD := hD1.weaken (fun _ _ _ h => hFc _ h)
              replace hP := hP1
              replace hS := hS2
              clear hP1 hD1 hS2 hFc hfc hz1 hk1 hvm ht
              refine lv_iconst (v := 4) hx hb dX13_onNumbers_160 (by decide) ?_
              obtain ⟨z_36, _u, hfc, hf⟩ := cal_some hf
              have hFc := de_free hD hS hA
              refine va_callv (va_runV (As := [.int r_34, .int 4]) (rest := []) ⟨hx, hb, hml, hown, hts⟩ (de_X13_need l dC dI cy a sh n H_35.size F z_33 h0 r_34 4 hfc) (cwV 2 hts gX13_onNumbers_X13_need rfl rfl rfl (by decide +kernel) ⟨Nat.le_of_ble_eq_true rfl, Nat.le_of_ble_eq_true rfl⟩) ⟨fun a U g mk q => by obtain ⟨q0, q1, qP, qK, qD, qN⟩ := q; exact ⟨q0, q1, qP, va_K.moved (u := U) (U := U.calling g mk a) (Vm.Alike.refl U.vm) qK, qD, qN.same rfl⟩, va_recv hK hP (ci := 13) (q0 := h0) rfl (Wd_ob kg_25 sg_25 (by decide)), fun U hU hW => ⟨rfl, by rw [hU], by rw [hU]; exact hP, va_K.moved hW.alike hK, hD.weaken (fun _ _ _ _ => trivial), hN.warm hW⟩⟩ rfl rfl hl.1 rfl (lv_room (Nat.le_of_ble_eq_true rfl)) dX13_onNumbers_161 ⟨Nat.le_of_ble_eq_true rfl, Nat.le_of_ble_eq_true rfl⟩) hS (fun q _ h => hFc q h) hFc (fun u t H_37 locs ht hvm hw hB hz1 hk1 hS2 => ?_)
              obtain ⟨hP1, -, hD1⟩ := hB
              rw [ht] at hP1
              replace hD := hD1.weaken (fun _ _ _ h => hFc _ h)
              replace hP := hP1
              replace hS := hS2
              clear hP1 hD1 hS2 hFc hfc hz1 hk1 hvm ht
              refine lv_aload_n hx hb dX13_onNumbers_164 rfl (lv_at hl 0 rfl) ?_
              refine lv_lconst (v := 1) hx hb dX13_onNumbers_165 (by decide) ?_
              obtain ⟨z_38, _u, hfc, hf⟩ := cal_some hf
              have hFc := de_free hD hS hA
              refine va_callv (va_runV (As := [.long 1]) (rest := []) ⟨hx, hb, hml, hown, hts⟩ (de_X13_give l dC dI cy a sh n H_37.size F z_36 h0 1 hfc) (cwV 1 hts gX13_onNumbers_X13_give rfl rfl rfl (by decide +kernel) ⟨Nat.le_of_ble_eq_true rfl, Nat.le_of_ble_eq_true rfl⟩) ⟨fun a U g mk q => by obtain ⟨q0, q1, qP, qK, qD, qN⟩ := q; exact ⟨q0, q1, qP, va_K.moved (u := U) (U := U.calling g mk a) (Vm.Alike.refl U.vm) qK, qD, qN.same rfl⟩, va_recv hK hP (ci := 13) (q0 := h0) rfl (Wd_ob kg_25 sg_25 (by decide)), fun U hU hW => ⟨rfl, by rw [hU], by rw [hU]; exact hP, va_K.moved hW.alike hK, hD.weaken (fun _ _ _ _ => trivial), hN.warm hW⟩⟩ rfl rfl hl.1 rfl (lv_room (Nat.le_of_ble_eq_true rfl)) dX13_onNumbers_166 ⟨Nat.le_of_ble_eq_true rfl, Nat.le_of_ble_eq_true rfl⟩) hS (fun q _ h => hFc q h) hFc (fun u t H_39 locs ht hvm hw hB hz1 hk1 hS2 => ?_)
              obtain ⟨hP1, -, hD1⟩ := hB
              rw [ht] at hP1
              replace hD := hD1.weaken (fun _ _ _ h => hFc _ h)
              replace hP := hP1
              replace hS := hS2
              clear hP1 hD1 hS2 hFc hfc hz1 hk1 hvm ht
              refine lv_goto (tgt := 224) hx hb dX13_onNumbers_169 (by decide) ?_
              obtain ⟨h8, h9⟩ := ret_some hf
              rw [h8]
              exact W.vret hx hb hr (fun t ht hW => ⟨⟨(), rfl, trivial, by rw [ht]; exact hP, va_K.moved hW.alike hK, hD⟩, hS.F ht⟩) hS.2.2 dX13_onNumbers_224
          refine lv_if_ne (tgt := 135) hx hb dX13_onNumbers_112 (by decide) (fun c_40 => ?_) (fun c_40 => ?_)
          · skip
            rw [if_neg c_40] at hf
            exact B135 (z_24) ls H_26 locs ⟨lv_sub hl [0] rfl, hP, hD, hS⟩ hf
          · skip
            rw [if_pos c_40] at hf
            refine lv_aload_n hx hb dX13_onNumbers_115 rfl (lv_at hl 0 rfl) ?_
            refine lv_aload_n hx hb dX13_onNumbers_116 rfl (lv_at hl 0 rfl) ?_
            refine va_get (D := (dC, dI)) (ci := 13) (v := .long (z_24.2.1 h0 19)) (C := RX13) (T := TX13) (N := 22) hx hb hts iwd_X13_onNumbers_X13 hown hK hP h0 (Wd_ob kg_25 sg_25 (by decide)) rfl 19 (by decide) (hts _ md_X13_onNumbers_1) (fun _ h9 => h9) (fl_at (t := 1) rfl) dX13_onNumbers_117 ?_
            obtain ⟨z_41, r_42, hfc, hf⟩ := cal_some hf
            have hFc := de_free hD hS hA
            refine va_calli (va_runS (As := [.long (z_24.2.1 h0 19)]) (rest := [.ref (a h0)]) ⟨hx, hb, hml, hown, hts⟩ (de_X13_isReference l dC dI cy a sh n H_26.size F z_24 (z_24.2.1 h0 19) hfc) (va_cwS 1 hts gX13_onNumbers_X13_isReference rfl rfl rfl (by decide +kernel) ⟨Nat.le_of_ble_eq_true rfl, Nat.le_of_ble_eq_true rfl⟩) ⟨fun a U g mk q => by obtain ⟨q0, q1, qP, qK, qD, qN⟩ := q; exact ⟨q0, q1, qP, va_K.moved (u := U) (U := U.calling g mk a) (Vm.Alike.refl U.vm) qK, qD, qN.same rfl⟩, fun U hU hW => ⟨rfl, by rw [hU], by rw [hU]; exact hP, va_K.moved hW.alike hK, hD.weaken (fun _ _ _ _ => trivial), hN.warm hW⟩⟩ rfl rfl hl.1 rfl (lv_room (Nat.le_of_ble_eq_true rfl)) dX13_onNumbers_120 ⟨Nat.le_of_ble_eq_true rfl, Nat.le_of_ble_eq_true rfl⟩) hS (fun q _ h => hFc q h) hFc (fun rr u t H_43 locs ht hvm hw hB hz1 hk1 hS2 => ?_)
            rw [hw]
            clear hw
            obtain ⟨hP1, -, hD1⟩ := hB
            rw [ht] at hP1
            replace hD := hD1.weaken (fun _ _ _ h => hFc _ h)
            replace hP := hP1
            replace hS := hS2
            clear hP1 hD1 hS2 hFc hfc hz1 hk1 hvm ht
            refine de_cut (h := 131) (fun (x : St × Int32) => [.int x.2, .ref (a h0)]) (fun x ls H locs => lv_has ls 2 [(0, .ref (a h0))] ∧ va_P (dC, dI) vwCl (Wd cy a sh n x.1) H ∧ va_D A (Wd cy a sh n x.1) ∧ va_S A s.heap H locs) (fun x => fn_X13_onNumbers_B131 F sh n h0 x.1 x.2) (z8, r8) ?_ (fun B131 => ?_)
            · intro x ls H locs hI hf
              obtain ⟨z_45, p_44⟩ := x
              obtain ⟨hl2, hP2, hD2, hS2⟩ := hI
              replace hl : lv_has ls 2 [(0, .ref (a h0))] := hl2
              replace hP := hP2
              replace hD := hD2
              replace hS := hS2
              clear hl2 hP2 hD2 hS2
              replace hf := fn_X13_onNumbers_B131_s hf
              refine W.eq (g2 := F0 m 131 ls [.int p_44, .ref (a h0)]) rfl ?_
              refine lv_iconst (v := 3) hx hb dX13_onNumbers_131 (by decide) ?_
              obtain ⟨z_46, _u, hfc, hf⟩ := cal_some hf
              have hFc := de_free hD hS hA
              refine va_callv (va_runV (As := [.int p_44, .int 3]) (rest := []) ⟨hx, hb, hml, hown, hts⟩ (de_X13_need l dC dI cy a sh n H.size F z_45 h0 p_44 3 hfc) (cwV 2 hts gX13_onNumbers_X13_need rfl rfl rfl (by decide +kernel) ⟨Nat.le_of_ble_eq_true rfl, Nat.le_of_ble_eq_true rfl⟩) ⟨fun a U g mk q => by obtain ⟨q0, q1, qP, qK, qD, qN⟩ := q; exact ⟨q0, q1, qP, va_K.moved (u := U) (U := U.calling g mk a) (Vm.Alike.refl U.vm) qK, qD, qN.same rfl⟩, va_recv hK hP (ci := 13) (q0 := h0) rfl (Wd_ob kg_25 sg_25 (by decide)), fun U hU hW => ⟨rfl, by rw [hU], by rw [hU]; exact hP, va_K.moved hW.alike hK, hD.weaken (fun _ _ _ _ => trivial), hN.warm hW⟩⟩ rfl rfl hl.1 rfl (lv_room (Nat.le_of_ble_eq_true rfl)) dX13_onNumbers_132 ⟨Nat.le_of_ble_eq_true rfl, Nat.le_of_ble_eq_true rfl⟩) hS (fun q _ h => hFc q h) hFc (fun u t H_47 locs ht hvm hw hB hz1 hk1 hS2 => ?_)
              obtain ⟨hP1, -, hD1⟩ := hB
              rw [ht] at hP1
              replace hD := hD1.weaken (fun _ _ _ h => hFc _ h)
              replace hP := hP1
              replace hS := hS2
              clear hP1 hD1 hS2 hFc hfc hz1 hk1 hvm ht
              exact B135 (z_46) ls H_47 locs ⟨lv_sub hl [0] rfl, hP, hD, hS⟩ hf
            refine lv_if_ne (tgt := 130) hx hb dX13_onNumbers_123 (by decide) (fun c_48 => ?_) (fun c_48 => ?_)
            · skip
              rw [if_neg c_48] at hf
              refine lv_iconst (v := 0) hx hb dX13_onNumbers_130 (by decide) ?_
              exact B131 (z_41, 0) ls H_43 locs ⟨lv_sub hl [0] rfl, hP, hD, hS⟩ hf
            · skip
              rw [if_pos c_48] at hf
              refine lv_iconst (v := 1) hx hb dX13_onNumbers_126 (by decide) ?_
              refine lv_goto (tgt := 131) hx hb dX13_onNumbers_127 (by decide) ?_
              exact B131 (z_41, 1) ls H_43 locs ⟨lv_sub hl [0] rfl, hP, hD, hS⟩ hf
      · skip
        rw [if_pos c_3] at hf
        refine lv_aload_n hx hb dX13_onNumbers_85 rfl (lv_at hl 0 rfl) ?_
        refine lv_lconst (v := 1) hx hb dX13_onNumbers_86 (by decide) ?_
        obtain ⟨g_50, hf⟩ := grd_some hf
        obtain ⟨kg_50, sg_50⟩ := okO_at g_50
        obtain ⟨z_49, _u, hfc, hf⟩ := cal_some hf
        have hFc := de_free hD hS hA
        refine va_callv (va_runV (As := [.long 1]) (rest := []) ⟨hx, hb, hml, hown, hts⟩ (de_X13_take_ l dC dI cy a sh n H.size F z h0 1 hfc) (cwV 1 hts gX13_onNumbers_X13_take_ rfl rfl rfl (by decide +kernel) ⟨Nat.le_of_ble_eq_true rfl, Nat.le_of_ble_eq_true rfl⟩) ⟨fun a U g mk q => by obtain ⟨q0, q1, qP, qK, qD, qN⟩ := q; exact ⟨q0, q1, qP, va_K.moved (u := U) (U := U.calling g mk a) (Vm.Alike.refl U.vm) qK, qD, qN.same rfl⟩, va_recv hK hP (ci := 13) (q0 := h0) rfl (Wd_ob kg_50 sg_50 (by decide)), fun U hU hW => ⟨rfl, by rw [hU], by rw [hU]; exact hP, va_K.moved hW.alike hK, hD.weaken (fun _ _ _ _ => trivial), hN.warm hW⟩⟩ rfl rfl hl.1 rfl (lv_room (Nat.le_of_ble_eq_true rfl)) dX13_onNumbers_87 ⟨Nat.le_of_ble_eq_true rfl, Nat.le_of_ble_eq_true rfl⟩) hS (fun q _ h => hFc q h) hFc (fun u t H_51 locs ht hvm hw hB hz1 hk1 hS2 => ?_)
        obtain ⟨hP1, -, hD1⟩ := hB
        rw [ht] at hP1
        replace hD := hD1.weaken (fun _ _ _ h => hFc _ h)
        replace hP := hP1
        replace hS := hS2
        clear hP1 hD1 hS2 hFc hfc hz1 hk1 hvm ht
        refine lv_aload_n hx hb dX13_onNumbers_90 rfl (lv_at hl 0 rfl) ?_
        refine lv_lconst (v := 1) hx hb dX13_onNumbers_91 (by decide) ?_
        obtain ⟨z_52, _u, hfc, hf⟩ := cal_some hf
        have hFc := de_free hD hS hA
        refine va_callv (va_runV (As := [.long 1]) (rest := []) ⟨hx, hb, hml, hown, hts⟩ (de_X13_give l dC dI cy a sh n H_51.size F z_49 h0 1 hfc) (cwV 1 hts gX13_onNumbers_X13_give rfl rfl rfl (by decide +kernel) ⟨Nat.le_of_ble_eq_true rfl, Nat.le_of_ble_eq_true rfl⟩) ⟨fun a U g mk q => by obtain ⟨q0, q1, qP, qK, qD, qN⟩ := q; exact ⟨q0, q1, qP, va_K.moved (u := U) (U := U.calling g mk a) (Vm.Alike.refl U.vm) qK, qD, qN.same rfl⟩, va_recv hK hP (ci := 13) (q0 := h0) rfl (Wd_ob kg_50 sg_50 (by decide)), fun U hU hW => ⟨rfl, by rw [hU], by rw [hU]; exact hP, va_K.moved hW.alike hK, hD.weaken (fun _ _ _ _ => trivial), hN.warm hW⟩⟩ rfl rfl hl.1 rfl (lv_room (Nat.le_of_ble_eq_true rfl)) dX13_onNumbers_92 ⟨Nat.le_of_ble_eq_true rfl, Nat.le_of_ble_eq_true rfl⟩) hS (fun q _ h => hFc q h) hFc (fun u t H_53 locs ht hvm hw hB hz1 hk1 hS2 => ?_)
        obtain ⟨hP1, -, hD1⟩ := hB
        rw [ht] at hP1
        replace hD := hD1.weaken (fun _ _ _ h => hFc _ h)
        replace hP := hP1
        replace hS := hS2
        clear hP1 hD1 hS2 hFc hfc hz1 hk1 hvm ht
        refine lv_goto (tgt := 224) hx hb dX13_onNumbers_95 (by decide) ?_
        obtain ⟨h8, h9⟩ := ret_some hf
        rw [h8]
        exact W.vret hx hb hr (fun t ht hW => ⟨⟨(), rfl, trivial, by rw [ht]; exact hP, va_K.moved hW.alike hK, hD⟩, hS.F ht⟩) hS.2.2 dX13_onNumbers_224
    · skip
      rw [if_neg c_2] at hf
      refine lv_aload_n hx hb dX13_onNumbers_38 rfl (lv_at hl 0 rfl) ?_
      refine lv_ldc2 hx hb hown (hts _ md_X13_onNumbers_2) dX13_onNumbers_39 ?_
      obtain ⟨g_55, hf⟩ := grd_some hf
      obtain ⟨kg_55, sg_55⟩ := okO_at g_55
      obtain ⟨z_54, _u, hfc, hf⟩ := cal_some hf
      have hFc := de_free hD hS hA
      refine va_callv (va_runV (As := [.long 2]) (rest := []) ⟨hx, hb, hml, hown, hts⟩ (de_X13_take_ l dC dI cy a sh n H.size F z h0 2 hfc) (cwV 1 hts gX13_onNumbers_X13_take_ rfl rfl rfl (by decide +kernel) ⟨Nat.le_of_ble_eq_true rfl, Nat.le_of_ble_eq_true rfl⟩) ⟨fun a U g mk q => by obtain ⟨q0, q1, qP, qK, qD, qN⟩ := q; exact ⟨q0, q1, qP, va_K.moved (u := U) (U := U.calling g mk a) (Vm.Alike.refl U.vm) qK, qD, qN.same rfl⟩, va_recv hK hP (ci := 13) (q0 := h0) rfl (Wd_ob kg_55 sg_55 (by decide)), fun U hU hW => ⟨rfl, by rw [hU], by rw [hU]; exact hP, va_K.moved hW.alike hK, hD.weaken (fun _ _ _ _ => trivial), hN.warm hW⟩⟩ rfl rfl hl.1 rfl (lv_room (Nat.le_of_ble_eq_true rfl)) dX13_onNumbers_42 ⟨Nat.le_of_ble_eq_true rfl, Nat.le_of_ble_eq_true rfl⟩) hS (fun q _ h => hFc q h) hFc (fun u t H_56 locs ht hvm hw hB hz1 hk1 hS2 => ?_)
      obtain ⟨hP1, -, hD1⟩ := hB
      rw [ht] at hP1
      replace hD := hD1.weaken (fun _ _ _ h => hFc _ h)
      replace hP := hP1
      replace hS := hS2
      clear hP1 hD1 hS2 hFc hfc hz1 hk1 hvm ht
      refine lv_aload_n hx hb dX13_onNumbers_45 rfl (lv_at hl 0 rfl) ?_
      obtain ⟨z_57, _u, hfc, hf⟩ := cal_some hf
      have hFc := de_free hD hS hA
      refine va_callv (va_runV (As := []) (rest := []) ⟨hx, hb, hml, hown, hts⟩ (de_X13_take l dC dI cy a sh n H_56.size F z_54 h0 hfc) (cwV 0 hts gX13_onNumbers_X13_take rfl rfl rfl (by decide +kernel) ⟨Nat.le_of_ble_eq_true rfl, Nat.le_of_ble_eq_true rfl⟩) ⟨fun a U g mk q => by obtain ⟨q0, q1, qP, qK, qD, qN⟩ := q; exact ⟨q0, q1, qP, va_K.moved (u := U) (U := U.calling g mk a) (Vm.Alike.refl U.vm) qK, qD, qN.same rfl⟩, va_recv hK hP (ci := 13) (q0 := h0) rfl (Wd_ob kg_55 sg_55 (by decide)), fun U hU hW => ⟨rfl, by rw [hU], by rw [hU]; exact hP, va_K.moved hW.alike hK, hD.weaken (fun _ _ _ _ => trivial), hN.warm hW⟩⟩ rfl rfl hl.1 rfl (lv_room (Nat.le_of_ble_eq_true rfl)) dX13_onNumbers_46 ⟨Nat.le_of_ble_eq_true rfl, Nat.le_of_ble_eq_true rfl⟩) hS (fun q _ h => hFc q h) hFc (fun u t H_58 locs ht hvm hw hB hz1 hk1 hS2 => ?_)
      obtain ⟨hP1, -, hD1⟩ := hB
      rw [ht] at hP1
      replace hD := hD1.weaken (fun _ _ _ h => hFc _ h)
      replace hP := hP1
      replace hS := hS2
      clear hP1 hD1 hS2 hFc hfc hz1 hk1 hvm ht
      refine lv_aload_n hx hb dX13_onNumbers_49 rfl (lv_at hl 0 rfl) ?_
      refine va_get (D := (dC, dI)) (ci := 13) (v := .int (z_57.1 h0 18)) (C := RX13) (T := TX13) (N := 22) hx hb hts iwd_X13_onNumbers_X13 hown hK hP h0 (Wd_ob kg_55 sg_55 (by decide)) rfl 18 (by decide) (hts _ md_X13_onNumbers_3) (fun _ h9 => h9) (fl_at (t := 0) rfl) dX13_onNumbers_50 ?_
      refine lv_if_ne (tgt := 68) hx hb dX13_onNumbers_53 (by decide) (fun c_59 => ?_) (fun c_59 => ?_)
      · skip
        rw [if_neg c_59] at hf
        refine lv_aload_n hx hb dX13_onNumbers_68 rfl (lv_at hl 0 rfl) ?_
        refine lv_aload_n hx hb dX13_onNumbers_69 rfl (lv_at hl 0 rfl) ?_
        refine va_get (D := (dC, dI)) (ci := 13) (v := .long (z_57.2.1 h0 19)) (C := RX13) (T := TX13) (N := 22) hx hb hts iwd_X13_onNumbers_X13 hown hK hP h0 (Wd_ob kg_55 sg_55 (by decide)) rfl 19 (by decide) (hts _ md_X13_onNumbers_1) (fun _ h9 => h9) (fl_at (t := 1) rfl) dX13_onNumbers_70 ?_
        obtain ⟨z_60, _u, hfc, hf⟩ := cal_some hf
        have hFc := de_free hD hS hA
        refine va_callv (va_runV (As := [.long (z_57.2.1 h0 19)]) (rest := []) ⟨hx, hb, hml, hown, hts⟩ (de_X13_give l dC dI cy a sh n H_58.size F z_57 h0 (z_57.2.1 h0 19) hfc) (cwV 1 hts gX13_onNumbers_X13_give rfl rfl rfl (by decide +kernel) ⟨Nat.le_of_ble_eq_true rfl, Nat.le_of_ble_eq_true rfl⟩) ⟨fun a U g mk q => by obtain ⟨q0, q1, qP, qK, qD, qN⟩ := q; exact ⟨q0, q1, qP, va_K.moved (u := U) (U := U.calling g mk a) (Vm.Alike.refl U.vm) qK, qD, qN.same rfl⟩, va_recv hK hP (ci := 13) (q0 := h0) rfl (Wd_ob kg_55 sg_55 (by decide)), fun U hU hW => ⟨rfl, by rw [hU], by rw [hU]; exact hP, va_K.moved hW.alike hK, hD.weaken (fun _ _ _ _ => trivial), hN.warm hW⟩⟩ rfl rfl hl.1 rfl (lv_room (Nat.le_of_ble_eq_true rfl)) dX13_onNumbers_73 ⟨Nat.le_of_ble_eq_true rfl, Nat.le_of_ble_eq_true rfl⟩) hS (fun q _ h => hFc q h) hFc (fun u t H_61 locs ht hvm hw hB hz1 hk1 hS2 => ?_)
        obtain ⟨hP1, -, hD1⟩ := hB
        rw [ht] at hP1
        replace hD := hD1.weaken (fun _ _ _ h => hFc _ h)
        replace hP := hP1
        replace hS := hS2
        clear hP1 hD1 hS2 hFc hfc hz1 hk1 hvm ht
        refine lv_goto (tgt := 224) hx hb dX13_onNumbers_76 (by decide) ?_
        obtain ⟨h8, h9⟩ := ret_some hf
        rw [h8]
        exact W.vret hx hb hr (fun t ht hW => ⟨⟨(), rfl, trivial, by rw [ht]; exact hP, va_K.moved hW.alike hK, hD⟩, hS.F ht⟩) hS.2.2 dX13_onNumbers_224
      · skip
        rw [if_pos c_59] at hf
        refine lv_aload_n hx hb dX13_onNumbers_56 rfl (lv_at hl 0 rfl) ?_
        refine lv_aload_n hx hb dX13_onNumbers_57 rfl (lv_at hl 0 rfl) ?_
        refine va_get (D := (dC, dI)) (ci := 13) (v := .long (z_57.2.1 h0 19)) (C := RX13) (T := TX13) (N := 22) hx hb hts iwd_X13_onNumbers_X13 hown hK hP h0 (Wd_ob kg_55 sg_55 (by decide)) rfl 19 (by decide) (hts _ md_X13_onNumbers_1) (fun _ h9 => h9) (fl_at (t := 1) rfl) dX13_onNumbers_58 ?_
        obtain ⟨z_62, r_63, hfc, hf⟩ := cal_some hf
        have hFc := de_free hD hS hA
        refine va_calli (va_runS (As := [.long (z_57.2.1 h0 19)]) (rest := [.ref (a h0)]) ⟨hx, hb, hml, hown, hts⟩ (de_X13_isNumber l dC dI cy a sh n H_58.size F z_57 (z_57.2.1 h0 19) hfc) (va_cwS 1 hts gX13_onNumbers_X13_isNumber rfl rfl rfl (by decide +kernel) ⟨Nat.le_of_ble_eq_true rfl, Nat.le_of_ble_eq_true rfl⟩) ⟨fun a U g mk q => by obtain ⟨q0, q1, qP, qK, qD, qN⟩ := q; exact ⟨q0, q1, qP, va_K.moved (u := U) (U := U.calling g mk a) (Vm.Alike.refl U.vm) qK, qD, qN.same rfl⟩, fun U hU hW => ⟨rfl, by rw [hU], by rw [hU]; exact hP, va_K.moved hW.alike hK, hD.weaken (fun _ _ _ _ => trivial), hN.warm hW⟩⟩ rfl rfl hl.1 rfl (lv_room (Nat.le_of_ble_eq_true rfl)) dX13_onNumbers_61 ⟨Nat.le_of_ble_eq_true rfl, Nat.le_of_ble_eq_true rfl⟩) hS (fun q _ h => hFc q h) hFc (fun rr u t H_64 locs ht hvm hw hB hz1 hk1 hS2 => ?_)
        rw [hw]
        clear hw
        obtain ⟨hP1, -, hD1⟩ := hB
        rw [ht] at hP1
        replace hD := hD1.weaken (fun _ _ _ h => hFc _ h)
        replace hP := hP1
        replace hS := hS2
        clear hP1 hD1 hS2 hFc hfc hz1 hk1 hvm ht
        refine lv_iconst (v := 3) hx hb dX13_onNumbers_64 (by decide) ?_
        obtain ⟨z_65, _u, hfc, hf⟩ := cal_some hf
        have hFc := de_free hD hS hA
        refine va_callv (va_runV (As := [.int r_63, .int 3]) (rest := []) ⟨hx, hb, hml, hown, hts⟩ (de_X13_need l dC dI cy a sh n H_64.size F z_62 h0 r_63 3 hfc) (cwV 2 hts gX13_onNumbers_X13_need rfl rfl rfl (by decide +kernel) ⟨Nat.le_of_ble_eq_true rfl, Nat.le_of_ble_eq_true rfl⟩) ⟨fun a U g mk q => by obtain ⟨q0, q1, qP, qK, qD, qN⟩ := q; exact ⟨q0, q1, qP, va_K.moved (u := U) (U := U.calling g mk a) (Vm.Alike.refl U.vm) qK, qD, qN.same rfl⟩, va_recv hK hP (ci := 13) (q0 := h0) rfl (Wd_ob kg_55 sg_55 (by decide)), fun U hU hW => ⟨rfl, by rw [hU], by rw [hU]; exact hP, va_K.moved hW.alike hK, hD.weaken (fun _ _ _ _ => trivial), hN.warm hW⟩⟩ rfl rfl hl.1 rfl (lv_room (Nat.le_of_ble_eq_true rfl)) dX13_onNumbers_65 ⟨Nat.le_of_ble_eq_true rfl, Nat.le_of_ble_eq_true rfl⟩) hS (fun q _ h => hFc q h) hFc (fun u t H_66 locs ht hvm hw hB hz1 hk1 hS2 => ?_)
        obtain ⟨hP1, -, hD1⟩ := hB
        rw [ht] at hP1
        replace hD := hD1.weaken (fun _ _ _ h => hFc _ h)
        replace hP := hP1
        replace hS := hS2
        clear hP1 hD1 hS2 hFc hfc hz1 hk1 hvm ht
        refine lv_aload_n hx hb dX13_onNumbers_68 rfl (lv_at hl 0 rfl) ?_
        refine lv_aload_n hx hb dX13_onNumbers_69 rfl (lv_at hl 0 rfl) ?_
        refine va_get (D := (dC, dI)) (ci := 13) (v := .long (z_65.2.1 h0 19)) (C := RX13) (T := TX13) (N := 22) hx hb hts iwd_X13_onNumbers_X13 hown hK hP h0 (Wd_ob kg_55 sg_55 (by decide)) rfl 19 (by decide) (hts _ md_X13_onNumbers_1) (fun _ h9 => h9) (fl_at (t := 1) rfl) dX13_onNumbers_70 ?_
        obtain ⟨z_67, _u, hfc, hf⟩ := cal_some hf
        have hFc := de_free hD hS hA
        refine va_callv (va_runV (As := [.long (z_65.2.1 h0 19)]) (rest := []) ⟨hx, hb, hml, hown, hts⟩ (de_X13_give l dC dI cy a sh n H_66.size F z_65 h0 (z_65.2.1 h0 19) hfc) (cwV 1 hts gX13_onNumbers_X13_give rfl rfl rfl (by decide +kernel) ⟨Nat.le_of_ble_eq_true rfl, Nat.le_of_ble_eq_true rfl⟩) ⟨fun a U g mk q => by obtain ⟨q0, q1, qP, qK, qD, qN⟩ := q; exact ⟨q0, q1, qP, va_K.moved (u := U) (U := U.calling g mk a) (Vm.Alike.refl U.vm) qK, qD, qN.same rfl⟩, va_recv hK hP (ci := 13) (q0 := h0) rfl (Wd_ob kg_55 sg_55 (by decide)), fun U hU hW => ⟨rfl, by rw [hU], by rw [hU]; exact hP, va_K.moved hW.alike hK, hD.weaken (fun _ _ _ _ => trivial), hN.warm hW⟩⟩ rfl rfl hl.1 rfl (lv_room (Nat.le_of_ble_eq_true rfl)) dX13_onNumbers_73 ⟨Nat.le_of_ble_eq_true rfl, Nat.le_of_ble_eq_true rfl⟩) hS (fun q _ h => hFc q h) hFc (fun u t H_68 locs ht hvm hw hB hz1 hk1 hS2 => ?_)
        obtain ⟨hP1, -, hD1⟩ := hB
        rw [ht] at hP1
        replace hD := hD1.weaken (fun _ _ _ h => hFc _ h)
        replace hP := hP1
        replace hS := hS2
        clear hP1 hD1 hS2 hFc hfc hz1 hk1 hvm ht
        refine lv_goto (tgt := 224) hx hb dX13_onNumbers_76 (by decide) ?_
        obtain ⟨h8, h9⟩ := ret_some hf
        rw [h8]
        exact W.vret hx hb hr (fun t ht hW => ⟨⟨(), rfl, trivial, by rw [ht]; exact hP, va_K.moved hW.alike hK, hD⟩, hS.F ht⟩) hS.2.2 dX13_onNumbers_224
  · skip
    rw [if_neg c_1] at hf
    refine lv_aload_n hx hb dX13_onNumbers_6 rfl (lv_at hl 0 rfl) ?_
    refine lv_iload_n hx hb dX13_onNumbers_7 rfl (lv_at hl 1 rfl) ?_
    refine lv_bipush (v := 28) hx hb dX13_onNumbers_8 (by decide) ?_
    refine lv_icmp_le (tgt := 17) hx hb dX13_onNumbers_10 (by decide) (fun c_69 => ?_) (fun c_69 => ?_)
    · skip
      rw [if_pos c_69] at hf
      refine lv_iconst (v := 0) hx hb dX13_onNumbers_17 (by decide) ?_
      obtain ⟨g_71, hf⟩ := grd_some hf
      obtain ⟨kg_71, sg_71⟩ := okO_at g_71
      obtain ⟨z_70, _u, hfc, hf⟩ := cal_some hf
      have hFc := de_free hD hS hA
      refine va_callv (va_runV (As := [.int 0]) (rest := []) ⟨hx, hb, hml, hown, hts⟩ (de_X13_takeNumbers l dC dI cy a sh n H.size F z h0 0 hfc) (cwV 1 hts gX13_onNumbers_X13_takeNumbers rfl rfl rfl (by decide +kernel) ⟨Nat.le_of_ble_eq_true rfl, Nat.le_of_ble_eq_true rfl⟩) ⟨fun a U g mk q => by obtain ⟨q0, q1, qP, qK, qD, qN⟩ := q; exact ⟨q0, q1, qP, va_K.moved (u := U) (U := U.calling g mk a) (Vm.Alike.refl U.vm) qK, qD, qN.same rfl⟩, va_recv hK hP (ci := 13) (q0 := h0) rfl (Wd_ob kg_71 sg_71 (by decide)), fun U hU hW => ⟨rfl, by rw [hU], by rw [hU]; exact hP, va_K.moved hW.alike hK, hD.weaken (fun _ _ _ _ => trivial), hN.warm hW⟩⟩ rfl rfl hl.1 rfl (lv_room (Nat.le_of_ble_eq_true rfl)) dX13_onNumbers_18 ⟨Nat.le_of_ble_eq_true rfl, Nat.le_of_ble_eq_true rfl⟩) hS (fun q _ h => hFc q h) hFc (fun u t H_72 locs ht hvm hw hB hz1 hk1 hS2 => ?_)
      obtain ⟨hP1, -, hD1⟩ := hB
      rw [ht] at hP1
      replace hD := hD1.weaken (fun _ _ _ h => hFc _ h)
      replace hP := hP1
      replace hS := hS2
      clear hP1 hD1 hS2 hFc hfc hz1 hk1 hvm ht
      refine lv_aload_n hx hb dX13_onNumbers_21 rfl (lv_at hl 0 rfl) ?_
      refine lv_aload_n hx hb dX13_onNumbers_22 rfl (lv_at hl 0 rfl) ?_
      refine va_get (D := (dC, dI)) (ci := 13) (v := .long (z_70.2.1 h0 19)) (C := RX13) (T := TX13) (N := 22) hx hb hts iwd_X13_onNumbers_X13 hown hK hP h0 (Wd_ob kg_71 sg_71 (by decide)) rfl 19 (by decide) (hts _ md_X13_onNumbers_1) (fun _ h9 => h9) (fl_at (t := 1) rfl) dX13_onNumbers_23 ?_
      obtain ⟨z_73, _u, hfc, hf⟩ := cal_some hf
      have hFc := de_free hD hS hA
      refine va_callv (va_runV (As := [.long (z_70.2.1 h0 19)]) (rest := []) ⟨hx, hb, hml, hown, hts⟩ (de_X13_give l dC dI cy a sh n H_72.size F z_70 h0 (z_70.2.1 h0 19) hfc) (cwV 1 hts gX13_onNumbers_X13_give rfl rfl rfl (by decide +kernel) ⟨Nat.le_of_ble_eq_true rfl, Nat.le_of_ble_eq_true rfl⟩) ⟨fun a U g mk q => by obtain ⟨q0, q1, qP, qK, qD, qN⟩ := q; exact ⟨q0, q1, qP, va_K.moved (u := U) (U := U.calling g mk a) (Vm.Alike.refl U.vm) qK, qD, qN.same rfl⟩, va_recv hK hP (ci := 13) (q0 := h0) rfl (Wd_ob kg_71 sg_71 (by decide)), fun U hU hW => ⟨rfl, by rw [hU], by rw [hU]; exact hP, va_K.moved hW.alike hK, hD.weaken (fun _ _ _ _ => trivial), hN.warm hW⟩⟩ rfl rfl hl.1 rfl (lv_room (Nat.le_of_ble_eq_true rfl)) dX13_onNumbers_26 ⟨Nat.le_of_ble_eq_true rfl, Nat.le_of_ble_eq_true rfl⟩) hS (fun q _ h => hFc q h) hFc (fun u t H_74 locs ht hvm hw hB hz1 hk1 hS2 => ?_)
      obtain ⟨hP1, -, hD1⟩ := hB
      rw [ht] at hP1
      replace hD := hD1.weaken (fun _ _ _ h => hFc _ h)
      replace hP := hP1
      replace hS := hS2
      clear hP1 hD1 hS2 hFc hfc hz1 hk1 hvm ht
      refine lv_goto (tgt := 224) hx hb dX13_onNumbers_29 (by decide) ?_
      obtain ⟨h8, h9⟩ := ret_some hf
      rw [h8]
      exact W.vret hx hb hr (fun t ht hW => ⟨⟨(), rfl, trivial, by rw [ht]; exact hP, va_K.moved hW.alike hK, hD⟩, hS.F ht⟩) hS.2.2 dX13_onNumbers_224
    · skip
      rw [if_neg c_69] at hf
      refine lv_iconst (v := 1) hx hb dX13_onNumbers_13 (by decide) ?_
      refine lv_goto (tgt := 18) hx hb dX13_onNumbers_14 (by decide) ?_
      obtain ⟨g_76, hf⟩ := grd_some hf
      obtain ⟨kg_76, sg_76⟩ := okO_at g_76
      obtain ⟨z_75, _u, hfc, hf⟩ := cal_some hf
      have hFc := de_free hD hS hA
      refine va_callv (va_runV (As := [.int 1]) (rest := []) ⟨hx, hb, hml, hown, hts⟩ (de_X13_takeNumbers l dC dI cy a sh n H.size F z h0 1 hfc) (cwV 1 hts gX13_onNumbers_X13_takeNumbers rfl rfl rfl (by decide +kernel) ⟨Nat.le_of_ble_eq_true rfl, Nat.le_of_ble_eq_true rfl⟩) ⟨fun a U g mk q => by obtain ⟨q0, q1, qP, qK, qD, qN⟩ := q; exact ⟨q0, q1, qP, va_K.moved (u := U) (U := U.calling g mk a) (Vm.Alike.refl U.vm) qK, qD, qN.same rfl⟩, va_recv hK hP (ci := 13) (q0 := h0) rfl (Wd_ob kg_76 sg_76 (by decide)), fun U hU hW => ⟨rfl, by rw [hU], by rw [hU]; exact hP, va_K.moved hW.alike hK, hD.weaken (fun _ _ _ _ => trivial), hN.warm hW⟩⟩ rfl rfl hl.1 rfl (lv_room (Nat.le_of_ble_eq_true rfl)) dX13_onNumbers_18 ⟨Nat.le_of_ble_eq_true rfl, Nat.le_of_ble_eq_true rfl⟩) hS (fun q _ h => hFc q h) hFc (fun u t H_77 locs ht hvm hw hB hz1 hk1 hS2 => ?_)
      obtain ⟨hP1, -, hD1⟩ := hB
      rw [ht] at hP1
      replace hD := hD1.weaken (fun _ _ _ h => hFc _ h)
      replace hP := hP1
      replace hS := hS2
      clear hP1 hD1 hS2 hFc hfc hz1 hk1 hvm ht
      refine lv_aload_n hx hb dX13_onNumbers_21 rfl (lv_at hl 0 rfl) ?_
      refine lv_aload_n hx hb dX13_onNumbers_22 rfl (lv_at hl 0 rfl) ?_
      refine va_get (D := (dC, dI)) (ci := 13) (v := .long (z_75.2.1 h0 19)) (C := RX13) (T := TX13) (N := 22) hx hb hts iwd_X13_onNumbers_X13 hown hK hP h0 (Wd_ob kg_76 sg_76 (by decide)) rfl 19 (by decide) (hts _ md_X13_onNumbers_1) (fun _ h9 => h9) (fl_at (t := 1) rfl) dX13_onNumbers_23 ?_
      obtain ⟨z_78, _u, hfc, hf⟩ := cal_some hf
      have hFc := de_free hD hS hA
      refine va_callv (va_runV (As := [.long (z_75.2.1 h0 19)]) (rest := []) ⟨hx, hb, hml, hown, hts⟩ (de_X13_give l dC dI cy a sh n H_77.size F z_75 h0 (z_75.2.1 h0 19) hfc) (cwV 1 hts gX13_onNumbers_X13_give rfl rfl rfl (by decide +kernel) ⟨Nat.le_of_ble_eq_true rfl, Nat.le_of_ble_eq_true rfl⟩) ⟨fun a U g mk q => by obtain ⟨q0, q1, qP, qK, qD, qN⟩ := q; exact ⟨q0, q1, qP, va_K.moved (u := U) (U := U.calling g mk a) (Vm.Alike.refl U.vm) qK, qD, qN.same rfl⟩, va_recv hK hP (ci := 13) (q0 := h0) rfl (Wd_ob kg_76 sg_76 (by decide)), fun U hU hW => ⟨rfl, by rw [hU], by rw [hU]; exact hP, va_K.moved hW.alike hK, hD.weaken (fun _ _ _ _ => trivial), hN.warm hW⟩⟩ rfl rfl hl.1 rfl (lv_room (Nat.le_of_ble_eq_true rfl)) dX13_onNumbers_26 ⟨Nat.le_of_ble_eq_true rfl, Nat.le_of_ble_eq_true rfl⟩) hS (fun q _ h => hFc q h) hFc (fun u t H_79 locs ht hvm hw hB hz1 hk1 hS2 => ?_)
      obtain ⟨hP1, -, hD1⟩ := hB
      rw [ht] at hP1
      replace hD := hD1.weaken (fun _ _ _ h => hFc _ h)
      replace hP := hP1
      replace hS := hS2
      clear hP1 hD1 hS2 hFc hfc hz1 hk1 hvm ht
      refine lv_goto (tgt := 224) hx hb dX13_onNumbers_29 (by decide) ?_
      obtain ⟨h8, h9⟩ := ret_some hf
      rw [h8]
      exact W.vret hx hb hr (fun t ht hW => ⟨⟨(), rfl, trivial, by rw [ht]; exact hP, va_K.moved hW.alike hK, hD⟩, hS.F ht⟩) hS.2.2 dX13_onNumbers_224

theorem md_X13_onVector_2 : (.fieldLink RX13 72 "ResourceLedgerModel$Looker" "unit" "LResourceLedgerModel$Unit;" : Cond) ∈ wsX13_onVector := List.mem_of_getElem? (i := 2) rfl
theorem iwd_X13_onVector_X13 : ∀ w ∈ wsX130, w ∈ wsX13_onVector := fun _ h => List.mem_cons_of_mem _ (List.mem_append_left _ (List.mem_append_right _ h))
theorem md_X13_onVector_4 : (.fieldLink RX13 103 "ResourceLedgerModel$Looker" "takenOrigins" "J" : Cond) ∈ wsX13_onVector := List.mem_of_getElem? (i := 4) rfl
theorem md_X13_onVector_5 : (.fieldLink RX13 48 "ResourceLedgerModel$Looker" "fault" "I" : Cond) ∈ wsX13_onVector := List.mem_of_getElem? (i := 5) rfl
theorem md_X13_onVector_3 : (.constantLong RX13 126 (3) : Cond) ∈ wsX13_onVector := List.mem_of_getElem? (i := 3) rfl
theorem md_X13_onVector_1 : (.constantLong RX13 187 (1794) : Cond) ∈ wsX13_onVector := List.mem_of_getElem? (i := 1) rfl
set_option maxHeartbeats 4000000 in
set_option maxRecDepth 100000 in
theorem de_X13_onVector (l : Launch) (dC : Nat → ClassId) (dI : Nat → Nat → Nat) (cy : Nat → ClassId) (a : Nat → Nat) (sh : Nat → Nat × Nat) (n sz : Nat) (F : Nat) (z : St) (h0 : Nat) (x0 : Int32) (x1 : Int32) (x2 : Int32) {z8 : St} {r8 : Unit} (hf : fn_X13_onVector F sh n z h0 x0 x1 x2 = some (z8, r8)) : Met l yX13_onVector wsX13_onVector ({ frames := 4, cells := 0, slots := 0, locals := 91 }) (va_Pc [.ref (a h0), .int x0, .int x1, .int x2] (fun U => U.heap.size = sz ∧ va_P (dC, dI) vwCl (Wd cy a sh n z) U.heap ∧ va_K (dC, dI) vwCl (TYS cy) U ∧ va_D (fun _ => True) (Wd cy a sh n z) ∧ NK U)) (va_Qv (fun u : Unit => True) (fun u t => va_P (dC, dI) vwCl (Wd cy a sh n z8) t.heap ∧ va_K (dC, dI) vwCl (TYS cy) t ∧ va_D (va_A (Wd cy a sh n z) sz) (Wd cy a sh n z8)) (va_A (Wd cy a sh n z) sz)) 0 0 (va_A (Wd cy a sh n z) sz) := by
  refine Met.ofW (cc := cX13_onVector) (maxL := 10) (ret := none) (by decide) rfl ?_
  intro p e s m args below meth c s₁ B hml hv
  obtain ⟨rfl, hsz, hP, hK, hD0, hN⟩ := hv
  have hx := B.exec
  have hb := B.bytes
  have hr := B.returns
  have hts := atoms_spec (ws := wsX13_onVector) B.pre
  have hown : s.vm.findClass RX13 = some m.cls := findClass_of_methodNamed B.named
  have hlocks := B.notSynchronized
  subst hsz
  have hD := hD0.self (sz := s.heap.size)
  clear hD0
  generalize hAe : va_A (Wd cy a sh n z) s.heap.size = A at hD ⊢
  have hA : ∀ q : Nat, s.heap.size ≤ q → A q := fun q h => by rw [← hAe]; exact Or.inr h
  clear hAe
  have hS : va_S A s.heap s.heap [] := va_S.rf
  have hl := lv_entry ([.ref (a h0), .int x0, .int x1, .int x2]) (n := 10) (Nat.le_of_ble_eq_true rfl)
  rw [lg_entry_eq]
  generalize (lg_sl ([.ref (a h0), .int x0, .int x1, .int x2]) ++ List.replicate (10 - (lg_sl ([.ref (a h0), .int x0, .int x1, .int x2])).length) Slot.unset).toArray = ls at hl ⊢
  replace hl : lv_has ls 10 [(0, .ref (a h0)), (1, .int x0), (2, .int x1), (3, .int x2)] := hl
  unfold fn_X13_onVector at hf
  refine de_start hS hP (fun H locs hS hP => ?_)
  refine lv_iload_n hx hb dX13_onVector_0 rfl (lv_at hl 1 rfl) ?_
  refine lv_bipush (v := 59) hx hb dX13_onVector_1 (by decide) ?_
  refine lv_icmp_ne (tgt := 21) hx hb dX13_onVector_3 (by decide) (fun c_1 => ?_) (fun c_1 => ?_)
  · skip
    rw [if_neg c_1] at hf
    refine lv_aload_n hx hb dX13_onVector_21 rfl (lv_at hl 0 rfl) ?_
    obtain ⟨g_2, hf⟩ := grd_some hf
    obtain ⟨kg_2, sg_2⟩ := okO_at g_2
    obtain ⟨k_3, ek_3, hf⟩ := lnk_some hf
    refine va_get (D := (dC, dI)) (ci := 13) (v := .ref (a k_3)) (C := RX13) (T := TX13) (N := 22) hx hb hts iwd_X13_onVector_X13 hown hK hP h0 (Wd_ob kg_2 sg_2 (by decide)) rfl 0 (by decide) (hts _ md_X13_onVector_2) (fun _ h9 => h9) (fl_q rfl ek_3) dX13_onVector_22 ?_
    refine lv_iload_n hx hb dX13_onVector_25 rfl (lv_at hl 2 rfl) ?_
    obtain ⟨g_6, hf⟩ := grd_some hf
    obtain ⟨kg_6, sg_6⟩ := okO_at g_6
    obtain ⟨z_4, r_5, hfc, hf⟩ := cal_some hf
    have hFc := de_free hD hS hA
    refine va_calll (va_runV (As := [.int x1]) (rest := []) ⟨hx, hb, hml, hown, hts⟩ (de_X16_element l dC dI cy a sh n H.size F z k_3 x1 hfc) (cwV 1 hts gX13_onVector_X16_element rfl rfl rfl (by decide +kernel) ⟨Nat.le_of_ble_eq_true rfl, Nat.le_of_ble_eq_true rfl⟩) ⟨fun a U g mk q => by obtain ⟨q0, q1, qP, qK, qD, qN⟩ := q; exact ⟨q0, q1, qP, va_K.moved (u := U) (U := U.calling g mk a) (Vm.Alike.refl U.vm) qK, qD, qN.same rfl⟩, va_recv hK hP (ci := 16) (q0 := k_3) rfl (Wd_ob kg_6 sg_6 (by decide)), fun U hU hW => ⟨rfl, by rw [hU], by rw [hU]; exact hP, va_K.moved hW.alike hK, hD.weaken (fun _ _ _ _ => trivial), hN.warm hW⟩⟩ rfl rfl hl.1 rfl (lv_room (Nat.le_of_ble_eq_true rfl)) dX13_onVector_26 ⟨Nat.le_of_ble_eq_true rfl, Nat.le_of_ble_eq_true rfl⟩) hS (fun q _ h => hFc q h) hFc (fun rr u t H_7 locs ht hvm hw hB hz1 hk1 hS2 => ?_)
    rw [hw]
    clear hw
    obtain ⟨hP1, -, hD1⟩ := hB
    rw [ht] at hP1
    replace hD := hD1.weaken (fun _ _ _ h => hFc _ h)
    replace hP := hP1
    replace hS := hS2
    clear hP1 hD1 hS2 hFc hfc hz1 hk1 hvm ht
    refine lv_lstore (lv' := [(4, .long r_5), (0, .ref (a h0)), (1, .int x0), (2, .int x1), (3, .int x2)]) hx hb dX13_onVector_29 hl (by decide) rfl (fun ls hl2 => ?_)
    replace hl := hl2
    clear hl2
    refine lv_bipush (v := 7) hx hb dX13_onVector_31 (by decide) ?_
    refine lv_lload hx hb dX13_onVector_33 (lv_at hl 0 rfl) ?_
    obtain ⟨z_8, r_9, hfc, hf⟩ := cal_some hf
    have hFc := de_free hD hS hA
    refine va_calll (va_runS (As := [.int 7, .long r_5]) (rest := []) ⟨hx, hb, hml, hown, hts⟩ (de_X13_before l dC dI cy a sh n H_7.size F z_4 7 r_5 hfc) (va_cwS 2 hts gX13_onVector_X13_before rfl rfl rfl (by decide +kernel) ⟨Nat.le_of_ble_eq_true rfl, Nat.le_of_ble_eq_true rfl⟩) ⟨fun a U g mk q => by obtain ⟨q0, q1, qP, qK, qD, qN⟩ := q; exact ⟨q0, q1, qP, va_K.moved (u := U) (U := U.calling g mk a) (Vm.Alike.refl U.vm) qK, qD, qN.same rfl⟩, fun U hU hW => ⟨rfl, by rw [hU], by rw [hU]; exact hP, va_K.moved hW.alike hK, hD.weaken (fun _ _ _ _ => trivial), hN.warm hW⟩⟩ rfl rfl hl.1 rfl (lv_room (Nat.le_of_ble_eq_true rfl)) dX13_onVector_35 ⟨Nat.le_of_ble_eq_true rfl, Nat.le_of_ble_eq_true rfl⟩) hS (fun q _ h => hFc q h) hFc (fun rr u t H_10 locs ht hvm hw hB hz1 hk1 hS2 => ?_)
    rw [hw]
    clear hw
    obtain ⟨hP1, -, hD1⟩ := hB
    rw [ht] at hP1
    replace hD := hD1.weaken (fun _ _ _ h => hFc _ h)
    replace hP := hP1
    replace hS := hS2
    clear hP1 hD1 hS2 hFc hfc hz1 hk1 hvm ht
    refine lv_lstore (lv' := [(6, .long r_9), (4, .long r_5), (0, .ref (a h0)), (1, .int x0), (2, .int x1), (3, .int x2)]) hx hb dX13_onVector_38 hl (by decide) rfl (fun ls hl2 => ?_)
    replace hl := hl2
    clear hl2
    refine lv_iload_n hx hb dX13_onVector_40 rfl (lv_at hl 3 rfl) ?_
    refine lv_bipush (v := 52) hx hb dX13_onVector_41 (by decide) ?_
    refine lv_icmp_ne (tgt := 74) hx hb dX13_onVector_43 (by decide) (fun c_11 => ?_) (fun c_11 => ?_)
    · skip
      rw [if_neg c_11] at hf
      refine lv_iload_n hx hb dX13_onVector_74 rfl (lv_at hl 3 rfl) ?_
      refine lv_bipush (v := 54) hx hb dX13_onVector_75 (by decide) ?_
      refine de_cut (h := 99) (fun (x : St) => []) (fun x ls H locs => lv_has ls 10 [(6, .long r_9), (4, .long r_5), (0, .ref (a h0)), (1, .int x0)] ∧ va_P (dC, dI) vwCl (Wd cy a sh n x) H ∧ va_D A (Wd cy a sh n x) ∧ va_S A s.heap H locs) (fun x => fn_X13_onVector_B99 F sh n x0 h0 r_5 r_9 x) (z8, r8) ?_ (fun B99 => ?_)
      · intro x ls H locs hI hf
        obtain ⟨z_12, ez⟩ : ∃ w, w = x := ⟨_, rfl⟩
        subst ez
        obtain ⟨hl2, hP2, hD2, hS2⟩ := hI
        replace hl : lv_has ls 10 [(6, .long r_9), (4, .long r_5), (0, .ref (a h0)), (1, .int x0)] := hl2
        replace hP := hP2
        replace hD := hD2
        replace hS := hS2
        clear hl2 hP2 hD2 hS2
        replace hf := fn_X13_onVector_B99_s hf
        refine W.eq (g2 := F0 m 99 ls []) rfl ?_
        refine lv_iload_n hx hb dX13_onVector_99 rfl (lv_at hl 3 rfl) ?_
        refine lv_bipush (v := 58) hx hb dX13_onVector_100 (by decide) ?_
        refine de_cut (h := 112) (fun (x : St) => []) (fun x ls H locs => lv_has ls 10 [(6, .long r_9), (4, .long r_5), (0, .ref (a h0)), (1, .int x0)] ∧ va_P (dC, dI) vwCl (Wd cy a sh n x) H ∧ va_D A (Wd cy a sh n x) ∧ va_S A s.heap H locs) (fun x => fn_X13_onVector_B112 F sh n x0 h0 r_5 r_9 x) (z8, r8) ?_ (fun B112 => ?_)
        · intro x ls H locs hI hf
          obtain ⟨z_13, ez⟩ : ∃ w, w = x := ⟨_, rfl⟩
          subst ez
          obtain ⟨hl2, hP2, hD2, hS2⟩ := hI
          replace hl : lv_has ls 10 [(6, .long r_9), (4, .long r_5), (0, .ref (a h0)), (1, .int x0)] := hl2
          replace hP := hP2
          replace hD := hD2
          replace hS := hS2
          clear hl2 hP2 hD2 hS2
          replace hf := fn_X13_onVector_B112_s hf
          refine W.eq (g2 := F0 m 112 ls []) rfl ?_
          refine lv_iload_n hx hb dX13_onVector_112 rfl (lv_at hl 3 rfl) ?_
          refine lv_bipush (v := 56) hx hb dX13_onVector_113 (by decide) ?_
          refine de_cut (h := 124) (fun (x : St) => []) (fun x ls H locs => lv_has ls 10 [(6, .long r_9), (4, .long r_5), (0, .ref (a h0)), (1, .int x0)] ∧ va_P (dC, dI) vwCl (Wd cy a sh n x) H ∧ va_D A (Wd cy a sh n x) ∧ va_S A s.heap H locs) (fun x => fn_X13_onVector_B124 F sh n x0 h0 r_9 r_5 x) (z8, r8) ?_ (fun B124 => ?_)
          · intro x ls H locs hI hf
            obtain ⟨z_14, ez⟩ : ∃ w, w = x := ⟨_, rfl⟩
            subst ez
            obtain ⟨hl2, hP2, hD2, hS2⟩ := hI
            replace hl : lv_has ls 10 [(6, .long r_9), (4, .long r_5), (0, .ref (a h0)), (1, .int x0)] := hl2
            replace hP := hP2
            replace hD := hD2
            replace hS := hS2
            clear hl2 hP2 hD2 hS2
            replace hf := fn_X13_onVector_B124_s hf
            refine W.eq (g2 := F0 m 124 ls []) rfl ?_
            refine lv_aload_n hx hb dX13_onVector_124 rfl (lv_at hl 2 rfl) ?_
            refine lv_lload hx hb dX13_onVector_125 (lv_at hl 0 rfl) ?_
            refine lv_iload_n hx hb dX13_onVector_127 rfl (lv_at hl 3 rfl) ?_
            refine lv_bipush (v := 54) hx hb dX13_onVector_128 (by decide) ?_
            refine de_cut (h := 138) (fun (x : St × Int32) => [.int x.2, .long r_9, .ref (a h0)]) (fun x ls H locs => lv_has ls 10 [(4, .long r_5), (0, .ref (a h0)), (1, .int x0)] ∧ va_P (dC, dI) vwCl (Wd cy a sh n x.1) H ∧ va_D A (Wd cy a sh n x.1) ∧ va_S A s.heap H locs) (fun x => fn_X13_onVector_B138 F sh n h0 r_9 x0 r_5 x.1 x.2) (z8, r8) ?_ (fun B138 => ?_)
            · intro x ls H locs hI hf
              obtain ⟨z_16, p_15⟩ := x
              obtain ⟨hl2, hP2, hD2, hS2⟩ := hI
              replace hl : lv_has ls 10 [(4, .long r_5), (0, .ref (a h0)), (1, .int x0)] := hl2
              replace hP := hP2
              replace hD := hD2
              replace hS := hS2
              clear hl2 hP2 hD2 hS2
              replace hf := fn_X13_onVector_B138_s hf
              refine W.eq (g2 := F0 m 138 ls [.int p_15, .long r_9, .ref (a h0)]) rfl ?_
              obtain ⟨z_17, _u, hfc, hf⟩ := cal_some hf
              have hFc := de_free hD hS hA
              refine va_callv (va_runV (As := [.long r_9, .int p_15]) (rest := []) ⟨hx, hb, hml, hown, hts⟩ (de_X13_takeReference l dC dI cy a sh n H.size F z_16 h0 r_9 p_15 hfc) (cwV 2 hts gX13_onVector_X13_takeReference rfl rfl rfl (by decide +kernel) ⟨Nat.le_of_ble_eq_true rfl, Nat.le_of_ble_eq_true rfl⟩) ⟨fun a U g mk q => by obtain ⟨q0, q1, qP, qK, qD, qN⟩ := q; exact ⟨q0, q1, qP, va_K.moved (u := U) (U := U.calling g mk a) (Vm.Alike.refl U.vm) qK, qD, qN.same rfl⟩, va_recv hK hP (ci := 13) (q0 := h0) rfl (Wd_ob kg_2 sg_2 (by decide)), fun U hU hW => ⟨rfl, by rw [hU], by rw [hU]; exact hP, va_K.moved hW.alike hK, hD.weaken (fun _ _ _ _ => trivial), hN.warm hW⟩⟩ rfl rfl hl.1 rfl (lv_room (Nat.le_of_ble_eq_true rfl)) dX13_onVector_138 ⟨Nat.le_of_ble_eq_true rfl, Nat.le_of_ble_eq_true rfl⟩) hS (fun q _ h => hFc q h) hFc (fun u t H_18 locs ht hvm hw hB hz1 hk1 hS2 => ?_)
              obtain ⟨hP1, -, hD1⟩ := hB
              rw [ht] at hP1
              replace hD := hD1.weaken (fun _ _ _ h => hFc _ h)
              replace hP := hP1
              replace hS := hS2
              clear hP1 hD1 hS2 hFc hfc hz1 hk1 hvm ht
              refine lv_aload_n hx hb dX13_onVector_141 rfl (lv_at hl 1 rfl) ?_
              refine va_get (D := (dC, dI)) (ci := 13) (v := .long (z_17.2.1 h0 20)) (C := RX13) (T := TX13) (N := 22) hx hb hts iwd_X13_onVector_X13 hown hK hP h0 (Wd_ob kg_2 sg_2 (by decide)) rfl 20 (by decide) (hts _ md_X13_onVector_4) (fun _ h9 => h9) (fl_at (t := 1) rfl) dX13_onVector_142 ?_
              refine lv_topl (fun v_19 ev_19 => ?_)
              replace hf := lt_at ev_19 hf
              clear ev_19
              refine lv_lstore (lv' := [(8, .long v_19), (4, .long r_5), (0, .ref (a h0)), (1, .int x0)]) hx hb dX13_onVector_145 hl (by decide) rfl (fun ls hl2 => ?_)
              replace hl := hl2
              clear hl2
              refine lv_aload_n hx hb dX13_onVector_147 rfl (lv_at hl 2 rfl) ?_
              refine va_get (D := (dC, dI)) (ci := 13) (v := .int (z_17.1 h0 18)) (C := RX13) (T := TX13) (N := 22) hx hb hts iwd_X13_onVector_X13 hown hK hP h0 (Wd_ob kg_2 sg_2 (by decide)) rfl 18 (by decide) (hts _ md_X13_onVector_5) (fun _ h9 => h9) (fl_at (t := 0) rfl) dX13_onVector_148 ?_
              refine lv_if_eq (tgt := 155) hx hb dX13_onVector_151 (by decide) (fun c_20 => ?_) (fun c_20 => ?_)
              · skip
                rw [if_pos c_20] at hf
                refine lv_iload_n hx hb dX13_onVector_155 rfl (lv_at hl 3 rfl) ?_
                refine lv_bipush (v := 55) hx hb dX13_onVector_156 (by decide) ?_
                refine de_cut (h := 173) (fun (x : St) => []) (fun x ls H locs => lv_has ls 10 [(8, .long v_19), (4, .long r_5), (0, .ref (a h0)), (1, .int x0)] ∧ va_P (dC, dI) vwCl (Wd cy a sh n x) H ∧ va_D A (Wd cy a sh n x) ∧ va_S A s.heap H locs) (fun x => fn_X13_onVector_B173 F sh n x0 h0 r_5 v_19 x) (z8, r8) ?_ (fun B173 => ?_)
                · intro x ls H locs hI hf
                  obtain ⟨z_21, ez⟩ : ∃ w, w = x := ⟨_, rfl⟩
                  subst ez
                  obtain ⟨hl2, hP2, hD2, hS2⟩ := hI
                  replace hl : lv_has ls 10 [(8, .long v_19), (4, .long r_5), (0, .ref (a h0)), (1, .int x0)] := hl2
                  replace hP := hP2
                  replace hD := hD2
                  replace hS := hS2
                  clear hl2 hP2 hD2 hS2
                  replace hf := fn_X13_onVector_B173_s hf
                  refine W.eq (g2 := F0 m 173 ls []) rfl ?_
                  refine lv_iload_n hx hb dX13_onVector_173 rfl (lv_at hl 3 rfl) ?_
                  refine lv_bipush (v := 53) hx hb dX13_onVector_174 (by decide) ?_
                  refine de_cut (h := 186) (fun (x : St) => []) (fun x ls H locs => lv_has ls 10 [(8, .long v_19), (4, .long r_5), (0, .ref (a h0)), (1, .int x0)] ∧ va_P (dC, dI) vwCl (Wd cy a sh n x) H ∧ va_D A (Wd cy a sh n x) ∧ va_S A s.heap H locs) (fun x => fn_X13_onVector_B186 F sh n x0 r_5 h0 v_19 x) (z8, r8) ?_ (fun B186 => ?_)
                  · intro x ls H locs hI hf
                    obtain ⟨z_22, ez⟩ : ∃ w, w = x := ⟨_, rfl⟩
                    subst ez
                    obtain ⟨hl2, hP2, hD2, hS2⟩ := hI
                    replace hl : lv_has ls 10 [(8, .long v_19), (4, .long r_5), (0, .ref (a h0)), (1, .int x0)] := hl2
                    replace hP := hP2
                    replace hD := hD2
                    replace hS := hS2
                    clear hl2 hP2 hD2 hS2
                    replace hf := fn_X13_onVector_B186_s hf
                    refine W.eq (g2 := F0 m 186 ls []) rfl ?_
                    refine lv_iload_n hx hb dX13_onVector_186 rfl (lv_at hl 3 rfl) ?_
                    refine lv_bipush (v := 54) hx hb dX13_onVector_187 (by decide) ?_
                    refine de_cut (h := 223) (fun (x : St) => []) (fun x ls H locs => lv_has ls 10 [(4, .long r_5), (0, .ref (a h0)), (1, .int x0)] ∧ va_P (dC, dI) vwCl (Wd cy a sh n x) H ∧ va_D A (Wd cy a sh n x) ∧ va_S A s.heap H locs) (fun x => fn_X13_onVector_B223 F sh n x0 h0 r_5 x) (z8, r8) ?_ (fun B223 => ?_)
                    · intro x ls H locs hI hf
                      obtain ⟨z_23, ez⟩ : ∃ w, w = x := ⟨_, rfl⟩
                      subst ez
                      obtain ⟨hl2, hP2, hD2, hS2⟩ := hI
                      replace hl : lv_has ls 10 [(4, .long r_5), (0, .ref (a h0)), (1, .int x0)] := hl2
                      replace hP := hP2
                      replace hD := hD2
                      replace hS := hS2
                      clear hl2 hP2 hD2 hS2
                      replace hf := fn_X13_onVector_B223_s hf
                      refine W.eq (g2 := F0 m 223 ls []) rfl ?_
                      refine lv_iload_n hx hb dX13_onVector_223 rfl (lv_at hl 2 rfl) ?_
                      refine lv_bipush (v := 57) hx hb dX13_onVector_224 (by decide) ?_
                      refine lv_icmp_ne (tgt := 235) hx hb dX13_onVector_226 (by decide) (fun c_24 => ?_) (fun c_24 => ?_)
                      · skip
                        rw [if_neg c_24] at hf
                        obtain ⟨h8, h9⟩ := ret_some hf
                        rw [h8]
                        exact W.vret hx hb hr (fun t ht hW => ⟨⟨(), rfl, trivial, by rw [ht]; exact hP, va_K.moved hW.alike hK, hD⟩, hS.F ht⟩) hS.2.2 dX13_onVector_235
                      · skip
                        rw [if_pos c_24] at hf
                        refine lv_aload_n hx hb dX13_onVector_229 rfl (lv_at hl 1 rfl) ?_
                        refine lv_lload hx hb dX13_onVector_230 (lv_at hl 0 rfl) ?_
                        obtain ⟨z_25, _u, hfc, hf⟩ := cal_some hf
                        have hFc := de_free hD hS hA
                        refine va_callv (va_runV (As := [.long r_5]) (rest := []) ⟨hx, hb, hml, hown, hts⟩ (de_X13_give l dC dI cy a sh n H.size F z_23 h0 r_5 hfc) (cwV 1 hts gX13_onVector_X13_give rfl rfl rfl (by decide +kernel) ⟨Nat.le_of_ble_eq_true rfl, Nat.le_of_ble_eq_true rfl⟩) ⟨fun a U g mk q => by obtain ⟨q0, q1, qP, qK, qD, qN⟩ := q; exact ⟨q0, q1, qP, va_K.moved (u := U) (U := U.calling g mk a) (Vm.Alike.refl U.vm) qK, qD, qN.same rfl⟩, va_recv hK hP (ci := 13) (q0 := h0) rfl (Wd_ob kg_2 sg_2 (by decide)), fun U hU hW => ⟨rfl, by rw [hU], by rw [hU]; exact hP, va_K.moved hW.alike hK, hD.weaken (fun _ _ _ _ => trivial), hN.warm hW⟩⟩ rfl rfl hl.1 rfl (lv_room (Nat.le_of_ble_eq_true rfl)) dX13_onVector_232 ⟨Nat.le_of_ble_eq_true rfl, Nat.le_of_ble_eq_true rfl⟩) hS (fun q _ h => hFc q h) hFc (fun u t H_26 locs ht hvm hw hB hz1 hk1 hS2 => ?_)
                        obtain ⟨hP1, -, hD1⟩ := hB
                        rw [ht] at hP1
                        replace hD := hD1.weaken (fun _ _ _ h => hFc _ h)
                        replace hP := hP1
                        replace hS := hS2
                        clear hP1 hD1 hS2 hFc hfc hz1 hk1 hvm ht
                        obtain ⟨h8, h9⟩ := ret_some hf
                        rw [h8]
                        exact W.vret hx hb hr (fun t ht hW => ⟨⟨(), rfl, trivial, by rw [ht]; exact hP, va_K.moved hW.alike hK, hD⟩, hS.F ht⟩) hS.2.2 dX13_onVector_235
                    refine de_cut (h := 198) (fun (x : St) => []) (fun x ls H locs => lv_has ls 10 [(8, .long v_19), (4, .long r_5), (0, .ref (a h0)), (1, .int x0)] ∧ va_P (dC, dI) vwCl (Wd cy a sh n x) H ∧ va_D A (Wd cy a sh n x) ∧ va_S A s.heap H locs) (fun x => fn_X13_onVector_B198 F sh n x0 r_5 h0 v_19 x) (z8, r8) ?_ (fun B198 => ?_)
                    · intro x ls H locs hI hf
                      obtain ⟨z_27, ez⟩ : ∃ w, w = x := ⟨_, rfl⟩
                      subst ez
                      obtain ⟨hl2, hP2, hD2, hS2⟩ := hI
                      replace hl : lv_has ls 10 [(8, .long v_19), (4, .long r_5), (0, .ref (a h0)), (1, .int x0)] := hl2
                      replace hP := hP2
                      replace hD := hD2
                      replace hS := hS2
                      clear hl2 hP2 hD2 hS2
                      replace hf := fn_X13_onVector_B198_s hf
                      refine W.eq (g2 := F0 m 198 ls []) rfl ?_
                      refine lv_aload_n hx hb dX13_onVector_198 rfl (lv_at hl 2 rfl) ?_
                      refine lv_iload_n hx hb dX13_onVector_199 rfl (lv_at hl 3 rfl) ?_
                      refine lv_bipush (v := 55) hx hb dX13_onVector_200 (by decide) ?_
                      refine de_cut (h := 212) (fun (x : St × Int32) => [.int x.2, .ref (a h0)]) (fun x ls H locs => lv_has ls 10 [(8, .long v_19), (4, .long r_5), (0, .ref (a h0)), (1, .int x0)] ∧ va_P (dC, dI) vwCl (Wd cy a sh n x.1) H ∧ va_D A (Wd cy a sh n x.1) ∧ va_S A s.heap H locs) (fun x => fn_X13_onVector_B212 F sh n r_5 h0 v_19 x0 x.1 x.2) (z8, r8) ?_ (fun B212 => ?_)
                      · intro x ls H locs hI hf
                        obtain ⟨z_29, p_28⟩ := x
                        obtain ⟨hl2, hP2, hD2, hS2⟩ := hI
                        replace hl : lv_has ls 10 [(8, .long v_19), (4, .long r_5), (0, .ref (a h0)), (1, .int x0)] := hl2
                        replace hP := hP2
                        replace hD := hD2
                        replace hS := hS2
                        clear hl2 hP2 hD2 hS2
                        replace hf := fn_X13_onVector_B212_s hf
                        refine W.eq (g2 := F0 m 212 ls [.int p_28, .ref (a h0)]) rfl ?_
                        refine lv_lload hx hb dX13_onVector_212 (lv_at hl 1 rfl) ?_
                        obtain ⟨z_30, r_31, hfc, hf⟩ := cal_some hf
                        have hFc := de_free hD hS hA
                        refine va_calll (va_runS (As := [.int p_28, .long r_5]) (rest := [.ref (a h0)]) ⟨hx, hb, hml, hown, hts⟩ (de_X13_before l dC dI cy a sh n H.size F z_29 p_28 r_5 hfc) (va_cwS 2 hts gX13_onVector_X13_before rfl rfl rfl (by decide +kernel) ⟨Nat.le_of_ble_eq_true rfl, Nat.le_of_ble_eq_true rfl⟩) ⟨fun a U g mk q => by obtain ⟨q0, q1, qP, qK, qD, qN⟩ := q; exact ⟨q0, q1, qP, va_K.moved (u := U) (U := U.calling g mk a) (Vm.Alike.refl U.vm) qK, qD, qN.same rfl⟩, fun U hU hW => ⟨rfl, by rw [hU], by rw [hU]; exact hP, va_K.moved hW.alike hK, hD.weaken (fun _ _ _ _ => trivial), hN.warm hW⟩⟩ rfl rfl hl.1 rfl (lv_room (Nat.le_of_ble_eq_true rfl)) dX13_onVector_214 ⟨Nat.le_of_ble_eq_true rfl, Nat.le_of_ble_eq_true rfl⟩) hS (fun q _ h => hFc q h) hFc (fun rr u t H_32 locs ht hvm hw hB hz1 hk1 hS2 => ?_)
                        rw [hw]
                        clear hw
                        obtain ⟨hP1, -, hD1⟩ := hB
                        rw [ht] at hP1
                        replace hD := hD1.weaken (fun _ _ _ h => hFc _ h)
                        replace hP := hP1
                        replace hS := hS2
                        clear hP1 hD1 hS2 hFc hfc hz1 hk1 hvm ht
                        refine lv_lload hx hb dX13_onVector_217 (lv_at hl 0 rfl) ?_
                        refine lv_iconst (v := 1) hx hb dX13_onVector_219 (by decide) ?_
                        obtain ⟨z_33, _u, hfc, hf⟩ := cal_some hf
                        have hFc := de_free hD hS hA
                        refine va_callv (va_runV (As := [.long r_31, .long v_19, .int 1]) (rest := []) ⟨hx, hb, hml, hown, hts⟩ (de_X13_push l dC dI cy a sh n H_32.size F z_30 h0 r_31 v_19 1 hfc) (cwV 3 hts gX13_onVector_X13_push rfl rfl rfl (by decide +kernel) ⟨Nat.le_of_ble_eq_true rfl, Nat.le_of_ble_eq_true rfl⟩) ⟨fun a U g mk q => by obtain ⟨q0, q1, qP, qK, qD, qN⟩ := q; exact ⟨q0, q1, qP, va_K.moved (u := U) (U := U.calling g mk a) (Vm.Alike.refl U.vm) qK, qD, qN.same rfl⟩, va_recv hK hP (ci := 13) (q0 := h0) rfl (Wd_ob kg_2 sg_2 (by decide)), fun U hU hW => ⟨rfl, by rw [hU], by rw [hU]; exact hP, va_K.moved hW.alike hK, hD.weaken (fun _ _ _ _ => trivial), hN.warm hW⟩⟩ rfl rfl hl.1 rfl (lv_room (Nat.le_of_ble_eq_true rfl)) dX13_onVector_220 ⟨Nat.le_of_ble_eq_true rfl, Nat.le_of_ble_eq_true rfl⟩) hS (fun q _ h => hFc q h) hFc (fun u t H_34 locs ht hvm hw hB hz1 hk1 hS2 => ?_)
                        obtain ⟨hP1, -, hD1⟩ := hB
                        rw [ht] at hP1
                        replace hD := hD1.weaken (fun _ _ _ h => hFc _ h)
                        replace hP := hP1
                        replace hS := hS2
                        clear hP1 hD1 hS2 hFc hfc hz1 hk1 hvm ht
                        exact B223 (z_33) ls H_34 locs ⟨lv_sub hl [1, 2, 3] rfl, hP, hD, hS⟩ hf
                      refine lv_icmp_ne (tgt := 210) hx hb dX13_onVector_202 (by decide) (fun c_35 => ?_) (fun c_35 => ?_)
                      · skip
                        rw [if_neg c_35] at hf
                        refine lv_bipush (v := 8) hx hb dX13_onVector_210 (by decide) ?_
                        exact B212 (z_27, 8) ls H locs ⟨lv_sub hl [0, 1, 2, 3] rfl, hP, hD, hS⟩ hf
                      · skip
                        rw [if_pos c_35] at hf
                        refine lv_bipush (v := 9) hx hb dX13_onVector_205 (by decide) ?_
                        refine lv_goto (tgt := 212) hx hb dX13_onVector_207 (by decide) ?_
                        exact B212 (z_27, 9) ls H locs ⟨lv_sub hl [0, 1, 2, 3] rfl, hP, hD, hS⟩ hf
                    refine lv_icmp_eq (tgt := 198) hx hb dX13_onVector_189 (by decide) (fun c_36 => ?_) (fun c_36 => ?_)
                    · skip
                      rw [if_pos c_36] at hf
                      exact B198 (z_22) ls H locs ⟨lv_sub hl [0, 1, 2, 3] rfl, hP, hD, hS⟩ hf
                    · skip
                      rw [if_neg c_36] at hf
                      refine lv_iload_n hx hb dX13_onVector_192 rfl (lv_at hl 3 rfl) ?_
                      refine lv_bipush (v := 55) hx hb dX13_onVector_193 (by decide) ?_
                      refine lv_icmp_ne (tgt := 223) hx hb dX13_onVector_195 (by decide) (fun c_37 => ?_) (fun c_37 => ?_)
                      · skip
                        rw [if_neg c_37] at hf
                        exact B223 (z_22) ls H locs ⟨lv_sub hl [1, 2, 3] rfl, hP, hD, hS⟩ hf
                      · skip
                        rw [if_pos c_37] at hf
                        exact B198 (z_22) ls H locs ⟨lv_sub hl [0, 1, 2, 3] rfl, hP, hD, hS⟩ hf
                  refine lv_icmp_ne (tgt := 186) hx hb dX13_onVector_176 (by decide) (fun c_38 => ?_) (fun c_38 => ?_)
                  · skip
                    rw [if_neg c_38] at hf
                    exact B186 (z_21) ls H locs ⟨lv_sub hl [0, 1, 2, 3] rfl, hP, hD, hS⟩ hf
                  · skip
                    rw [if_pos c_38] at hf
                    refine lv_aload_n hx hb dX13_onVector_179 rfl (lv_at hl 2 rfl) ?_
                    refine lv_ldc2 hx hb hown (hts _ md_X13_onVector_3) dX13_onVector_180 ?_
                    obtain ⟨z_39, _u, hfc, hf⟩ := cal_some hf
                    have hFc := de_free hD hS hA
                    refine va_callv (va_runV (As := [.long 3]) (rest := []) ⟨hx, hb, hml, hown, hts⟩ (de_X13_give l dC dI cy a sh n H.size F z_21 h0 3 hfc) (cwV 1 hts gX13_onVector_X13_give rfl rfl rfl (by decide +kernel) ⟨Nat.le_of_ble_eq_true rfl, Nat.le_of_ble_eq_true rfl⟩) ⟨fun a U g mk q => by obtain ⟨q0, q1, qP, qK, qD, qN⟩ := q; exact ⟨q0, q1, qP, va_K.moved (u := U) (U := U.calling g mk a) (Vm.Alike.refl U.vm) qK, qD, qN.same rfl⟩, va_recv hK hP (ci := 13) (q0 := h0) rfl (Wd_ob kg_2 sg_2 (by decide)), fun U hU hW => ⟨rfl, by rw [hU], by rw [hU]; exact hP, va_K.moved hW.alike hK, hD.weaken (fun _ _ _ _ => trivial), hN.warm hW⟩⟩ rfl rfl hl.1 rfl (lv_room (Nat.le_of_ble_eq_true rfl)) dX13_onVector_183 ⟨Nat.le_of_ble_eq_true rfl, Nat.le_of_ble_eq_true rfl⟩) hS (fun q _ h => hFc q h) hFc (fun u t H_40 locs ht hvm hw hB hz1 hk1 hS2 => ?_)
                    obtain ⟨hP1, -, hD1⟩ := hB
                    rw [ht] at hP1
                    replace hD := hD1.weaken (fun _ _ _ h => hFc _ h)
                    replace hP := hP1
                    replace hS := hS2
                    clear hP1 hD1 hS2 hFc hfc hz1 hk1 hvm ht
                    exact B186 (z_39) ls H_40 locs ⟨lv_sub hl [0, 1, 2, 3] rfl, hP, hD, hS⟩ hf
                refine lv_icmp_le (tgt := 173) hx hb dX13_onVector_158 (by decide) (fun c_41 => ?_) (fun c_41 => ?_)
                · skip
                  rw [if_pos c_41] at hf
                  exact B173 (z_17) ls H_18 locs ⟨lv_sub hl [0, 1, 2, 3] rfl, hP, hD, hS⟩ hf
                · skip
                  rw [if_neg c_41] at hf
                  refine lv_aload_n hx hb dX13_onVector_161 rfl (lv_at hl 2 rfl) ?_
                  refine lv_aload_n hx hb dX13_onVector_162 rfl (lv_at hl 2 rfl) ?_
                  refine lv_lload hx hb dX13_onVector_163 (lv_at hl 0 rfl) ?_
                  obtain ⟨z_42, r_43, hfc, hf⟩ := cal_some hf
                  have hFc := de_free hD hS hA
                  refine va_calli (va_runV (As := [.long v_19]) (rest := [.ref (a h0)]) ⟨hx, hb, hml, hown, hts⟩ (de_X13_isSole l dC dI cy a sh n H_18.size F z_17 h0 v_19 hfc) (cwV 1 hts gX13_onVector_X13_isSole rfl rfl rfl (by decide +kernel) ⟨Nat.le_of_ble_eq_true rfl, Nat.le_of_ble_eq_true rfl⟩) ⟨fun a U g mk q => by obtain ⟨q0, q1, qP, qK, qD, qN⟩ := q; exact ⟨q0, q1, qP, va_K.moved (u := U) (U := U.calling g mk a) (Vm.Alike.refl U.vm) qK, qD, qN.same rfl⟩, va_recv hK hP (ci := 13) (q0 := h0) rfl (Wd_ob kg_2 sg_2 (by decide)), fun U hU hW => ⟨rfl, by rw [hU], by rw [hU]; exact hP, va_K.moved hW.alike hK, hD.weaken (fun _ _ _ _ => trivial), hN.warm hW⟩⟩ rfl rfl hl.1 rfl (lv_room (Nat.le_of_ble_eq_true rfl)) dX13_onVector_165 ⟨Nat.le_of_ble_eq_true rfl, Nat.le_of_ble_eq_true rfl⟩) hS (fun q _ h => hFc q h) hFc (fun rr u t H_44 locs ht hvm hw hB hz1 hk1 hS2 => ?_)
                  rw [hw]
                  clear hw
                  obtain ⟨hP1, -, hD1⟩ := hB
                  rw [ht] at hP1
                  replace hD := hD1.weaken (fun _ _ _ h => hFc _ h)
                  replace hP := hP1
                  replace hS := hS2
                  clear hP1 hD1 hS2 hFc hfc hz1 hk1 hvm ht
                  refine lv_bipush (v := 6) hx hb dX13_onVector_168 (by decide) ?_
                  obtain ⟨z_45, _u, hfc, hf⟩ := cal_some hf
                  have hFc := de_free hD hS hA
                  refine va_callv (va_runV (As := [.int r_43, .int 6]) (rest := []) ⟨hx, hb, hml, hown, hts⟩ (de_X13_need l dC dI cy a sh n H_44.size F z_42 h0 r_43 6 hfc) (cwV 2 hts gX13_onVector_X13_need rfl rfl rfl (by decide +kernel) ⟨Nat.le_of_ble_eq_true rfl, Nat.le_of_ble_eq_true rfl⟩) ⟨fun a U g mk q => by obtain ⟨q0, q1, qP, qK, qD, qN⟩ := q; exact ⟨q0, q1, qP, va_K.moved (u := U) (U := U.calling g mk a) (Vm.Alike.refl U.vm) qK, qD, qN.same rfl⟩, va_recv hK hP (ci := 13) (q0 := h0) rfl (Wd_ob kg_2 sg_2 (by decide)), fun U hU hW => ⟨rfl, by rw [hU], by rw [hU]; exact hP, va_K.moved hW.alike hK, hD.weaken (fun _ _ _ _ => trivial), hN.warm hW⟩⟩ rfl rfl hl.1 rfl (lv_room (Nat.le_of_ble_eq_true rfl)) dX13_onVector_170 ⟨Nat.le_of_ble_eq_true rfl, Nat.le_of_ble_eq_true rfl⟩) hS (fun q _ h => hFc q h) hFc (fun u t H_46 locs ht hvm hw hB hz1 hk1 hS2 => ?_)
                  obtain ⟨hP1, -, hD1⟩ := hB
                  rw [ht] at hP1
                  replace hD := hD1.weaken (fun _ _ _ h => hFc _ h)
                  replace hP := hP1
                  replace hS := hS2
                  clear hP1 hD1 hS2 hFc hfc hz1 hk1 hvm ht
                  exact B173 (z_45) ls H_46 locs ⟨lv_sub hl [0, 1, 2, 3] rfl, hP, hD, hS⟩ hf
              · skip
                rw [if_neg c_20] at hf
                obtain ⟨h8, h9⟩ := ret_some hf
                rw [h8]
                exact W.vret hx hb hr (fun t ht hW => ⟨⟨(), rfl, trivial, by rw [ht]; exact hP, va_K.moved hW.alike hK, hD⟩, hS.F ht⟩) hS.2.2 dX13_onVector_154
            refine lv_icmp_le (tgt := 137) hx hb dX13_onVector_130 (by decide) (fun c_47 => ?_) (fun c_47 => ?_)
            · skip
              rw [if_pos c_47] at hf
              refine lv_iconst (v := 0) hx hb dX13_onVector_137 (by decide) ?_
              exact B138 (z_14, 0) ls H locs ⟨lv_sub hl [1, 2, 3] rfl, hP, hD, hS⟩ hf
            · skip
              rw [if_neg c_47] at hf
              refine lv_iconst (v := 1) hx hb dX13_onVector_133 (by decide) ?_
              refine lv_goto (tgt := 138) hx hb dX13_onVector_134 (by decide) ?_
              exact B138 (z_14, 1) ls H locs ⟨lv_sub hl [1, 2, 3] rfl, hP, hD, hS⟩ hf
          refine lv_icmp_ne (tgt := 124) hx hb dX13_onVector_115 (by decide) (fun c_48 => ?_) (fun c_48 => ?_)
          · skip
            rw [if_neg c_48] at hf
            exact B124 (z_13) ls H locs ⟨lv_sub hl [0, 1, 2, 3] rfl, hP, hD, hS⟩ hf
          · skip
            rw [if_pos c_48] at hf
            refine lv_aload_n hx hb dX13_onVector_118 rfl (lv_at hl 2 rfl) ?_
            refine lv_lload hx hb dX13_onVector_119 (lv_at hl 1 rfl) ?_
            obtain ⟨z_49, _u, hfc, hf⟩ := cal_some hf
            have hFc := de_free hD hS hA
            refine va_callv (va_runV (As := [.long r_5]) (rest := []) ⟨hx, hb, hml, hown, hts⟩ (de_X13_take_ l dC dI cy a sh n H.size F z_13 h0 r_5 hfc) (cwV 1 hts gX13_onVector_X13_take_ rfl rfl rfl (by decide +kernel) ⟨Nat.le_of_ble_eq_true rfl, Nat.le_of_ble_eq_true rfl⟩) ⟨fun a U g mk q => by obtain ⟨q0, q1, qP, qK, qD, qN⟩ := q; exact ⟨q0, q1, qP, va_K.moved (u := U) (U := U.calling g mk a) (Vm.Alike.refl U.vm) qK, qD, qN.same rfl⟩, va_recv hK hP (ci := 13) (q0 := h0) rfl (Wd_ob kg_2 sg_2 (by decide)), fun U hU hW => ⟨rfl, by rw [hU], by rw [hU]; exact hP, va_K.moved hW.alike hK, hD.weaken (fun _ _ _ _ => trivial), hN.warm hW⟩⟩ rfl rfl hl.1 rfl (lv_room (Nat.le_of_ble_eq_true rfl)) dX13_onVector_121 ⟨Nat.le_of_ble_eq_true rfl, Nat.le_of_ble_eq_true rfl⟩) hS (fun q _ h => hFc q h) hFc (fun u t H_50 locs ht hvm hw hB hz1 hk1 hS2 => ?_)
            obtain ⟨hP1, -, hD1⟩ := hB
            rw [ht] at hP1
            replace hD := hD1.weaken (fun _ _ _ h => hFc _ h)
            replace hP := hP1
            replace hS := hS2
            clear hP1 hD1 hS2 hFc hfc hz1 hk1 hvm ht
            exact B124 (z_49) ls H_50 locs ⟨lv_sub hl [0, 1, 2, 3] rfl, hP, hD, hS⟩ hf
        refine lv_icmp_ne (tgt := 112) hx hb dX13_onVector_102 (by decide) (fun c_51 => ?_) (fun c_51 => ?_)
        · skip
          rw [if_neg c_51] at hf
          exact B112 (z_12) ls H locs ⟨lv_sub hl [0, 1, 2, 3] rfl, hP, hD, hS⟩ hf
        · skip
          rw [if_pos c_51] at hf
          refine lv_aload_n hx hb dX13_onVector_105 rfl (lv_at hl 2 rfl) ?_
          refine lv_ldc2 hx hb hown (hts _ md_X13_onVector_3) dX13_onVector_106 ?_
          obtain ⟨z_52, _u, hfc, hf⟩ := cal_some hf
          have hFc := de_free hD hS hA
          refine va_callv (va_runV (As := [.long 3]) (rest := []) ⟨hx, hb, hml, hown, hts⟩ (de_X13_take_ l dC dI cy a sh n H.size F z_12 h0 3 hfc) (cwV 1 hts gX13_onVector_X13_take_ rfl rfl rfl (by decide +kernel) ⟨Nat.le_of_ble_eq_true rfl, Nat.le_of_ble_eq_true rfl⟩) ⟨fun a U g mk q => by obtain ⟨q0, q1, qP, qK, qD, qN⟩ := q; exact ⟨q0, q1, qP, va_K.moved (u := U) (U := U.calling g mk a) (Vm.Alike.refl U.vm) qK, qD, qN.same rfl⟩, va_recv hK hP (ci := 13) (q0 := h0) rfl (Wd_ob kg_2 sg_2 (by decide)), fun U hU hW => ⟨rfl, by rw [hU], by rw [hU]; exact hP, va_K.moved hW.alike hK, hD.weaken (fun _ _ _ _ => trivial), hN.warm hW⟩⟩ rfl rfl hl.1 rfl (lv_room (Nat.le_of_ble_eq_true rfl)) dX13_onVector_109 ⟨Nat.le_of_ble_eq_true rfl, Nat.le_of_ble_eq_true rfl⟩) hS (fun q _ h => hFc q h) hFc (fun u t H_53 locs ht hvm hw hB hz1 hk1 hS2 => ?_)
          obtain ⟨hP1, -, hD1⟩ := hB
          rw [ht] at hP1
          replace hD := hD1.weaken (fun _ _ _ h => hFc _ h)
          replace hP := hP1
          replace hS := hS2
          clear hP1 hD1 hS2 hFc hfc hz1 hk1 hvm ht
          exact B112 (z_52) ls H_53 locs ⟨lv_sub hl [0, 1, 2, 3] rfl, hP, hD, hS⟩ hf
      refine de_cut (h := 92) (fun (x : St) => []) (fun x ls H locs => lv_has ls 10 [(6, .long r_9), (4, .long r_5), (0, .ref (a h0)), (1, .int x0)] ∧ va_P (dC, dI) vwCl (Wd cy a sh n x) H ∧ va_D A (Wd cy a sh n x) ∧ va_S A s.heap H locs) (fun x => fn_X13_onVector_B92 F sh n h0 x0 r_5 r_9 x) (z8, r8) ?_ (fun B92 => ?_)
      · intro x ls H locs hI hf
        obtain ⟨z_54, ez⟩ : ∃ w, w = x := ⟨_, rfl⟩
        subst ez
        obtain ⟨hl2, hP2, hD2, hS2⟩ := hI
        replace hl : lv_has ls 10 [(6, .long r_9), (4, .long r_5), (0, .ref (a h0)), (1, .int x0)] := hl2
        replace hP := hP2
        replace hD := hD2
        replace hS := hS2
        clear hl2 hP2 hD2 hS2
        replace hf := fn_X13_onVector_B92_s hf
        refine W.eq (g2 := F0 m 92 ls []) rfl ?_
        refine lv_aload_n hx hb dX13_onVector_92 rfl (lv_at hl 2 rfl) ?_
        refine lv_ldc2 hx hb hown (hts _ md_X13_onVector_3) dX13_onVector_93 ?_
        obtain ⟨z_55, _u, hfc, hf⟩ := cal_some hf
        have hFc := de_free hD hS hA
        refine va_callv (va_runV (As := [.long 3]) (rest := []) ⟨hx, hb, hml, hown, hts⟩ (de_X13_take_ l dC dI cy a sh n H.size F z_54 h0 3 hfc) (cwV 1 hts gX13_onVector_X13_take_ rfl rfl rfl (by decide +kernel) ⟨Nat.le_of_ble_eq_true rfl, Nat.le_of_ble_eq_true rfl⟩) ⟨fun a U g mk q => by obtain ⟨q0, q1, qP, qK, qD, qN⟩ := q; exact ⟨q0, q1, qP, va_K.moved (u := U) (U := U.calling g mk a) (Vm.Alike.refl U.vm) qK, qD, qN.same rfl⟩, va_recv hK hP (ci := 13) (q0 := h0) rfl (Wd_ob kg_2 sg_2 (by decide)), fun U hU hW => ⟨rfl, by rw [hU], by rw [hU]; exact hP, va_K.moved hW.alike hK, hD.weaken (fun _ _ _ _ => trivial), hN.warm hW⟩⟩ rfl rfl hl.1 rfl (lv_room (Nat.le_of_ble_eq_true rfl)) dX13_onVector_96 ⟨Nat.le_of_ble_eq_true rfl, Nat.le_of_ble_eq_true rfl⟩) hS (fun q _ h => hFc q h) hFc (fun u t H_56 locs ht hvm hw hB hz1 hk1 hS2 => ?_)
        obtain ⟨hP1, -, hD1⟩ := hB
        rw [ht] at hP1
        replace hD := hD1.weaken (fun _ _ _ h => hFc _ h)
        replace hP := hP1
        replace hS := hS2
        clear hP1 hD1 hS2 hFc hfc hz1 hk1 hvm ht
        exact B99 (z_55) ls H_56 locs ⟨lv_sub hl [0, 1, 2, 3] rfl, hP, hD, hS⟩ hf
      refine lv_icmp_eq (tgt := 92) hx hb dX13_onVector_77 (by decide) (fun c_57 => ?_) (fun c_57 => ?_)
      · skip
        rw [if_pos c_57] at hf
        exact B92 (z_8) ls H_10 locs ⟨lv_sub hl [0, 1, 2, 3] rfl, hP, hD, hS⟩ hf
      · skip
        rw [if_neg c_57] at hf
        refine lv_iload_n hx hb dX13_onVector_80 rfl (lv_at hl 3 rfl) ?_
        refine lv_bipush (v := 55) hx hb dX13_onVector_81 (by decide) ?_
        refine lv_icmp_eq (tgt := 92) hx hb dX13_onVector_83 (by decide) (fun c_58 => ?_) (fun c_58 => ?_)
        · skip
          rw [if_pos c_58] at hf
          exact B92 (z_8) ls H_10 locs ⟨lv_sub hl [0, 1, 2, 3] rfl, hP, hD, hS⟩ hf
        · skip
          rw [if_neg c_58] at hf
          refine lv_iload_n hx hb dX13_onVector_86 rfl (lv_at hl 3 rfl) ?_
          refine lv_bipush (v := 58) hx hb dX13_onVector_87 (by decide) ?_
          refine lv_icmp_ne (tgt := 99) hx hb dX13_onVector_89 (by decide) (fun c_59 => ?_) (fun c_59 => ?_)
          · skip
            rw [if_neg c_59] at hf
            exact B99 (z_8) ls H_10 locs ⟨lv_sub hl [0, 1, 2, 3] rfl, hP, hD, hS⟩ hf
          · skip
            rw [if_pos c_59] at hf
            exact B92 (z_8) ls H_10 locs ⟨lv_sub hl [0, 1, 2, 3] rfl, hP, hD, hS⟩ hf
    · skip
      rw [if_pos c_11] at hf
      refine lv_iconst (v := 0) hx hb dX13_onVector_46 (by decide) ?_
      refine lv_istore (lv' := [(8, .int 0), (6, .long r_9), (4, .long r_5), (0, .ref (a h0)), (1, .int x0), (2, .int x1), (3, .int x2)]) hx hb dX13_onVector_47 hl (by decide) rfl (fun ls hl2 => ?_)
      replace hl := hl2
      clear hl2
      have hl0 : lv_has ls 10 [(8, .int 0), (6, .long r_9), (4, .long r_5), (0, .ref (a h0)), (3, .int x2)] := lv_sub hl [0, 1, 2, 3, 6] rfl
      refine de_loop (h := 49) (fun (x : St × Int32) ls H locs => lv_has ls 10 [(8, .int x.2), (6, .long r_9), (4, .long r_5), (0, .ref (a h0)), (3, .int x2)] ∧ va_P (dC, dI) vwCl (Wd cy a sh n x.1) H ∧ va_D A (Wd cy a sh n x.1) ∧ va_S A s.heap H locs) (fun f x => fn_X13_onVector_L49 F sh n x2 h0 r_9 r_5 f x.1 x.2) (z8, r8) ?_ (fun _ => rfl) F (z_8, 0) ls H_10 locs ⟨hl0, hP, hD, hS⟩ hf
      intro f_62 x ls H locs ih49 hI hf
      obtain ⟨z_61, p_60⟩ := x
      obtain ⟨hl2, hP2, hD2, hS2⟩ := hI
      replace hl : lv_has ls 10 [(8, .int p_60), (6, .long r_9), (4, .long r_5), (0, .ref (a h0)), (3, .int x2)] := hl2
      replace hP := hP2
      replace hD := hD2
      replace hS := hS2
      clear hl2 hP2 hD2 hS2 hl0
      replace hf := fn_X13_onVector_L49_s hf
      refine lv_iload hx hb dX13_onVector_49 (lv_at hl 0 rfl) ?_
      refine lv_iload_n hx hb dX13_onVector_51 rfl (lv_at hl 4 rfl) ?_
      refine lv_icmp_ge (tgt := 67) hx hb dX13_onVector_52 (by decide) (fun c_63 => ?_) (fun c_63 => ?_)
      · skip
        rw [if_pos c_63] at hf
        refine lv_aload_n hx hb dX13_onVector_67 rfl (lv_at hl 3 rfl) ?_
        refine lv_lload hx hb dX13_onVector_68 (lv_at hl 1 rfl) ?_
        obtain ⟨z_64, _u, hfc, hf⟩ := cal_some hf
        have hFc := de_free hD hS hA
        refine va_callv (va_runV (As := [.long r_9]) (rest := []) ⟨hx, hb, hml, hown, hts⟩ (de_X13_give l dC dI cy a sh n H.size F z_61 h0 r_9 hfc) (cwV 1 hts gX13_onVector_X13_give rfl rfl rfl (by decide +kernel) ⟨Nat.le_of_ble_eq_true rfl, Nat.le_of_ble_eq_true rfl⟩) ⟨fun a U g mk q => by obtain ⟨q0, q1, qP, qK, qD, qN⟩ := q; exact ⟨q0, q1, qP, va_K.moved (u := U) (U := U.calling g mk a) (Vm.Alike.refl U.vm) qK, qD, qN.same rfl⟩, va_recv hK hP (ci := 13) (q0 := h0) rfl (Wd_ob kg_2 sg_2 (by decide)), fun U hU hW => ⟨rfl, by rw [hU], by rw [hU]; exact hP, va_K.moved hW.alike hK, hD.weaken (fun _ _ _ _ => trivial), hN.warm hW⟩⟩ rfl rfl hl.1 rfl (lv_room (Nat.le_of_ble_eq_true rfl)) dX13_onVector_70 ⟨Nat.le_of_ble_eq_true rfl, Nat.le_of_ble_eq_true rfl⟩) hS (fun q _ h => hFc q h) hFc (fun u t H_65 locs ht hvm hw hB hz1 hk1 hS2 => ?_)
        obtain ⟨hP1, -, hD1⟩ := hB
        rw [ht] at hP1
        replace hD := hD1.weaken (fun _ _ _ h => hFc _ h)
        replace hP := hP1
        replace hS := hS2
        clear hP1 hD1 hS2 hFc hfc hz1 hk1 hvm ht
        obtain ⟨h8, h9⟩ := ret_some hf
        rw [h8]
        exact W.vret hx hb hr (fun t ht hW => ⟨⟨(), rfl, trivial, by rw [ht]; exact hP, va_K.moved hW.alike hK, hD⟩, hS.F ht⟩) hS.2.2 dX13_onVector_73
      · skip
        rw [if_neg c_63] at hf
        refine lv_aload_n hx hb dX13_onVector_55 rfl (lv_at hl 3 rfl) ?_
        refine lv_lload hx hb dX13_onVector_56 (lv_at hl 2 rfl) ?_
        obtain ⟨z_66, _u, hfc, hf⟩ := cal_some hf
        have hFc := de_free hD hS hA
        refine va_callv (va_runV (As := [.long r_5]) (rest := []) ⟨hx, hb, hml, hown, hts⟩ (de_X13_take_ l dC dI cy a sh n H.size F z_61 h0 r_5 hfc) (cwV 1 hts gX13_onVector_X13_take_ rfl rfl rfl (by decide +kernel) ⟨Nat.le_of_ble_eq_true rfl, Nat.le_of_ble_eq_true rfl⟩) ⟨fun a U g mk q => by obtain ⟨q0, q1, qP, qK, qD, qN⟩ := q; exact ⟨q0, q1, qP, va_K.moved (u := U) (U := U.calling g mk a) (Vm.Alike.refl U.vm) qK, qD, qN.same rfl⟩, va_recv hK hP (ci := 13) (q0 := h0) rfl (Wd_ob kg_2 sg_2 (by decide)), fun U hU hW => ⟨rfl, by rw [hU], by rw [hU]; exact hP, va_K.moved hW.alike hK, hD.weaken (fun _ _ _ _ => trivial), hN.warm hW⟩⟩ rfl rfl hl.1 rfl (lv_room (Nat.le_of_ble_eq_true rfl)) dX13_onVector_58 ⟨Nat.le_of_ble_eq_true rfl, Nat.le_of_ble_eq_true rfl⟩) hS (fun q _ h => hFc q h) hFc (fun u t H_67 locs ht hvm hw hB hz1 hk1 hS2 => ?_)
        obtain ⟨hP1, -, hD1⟩ := hB
        rw [ht] at hP1
        replace hD := hD1.weaken (fun _ _ _ h => hFc _ h)
        replace hP := hP1
        replace hS := hS2
        clear hP1 hD1 hS2 hFc hfc hz1 hk1 hvm ht
        refine lv_iinc (v := (p_60 + 1)) (lv' := [(8, .int (p_60 + 1)), (6, .long r_9), (4, .long r_5), (0, .ref (a h0)), (3, .int x2)]) hx hb dX13_onVector_61 hl (k := 0) rfl rfl (by decide) rfl (fun ls hl2 => ?_)
        replace hl := hl2
        clear hl2
        refine lv_goto (tgt := 49) hx hb dX13_onVector_64 (by decide) ?_
        exact ih49 (z_66, (p_60 + 1)) ls H_67 locs ⟨lv_sub hl [0, 1, 2, 3, 4] rfl, hP, hD, hS⟩ hf
  · skip
    rw [if_pos c_1] at hf
    refine lv_aload_n hx hb dX13_onVector_6 rfl (lv_at hl 0 rfl) ?_
    refine lv_ldc2 hx hb hown (hts _ md_X13_onVector_1) dX13_onVector_7 ?_
    obtain ⟨g_69, hf⟩ := grd_some hf
    obtain ⟨kg_69, sg_69⟩ := okO_at g_69
    obtain ⟨z_68, _u, hfc, hf⟩ := cal_some hf
    have hFc := de_free hD hS hA
    refine va_callv (va_runV (As := [.long 1794]) (rest := []) ⟨hx, hb, hml, hown, hts⟩ (de_X13_take_ l dC dI cy a sh n H.size F z h0 1794 hfc) (cwV 1 hts gX13_onVector_X13_take_ rfl rfl rfl (by decide +kernel) ⟨Nat.le_of_ble_eq_true rfl, Nat.le_of_ble_eq_true rfl⟩) ⟨fun a U g mk q => by obtain ⟨q0, q1, qP, qK, qD, qN⟩ := q; exact ⟨q0, q1, qP, va_K.moved (u := U) (U := U.calling g mk a) (Vm.Alike.refl U.vm) qK, qD, qN.same rfl⟩, va_recv hK hP (ci := 13) (q0 := h0) rfl (Wd_ob kg_69 sg_69 (by decide)), fun U hU hW => ⟨rfl, by rw [hU], by rw [hU]; exact hP, va_K.moved hW.alike hK, hD.weaken (fun _ _ _ _ => trivial), hN.warm hW⟩⟩ rfl rfl hl.1 rfl (lv_room (Nat.le_of_ble_eq_true rfl)) dX13_onVector_10 ⟨Nat.le_of_ble_eq_true rfl, Nat.le_of_ble_eq_true rfl⟩) hS (fun q _ h => hFc q h) hFc (fun u t H_70 locs ht hvm hw hB hz1 hk1 hS2 => ?_)
    obtain ⟨hP1, -, hD1⟩ := hB
    rw [ht] at hP1
    replace hD := hD1.weaken (fun _ _ _ h => hFc _ h)
    replace hP := hP1
    replace hS := hS2
    clear hP1 hD1 hS2 hFc hfc hz1 hk1 hvm ht
    refine lv_aload_n hx hb dX13_onVector_13 rfl (lv_at hl 0 rfl) ?_
    refine lv_ldc2 hx hb hown (hts _ md_X13_onVector_1) dX13_onVector_14 ?_
    obtain ⟨z_71, _u, hfc, hf⟩ := cal_some hf
    have hFc := de_free hD hS hA
    refine va_callv (va_runV (As := [.long 1794]) (rest := []) ⟨hx, hb, hml, hown, hts⟩ (de_X13_give l dC dI cy a sh n H_70.size F z_68 h0 1794 hfc) (cwV 1 hts gX13_onVector_X13_give rfl rfl rfl (by decide +kernel) ⟨Nat.le_of_ble_eq_true rfl, Nat.le_of_ble_eq_true rfl⟩) ⟨fun a U g mk q => by obtain ⟨q0, q1, qP, qK, qD, qN⟩ := q; exact ⟨q0, q1, qP, va_K.moved (u := U) (U := U.calling g mk a) (Vm.Alike.refl U.vm) qK, qD, qN.same rfl⟩, va_recv hK hP (ci := 13) (q0 := h0) rfl (Wd_ob kg_69 sg_69 (by decide)), fun U hU hW => ⟨rfl, by rw [hU], by rw [hU]; exact hP, va_K.moved hW.alike hK, hD.weaken (fun _ _ _ _ => trivial), hN.warm hW⟩⟩ rfl rfl hl.1 rfl (lv_room (Nat.le_of_ble_eq_true rfl)) dX13_onVector_17 ⟨Nat.le_of_ble_eq_true rfl, Nat.le_of_ble_eq_true rfl⟩) hS (fun q _ h => hFc q h) hFc (fun u t H_72 locs ht hvm hw hB hz1 hk1 hS2 => ?_)
    obtain ⟨hP1, -, hD1⟩ := hB
    rw [ht] at hP1
    replace hD := hD1.weaken (fun _ _ _ h => hFc _ h)
    replace hP := hP1
    replace hS := hS2
    clear hP1 hD1 hS2 hFc hfc hz1 hk1 hvm ht
    obtain ⟨h8, h9⟩ := ret_some hf
    rw [h8]
    exact W.vret hx hb hr (fun t ht hW => ⟨⟨(), rfl, trivial, by rw [ht]; exact hP, va_K.moved hW.alike hK, hD⟩, hS.F ht⟩) hS.2.2 dX13_onVector_20

theorem md_X13_onReference_1 : (.fieldLink RX13 48 "ResourceLedgerModel$Looker" "fault" "I" : Cond) ∈ wsX13_onReference := List.mem_of_getElem? (i := 1) rfl
theorem iwd_X13_onReference_X13 : ∀ w ∈ wsX130, w ∈ wsX13_onReference := fun _ h => List.mem_cons_of_mem _ (List.mem_append_left _ (List.mem_append_right _ h))
theorem md_X13_onReference_2 : (.fieldLink RX13 72 "ResourceLedgerModel$Looker" "unit" "LResourceLedgerModel$Unit;" : Cond) ∈ wsX13_onReference := List.mem_of_getElem? (i := 2) rfl
theorem md_X13_onReference_3 : (.fieldLink RX13 103 "ResourceLedgerModel$Looker" "takenOrigins" "J" : Cond) ∈ wsX13_onReference := List.mem_of_getElem? (i := 3) rfl
theorem md_X13_onReference_4 : (.fieldLink RX13 99 "ResourceLedgerModel$Looker" "taken" "J" : Cond) ∈ wsX13_onReference := List.mem_of_getElem? (i := 4) rfl
theorem md_X13_onReference_5 : (.fieldLink RX13 106 "ResourceLedgerModel$Looker" "takenInside" "Z" : Cond) ∈ wsX13_onReference := List.mem_of_getElem? (i := 5) rfl
set_option maxHeartbeats 4000000 in
set_option maxRecDepth 100000 in
theorem de_X13_onReference (l : Launch) (dC : Nat → ClassId) (dI : Nat → Nat → Nat) (cy : Nat → ClassId) (a : Nat → Nat) (sh : Nat → Nat × Nat) (n sz : Nat) (F : Nat) (z : St) (h0 : Nat) (x0 : Int32) (x1 : Int32) (x2 : Int32) {z8 : St} {r8 : Unit} (hf : fn_X13_onReference F sh n z h0 x0 x1 x2 = some (z8, r8)) : Met l yX13_onReference wsX13_onReference ({ frames := 4, cells := 0, slots := 0, locals := 94 }) (va_Pc [.ref (a h0), .int x0, .int x1, .int x2] (fun U => U.heap.size = sz ∧ va_P (dC, dI) vwCl (Wd cy a sh n z) U.heap ∧ va_K (dC, dI) vwCl (TYS cy) U ∧ va_D (fun _ => True) (Wd cy a sh n z) ∧ NK U)) (va_Qv (fun u : Unit => True) (fun u t => va_P (dC, dI) vwCl (Wd cy a sh n z8) t.heap ∧ va_K (dC, dI) vwCl (TYS cy) t ∧ va_D (va_A (Wd cy a sh n z) sz) (Wd cy a sh n z8)) (va_A (Wd cy a sh n z) sz)) 0 0 (va_A (Wd cy a sh n z) sz) := by
  refine Met.ofW (cc := cX13_onReference) (maxL := 6) (ret := none) (by decide) rfl ?_
  intro p e s m args below meth c s₁ B hml hv
  obtain ⟨rfl, hsz, hP, hK, hD0, hN⟩ := hv
  have hx := B.exec
  have hb := B.bytes
  have hr := B.returns
  have hts := atoms_spec (ws := wsX13_onReference) B.pre
  have hown : s.vm.findClass RX13 = some m.cls := findClass_of_methodNamed B.named
  have hlocks := B.notSynchronized
  subst hsz
  have hD := hD0.self (sz := s.heap.size)
  clear hD0
  generalize hAe : va_A (Wd cy a sh n z) s.heap.size = A at hD ⊢
  have hA : ∀ q : Nat, s.heap.size ≤ q → A q := fun q h => by rw [← hAe]; exact Or.inr h
  clear hAe
  have hS : va_S A s.heap s.heap [] := va_S.rf
  have hl := lv_entry ([.ref (a h0), .int x0, .int x1, .int x2]) (n := 6) (Nat.le_of_ble_eq_true rfl)
  rw [lg_entry_eq]
  generalize (lg_sl ([.ref (a h0), .int x0, .int x1, .int x2]) ++ List.replicate (6 - (lg_sl ([.ref (a h0), .int x0, .int x1, .int x2])).length) Slot.unset).toArray = ls at hl ⊢
  replace hl : lv_has ls 6 [(0, .ref (a h0)), (1, .int x0), (2, .int x1), (3, .int x2)] := hl
  unfold fn_X13_onReference at hf
  refine de_start hS hP (fun H locs hS hP => ?_)
  refine lv_iload_n hx hb dX13_onReference_0 rfl (lv_at hl 1 rfl) ?_
  refine lv_bipush (v := 16) hx hb dX13_onReference_1 (by decide) ?_
  refine de_cut (h := 12) (fun (x : St) => []) (fun x ls H locs => lv_has ls 6 [(0, .ref (a h0)), (1, .int x0), (2, .int x1), (3, .int x2)] ∧ va_P (dC, dI) vwCl (Wd cy a sh n x) H ∧ va_D A (Wd cy a sh n x) ∧ va_S A s.heap H locs) (fun x => fn_X13_onReference_B12 F sh n x1 x0 h0 x2 x) (z8, r8) ?_ (fun B12 => ?_)
  · intro x ls H locs hI hf
    obtain ⟨z_1, ez⟩ : ∃ w, w = x := ⟨_, rfl⟩
    subst ez
    obtain ⟨hl2, hP2, hD2, hS2⟩ := hI
    replace hl : lv_has ls 6 [(0, .ref (a h0)), (1, .int x0), (2, .int x1), (3, .int x2)] := hl2
    replace hP := hP2
    replace hD := hD2
    replace hS := hS2
    clear hl2 hP2 hD2 hS2
    replace hf := fn_X13_onReference_B12_s hf
    refine W.eq (g2 := F0 m 12 ls []) rfl ?_
    refine lv_aload_n hx hb dX13_onReference_12 rfl (lv_at hl 0 rfl) ?_
    refine lv_iload_n hx hb dX13_onReference_13 rfl (lv_at hl 2 rfl) ?_
    obtain ⟨z_2, r_3, hfc, hf⟩ := cal_some hf
    have hFc := de_free hD hS hA
    refine va_calll (va_runS (As := [.int x1]) (rest := [.ref (a h0)]) ⟨hx, hb, hml, hown, hts⟩ (de_X13_structureType l dC dI cy a sh n H.size F z_1 x1 hfc) (va_cwS 1 hts gX13_onReference_X13_structureType rfl rfl rfl (by decide +kernel) ⟨Nat.le_of_ble_eq_true rfl, Nat.le_of_ble_eq_true rfl⟩) ⟨fun a U g mk q => by obtain ⟨q0, q1, qP, qK, qD, qN⟩ := q; exact ⟨q0, q1, qP, va_K.moved (u := U) (U := U.calling g mk a) (Vm.Alike.refl U.vm) qK, qD, qN.same rfl⟩, fun U hU hW => ⟨rfl, by rw [hU], by rw [hU]; exact hP, va_K.moved hW.alike hK, hD.weaken (fun _ _ _ _ => trivial), hN.warm hW⟩⟩ rfl rfl hl.1 rfl (lv_room (Nat.le_of_ble_eq_true rfl)) dX13_onReference_14 ⟨Nat.le_of_ble_eq_true rfl, Nat.le_of_ble_eq_true rfl⟩) hS (fun q _ h => hFc q h) hFc (fun rr u t H_4 locs ht hvm hw hB hz1 hk1 hS2 => ?_)
    rw [hw]
    clear hw
    obtain ⟨hP1, -, hD1⟩ := hB
    rw [ht] at hP1
    replace hD := hD1.weaken (fun _ _ _ h => hFc _ h)
    replace hP := hP1
    replace hS := hS2
    clear hP1 hD1 hS2 hFc hfc hz1 hk1 hvm ht
    refine lv_iload_n hx hb dX13_onReference_17 rfl (lv_at hl 1 rfl) ?_
    refine lv_bipush (v := 17) hx hb dX13_onReference_18 (by decide) ?_
    refine de_cut (h := 28) (fun (x : St × Int32) => [.int x.2, .long r_3, .ref (a h0)]) (fun x ls H locs => lv_has ls 6 [(0, .ref (a h0)), (1, .int x0), (2, .int x1), (3, .int x2)] ∧ va_P (dC, dI) vwCl (Wd cy a sh n x.1) H ∧ va_D A (Wd cy a sh n x.1) ∧ va_S A s.heap H locs) (fun x => fn_X13_onReference_B28 F sh n h0 r_3 x0 x1 x2 x.1 x.2) (z8, r8) ?_ (fun B28 => ?_)
    · intro x ls H locs hI hf
      obtain ⟨z_6, p_5⟩ := x
      obtain ⟨hl2, hP2, hD2, hS2⟩ := hI
      replace hl : lv_has ls 6 [(0, .ref (a h0)), (1, .int x0), (2, .int x1), (3, .int x2)] := hl2
      replace hP := hP2
      replace hD := hD2
      replace hS := hS2
      clear hl2 hP2 hD2 hS2
      replace hf := fn_X13_onReference_B28_s hf
      refine W.eq (g2 := F0 m 28 ls [.int p_5, .long r_3, .ref (a h0)]) rfl ?_
      obtain ⟨g_8, hf⟩ := grd_some hf
      obtain ⟨kg_8, sg_8⟩ := okO_at g_8
      obtain ⟨z_7, _u, hfc, hf⟩ := cal_some hf
      have hFc := de_free hD hS hA
      refine va_callv (va_runV (As := [.long r_3, .int p_5]) (rest := []) ⟨hx, hb, hml, hown, hts⟩ (de_X13_takeReference l dC dI cy a sh n H.size F z_6 h0 r_3 p_5 hfc) (cwV 2 hts gX13_onReference_X13_takeReference rfl rfl rfl (by decide +kernel) ⟨Nat.le_of_ble_eq_true rfl, Nat.le_of_ble_eq_true rfl⟩) ⟨fun a U g mk q => by obtain ⟨q0, q1, qP, qK, qD, qN⟩ := q; exact ⟨q0, q1, qP, va_K.moved (u := U) (U := U.calling g mk a) (Vm.Alike.refl U.vm) qK, qD, qN.same rfl⟩, va_recv hK hP (ci := 13) (q0 := h0) rfl (Wd_ob kg_8 sg_8 (by decide)), fun U hU hW => ⟨rfl, by rw [hU], by rw [hU]; exact hP, va_K.moved hW.alike hK, hD.weaken (fun _ _ _ _ => trivial), hN.warm hW⟩⟩ rfl rfl hl.1 rfl (lv_room (Nat.le_of_ble_eq_true rfl)) dX13_onReference_28 ⟨Nat.le_of_ble_eq_true rfl, Nat.le_of_ble_eq_true rfl⟩) hS (fun q _ h => hFc q h) hFc (fun u t H_9 locs ht hvm hw hB hz1 hk1 hS2 => ?_)
      obtain ⟨hP1, -, hD1⟩ := hB
      rw [ht] at hP1
      replace hD := hD1.weaken (fun _ _ _ h => hFc _ h)
      replace hP := hP1
      replace hS := hS2
      clear hP1 hD1 hS2 hFc hfc hz1 hk1 hvm ht
      refine lv_aload_n hx hb dX13_onReference_31 rfl (lv_at hl 0 rfl) ?_
      refine va_get (D := (dC, dI)) (ci := 13) (v := .int (z_7.1 h0 18)) (C := RX13) (T := TX13) (N := 22) hx hb hts iwd_X13_onReference_X13 hown hK hP h0 (Wd_ob kg_8 sg_8 (by decide)) rfl 18 (by decide) (hts _ md_X13_onReference_1) (fun _ h9 => h9) (fl_at (t := 0) rfl) dX13_onReference_32 ?_
      refine lv_if_ne (tgt := 248) hx hb dX13_onReference_35 (by decide) (fun c_10 => ?_) (fun c_10 => ?_)
      · skip
        rw [if_neg c_10] at hf
        obtain ⟨h8, h9⟩ := ret_some hf
        rw [h8]
        exact W.vret hx hb hr (fun t ht hW => ⟨⟨(), rfl, trivial, by rw [ht]; exact hP, va_K.moved hW.alike hK, hD⟩, hS.F ht⟩) hS.2.2 dX13_onReference_248
      · skip
        rw [if_pos c_10] at hf
        refine lv_aload_n hx hb dX13_onReference_38 rfl (lv_at hl 0 rfl) ?_
        refine lv_iload_n hx hb dX13_onReference_39 rfl (lv_at hl 1 rfl) ?_
        refine lv_bipush (v := 17) hx hb dX13_onReference_40 (by decide) ?_
        refine de_cut (h := 52) (fun (x : St × Int32) => [.int x.2, .ref (a h0)]) (fun x ls H locs => lv_has ls 6 [(0, .ref (a h0)), (2, .int x1), (3, .int x2)] ∧ va_P (dC, dI) vwCl (Wd cy a sh n x.1) H ∧ va_D A (Wd cy a sh n x.1) ∧ va_S A s.heap H locs) (fun x => fn_X13_onReference_B52 F sh n h0 x1 x2 x.1 x.2) (z8, r8) ?_ (fun B52 => ?_)
        · intro x ls H locs hI hf
          obtain ⟨z_12, p_11⟩ := x
          obtain ⟨hl2, hP2, hD2, hS2⟩ := hI
          replace hl : lv_has ls 6 [(0, .ref (a h0)), (2, .int x1), (3, .int x2)] := hl2
          replace hP := hP2
          replace hD := hD2
          replace hS := hS2
          clear hl2 hP2 hD2 hS2
          replace hf := fn_X13_onReference_B52_s hf
          refine W.eq (g2 := F0 m 52 ls [.int p_11, .ref (a h0)]) rfl ?_
          refine lv_aload_n hx hb dX13_onReference_52 rfl (lv_at hl 0 rfl) ?_
          obtain ⟨k_13, ek_13, hf⟩ := lnk_some hf
          refine va_get (D := (dC, dI)) (ci := 13) (v := .ref (a k_13)) (C := RX13) (T := TX13) (N := 22) hx hb hts iwd_X13_onReference_X13 hown hK hP h0 (Wd_ob kg_8 sg_8 (by decide)) rfl 0 (by decide) (hts _ md_X13_onReference_2) (fun _ h9 => h9) (fl_q rfl ek_13) dX13_onReference_53 ?_
          refine lv_iload_n hx hb dX13_onReference_56 rfl (lv_at hl 1 rfl) ?_
          refine lv_iload_n hx hb dX13_onReference_57 rfl (lv_at hl 2 rfl) ?_
          obtain ⟨g_16, hf⟩ := grd_some hf
          obtain ⟨kg_16, sg_16⟩ := okO_at g_16
          obtain ⟨z_14, r_15, hfc, hf⟩ := cal_some hf
          have hFc := de_free hD hS hA
          refine va_calll (va_runV (As := [.int x1, .int x2]) (rest := [.int p_11, .ref (a h0)]) ⟨hx, hb, hml, hown, hts⟩ (de_X16_field l dC dI cy a sh n H.size F z_12 k_13 x1 x2 hfc) (cwV 2 hts gX13_onReference_X16_field rfl rfl rfl (by decide +kernel) ⟨Nat.le_of_ble_eq_true rfl, Nat.le_of_ble_eq_true rfl⟩) ⟨fun a U g mk q => by obtain ⟨q0, q1, qP, qK, qD, qN⟩ := q; exact ⟨q0, q1, qP, va_K.moved (u := U) (U := U.calling g mk a) (Vm.Alike.refl U.vm) qK, qD, qN.same rfl⟩, va_recv hK hP (ci := 16) (q0 := k_13) rfl (Wd_ob kg_16 sg_16 (by decide)), fun U hU hW => ⟨rfl, by rw [hU], by rw [hU]; exact hP, va_K.moved hW.alike hK, hD.weaken (fun _ _ _ _ => trivial), hN.warm hW⟩⟩ rfl rfl hl.1 rfl (lv_room (Nat.le_of_ble_eq_true rfl)) dX13_onReference_58 ⟨Nat.le_of_ble_eq_true rfl, Nat.le_of_ble_eq_true rfl⟩) hS (fun q _ h => hFc q h) hFc (fun rr u t H_17 locs ht hvm hw hB hz1 hk1 hS2 => ?_)
          rw [hw]
          clear hw
          obtain ⟨hP1, -, hD1⟩ := hB
          rw [ht] at hP1
          replace hD := hD1.weaken (fun _ _ _ h => hFc _ h)
          replace hP := hP1
          replace hS := hS2
          clear hP1 hD1 hS2 hFc hfc hz1 hk1 hvm ht
          obtain ⟨z_18, r_19, hfc, hf⟩ := cal_some hf
          have hFc := de_free hD hS hA
          refine va_calll (va_runS (As := [.int p_11, .long r_15]) (rest := [.ref (a h0)]) ⟨hx, hb, hml, hown, hts⟩ (de_X13_before l dC dI cy a sh n H_17.size F z_14 p_11 r_15 hfc) (va_cwS 2 hts gX13_onReference_X13_before rfl rfl rfl (by decide +kernel) ⟨Nat.le_of_ble_eq_true rfl, Nat.le_of_ble_eq_true rfl⟩) ⟨fun a U g mk q => by obtain ⟨q0, q1, qP, qK, qD, qN⟩ := q; exact ⟨q0, q1, qP, va_K.moved (u := U) (U := U.calling g mk a) (Vm.Alike.refl U.vm) qK, qD, qN.same rfl⟩, fun U hU hW => ⟨rfl, by rw [hU], by rw [hU]; exact hP, va_K.moved hW.alike hK, hD.weaken (fun _ _ _ _ => trivial), hN.warm hW⟩⟩ rfl rfl hl.1 rfl (lv_room (Nat.le_of_ble_eq_true rfl)) dX13_onReference_61 ⟨Nat.le_of_ble_eq_true rfl, Nat.le_of_ble_eq_true rfl⟩) hS (fun q _ h => hFc q h) hFc (fun rr u t H_20 locs ht hvm hw hB hz1 hk1 hS2 => ?_)
          rw [hw]
          clear hw
          obtain ⟨hP1, -, hD1⟩ := hB
          rw [ht] at hP1
          replace hD := hD1.weaken (fun _ _ _ h => hFc _ h)
          replace hP := hP1
          replace hS := hS2
          clear hP1 hD1 hS2 hFc hfc hz1 hk1 hvm ht
          refine lv_aload_n hx hb dX13_onReference_64 rfl (lv_at hl 0 rfl) ?_
          refine va_get (D := (dC, dI)) (ci := 13) (v := .long (z_18.2.1 h0 20)) (C := RX13) (T := TX13) (N := 22) hx hb hts iwd_X13_onReference_X13 hown hK hP h0 (Wd_ob kg_8 sg_8 (by decide)) rfl 20 (by decide) (hts _ md_X13_onReference_3) (fun _ h9 => h9) (fl_at (t := 1) rfl) dX13_onReference_65 ?_
          refine lv_iconst (v := 1) hx hb dX13_onReference_68 (by decide) ?_
          obtain ⟨z_21, _u, hfc, hf⟩ := cal_some hf
          have hFc := de_free hD hS hA
          refine va_callv (va_runV (As := [.long r_19, .long (z_18.2.1 h0 20), .int 1]) (rest := []) ⟨hx, hb, hml, hown, hts⟩ (de_X13_push l dC dI cy a sh n H_20.size F z_18 h0 r_19 (z_18.2.1 h0 20) 1 hfc) (cwV 3 hts gX13_onReference_X13_push rfl rfl rfl (by decide +kernel) ⟨Nat.le_of_ble_eq_true rfl, Nat.le_of_ble_eq_true rfl⟩) ⟨fun a U g mk q => by obtain ⟨q0, q1, qP, qK, qD, qN⟩ := q; exact ⟨q0, q1, qP, va_K.moved (u := U) (U := U.calling g mk a) (Vm.Alike.refl U.vm) qK, qD, qN.same rfl⟩, va_recv hK hP (ci := 13) (q0 := h0) rfl (Wd_ob kg_8 sg_8 (by decide)), fun U hU hW => ⟨rfl, by rw [hU], by rw [hU]; exact hP, va_K.moved hW.alike hK, hD.weaken (fun _ _ _ _ => trivial), hN.warm hW⟩⟩ rfl rfl hl.1 rfl (lv_room (Nat.le_of_ble_eq_true rfl)) dX13_onReference_69 ⟨Nat.le_of_ble_eq_true rfl, Nat.le_of_ble_eq_true rfl⟩) hS (fun q _ h => hFc q h) hFc (fun u t H_22 locs ht hvm hw hB hz1 hk1 hS2 => ?_)
          obtain ⟨hP1, -, hD1⟩ := hB
          rw [ht] at hP1
          replace hD := hD1.weaken (fun _ _ _ h => hFc _ h)
          replace hP := hP1
          replace hS := hS2
          clear hP1 hD1 hS2 hFc hfc hz1 hk1 hvm ht
          refine lv_goto (tgt := 248) hx hb dX13_onReference_72 (by decide) ?_
          obtain ⟨h8, h9⟩ := ret_some hf
          rw [h8]
          exact W.vret hx hb hr (fun t ht hW => ⟨⟨(), rfl, trivial, by rw [ht]; exact hP, va_K.moved hW.alike hK, hD⟩, hS.F ht⟩) hS.2.2 dX13_onReference_248
        refine lv_icmp_ne (tgt := 50) hx hb dX13_onReference_42 (by decide) (fun c_23 => ?_) (fun c_23 => ?_)
        · skip
          rw [if_neg c_23] at hf
          refine lv_bipush (v := 8) hx hb dX13_onReference_50 (by decide) ?_
          exact B52 (z_7, 8) ls H_9 locs ⟨lv_sub hl [0, 2, 3] rfl, hP, hD, hS⟩ hf
        · skip
          rw [if_pos c_23] at hf
          refine lv_bipush (v := 9) hx hb dX13_onReference_45 (by decide) ?_
          refine lv_goto (tgt := 52) hx hb dX13_onReference_47 (by decide) ?_
          exact B52 (z_7, 9) ls H_9 locs ⟨lv_sub hl [0, 2, 3] rfl, hP, hD, hS⟩ hf
    refine lv_icmp_ne (tgt := 27) hx hb dX13_onReference_20 (by decide) (fun c_24 => ?_) (fun c_24 => ?_)
    · skip
      rw [if_neg c_24] at hf
      refine lv_iconst (v := 0) hx hb dX13_onReference_27 (by decide) ?_
      exact B28 (z_2, 0) ls H_4 locs ⟨lv_sub hl [0, 1, 2, 3] rfl, hP, hD, hS⟩ hf
    · skip
      rw [if_pos c_24] at hf
      refine lv_iconst (v := 1) hx hb dX13_onReference_23 (by decide) ?_
      refine lv_goto (tgt := 28) hx hb dX13_onReference_24 (by decide) ?_
      exact B28 (z_2, 1) ls H_4 locs ⟨lv_sub hl [0, 1, 2, 3] rfl, hP, hD, hS⟩ hf
  refine lv_icmp_eq (tgt := 12) hx hb dX13_onReference_3 (by decide) (fun c_25 => ?_) (fun c_25 => ?_)
  · skip
    rw [if_pos c_25] at hf
    exact B12 (z) ls H locs ⟨lv_sub hl [0, 1, 2, 3] rfl, hP, hD, hS⟩ hf
  · skip
    rw [if_neg c_25] at hf
    refine lv_iload_n hx hb dX13_onReference_6 rfl (lv_at hl 1 rfl) ?_
    refine lv_bipush (v := 17) hx hb dX13_onReference_7 (by decide) ?_
    refine lv_icmp_ne (tgt := 75) hx hb dX13_onReference_9 (by decide) (fun c_26 => ?_) (fun c_26 => ?_)
    · skip
      rw [if_neg c_26] at hf
      refine lv_iload_n hx hb dX13_onReference_75 rfl (lv_at hl 1 rfl) ?_
      refine lv_bipush (v := 18) hx hb dX13_onReference_76 (by decide) ?_
      refine lv_icmp_ne (tgt := 132) hx hb dX13_onReference_78 (by decide) (fun c_27 => ?_) (fun c_27 => ?_)
      · skip
        rw [if_neg c_27] at hf
        refine lv_iload_n hx hb dX13_onReference_132 rfl (lv_at hl 1 rfl) ?_
        refine lv_bipush (v := 19) hx hb dX13_onReference_133 (by decide) ?_
        refine lv_icmp_ne (tgt := 211) hx hb dX13_onReference_135 (by decide) (fun c_28 => ?_) (fun c_28 => ?_)
        · skip
          rw [if_neg c_28] at hf
          refine lv_aload_n hx hb dX13_onReference_211 rfl (lv_at hl 0 rfl) ?_
          refine lv_lconst (v := 0) hx hb dX13_onReference_212 (by decide) ?_
          refine lv_iconst (v := 1) hx hb dX13_onReference_213 (by decide) ?_
          obtain ⟨g_30, hf⟩ := grd_some hf
          obtain ⟨kg_30, sg_30⟩ := okO_at g_30
          obtain ⟨z_29, _u, hfc, hf⟩ := cal_some hf
          have hFc := de_free hD hS hA
          refine va_callv (va_runV (As := [.long 0, .int 1]) (rest := []) ⟨hx, hb, hml, hown, hts⟩ (de_X13_takeReference l dC dI cy a sh n H.size F z h0 0 1 hfc) (cwV 2 hts gX13_onReference_X13_takeReference rfl rfl rfl (by decide +kernel) ⟨Nat.le_of_ble_eq_true rfl, Nat.le_of_ble_eq_true rfl⟩) ⟨fun a U g mk q => by obtain ⟨q0, q1, qP, qK, qD, qN⟩ := q; exact ⟨q0, q1, qP, va_K.moved (u := U) (U := U.calling g mk a) (Vm.Alike.refl U.vm) qK, qD, qN.same rfl⟩, va_recv hK hP (ci := 13) (q0 := h0) rfl (Wd_ob kg_30 sg_30 (by decide)), fun U hU hW => ⟨rfl, by rw [hU], by rw [hU]; exact hP, va_K.moved hW.alike hK, hD.weaken (fun _ _ _ _ => trivial), hN.warm hW⟩⟩ rfl rfl hl.1 rfl (lv_room (Nat.le_of_ble_eq_true rfl)) dX13_onReference_214 ⟨Nat.le_of_ble_eq_true rfl, Nat.le_of_ble_eq_true rfl⟩) hS (fun q _ h => hFc q h) hFc (fun u t H_31 locs ht hvm hw hB hz1 hk1 hS2 => ?_)
          obtain ⟨hP1, -, hD1⟩ := hB
          rw [ht] at hP1
          replace hD := hD1.weaken (fun _ _ _ h => hFc _ h)
          replace hP := hP1
          replace hS := hS2
          clear hP1 hD1 hS2 hFc hfc hz1 hk1 hvm ht
          refine lv_aload_n hx hb dX13_onReference_217 rfl (lv_at hl 0 rfl) ?_
          refine va_get (D := (dC, dI)) (ci := 13) (v := .int (z_29.1 h0 18)) (C := RX13) (T := TX13) (N := 22) hx hb hts iwd_X13_onReference_X13 hown hK hP h0 (Wd_ob kg_30 sg_30 (by decide)) rfl 18 (by decide) (hts _ md_X13_onReference_1) (fun _ h9 => h9) (fl_at (t := 0) rfl) dX13_onReference_218 ?_
          refine lv_if_ne (tgt := 248) hx hb dX13_onReference_221 (by decide) (fun c_32 => ?_) (fun c_32 => ?_)
          · skip
            rw [if_neg c_32] at hf
            obtain ⟨h8, h9⟩ := ret_some hf
            rw [h8]
            exact W.vret hx hb hr (fun t ht hW => ⟨⟨(), rfl, trivial, by rw [ht]; exact hP, va_K.moved hW.alike hK, hD⟩, hS.F ht⟩) hS.2.2 dX13_onReference_248
          · skip
            rw [if_pos c_32] at hf
            refine lv_aload_n hx hb dX13_onReference_224 rfl (lv_at hl 0 rfl) ?_
            refine lv_bipush (v := 8) hx hb dX13_onReference_225 (by decide) ?_
            refine lv_aload_n hx hb dX13_onReference_227 rfl (lv_at hl 0 rfl) ?_
            refine va_get (D := (dC, dI)) (ci := 13) (v := .long (z_29.2.1 h0 19)) (C := RX13) (T := TX13) (N := 22) hx hb hts iwd_X13_onReference_X13 hown hK hP h0 (Wd_ob kg_30 sg_30 (by decide)) rfl 19 (by decide) (hts _ md_X13_onReference_4) (fun _ h9 => h9) (fl_at (t := 1) rfl) dX13_onReference_228 ?_
            obtain ⟨z_33, r_34, hfc, hf⟩ := cal_some hf
            have hFc := de_free hD hS hA
            refine va_calll (va_runS (As := [.long (z_29.2.1 h0 19)]) (rest := [.int 8, .ref (a h0)]) ⟨hx, hb, hml, hown, hts⟩ (de_X13_pointed l dC dI cy a sh n H_31.size F z_29 (z_29.2.1 h0 19) hfc) (va_cwS 1 hts gX13_onReference_X13_pointed rfl rfl rfl (by decide +kernel) ⟨Nat.le_of_ble_eq_true rfl, Nat.le_of_ble_eq_true rfl⟩) ⟨fun a U g mk q => by obtain ⟨q0, q1, qP, qK, qD, qN⟩ := q; exact ⟨q0, q1, qP, va_K.moved (u := U) (U := U.calling g mk a) (Vm.Alike.refl U.vm) qK, qD, qN.same rfl⟩, fun U hU hW => ⟨rfl, by rw [hU], by rw [hU]; exact hP, va_K.moved hW.alike hK, hD.weaken (fun _ _ _ _ => trivial), hN.warm hW⟩⟩ rfl rfl hl.1 rfl (lv_room (Nat.le_of_ble_eq_true rfl)) dX13_onReference_231 ⟨Nat.le_of_ble_eq_true rfl, Nat.le_of_ble_eq_true rfl⟩) hS (fun q _ h => hFc q h) hFc (fun rr u t H_35 locs ht hvm hw hB hz1 hk1 hS2 => ?_)
            rw [hw]
            clear hw
            obtain ⟨hP1, -, hD1⟩ := hB
            rw [ht] at hP1
            replace hD := hD1.weaken (fun _ _ _ h => hFc _ h)
            replace hP := hP1
            replace hS := hS2
            clear hP1 hD1 hS2 hFc hfc hz1 hk1 hvm ht
            obtain ⟨z_36, r_37, hfc, hf⟩ := cal_some hf
            have hFc := de_free hD hS hA
            refine va_calll (va_runS (As := [.int 8, .long r_34]) (rest := [.ref (a h0)]) ⟨hx, hb, hml, hown, hts⟩ (de_X13_before l dC dI cy a sh n H_35.size F z_33 8 r_34 hfc) (va_cwS 2 hts gX13_onReference_X13_before rfl rfl rfl (by decide +kernel) ⟨Nat.le_of_ble_eq_true rfl, Nat.le_of_ble_eq_true rfl⟩) ⟨fun a U g mk q => by obtain ⟨q0, q1, qP, qK, qD, qN⟩ := q; exact ⟨q0, q1, qP, va_K.moved (u := U) (U := U.calling g mk a) (Vm.Alike.refl U.vm) qK, qD, qN.same rfl⟩, fun U hU hW => ⟨rfl, by rw [hU], by rw [hU]; exact hP, va_K.moved hW.alike hK, hD.weaken (fun _ _ _ _ => trivial), hN.warm hW⟩⟩ rfl rfl hl.1 rfl (lv_room (Nat.le_of_ble_eq_true rfl)) dX13_onReference_234 ⟨Nat.le_of_ble_eq_true rfl, Nat.le_of_ble_eq_true rfl⟩) hS (fun q _ h => hFc q h) hFc (fun rr u t H_38 locs ht hvm hw hB hz1 hk1 hS2 => ?_)
            rw [hw]
            clear hw
            obtain ⟨hP1, -, hD1⟩ := hB
            rw [ht] at hP1
            replace hD := hD1.weaken (fun _ _ _ h => hFc _ h)
            replace hP := hP1
            replace hS := hS2
            clear hP1 hD1 hS2 hFc hfc hz1 hk1 hvm ht
            refine lv_aload_n hx hb dX13_onReference_237 rfl (lv_at hl 0 rfl) ?_
            refine va_get (D := (dC, dI)) (ci := 13) (v := .long (z_36.2.1 h0 20)) (C := RX13) (T := TX13) (N := 22) hx hb hts iwd_X13_onReference_X13 hown hK hP h0 (Wd_ob kg_30 sg_30 (by decide)) rfl 20 (by decide) (hts _ md_X13_onReference_3) (fun _ h9 => h9) (fl_at (t := 1) rfl) dX13_onReference_238 ?_
            refine lv_aload_n hx hb dX13_onReference_241 rfl (lv_at hl 0 rfl) ?_
            refine va_get (D := (dC, dI)) (ci := 13) (v := .int (z_36.1 h0 21)) (C := RX13) (T := TX13) (N := 22) hx hb hts iwd_X13_onReference_X13 hown hK hP h0 (Wd_ob kg_30 sg_30 (by decide)) rfl 21 (by decide) (hts _ md_X13_onReference_5) (fun _ h9 => h9) (fl_at (t := 0) rfl) dX13_onReference_242 ?_
            obtain ⟨z_39, _u, hfc, hf⟩ := cal_some hf
            have hFc := de_free hD hS hA
            refine va_callv (va_runV (As := [.long r_37, .long (z_36.2.1 h0 20), .int (z_36.1 h0 21)]) (rest := []) ⟨hx, hb, hml, hown, hts⟩ (de_X13_push l dC dI cy a sh n H_38.size F z_36 h0 r_37 (z_36.2.1 h0 20) (z_36.1 h0 21) hfc) (cwV 3 hts gX13_onReference_X13_push rfl rfl rfl (by decide +kernel) ⟨Nat.le_of_ble_eq_true rfl, Nat.le_of_ble_eq_true rfl⟩) ⟨fun a U g mk q => by obtain ⟨q0, q1, qP, qK, qD, qN⟩ := q; exact ⟨q0, q1, qP, va_K.moved (u := U) (U := U.calling g mk a) (Vm.Alike.refl U.vm) qK, qD, qN.same rfl⟩, va_recv hK hP (ci := 13) (q0 := h0) rfl (Wd_ob kg_30 sg_30 (by decide)), fun U hU hW => ⟨rfl, by rw [hU], by rw [hU]; exact hP, va_K.moved hW.alike hK, hD.weaken (fun _ _ _ _ => trivial), hN.warm hW⟩⟩ rfl rfl hl.1 rfl (lv_room (Nat.le_of_ble_eq_true rfl)) dX13_onReference_245 ⟨Nat.le_of_ble_eq_true rfl, Nat.le_of_ble_eq_true rfl⟩) hS (fun q _ h => hFc q h) hFc (fun u t H_40 locs ht hvm hw hB hz1 hk1 hS2 => ?_)
            obtain ⟨hP1, -, hD1⟩ := hB
            rw [ht] at hP1
            replace hD := hD1.weaken (fun _ _ _ h => hFc _ h)
            replace hP := hP1
            replace hS := hS2
            clear hP1 hD1 hS2 hFc hfc hz1 hk1 hvm ht
            obtain ⟨h8, h9⟩ := ret_some hf
            rw [h8]
            exact W.vret hx hb hr (fun t ht hW => ⟨⟨(), rfl, trivial, by rw [ht]; exact hP, va_K.moved hW.alike hK, hD⟩, hS.F ht⟩) hS.2.2 dX13_onReference_248
        · skip
          rw [if_pos c_28] at hf
          refine lv_aload_n hx hb dX13_onReference_138 rfl (lv_at hl 0 rfl) ?_
          refine lv_lconst (v := 0) hx hb dX13_onReference_139 (by decide) ?_
          refine lv_iconst (v := 1) hx hb dX13_onReference_140 (by decide) ?_
          obtain ⟨g_42, hf⟩ := grd_some hf
          obtain ⟨kg_42, sg_42⟩ := okO_at g_42
          obtain ⟨z_41, _u, hfc, hf⟩ := cal_some hf
          have hFc := de_free hD hS hA
          refine va_callv (va_runV (As := [.long 0, .int 1]) (rest := []) ⟨hx, hb, hml, hown, hts⟩ (de_X13_takeReference l dC dI cy a sh n H.size F z h0 0 1 hfc) (cwV 2 hts gX13_onReference_X13_takeReference rfl rfl rfl (by decide +kernel) ⟨Nat.le_of_ble_eq_true rfl, Nat.le_of_ble_eq_true rfl⟩) ⟨fun a U g mk q => by obtain ⟨q0, q1, qP, qK, qD, qN⟩ := q; exact ⟨q0, q1, qP, va_K.moved (u := U) (U := U.calling g mk a) (Vm.Alike.refl U.vm) qK, qD, qN.same rfl⟩, va_recv hK hP (ci := 13) (q0 := h0) rfl (Wd_ob kg_42 sg_42 (by decide)), fun U hU hW => ⟨rfl, by rw [hU], by rw [hU]; exact hP, va_K.moved hW.alike hK, hD.weaken (fun _ _ _ _ => trivial), hN.warm hW⟩⟩ rfl rfl hl.1 rfl (lv_room (Nat.le_of_ble_eq_true rfl)) dX13_onReference_141 ⟨Nat.le_of_ble_eq_true rfl, Nat.le_of_ble_eq_true rfl⟩) hS (fun q _ h => hFc q h) hFc (fun u t H_43 locs ht hvm hw hB hz1 hk1 hS2 => ?_)
          obtain ⟨hP1, -, hD1⟩ := hB
          rw [ht] at hP1
          replace hD := hD1.weaken (fun _ _ _ h => hFc _ h)
          replace hP := hP1
          replace hS := hS2
          clear hP1 hD1 hS2 hFc hfc hz1 hk1 hvm ht
          refine lv_aload_n hx hb dX13_onReference_144 rfl (lv_at hl 0 rfl) ?_
          refine va_get (D := (dC, dI)) (ci := 13) (v := .long (z_41.2.1 h0 20)) (C := RX13) (T := TX13) (N := 22) hx hb hts iwd_X13_onReference_X13 hown hK hP h0 (Wd_ob kg_42 sg_42 (by decide)) rfl 20 (by decide) (hts _ md_X13_onReference_3) (fun _ h9 => h9) (fl_at (t := 1) rfl) dX13_onReference_145 ?_
          refine lv_topl (fun v_44 ev_44 => ?_)
          replace hf := lt_at ev_44 hf
          clear ev_44
          refine lv_lstore (lv' := [(4, .long v_44), (0, .ref (a h0)), (1, .int x0), (2, .int x1), (3, .int x2)]) hx hb dX13_onReference_148 hl (by decide) rfl (fun ls hl2 => ?_)
          replace hl := hl2
          clear hl2
          refine lv_aload_n hx hb dX13_onReference_150 rfl (lv_at hl 1 rfl) ?_
          refine va_get (D := (dC, dI)) (ci := 13) (v := .int (z_41.1 h0 18)) (C := RX13) (T := TX13) (N := 22) hx hb hts iwd_X13_onReference_X13 hown hK hP h0 (Wd_ob kg_42 sg_42 (by decide)) rfl 18 (by decide) (hts _ md_X13_onReference_1) (fun _ h9 => h9) (fl_at (t := 0) rfl) dX13_onReference_151 ?_
          refine de_cut (h := 168) (fun (x : St) => []) (fun x ls H locs => lv_has ls 6 [(4, .long v_44), (0, .ref (a h0))] ∧ va_P (dC, dI) vwCl (Wd cy a sh n x) H ∧ va_D A (Wd cy a sh n x) ∧ va_S A s.heap H locs) (fun x => fn_X13_onReference_B168 F sh n h0 v_44 x) (z8, r8) ?_ (fun B168 => ?_)
          · intro x ls H locs hI hf
            obtain ⟨z_45, ez⟩ : ∃ w, w = x := ⟨_, rfl⟩
            subst ez
            obtain ⟨hl2, hP2, hD2, hS2⟩ := hI
            replace hl : lv_has ls 6 [(4, .long v_44), (0, .ref (a h0))] := hl2
            replace hP := hP2
            replace hD := hD2
            replace hS := hS2
            clear hl2 hP2 hD2 hS2
            replace hf := fn_X13_onReference_B168_s hf
            refine W.eq (g2 := F0 m 168 ls []) rfl ?_
            refine lv_aload_n hx hb dX13_onReference_168 rfl (lv_at hl 1 rfl) ?_
            refine va_get (D := (dC, dI)) (ci := 13) (v := .int (z_45.1 h0 18)) (C := RX13) (T := TX13) (N := 22) hx hb hts iwd_X13_onReference_X13 hown hK hP h0 (Wd_ob kg_42 sg_42 (by decide)) rfl 18 (by decide) (hts _ md_X13_onReference_1) (fun _ h9 => h9) (fl_at (t := 0) rfl) dX13_onReference_169 ?_
            refine de_cut (h := 189) (fun (x : St) => []) (fun x ls H locs => lv_has ls 6 [(4, .long v_44), (0, .ref (a h0))] ∧ va_P (dC, dI) vwCl (Wd cy a sh n x) H ∧ va_D A (Wd cy a sh n x) ∧ va_S A s.heap H locs) (fun x => fn_X13_onReference_B189 F sh n h0 v_44 x) (z8, r8) ?_ (fun B189 => ?_)
            · intro x ls H locs hI hf
              obtain ⟨z_46, ez⟩ : ∃ w, w = x := ⟨_, rfl⟩
              subst ez
              obtain ⟨hl2, hP2, hD2, hS2⟩ := hI
              replace hl : lv_has ls 6 [(4, .long v_44), (0, .ref (a h0))] := hl2
              replace hP := hP2
              replace hD := hD2
              replace hS := hS2
              clear hl2 hP2 hD2 hS2
              replace hf := fn_X13_onReference_B189_s hf
              refine W.eq (g2 := F0 m 189 ls []) rfl ?_
              refine lv_aload_n hx hb dX13_onReference_189 rfl (lv_at hl 1 rfl) ?_
              refine va_get (D := (dC, dI)) (ci := 13) (v := .int (z_46.1 h0 18)) (C := RX13) (T := TX13) (N := 22) hx hb hts iwd_X13_onReference_X13 hown hK hP h0 (Wd_ob kg_42 sg_42 (by decide)) rfl 18 (by decide) (hts _ md_X13_onReference_1) (fun _ h9 => h9) (fl_at (t := 0) rfl) dX13_onReference_190 ?_
              refine lv_if_ne (tgt := 208) hx hb dX13_onReference_193 (by decide) (fun c_47 => ?_) (fun c_47 => ?_)
              · skip
                rw [if_neg c_47] at hf
                refine lv_goto (tgt := 248) hx hb dX13_onReference_208 (by decide) ?_
                obtain ⟨h8, h9⟩ := ret_some hf
                rw [h8]
                exact W.vret hx hb hr (fun t ht hW => ⟨⟨(), rfl, trivial, by rw [ht]; exact hP, va_K.moved hW.alike hK, hD⟩, hS.F ht⟩) hS.2.2 dX13_onReference_248
              · skip
                rw [if_pos c_47] at hf
                refine lv_aload_n hx hb dX13_onReference_196 rfl (lv_at hl 1 rfl) ?_
                refine lv_aload_n hx hb dX13_onReference_197 rfl (lv_at hl 1 rfl) ?_
                refine lv_lload hx hb dX13_onReference_198 (lv_at hl 0 rfl) ?_
                obtain ⟨z_48, r_49, hfc, hf⟩ := cal_some hf
                have hFc := de_free hD hS hA
                refine va_calli (va_runV (As := [.long v_44]) (rest := [.ref (a h0)]) ⟨hx, hb, hml, hown, hts⟩ (de_X13_isSole l dC dI cy a sh n H.size F z_46 h0 v_44 hfc) (cwV 1 hts gX13_onReference_X13_isSole rfl rfl rfl (by decide +kernel) ⟨Nat.le_of_ble_eq_true rfl, Nat.le_of_ble_eq_true rfl⟩) ⟨fun a U g mk q => by obtain ⟨q0, q1, qP, qK, qD, qN⟩ := q; exact ⟨q0, q1, qP, va_K.moved (u := U) (U := U.calling g mk a) (Vm.Alike.refl U.vm) qK, qD, qN.same rfl⟩, va_recv hK hP (ci := 13) (q0 := h0) rfl (Wd_ob kg_42 sg_42 (by decide)), fun U hU hW => ⟨rfl, by rw [hU], by rw [hU]; exact hP, va_K.moved hW.alike hK, hD.weaken (fun _ _ _ _ => trivial), hN.warm hW⟩⟩ rfl rfl hl.1 rfl (lv_room (Nat.le_of_ble_eq_true rfl)) dX13_onReference_200 ⟨Nat.le_of_ble_eq_true rfl, Nat.le_of_ble_eq_true rfl⟩) hS (fun q _ h => hFc q h) hFc (fun rr u t H_50 locs ht hvm hw hB hz1 hk1 hS2 => ?_)
                rw [hw]
                clear hw
                obtain ⟨hP1, -, hD1⟩ := hB
                rw [ht] at hP1
                replace hD := hD1.weaken (fun _ _ _ h => hFc _ h)
                replace hP := hP1
                replace hS := hS2
                clear hP1 hD1 hS2 hFc hfc hz1 hk1 hvm ht
                refine lv_bipush (v := 6) hx hb dX13_onReference_203 (by decide) ?_
                obtain ⟨z_51, _u, hfc, hf⟩ := cal_some hf
                have hFc := de_free hD hS hA
                refine va_callv (va_runV (As := [.int r_49, .int 6]) (rest := []) ⟨hx, hb, hml, hown, hts⟩ (de_X13_need l dC dI cy a sh n H_50.size F z_48 h0 r_49 6 hfc) (cwV 2 hts gX13_onReference_X13_need rfl rfl rfl (by decide +kernel) ⟨Nat.le_of_ble_eq_true rfl, Nat.le_of_ble_eq_true rfl⟩) ⟨fun a U g mk q => by obtain ⟨q0, q1, qP, qK, qD, qN⟩ := q; exact ⟨q0, q1, qP, va_K.moved (u := U) (U := U.calling g mk a) (Vm.Alike.refl U.vm) qK, qD, qN.same rfl⟩, va_recv hK hP (ci := 13) (q0 := h0) rfl (Wd_ob kg_42 sg_42 (by decide)), fun U hU hW => ⟨rfl, by rw [hU], by rw [hU]; exact hP, va_K.moved hW.alike hK, hD.weaken (fun _ _ _ _ => trivial), hN.warm hW⟩⟩ rfl rfl hl.1 rfl (lv_room (Nat.le_of_ble_eq_true rfl)) dX13_onReference_205 ⟨Nat.le_of_ble_eq_true rfl, Nat.le_of_ble_eq_true rfl⟩) hS (fun q _ h => hFc q h) hFc (fun u t H_52 locs ht hvm hw hB hz1 hk1 hS2 => ?_)
                obtain ⟨hP1, -, hD1⟩ := hB
                rw [ht] at hP1
                replace hD := hD1.weaken (fun _ _ _ h => hFc _ h)
                replace hP := hP1
                replace hS := hS2
                clear hP1 hD1 hS2 hFc hfc hz1 hk1 hvm ht
                refine lv_goto (tgt := 248) hx hb dX13_onReference_208 (by decide) ?_
                obtain ⟨h8, h9⟩ := ret_some hf
                rw [h8]
                exact W.vret hx hb hr (fun t ht hW => ⟨⟨(), rfl, trivial, by rw [ht]; exact hP, va_K.moved hW.alike hK, hD⟩, hS.F ht⟩) hS.2.2 dX13_onReference_248
            refine lv_if_ne (tgt := 189) hx hb dX13_onReference_172 (by decide) (fun c_53 => ?_) (fun c_53 => ?_)
            · skip
              rw [if_neg c_53] at hf
              exact B189 (z_45) ls H locs ⟨lv_sub hl [0, 1] rfl, hP, hD, hS⟩ hf
            · skip
              rw [if_pos c_53] at hf
              refine lv_aload_n hx hb dX13_onReference_175 rfl (lv_at hl 1 rfl) ?_
              refine lv_aload_n hx hb dX13_onReference_176 rfl (lv_at hl 1 rfl) ?_
              refine lv_aload_n hx hb dX13_onReference_177 rfl (lv_at hl 1 rfl) ?_
              refine va_get (D := (dC, dI)) (ci := 13) (v := .long (z_45.2.1 h0 19)) (C := RX13) (T := TX13) (N := 22) hx hb hts iwd_X13_onReference_X13 hown hK hP h0 (Wd_ob kg_42 sg_42 (by decide)) rfl 19 (by decide) (hts _ md_X13_onReference_4) (fun _ h9 => h9) (fl_at (t := 1) rfl) dX13_onReference_178 ?_
              refine lv_iconst (v := 2) hx hb dX13_onReference_181 (by decide) ?_
              obtain ⟨z_54, r_55, hfc, hf⟩ := cal_some hf
              have hFc := de_free hD hS hA
              refine va_calli (va_runV (As := [.long (z_45.2.1 h0 19), .int 2]) (rest := [.ref (a h0)]) ⟨hx, hb, hml, hown, hts⟩ (de_X13_has l dC dI cy a sh n H.size F z_45 h0 (z_45.2.1 h0 19) 2 hfc) (cwV 2 hts gX13_onReference_X13_has rfl rfl rfl (by decide +kernel) ⟨Nat.le_of_ble_eq_true rfl, Nat.le_of_ble_eq_true rfl⟩) ⟨fun a U g mk q => by obtain ⟨q0, q1, qP, qK, qD, qN⟩ := q; exact ⟨q0, q1, qP, va_K.moved (u := U) (U := U.calling g mk a) (Vm.Alike.refl U.vm) qK, qD, qN.same rfl⟩, va_recv hK hP (ci := 13) (q0 := h0) rfl (Wd_ob kg_42 sg_42 (by decide)), fun U hU hW => ⟨rfl, by rw [hU], by rw [hU]; exact hP, va_K.moved hW.alike hK, hD.weaken (fun _ _ _ _ => trivial), hN.warm hW⟩⟩ rfl rfl hl.1 rfl (lv_room (Nat.le_of_ble_eq_true rfl)) dX13_onReference_182 ⟨Nat.le_of_ble_eq_true rfl, Nat.le_of_ble_eq_true rfl⟩) hS (fun q _ h => hFc q h) hFc (fun rr u t H_56 locs ht hvm hw hB hz1 hk1 hS2 => ?_)
              rw [hw]
              clear hw
              obtain ⟨hP1, -, hD1⟩ := hB
              rw [ht] at hP1
              replace hD := hD1.weaken (fun _ _ _ h => hFc _ h)
              replace hP := hP1
              replace hS := hS2
              clear hP1 hD1 hS2 hFc hfc hz1 hk1 hvm ht
              refine lv_iconst (v := 4) hx hb dX13_onReference_185 (by decide) ?_
              obtain ⟨z_57, _u, hfc, hf⟩ := cal_some hf
              have hFc := de_free hD hS hA
              refine va_callv (va_runV (As := [.int r_55, .int 4]) (rest := []) ⟨hx, hb, hml, hown, hts⟩ (de_X13_need l dC dI cy a sh n H_56.size F z_54 h0 r_55 4 hfc) (cwV 2 hts gX13_onReference_X13_need rfl rfl rfl (by decide +kernel) ⟨Nat.le_of_ble_eq_true rfl, Nat.le_of_ble_eq_true rfl⟩) ⟨fun a U g mk q => by obtain ⟨q0, q1, qP, qK, qD, qN⟩ := q; exact ⟨q0, q1, qP, va_K.moved (u := U) (U := U.calling g mk a) (Vm.Alike.refl U.vm) qK, qD, qN.same rfl⟩, va_recv hK hP (ci := 13) (q0 := h0) rfl (Wd_ob kg_42 sg_42 (by decide)), fun U hU hW => ⟨rfl, by rw [hU], by rw [hU]; exact hP, va_K.moved hW.alike hK, hD.weaken (fun _ _ _ _ => trivial), hN.warm hW⟩⟩ rfl rfl hl.1 rfl (lv_room (Nat.le_of_ble_eq_true rfl)) dX13_onReference_186 ⟨Nat.le_of_ble_eq_true rfl, Nat.le_of_ble_eq_true rfl⟩) hS (fun q _ h => hFc q h) hFc (fun u t H_58 locs ht hvm hw hB hz1 hk1 hS2 => ?_)
              obtain ⟨hP1, -, hD1⟩ := hB
              rw [ht] at hP1
              replace hD := hD1.weaken (fun _ _ _ h => hFc _ h)
              replace hP := hP1
              replace hS := hS2
              clear hP1 hD1 hS2 hFc hfc hz1 hk1 hvm ht
              exact B189 (z_57) ls H_58 locs ⟨lv_sub hl [0, 1] rfl, hP, hD, hS⟩ hf
          refine lv_if_ne (tgt := 168) hx hb dX13_onReference_154 (by decide) (fun c_59 => ?_) (fun c_59 => ?_)
          · skip
            rw [if_neg c_59] at hf
            exact B168 (z_41) ls H_43 locs ⟨lv_sub hl [0, 1] rfl, hP, hD, hS⟩ hf
          · skip
            rw [if_pos c_59] at hf
            refine lv_aload_n hx hb dX13_onReference_157 rfl (lv_at hl 1 rfl) ?_
            refine lv_aload_n hx hb dX13_onReference_158 rfl (lv_at hl 1 rfl) ?_
            refine va_get (D := (dC, dI)) (ci := 13) (v := .long (z_41.2.1 h0 19)) (C := RX13) (T := TX13) (N := 22) hx hb hts iwd_X13_onReference_X13 hown hK hP h0 (Wd_ob kg_42 sg_42 (by decide)) rfl 19 (by decide) (hts _ md_X13_onReference_4) (fun _ h9 => h9) (fl_at (t := 1) rfl) dX13_onReference_159 ?_
            obtain ⟨z_60, r_61, hfc, hf⟩ := cal_some hf
            have hFc := de_free hD hS hA
            refine va_calll (va_runS (As := [.long (z_41.2.1 h0 19)]) (rest := [.ref (a h0)]) ⟨hx, hb, hml, hown, hts⟩ (de_X13_pointed l dC dI cy a sh n H_43.size F z_41 (z_41.2.1 h0 19) hfc) (va_cwS 1 hts gX13_onReference_X13_pointed rfl rfl rfl (by decide +kernel) ⟨Nat.le_of_ble_eq_true rfl, Nat.le_of_ble_eq_true rfl⟩) ⟨fun a U g mk q => by obtain ⟨q0, q1, qP, qK, qD, qN⟩ := q; exact ⟨q0, q1, qP, va_K.moved (u := U) (U := U.calling g mk a) (Vm.Alike.refl U.vm) qK, qD, qN.same rfl⟩, fun U hU hW => ⟨rfl, by rw [hU], by rw [hU]; exact hP, va_K.moved hW.alike hK, hD.weaken (fun _ _ _ _ => trivial), hN.warm hW⟩⟩ rfl rfl hl.1 rfl (lv_room (Nat.le_of_ble_eq_true rfl)) dX13_onReference_162 ⟨Nat.le_of_ble_eq_true rfl, Nat.le_of_ble_eq_true rfl⟩) hS (fun q _ h => hFc q h) hFc (fun rr u t H_62 locs ht hvm hw hB hz1 hk1 hS2 => ?_)
            rw [hw]
            clear hw
            obtain ⟨hP1, -, hD1⟩ := hB
            rw [ht] at hP1
            replace hD := hD1.weaken (fun _ _ _ h => hFc _ h)
            replace hP := hP1
            replace hS := hS2
            clear hP1 hD1 hS2 hFc hfc hz1 hk1 hvm ht
            obtain ⟨z_63, _u, hfc, hf⟩ := cal_some hf
            have hFc := de_free hD hS hA
            refine va_callv (va_runV (As := [.long r_61]) (rest := []) ⟨hx, hb, hml, hown, hts⟩ (de_X13_take_ l dC dI cy a sh n H_62.size F z_60 h0 r_61 hfc) (cwV 1 hts gX13_onReference_X13_take_ rfl rfl rfl (by decide +kernel) ⟨Nat.le_of_ble_eq_true rfl, Nat.le_of_ble_eq_true rfl⟩) ⟨fun a U g mk q => by obtain ⟨q0, q1, qP, qK, qD, qN⟩ := q; exact ⟨q0, q1, qP, va_K.moved (u := U) (U := U.calling g mk a) (Vm.Alike.refl U.vm) qK, qD, qN.same rfl⟩, va_recv hK hP (ci := 13) (q0 := h0) rfl (Wd_ob kg_42 sg_42 (by decide)), fun U hU hW => ⟨rfl, by rw [hU], by rw [hU]; exact hP, va_K.moved hW.alike hK, hD.weaken (fun _ _ _ _ => trivial), hN.warm hW⟩⟩ rfl rfl hl.1 rfl (lv_room (Nat.le_of_ble_eq_true rfl)) dX13_onReference_165 ⟨Nat.le_of_ble_eq_true rfl, Nat.le_of_ble_eq_true rfl⟩) hS (fun q _ h => hFc q h) hFc (fun u t H_64 locs ht hvm hw hB hz1 hk1 hS2 => ?_)
            obtain ⟨hP1, -, hD1⟩ := hB
            rw [ht] at hP1
            replace hD := hD1.weaken (fun _ _ _ h => hFc _ h)
            replace hP := hP1
            replace hS := hS2
            clear hP1 hD1 hS2 hFc hfc hz1 hk1 hvm ht
            exact B168 (z_63) ls H_64 locs ⟨lv_sub hl [0, 1] rfl, hP, hD, hS⟩ hf
      · skip
        rw [if_pos c_27] at hf
        refine lv_aload_n hx hb dX13_onReference_81 rfl (lv_at hl 0 rfl) ?_
        refine lv_lconst (v := 0) hx hb dX13_onReference_82 (by decide) ?_
        refine lv_iconst (v := 0) hx hb dX13_onReference_83 (by decide) ?_
        obtain ⟨g_66, hf⟩ := grd_some hf
        obtain ⟨kg_66, sg_66⟩ := okO_at g_66
        obtain ⟨z_65, _u, hfc, hf⟩ := cal_some hf
        have hFc := de_free hD hS hA
        refine va_callv (va_runV (As := [.long 0, .int 0]) (rest := []) ⟨hx, hb, hml, hown, hts⟩ (de_X13_takeReference l dC dI cy a sh n H.size F z h0 0 0 hfc) (cwV 2 hts gX13_onReference_X13_takeReference rfl rfl rfl (by decide +kernel) ⟨Nat.le_of_ble_eq_true rfl, Nat.le_of_ble_eq_true rfl⟩) ⟨fun a U g mk q => by obtain ⟨q0, q1, qP, qK, qD, qN⟩ := q; exact ⟨q0, q1, qP, va_K.moved (u := U) (U := U.calling g mk a) (Vm.Alike.refl U.vm) qK, qD, qN.same rfl⟩, va_recv hK hP (ci := 13) (q0 := h0) rfl (Wd_ob kg_66 sg_66 (by decide)), fun U hU hW => ⟨rfl, by rw [hU], by rw [hU]; exact hP, va_K.moved hW.alike hK, hD.weaken (fun _ _ _ _ => trivial), hN.warm hW⟩⟩ rfl rfl hl.1 rfl (lv_room (Nat.le_of_ble_eq_true rfl)) dX13_onReference_84 ⟨Nat.le_of_ble_eq_true rfl, Nat.le_of_ble_eq_true rfl⟩) hS (fun q _ h => hFc q h) hFc (fun u t H_67 locs ht hvm hw hB hz1 hk1 hS2 => ?_)
        obtain ⟨hP1, -, hD1⟩ := hB
        rw [ht] at hP1
        replace hD := hD1.weaken (fun _ _ _ h => hFc _ h)
        replace hP := hP1
        replace hS := hS2
        clear hP1 hD1 hS2 hFc hfc hz1 hk1 hvm ht
        refine lv_aload_n hx hb dX13_onReference_87 rfl (lv_at hl 0 rfl) ?_
        refine va_get (D := (dC, dI)) (ci := 13) (v := .int (z_65.1 h0 18)) (C := RX13) (T := TX13) (N := 22) hx hb hts iwd_X13_onReference_X13 hown hK hP h0 (Wd_ob kg_66 sg_66 (by decide)) rfl 18 (by decide) (hts _ md_X13_onReference_1) (fun _ h9 => h9) (fl_at (t := 0) rfl) dX13_onReference_88 ?_
        refine de_cut (h := 111) (fun (x : St) => []) (fun x ls H locs => lv_has ls 6 [(0, .ref (a h0))] ∧ va_P (dC, dI) vwCl (Wd cy a sh n x) H ∧ va_D A (Wd cy a sh n x) ∧ va_S A s.heap H locs) (fun x => fn_X13_onReference_B111 F sh n h0 x) (z8, r8) ?_ (fun B111 => ?_)
        · intro x ls H locs hI hf
          obtain ⟨z_68, ez⟩ : ∃ w, w = x := ⟨_, rfl⟩
          subst ez
          obtain ⟨hl2, hP2, hD2, hS2⟩ := hI
          replace hl : lv_has ls 6 [(0, .ref (a h0))] := hl2
          replace hP := hP2
          replace hD := hD2
          replace hS := hS2
          clear hl2 hP2 hD2 hS2
          replace hf := fn_X13_onReference_B111_s hf
          refine W.eq (g2 := F0 m 111 ls []) rfl ?_
          refine lv_aload_n hx hb dX13_onReference_111 rfl (lv_at hl 0 rfl) ?_
          refine va_get (D := (dC, dI)) (ci := 13) (v := .int (z_68.1 h0 18)) (C := RX13) (T := TX13) (N := 22) hx hb hts iwd_X13_onReference_X13 hown hK hP h0 (Wd_ob kg_66 sg_66 (by decide)) rfl 18 (by decide) (hts _ md_X13_onReference_1) (fun _ h9 => h9) (fl_at (t := 0) rfl) dX13_onReference_112 ?_
          refine lv_if_ne (tgt := 248) hx hb dX13_onReference_115 (by decide) (fun c_69 => ?_) (fun c_69 => ?_)
          · skip
            rw [if_neg c_69] at hf
            obtain ⟨h8, h9⟩ := ret_some hf
            rw [h8]
            exact W.vret hx hb hr (fun t ht hW => ⟨⟨(), rfl, trivial, by rw [ht]; exact hP, va_K.moved hW.alike hK, hD⟩, hS.F ht⟩) hS.2.2 dX13_onReference_248
          · skip
            rw [if_pos c_69] at hf
            refine lv_aload_n hx hb dX13_onReference_118 rfl (lv_at hl 0 rfl) ?_
            refine lv_aload_n hx hb dX13_onReference_119 rfl (lv_at hl 0 rfl) ?_
            refine va_get (D := (dC, dI)) (ci := 13) (v := .long (z_68.2.1 h0 19)) (C := RX13) (T := TX13) (N := 22) hx hb hts iwd_X13_onReference_X13 hown hK hP h0 (Wd_ob kg_66 sg_66 (by decide)) rfl 19 (by decide) (hts _ md_X13_onReference_4) (fun _ h9 => h9) (fl_at (t := 1) rfl) dX13_onReference_120 ?_
            obtain ⟨z_70, r_71, hfc, hf⟩ := cal_some hf
            have hFc := de_free hD hS hA
            refine va_calll (va_runS (As := [.long (z_68.2.1 h0 19)]) (rest := [.ref (a h0)]) ⟨hx, hb, hml, hown, hts⟩ (de_X13_pointed l dC dI cy a sh n H.size F z_68 (z_68.2.1 h0 19) hfc) (va_cwS 1 hts gX13_onReference_X13_pointed rfl rfl rfl (by decide +kernel) ⟨Nat.le_of_ble_eq_true rfl, Nat.le_of_ble_eq_true rfl⟩) ⟨fun a U g mk q => by obtain ⟨q0, q1, qP, qK, qD, qN⟩ := q; exact ⟨q0, q1, qP, va_K.moved (u := U) (U := U.calling g mk a) (Vm.Alike.refl U.vm) qK, qD, qN.same rfl⟩, fun U hU hW => ⟨rfl, by rw [hU], by rw [hU]; exact hP, va_K.moved hW.alike hK, hD.weaken (fun _ _ _ _ => trivial), hN.warm hW⟩⟩ rfl rfl hl.1 rfl (lv_room (Nat.le_of_ble_eq_true rfl)) dX13_onReference_123 ⟨Nat.le_of_ble_eq_true rfl, Nat.le_of_ble_eq_true rfl⟩) hS (fun q _ h => hFc q h) hFc (fun rr u t H_72 locs ht hvm hw hB hz1 hk1 hS2 => ?_)
            rw [hw]
            clear hw
            obtain ⟨hP1, -, hD1⟩ := hB
            rw [ht] at hP1
            replace hD := hD1.weaken (fun _ _ _ h => hFc _ h)
            replace hP := hP1
            replace hS := hS2
            clear hP1 hD1 hS2 hFc hfc hz1 hk1 hvm ht
            obtain ⟨z_73, _u, hfc, hf⟩ := cal_some hf
            have hFc := de_free hD hS hA
            refine va_callv (va_runV (As := [.long r_71]) (rest := []) ⟨hx, hb, hml, hown, hts⟩ (de_X13_give l dC dI cy a sh n H_72.size F z_70 h0 r_71 hfc) (cwV 1 hts gX13_onReference_X13_give rfl rfl rfl (by decide +kernel) ⟨Nat.le_of_ble_eq_true rfl, Nat.le_of_ble_eq_true rfl⟩) ⟨fun a U g mk q => by obtain ⟨q0, q1, qP, qK, qD, qN⟩ := q; exact ⟨q0, q1, qP, va_K.moved (u := U) (U := U.calling g mk a) (Vm.Alike.refl U.vm) qK, qD, qN.same rfl⟩, va_recv hK hP (ci := 13) (q0 := h0) rfl (Wd_ob kg_66 sg_66 (by decide)), fun U hU hW => ⟨rfl, by rw [hU], by rw [hU]; exact hP, va_K.moved hW.alike hK, hD.weaken (fun _ _ _ _ => trivial), hN.warm hW⟩⟩ rfl rfl hl.1 rfl (lv_room (Nat.le_of_ble_eq_true rfl)) dX13_onReference_126 ⟨Nat.le_of_ble_eq_true rfl, Nat.le_of_ble_eq_true rfl⟩) hS (fun q _ h => hFc q h) hFc (fun u t H_74 locs ht hvm hw hB hz1 hk1 hS2 => ?_)
            obtain ⟨hP1, -, hD1⟩ := hB
            rw [ht] at hP1
            replace hD := hD1.weaken (fun _ _ _ h => hFc _ h)
            replace hP := hP1
            replace hS := hS2
            clear hP1 hD1 hS2 hFc hfc hz1 hk1 hvm ht
            refine lv_goto (tgt := 248) hx hb dX13_onReference_129 (by decide) ?_
            obtain ⟨h8, h9⟩ := ret_some hf
            rw [h8]
            exact W.vret hx hb hr (fun t ht hW => ⟨⟨(), rfl, trivial, by rw [ht]; exact hP, va_K.moved hW.alike hK, hD⟩, hS.F ht⟩) hS.2.2 dX13_onReference_248
        refine lv_if_ne (tgt := 111) hx hb dX13_onReference_91 (by decide) (fun c_75 => ?_) (fun c_75 => ?_)
        · skip
          rw [if_neg c_75] at hf
          exact B111 (z_65) ls H_67 locs ⟨lv_sub hl [0] rfl, hP, hD, hS⟩ hf
        · skip
          rw [if_pos c_75] at hf
          refine lv_aload_n hx hb dX13_onReference_94 rfl (lv_at hl 0 rfl) ?_
          refine lv_aload_n hx hb dX13_onReference_95 rfl (lv_at hl 0 rfl) ?_
          refine lv_aload_n hx hb dX13_onReference_96 rfl (lv_at hl 0 rfl) ?_
          refine va_get (D := (dC, dI)) (ci := 13) (v := .long (z_65.2.1 h0 19)) (C := RX13) (T := TX13) (N := 22) hx hb hts iwd_X13_onReference_X13 hown hK hP h0 (Wd_ob kg_66 sg_66 (by decide)) rfl 19 (by decide) (hts _ md_X13_onReference_4) (fun _ h9 => h9) (fl_at (t := 1) rfl) dX13_onReference_97 ?_
          obtain ⟨z_76, r_77, hfc, hf⟩ := cal_some hf
          have hFc := de_free hD hS hA
          refine va_calll (va_runS (As := [.long (z_65.2.1 h0 19)]) (rest := [.ref (a h0), .ref (a h0)]) ⟨hx, hb, hml, hown, hts⟩ (de_X13_pointed l dC dI cy a sh n H_67.size F z_65 (z_65.2.1 h0 19) hfc) (va_cwS 1 hts gX13_onReference_X13_pointed rfl rfl rfl (by decide +kernel) ⟨Nat.le_of_ble_eq_true rfl, Nat.le_of_ble_eq_true rfl⟩) ⟨fun a U g mk q => by obtain ⟨q0, q1, qP, qK, qD, qN⟩ := q; exact ⟨q0, q1, qP, va_K.moved (u := U) (U := U.calling g mk a) (Vm.Alike.refl U.vm) qK, qD, qN.same rfl⟩, fun U hU hW => ⟨rfl, by rw [hU], by rw [hU]; exact hP, va_K.moved hW.alike hK, hD.weaken (fun _ _ _ _ => trivial), hN.warm hW⟩⟩ rfl rfl hl.1 rfl (lv_room (Nat.le_of_ble_eq_true rfl)) dX13_onReference_100 ⟨Nat.le_of_ble_eq_true rfl, Nat.le_of_ble_eq_true rfl⟩) hS (fun q _ h => hFc q h) hFc (fun rr u t H_78 locs ht hvm hw hB hz1 hk1 hS2 => ?_)
          rw [hw]
          clear hw
          obtain ⟨hP1, -, hD1⟩ := hB
          rw [ht] at hP1
          replace hD := hD1.weaken (fun _ _ _ h => hFc _ h)
          replace hP := hP1
          replace hS := hS2
          clear hP1 hD1 hS2 hFc hfc hz1 hk1 hvm ht
          refine lv_iconst (v := 1) hx hb dX13_onReference_103 (by decide) ?_
          obtain ⟨z_79, r_80, hfc, hf⟩ := cal_some hf
          have hFc := de_free hD hS hA
          refine va_calli (va_runV (As := [.long r_77, .int 1]) (rest := [.ref (a h0)]) ⟨hx, hb, hml, hown, hts⟩ (de_X13_has l dC dI cy a sh n H_78.size F z_76 h0 r_77 1 hfc) (cwV 2 hts gX13_onReference_X13_has rfl rfl rfl (by decide +kernel) ⟨Nat.le_of_ble_eq_true rfl, Nat.le_of_ble_eq_true rfl⟩) ⟨fun a U g mk q => by obtain ⟨q0, q1, qP, qK, qD, qN⟩ := q; exact ⟨q0, q1, qP, va_K.moved (u := U) (U := U.calling g mk a) (Vm.Alike.refl U.vm) qK, qD, qN.same rfl⟩, va_recv hK hP (ci := 13) (q0 := h0) rfl (Wd_ob kg_66 sg_66 (by decide)), fun U hU hW => ⟨rfl, by rw [hU], by rw [hU]; exact hP, va_K.moved hW.alike hK, hD.weaken (fun _ _ _ _ => trivial), hN.warm hW⟩⟩ rfl rfl hl.1 rfl (lv_room (Nat.le_of_ble_eq_true rfl)) dX13_onReference_104 ⟨Nat.le_of_ble_eq_true rfl, Nat.le_of_ble_eq_true rfl⟩) hS (fun q _ h => hFc q h) hFc (fun rr u t H_81 locs ht hvm hw hB hz1 hk1 hS2 => ?_)
          rw [hw]
          clear hw
          obtain ⟨hP1, -, hD1⟩ := hB
          rw [ht] at hP1
          replace hD := hD1.weaken (fun _ _ _ h => hFc _ h)
          replace hP := hP1
          replace hS := hS2
          clear hP1 hD1 hS2 hFc hfc hz1 hk1 hvm ht
          refine lv_iconst (v := 4) hx hb dX13_onReference_107 (by decide) ?_
          obtain ⟨z_82, _u, hfc, hf⟩ := cal_some hf
          have hFc := de_free hD hS hA
          refine va_callv (va_runV (As := [.int r_80, .int 4]) (rest := []) ⟨hx, hb, hml, hown, hts⟩ (de_X13_need l dC dI cy a sh n H_81.size F z_79 h0 r_80 4 hfc) (cwV 2 hts gX13_onReference_X13_need rfl rfl rfl (by decide +kernel) ⟨Nat.le_of_ble_eq_true rfl, Nat.le_of_ble_eq_true rfl⟩) ⟨fun a U g mk q => by obtain ⟨q0, q1, qP, qK, qD, qN⟩ := q; exact ⟨q0, q1, qP, va_K.moved (u := U) (U := U.calling g mk a) (Vm.Alike.refl U.vm) qK, qD, qN.same rfl⟩, va_recv hK hP (ci := 13) (q0 := h0) rfl (Wd_ob kg_66 sg_66 (by decide)), fun U hU hW => ⟨rfl, by rw [hU], by rw [hU]; exact hP, va_K.moved hW.alike hK, hD.weaken (fun _ _ _ _ => trivial), hN.warm hW⟩⟩ rfl rfl hl.1 rfl (lv_room (Nat.le_of_ble_eq_true rfl)) dX13_onReference_108 ⟨Nat.le_of_ble_eq_true rfl, Nat.le_of_ble_eq_true rfl⟩) hS (fun q _ h => hFc q h) hFc (fun u t H_83 locs ht hvm hw hB hz1 hk1 hS2 => ?_)
          obtain ⟨hP1, -, hD1⟩ := hB
          rw [ht] at hP1
          replace hD := hD1.weaken (fun _ _ _ h => hFc _ h)
          replace hP := hP1
          replace hS := hS2
          clear hP1 hD1 hS2 hFc hfc hz1 hk1 hvm ht
          exact B111 (z_82) ls H_83 locs ⟨lv_sub hl [0] rfl, hP, hD, hS⟩ hf
    · skip
      rw [if_pos c_26] at hf
      exact B12 (z) ls H locs ⟨lv_sub hl [0, 1, 2, 3] rfl, hP, hD, hS⟩ hf

theorem md_X9_addPlace_1 : (.fieldLink RX9 18 "ResourceLedger$Tree" "digest" "LResourceLedger$Digest;" : Cond) ∈ wsX9_addPlace := List.mem_of_getElem? (i := 1) rfl
theorem iwd_X9_addPlace_X9 : ∀ w ∈ wsX90, w ∈ wsX9_addPlace := fun _ h => List.mem_cons_of_mem _ (List.mem_append_left _ (List.mem_append_right _ h))
theorem md_X9_addPlace_2 : (.fieldLink RX9 52 "ResourceLedger$Tree" "count" "I" : Cond) ∈ wsX9_addPlace := List.mem_of_getElem? (i := 2) rfl
theorem md_X9_addPlace_3 : (.fieldLink RX9 22 "ResourceLedger$Tree" "rows" "[J" : Cond) ∈ wsX9_addPlace := List.mem_of_getElem? (i := 3) rfl
theorem md_X9_addPlace_4 : (.fieldLink RX9 28 "ResourceLedger$Tree" "value" "[J" : Cond) ∈ wsX9_addPlace := List.mem_of_getElem? (i := 4) rfl
theorem md_X9_addPlace_5 : (.fieldLink RX9 25 "ResourceLedger$Tree" "leaves" "[J" : Cond) ∈ wsX9_addPlace := List.mem_of_getElem? (i := 5) rfl
theorem md_X9_addPlace_6 : (.fieldLink RX9 31 "ResourceLedger$Tree" "order" "[I" : Cond) ∈ wsX9_addPlace := List.mem_of_getElem? (i := 6) rfl
set_option maxHeartbeats 4000000 in
set_option maxRecDepth 100000 in
theorem de_X9_addPlace (l : Launch) (dC : Nat → ClassId) (dI : Nat → Nat → Nat) (cy : Nat → ClassId) (a : Nat → Nat) (sh : Nat → Nat × Nat) (n sz : Nat) (F : Nat) (sk : Nat → Nat) (z : St) (h0 : Nat) (x0 : Int32) (x1 : Int64) (x2 : Int32) (x3 : Int32) {z8 : St} {r8 : Unit} (hf : fn_X9_addPlace F sh n z h0 x0 x1 x2 x3 = some (z8, r8)) : Met l yX9_addPlace wsX9_addPlace ({ frames := 4, cells := 0, slots := 0, locals := 99 }) (va_Pc [.ref (a h0), .int x0, .long x1, .int x2, .int x3] (fun U => U.heap.size = sz ∧ va_P (dC, dI) vwCl (Wd cy a sh n z) U.heap ∧ va_K (dC, dI) vwCl (TYS cy) U ∧ va_D (fun _ => True) (Wd cy a sh n z) ∧ NK U ∧ SKs sk (a CBK) (va_A (Wd cy a sh n z) sz) U U.heap)) (va_Qv (fun u : Unit => True) (fun u t => va_P (dC, dI) vwCl (Wd cy a sh n z8) t.heap ∧ va_K (dC, dI) vwCl (TYS cy) t ∧ va_D (va_A (Wd cy a sh n z) sz) (Wd cy a sh n z8)) (va_A (Wd cy a sh n z) sz)) 0 0 (va_A (Wd cy a sh n z) sz) := by
  refine Met.ofW (cc := cX9_addPlace) (maxL := 8) (ret := none) (by decide) rfl ?_
  intro p e s m args below meth c s₁ B hml hv
  obtain ⟨rfl, hsz, hP, hK, hD0, hN, hSK⟩ := hv
  have hx := B.exec
  have hb := B.bytes
  have hr := B.returns
  have hts := atoms_spec (ws := wsX9_addPlace) B.pre
  have hown : s.vm.findClass RX9 = some m.cls := findClass_of_methodNamed B.named
  have hlocks := B.notSynchronized
  subst hsz
  have hD := hD0.self (sz := s.heap.size)
  clear hD0
  generalize hAe : va_A (Wd cy a sh n z) s.heap.size = A at hD hSK ⊢
  have hA : ∀ q : Nat, s.heap.size ≤ q → A q := fun q h => by rw [← hAe]; exact Or.inr h
  clear hAe
  have hS : va_S A s.heap s.heap [] := va_S.rf
  have hl := lv_entry ([.ref (a h0), .int x0, .long x1, .int x2, .int x3]) (n := 8) (Nat.le_of_ble_eq_true rfl)
  rw [lg_entry_eq]
  generalize (lg_sl ([.ref (a h0), .int x0, .long x1, .int x2, .int x3]) ++ List.replicate (8 - (lg_sl ([.ref (a h0), .int x0, .long x1, .int x2, .int x3])).length) Slot.unset).toArray = ls at hl ⊢
  replace hl : lv_has ls 8 [(0, .ref (a h0)), (1, .int x0), (2, .long x1), (4, .int x2), (5, .int x3)] := hl
  unfold fn_X9_addPlace at hf
  refine de_start hS hP (fun H locs hS hP => ?_)
  refine lv_aload_n hx hb dX9_addPlace_0 rfl (lv_at hl 0 rfl) ?_
  obtain ⟨g_1, hf⟩ := grd_some hf
  obtain ⟨kg_1, sg_1⟩ := okO_at g_1
  obtain ⟨k_2, ek_2, hf⟩ := lnk_some hf
  refine va_get (D := (dC, dI)) (ci := 9) (v := .ref (a k_2)) (C := RX9) (T := TX9) (N := 13) hx hb hts iwd_X9_addPlace_X9 hown hK hP h0 (Wd_ob kg_1 sg_1 (by decide)) rfl 2 (by decide) (hts _ md_X9_addPlace_1) (fun _ h9 => h9) (fl_q rfl ek_2) dX9_addPlace_1 ?_
  obtain ⟨g_4, hf⟩ := grd_some hf
  obtain ⟨kg_4, sg_4⟩ := okO_at g_4
  obtain ⟨z_3, _u, hfc, hf⟩ := cal_some hf
  have hFc := de_free hD hS hA
  refine va_callv (va_runV (As := []) (rest := []) ⟨hx, hb, hml, hown, hts⟩ (de_X0_finish l dC dI cy a sh n H.size F sk z k_2 hfc) (cwV 0 hts gX9_addPlace_X0_finish rfl rfl rfl (by decide +kernel) ⟨Nat.le_of_ble_eq_true rfl, Nat.le_of_ble_eq_true rfl⟩) ⟨fun a U g mk q => by obtain ⟨q0, q1, qP, qK, qD, qN, qS⟩ := q; exact ⟨q0, q1, qP, va_K.moved (u := U) (U := U.calling g mk a) (Vm.Alike.refl U.vm) qK, qD, qN.same rfl, SKs.moved (u := U) (U := U.calling g mk a) (Vm.Alike.refl U.vm) qS⟩, va_recv hK hP (ci := 0) (q0 := k_2) rfl (Wd_ob kg_4 sg_4 (by decide)), fun U hU hW => ⟨rfl, by rw [hU], by rw [hU]; exact hP, va_K.moved hW.alike hK, hD.weaken (fun _ _ _ _ => trivial), hN.warm hW, by rw [hU]; exact ((hSK.kept hS.2.1).narrow hFc).moved hW.alike⟩⟩ rfl rfl hl.1 rfl (lv_room (Nat.le_of_ble_eq_true rfl)) dX9_addPlace_4 ⟨Nat.le_of_ble_eq_true rfl, Nat.le_of_ble_eq_true rfl⟩) hS (fun q _ h => hFc q h) hFc (fun u t H_5 locs ht hvm hw hB hz1 hk1 hS2 => ?_)
  obtain ⟨hP1, -, hD1⟩ := hB
  rw [ht] at hP1
  replace hD := hD1.weaken (fun _ _ _ h => hFc _ h)
  replace hP := hP1
  replace hS := hS2
  clear hP1 hD1 hS2 hFc hfc hz1 hk1 hvm ht
  refine lv_aload_n hx hb dX9_addPlace_7 rfl (lv_at hl 0 rfl) ?_
  refine va_get (D := (dC, dI)) (ci := 9) (v := .int (z_3.1 h0 7)) (C := RX9) (T := TX9) (N := 13) hx hb hts iwd_X9_addPlace_X9 hown hK hP h0 (Wd_ob kg_1 sg_1 (by decide)) rfl 7 (by decide) (hts _ md_X9_addPlace_2) (fun _ h9 => h9) (fl_at (t := 0) rfl) dX9_addPlace_8 ?_
  refine lv_sipush (v := 256) hx hb dX9_addPlace_11 (by decide) ?_
  refine lv_icmp_lt (tgt := 18) hx hb dX9_addPlace_14 (by decide) (fun c_6 => ?_) (fun c_6 => ?_)
  · skip
    rw [if_pos c_6] at hf
    refine lv_aload_n hx hb dX9_addPlace_18 rfl (lv_at hl 0 rfl) ?_
    refine va_get (D := (dC, dI)) (ci := 9) (v := .int (z_3.1 h0 7)) (C := RX9) (T := TX9) (N := 13) hx hb hts iwd_X9_addPlace_X9 hown hK hP h0 (Wd_ob kg_1 sg_1 (by decide)) rfl 7 (by decide) (hts _ md_X9_addPlace_2) (fun _ h9 => h9) (fl_at (t := 0) rfl) dX9_addPlace_19 ?_
    refine lv_bipush (v := 7) hx hb dX9_addPlace_22 (by decide) ?_
    refine lv_imul hx hb dX9_addPlace_24 ?_
    refine lv_topi (fun v_7 ev_7 => ?_)
    replace hf := lt_at ev_7 hf
    clear ev_7
    refine lv_istore (lv' := [(6, .int v_7), (0, .ref (a h0)), (1, .int x0), (2, .long x1), (4, .int x2), (5, .int x3)]) hx hb dX9_addPlace_25 hl (by decide) rfl (fun ls hl2 => ?_)
    replace hl := hl2
    clear hl2
    refine lv_aload_n hx hb dX9_addPlace_27 rfl (lv_at hl 1 rfl) ?_
    obtain ⟨k_8, ek_8, hf⟩ := lnk_some hf
    refine va_get (D := (dC, dI)) (ci := 9) (v := .ref (a k_8)) (C := RX9) (T := TX9) (N := 13) hx hb hts iwd_X9_addPlace_X9 hown hK hP h0 (Wd_ob kg_1 sg_1 (by decide)) rfl 2 (by decide) (hts _ md_X9_addPlace_1) (fun _ h9 => h9) (fl_q rfl ek_8) dX9_addPlace_28 ?_
    refine lv_aload_n hx hb dX9_addPlace_31 rfl (lv_at hl 1 rfl) ?_
    obtain ⟨k_9, ek_9, hf⟩ := lnk_some hf
    refine va_get (D := (dC, dI)) (ci := 9) (v := .ref (a k_9)) (C := RX9) (T := TX9) (N := 13) hx hb hts iwd_X9_addPlace_X9 hown hK hP h0 (Wd_ob kg_1 sg_1 (by decide)) rfl 3 (by decide) (hts _ md_X9_addPlace_3) (fun _ h9 => h9) (fl_q rfl ek_9) dX9_addPlace_32 ?_
    refine lv_iload hx hb dX9_addPlace_35 (lv_at hl 0 rfl) ?_
    obtain ⟨g_11, hf⟩ := grd_some hf
    obtain ⟨kg_11, sg_11⟩ := okO_at g_11
    obtain ⟨z_10, _u, hfc, hf⟩ := cal_some hf
    have hFc := de_free hD hS hA
    refine va_callv (va_runV (As := [.ref (a k_9), .int v_7]) (rest := []) ⟨hx, hb, hml, hown, hts⟩ (de_X0_copyTo l dC dI cy a sh n H_5.size F z_3 k_8 k_9 v_7 hfc) (cwV 2 hts gX9_addPlace_X0_copyTo rfl rfl rfl (by decide +kernel) ⟨Nat.le_of_ble_eq_true rfl, Nat.le_of_ble_eq_true rfl⟩) ⟨fun a U g mk q => by obtain ⟨q0, q1, qP, qK, qD, qN⟩ := q; exact ⟨q0, q1, qP, va_K.moved (u := U) (U := U.calling g mk a) (Vm.Alike.refl U.vm) qK, qD, qN.same rfl⟩, va_recv hK hP (ci := 0) (q0 := k_8) rfl (Wd_ob kg_11 sg_11 (by decide)), fun U hU hW => ⟨rfl, by rw [hU], by rw [hU]; exact hP, va_K.moved hW.alike hK, hD.weaken (fun _ _ _ _ => trivial), hN.warm hW⟩⟩ rfl rfl hl.1 rfl (lv_room (Nat.le_of_ble_eq_true rfl)) dX9_addPlace_37 ⟨Nat.le_of_ble_eq_true rfl, Nat.le_of_ble_eq_true rfl⟩) hS (fun q _ h => hFc q h) hFc (fun u t H_12 locs ht hvm hw hB hz1 hk1 hS2 => ?_)
    obtain ⟨hP1, -, hD1⟩ := hB
    rw [ht] at hP1
    replace hD := hD1.weaken (fun _ _ _ h => hFc _ h)
    replace hP := hP1
    replace hS := hS2
    clear hP1 hD1 hS2 hFc hfc hz1 hk1 hvm ht
    refine lv_aload_n hx hb dX9_addPlace_40 rfl (lv_at hl 1 rfl) ?_
    obtain ⟨k_13, ek_13, hf⟩ := lnk_some hf
    refine va_get (D := (dC, dI)) (ci := 9) (v := .ref (a k_13)) (C := RX9) (T := TX9) (N := 13) hx hb hts iwd_X9_addPlace_X9 hown hK hP h0 (Wd_ob kg_1 sg_1 (by decide)) rfl 3 (by decide) (hts _ md_X9_addPlace_3) (fun _ h9 => h9) (fl_q rfl ek_13) dX9_addPlace_41 ?_
    refine lv_iload hx hb dX9_addPlace_44 (lv_at hl 0 rfl) ?_
    refine lv_iconst (v := 4) hx hb dX9_addPlace_46 (by decide) ?_
    refine lv_iadd hx hb dX9_addPlace_47 ?_
    refine lv_iload_n hx hb dX9_addPlace_48 rfl (lv_at hl 2 rfl) ?_
    refine lv_i2l (v := (x0 : Int32).toInt64) hx hb dX9_addPlace_49 rfl ?_
    obtain ⟨g_14, hf⟩ := grd_some hf
    obtain ⟨kg_14, sg_14, ig_14⟩ := okA_at g_14
    refine va_last hx hb hK hP hD hS k_13 2 (Wd_al kg_14 sg_14) rfl ig_14 dX9_addPlace_50 (fun H_15 locs hP2 hD2 hS2 => ?_)
    rw [Wd_tl sg_14] at hP2 hD2
    obtain ⟨z_16, ez_16⟩ : ∃ w, w = sl z_10 k_13 (v_7 + 4).toNatClampNeg ((x0 : Int32).toInt64) := ⟨_, rfl⟩
    rw [← ez_16] at hP2 hD2
    replace hf := lt_at ez_16 hf
    clear ez_16
    replace hP := hP2
    replace hD := hD2
    replace hS := hS2
    clear hP2 hD2 hS2
    refine lv_aload_n hx hb dX9_addPlace_51 rfl (lv_at hl 1 rfl) ?_
    obtain ⟨k_17, ek_17, hf⟩ := lnk_some hf
    refine va_get (D := (dC, dI)) (ci := 9) (v := .ref (a k_17)) (C := RX9) (T := TX9) (N := 13) hx hb hts iwd_X9_addPlace_X9 hown hK hP h0 (Wd_ob kg_1 sg_1 (by decide)) rfl 3 (by decide) (hts _ md_X9_addPlace_3) (fun _ h9 => h9) (fl_q rfl ek_17) dX9_addPlace_52 ?_
    refine lv_iload hx hb dX9_addPlace_55 (lv_at hl 0 rfl) ?_
    refine lv_iconst (v := 4) hx hb dX9_addPlace_57 (by decide) ?_
    refine lv_iadd hx hb dX9_addPlace_58 ?_
    refine lv_iconst (v := 1) hx hb dX9_addPlace_59 (by decide) ?_
    refine lv_iadd hx hb dX9_addPlace_60 ?_
    refine lv_lload_n hx hb dX9_addPlace_61 rfl (lv_at hl 3 rfl) ?_
    obtain ⟨g_18, hf⟩ := grd_some hf
    obtain ⟨kg_18, sg_18, ig_18⟩ := okA_at g_18
    refine va_last hx hb hK hP hD hS k_17 2 (Wd_al kg_18 sg_18) rfl ig_18 dX9_addPlace_62 (fun H_19 locs hP2 hD2 hS2 => ?_)
    rw [Wd_tl sg_18] at hP2 hD2
    obtain ⟨z_20, ez_20⟩ : ∃ w, w = sl z_16 k_17 ((v_7 + 4) + 1).toNatClampNeg x1 := ⟨_, rfl⟩
    rw [← ez_20] at hP2 hD2
    replace hf := lt_at ez_20 hf
    clear ez_20
    replace hP := hP2
    replace hD := hD2
    replace hS := hS2
    clear hP2 hD2 hS2
    refine lv_aload_n hx hb dX9_addPlace_63 rfl (lv_at hl 1 rfl) ?_
    obtain ⟨k_21, ek_21, hf⟩ := lnk_some hf
    refine va_get (D := (dC, dI)) (ci := 9) (v := .ref (a k_21)) (C := RX9) (T := TX9) (N := 13) hx hb hts iwd_X9_addPlace_X9 hown hK hP h0 (Wd_ob kg_1 sg_1 (by decide)) rfl 3 (by decide) (hts _ md_X9_addPlace_3) (fun _ h9 => h9) (fl_q rfl ek_21) dX9_addPlace_64 ?_
    refine lv_iload hx hb dX9_addPlace_67 (lv_at hl 0 rfl) ?_
    refine lv_iconst (v := 4) hx hb dX9_addPlace_69 (by decide) ?_
    refine lv_iadd hx hb dX9_addPlace_70 ?_
    refine lv_iconst (v := 2) hx hb dX9_addPlace_71 (by decide) ?_
    refine lv_iadd hx hb dX9_addPlace_72 ?_
    refine lv_iload hx hb dX9_addPlace_73 (lv_at hl 4 rfl) ?_
    refine lv_i2l (v := (x2 : Int32).toInt64) hx hb dX9_addPlace_75 rfl ?_
    refine lv_bipush (v := 8) hx hb dX9_addPlace_76 (by decide) ?_
    refine lv_lshl (v := (((x2 : Int32).toInt64) <<< ((8 : Int32).toInt64 &&& 63))) hx hb dX9_addPlace_78 rfl ?_
    refine lv_iload hx hb dX9_addPlace_79 (lv_at hl 5 rfl) ?_
    refine lv_i2l (v := (x3 : Int32).toInt64) hx hb dX9_addPlace_81 rfl ?_
    refine lv_lor hx hb dX9_addPlace_82 ?_
    obtain ⟨g_22, hf⟩ := grd_some hf
    obtain ⟨kg_22, sg_22, ig_22⟩ := okA_at g_22
    refine va_last hx hb hK hP hD hS k_21 2 (Wd_al kg_22 sg_22) rfl ig_22 dX9_addPlace_83 (fun H_23 locs hP2 hD2 hS2 => ?_)
    rw [Wd_tl sg_22] at hP2 hD2
    obtain ⟨z_24, ez_24⟩ : ∃ w, w = sl z_20 k_21 ((v_7 + 4) + 2).toNatClampNeg (((((x2 : Int32).toInt64) <<< ((8 : Int32).toInt64 &&& 63))) ||| ((x3 : Int32).toInt64)) := ⟨_, rfl⟩
    rw [← ez_24] at hP2 hD2
    replace hf := lt_at ez_24 hf
    clear ez_24
    replace hP := hP2
    replace hD := hD2
    replace hS := hS2
    clear hP2 hD2 hS2
    refine lv_aload_n hx hb dX9_addPlace_84 rfl (lv_at hl 1 rfl) ?_
    obtain ⟨k_25, ek_25, hf⟩ := lnk_some hf
    refine va_get (D := (dC, dI)) (ci := 9) (v := .ref (a k_25)) (C := RX9) (T := TX9) (N := 13) hx hb hts iwd_X9_addPlace_X9 hown hK hP h0 (Wd_ob kg_1 sg_1 (by decide)) rfl 2 (by decide) (hts _ md_X9_addPlace_1) (fun _ h9 => h9) (fl_q rfl ek_25) dX9_addPlace_85 ?_
    obtain ⟨g_27, hf⟩ := grd_some hf
    obtain ⟨kg_27, sg_27⟩ := okO_at g_27
    obtain ⟨z_26, _u, hfc, hf⟩ := cal_some hf
    have hFc := de_free hD hS hA
    refine va_callv (va_runV (As := []) (rest := []) ⟨hx, hb, hml, hown, hts⟩ (de_X0_start l dC dI cy a sh n H_23.size F sk z_24 k_25 hfc) (cwV 0 hts gX9_addPlace_X0_start rfl rfl rfl (by decide +kernel) ⟨Nat.le_of_ble_eq_true rfl, Nat.le_of_ble_eq_true rfl⟩) ⟨fun a U g mk q => by obtain ⟨q0, q1, qP, qK, qD, qN, qS⟩ := q; exact ⟨q0, q1, qP, va_K.moved (u := U) (U := U.calling g mk a) (Vm.Alike.refl U.vm) qK, qD, qN.same rfl, SKs.moved (u := U) (U := U.calling g mk a) (Vm.Alike.refl U.vm) qS⟩, va_recv hK hP (ci := 0) (q0 := k_25) rfl (Wd_ob kg_27 sg_27 (by decide)), fun U hU hW => ⟨rfl, by rw [hU], by rw [hU]; exact hP, va_K.moved hW.alike hK, hD.weaken (fun _ _ _ _ => trivial), hN.warm hW, by rw [hU]; exact ((hSK.kept hS.2.1).narrow hFc).moved hW.alike⟩⟩ rfl rfl hl.1 rfl (lv_room (Nat.le_of_ble_eq_true rfl)) dX9_addPlace_88 ⟨Nat.le_of_ble_eq_true rfl, Nat.le_of_ble_eq_true rfl⟩) hS (fun q _ h => hFc q h) hFc (fun u t H_28 locs ht hvm hw hB hz1 hk1 hS2 => ?_)
    obtain ⟨hP1, -, hD1⟩ := hB
    rw [ht] at hP1
    replace hD := hD1.weaken (fun _ _ _ h => hFc _ h)
    replace hP := hP1
    replace hS := hS2
    clear hP1 hD1 hS2 hFc hfc hz1 hk1 hvm ht
    refine lv_aload_n hx hb dX9_addPlace_91 rfl (lv_at hl 1 rfl) ?_
    obtain ⟨k_29, ek_29, hf⟩ := lnk_some hf
    refine va_get (D := (dC, dI)) (ci := 9) (v := .ref (a k_29)) (C := RX9) (T := TX9) (N := 13) hx hb hts iwd_X9_addPlace_X9 hown hK hP h0 (Wd_ob kg_1 sg_1 (by decide)) rfl 2 (by decide) (hts _ md_X9_addPlace_1) (fun _ h9 => h9) (fl_q rfl ek_29) dX9_addPlace_92 ?_
    refine lv_iconst (v := 0) hx hb dX9_addPlace_95 (by decide) ?_
    obtain ⟨g_31, hf⟩ := grd_some hf
    obtain ⟨kg_31, sg_31⟩ := okO_at g_31
    obtain ⟨z_30, _u, hfc, hf⟩ := cal_some hf
    have hFc := de_free hD hS hA
    refine va_callv (va_runV (As := [.int 0]) (rest := []) ⟨hx, hb, hml, hown, hts⟩ (de_X0_put l dC dI cy a sh n H_28.size F sk z_26 k_29 0 hfc) (cwV 1 hts gX9_addPlace_X0_put rfl rfl rfl (by decide +kernel) ⟨Nat.le_of_ble_eq_true rfl, Nat.le_of_ble_eq_true rfl⟩) ⟨fun a U g mk q => by obtain ⟨q0, q1, qP, qK, qD, qN, qS⟩ := q; exact ⟨q0, q1, qP, va_K.moved (u := U) (U := U.calling g mk a) (Vm.Alike.refl U.vm) qK, qD, qN.same rfl, SKs.moved (u := U) (U := U.calling g mk a) (Vm.Alike.refl U.vm) qS⟩, va_recv hK hP (ci := 0) (q0 := k_29) rfl (Wd_ob kg_31 sg_31 (by decide)), fun U hU hW => ⟨rfl, by rw [hU], by rw [hU]; exact hP, va_K.moved hW.alike hK, hD.weaken (fun _ _ _ _ => trivial), hN.warm hW, by rw [hU]; exact ((hSK.kept hS.2.1).narrow hFc).moved hW.alike⟩⟩ rfl rfl hl.1 rfl (lv_room (Nat.le_of_ble_eq_true rfl)) dX9_addPlace_96 ⟨Nat.le_of_ble_eq_true rfl, Nat.le_of_ble_eq_true rfl⟩) hS (fun q _ h => hFc q h) hFc (fun u t H_32 locs ht hvm hw hB hz1 hk1 hS2 => ?_)
    obtain ⟨hP1, -, hD1⟩ := hB
    rw [ht] at hP1
    replace hD := hD1.weaken (fun _ _ _ h => hFc _ h)
    replace hP := hP1
    replace hS := hS2
    clear hP1 hD1 hS2 hFc hfc hz1 hk1 hvm ht
    refine lv_aload_n hx hb dX9_addPlace_99 rfl (lv_at hl 1 rfl) ?_
    obtain ⟨k_33, ek_33, hf⟩ := lnk_some hf
    refine va_get (D := (dC, dI)) (ci := 9) (v := .ref (a k_33)) (C := RX9) (T := TX9) (N := 13) hx hb hts iwd_X9_addPlace_X9 hown hK hP h0 (Wd_ob kg_1 sg_1 (by decide)) rfl 2 (by decide) (hts _ md_X9_addPlace_1) (fun _ h9 => h9) (fl_q rfl ek_33) dX9_addPlace_100 ?_
    refine lv_aload_n hx hb dX9_addPlace_103 rfl (lv_at hl 1 rfl) ?_
    obtain ⟨k_34, ek_34, hf⟩ := lnk_some hf
    refine va_get (D := (dC, dI)) (ci := 9) (v := .ref (a k_34)) (C := RX9) (T := TX9) (N := 13) hx hb hts iwd_X9_addPlace_X9 hown hK hP h0 (Wd_ob kg_1 sg_1 (by decide)) rfl 3 (by decide) (hts _ md_X9_addPlace_3) (fun _ h9 => h9) (fl_q rfl ek_34) dX9_addPlace_104 ?_
    refine lv_iload hx hb dX9_addPlace_107 (lv_at hl 0 rfl) ?_
    obtain ⟨g_36, hf⟩ := grd_some hf
    obtain ⟨kg_36, sg_36⟩ := okO_at g_36
    obtain ⟨z_35, _u, hfc, hf⟩ := cal_some hf
    have hFc := de_free hD hS hA
    refine va_callv (va_runV (As := [.ref (a k_34), .int v_7]) (rest := []) ⟨hx, hb, hml, hown, hts⟩ (de_X0_putLongs l dC dI cy a sh n H_32.size F sk z_30 k_33 k_34 v_7 hfc) (cwV 2 hts gX9_addPlace_X0_putLongs rfl rfl rfl (by decide +kernel) ⟨Nat.le_of_ble_eq_true rfl, Nat.le_of_ble_eq_true rfl⟩) ⟨fun a U g mk q => by obtain ⟨q0, q1, qP, qK, qD, qN, qS⟩ := q; exact ⟨q0, q1, qP, va_K.moved (u := U) (U := U.calling g mk a) (Vm.Alike.refl U.vm) qK, qD, qN.same rfl, SKs.moved (u := U) (U := U.calling g mk a) (Vm.Alike.refl U.vm) qS⟩, va_recv hK hP (ci := 0) (q0 := k_33) rfl (Wd_ob kg_36 sg_36 (by decide)), fun U hU hW => ⟨rfl, by rw [hU], by rw [hU]; exact hP, va_K.moved hW.alike hK, hD.weaken (fun _ _ _ _ => trivial), hN.warm hW, by rw [hU]; exact ((hSK.kept hS.2.1).narrow hFc).moved hW.alike⟩⟩ rfl rfl hl.1 rfl (lv_room (Nat.le_of_ble_eq_true rfl)) dX9_addPlace_109 ⟨Nat.le_of_ble_eq_true rfl, Nat.le_of_ble_eq_true rfl⟩) hS (fun q _ h => hFc q h) hFc (fun u t H_37 locs ht hvm hw hB hz1 hk1 hS2 => ?_)
    obtain ⟨hP1, -, hD1⟩ := hB
    rw [ht] at hP1
    replace hD := hD1.weaken (fun _ _ _ h => hFc _ h)
    replace hP := hP1
    replace hS := hS2
    clear hP1 hD1 hS2 hFc hfc hz1 hk1 hvm ht
    refine lv_aload_n hx hb dX9_addPlace_112 rfl (lv_at hl 1 rfl) ?_
    obtain ⟨k_38, ek_38, hf⟩ := lnk_some hf
    refine va_get (D := (dC, dI)) (ci := 9) (v := .ref (a k_38)) (C := RX9) (T := TX9) (N := 13) hx hb hts iwd_X9_addPlace_X9 hown hK hP h0 (Wd_ob kg_1 sg_1 (by decide)) rfl 2 (by decide) (hts _ md_X9_addPlace_1) (fun _ h9 => h9) (fl_q rfl ek_38) dX9_addPlace_113 ?_
    refine lv_aload_n hx hb dX9_addPlace_116 rfl (lv_at hl 1 rfl) ?_
    obtain ⟨k_39, ek_39, hf⟩ := lnk_some hf
    refine va_get (D := (dC, dI)) (ci := 9) (v := .ref (a k_39)) (C := RX9) (T := TX9) (N := 13) hx hb hts iwd_X9_addPlace_X9 hown hK hP h0 (Wd_ob kg_1 sg_1 (by decide)) rfl 5 (by decide) (hts _ md_X9_addPlace_4) (fun _ h9 => h9) (fl_q rfl ek_39) dX9_addPlace_117 ?_
    refine lv_iconst (v := 0) hx hb dX9_addPlace_120 (by decide) ?_
    obtain ⟨g_41, hf⟩ := grd_some hf
    obtain ⟨kg_41, sg_41⟩ := okO_at g_41
    obtain ⟨z_40, _u, hfc, hf⟩ := cal_some hf
    have hFc := de_free hD hS hA
    refine va_callv (va_runV (As := [.ref (a k_39), .int 0]) (rest := []) ⟨hx, hb, hml, hown, hts⟩ (de_X0_putLongs l dC dI cy a sh n H_37.size F sk z_35 k_38 k_39 0 hfc) (cwV 2 hts gX9_addPlace_X0_putLongs rfl rfl rfl (by decide +kernel) ⟨Nat.le_of_ble_eq_true rfl, Nat.le_of_ble_eq_true rfl⟩) ⟨fun a U g mk q => by obtain ⟨q0, q1, qP, qK, qD, qN, qS⟩ := q; exact ⟨q0, q1, qP, va_K.moved (u := U) (U := U.calling g mk a) (Vm.Alike.refl U.vm) qK, qD, qN.same rfl, SKs.moved (u := U) (U := U.calling g mk a) (Vm.Alike.refl U.vm) qS⟩, va_recv hK hP (ci := 0) (q0 := k_38) rfl (Wd_ob kg_41 sg_41 (by decide)), fun U hU hW => ⟨rfl, by rw [hU], by rw [hU]; exact hP, va_K.moved hW.alike hK, hD.weaken (fun _ _ _ _ => trivial), hN.warm hW, by rw [hU]; exact ((hSK.kept hS.2.1).narrow hFc).moved hW.alike⟩⟩ rfl rfl hl.1 rfl (lv_room (Nat.le_of_ble_eq_true rfl)) dX9_addPlace_121 ⟨Nat.le_of_ble_eq_true rfl, Nat.le_of_ble_eq_true rfl⟩) hS (fun q _ h => hFc q h) hFc (fun u t H_42 locs ht hvm hw hB hz1 hk1 hS2 => ?_)
    obtain ⟨hP1, -, hD1⟩ := hB
    rw [ht] at hP1
    replace hD := hD1.weaken (fun _ _ _ h => hFc _ h)
    replace hP := hP1
    replace hS := hS2
    clear hP1 hD1 hS2 hFc hfc hz1 hk1 hvm ht
    refine lv_aload_n hx hb dX9_addPlace_124 rfl (lv_at hl 1 rfl) ?_
    obtain ⟨k_43, ek_43, hf⟩ := lnk_some hf
    refine va_get (D := (dC, dI)) (ci := 9) (v := .ref (a k_43)) (C := RX9) (T := TX9) (N := 13) hx hb hts iwd_X9_addPlace_X9 hown hK hP h0 (Wd_ob kg_1 sg_1 (by decide)) rfl 2 (by decide) (hts _ md_X9_addPlace_1) (fun _ h9 => h9) (fl_q rfl ek_43) dX9_addPlace_125 ?_
    obtain ⟨g_45, hf⟩ := grd_some hf
    obtain ⟨kg_45, sg_45⟩ := okO_at g_45
    obtain ⟨z_44, _u, hfc, hf⟩ := cal_some hf
    have hFc := de_free hD hS hA
    refine va_callv (va_runV (As := []) (rest := []) ⟨hx, hb, hml, hown, hts⟩ (de_X0_finish l dC dI cy a sh n H_42.size F sk z_40 k_43 hfc) (cwV 0 hts gX9_addPlace_X0_finish rfl rfl rfl (by decide +kernel) ⟨Nat.le_of_ble_eq_true rfl, Nat.le_of_ble_eq_true rfl⟩) ⟨fun a U g mk q => by obtain ⟨q0, q1, qP, qK, qD, qN, qS⟩ := q; exact ⟨q0, q1, qP, va_K.moved (u := U) (U := U.calling g mk a) (Vm.Alike.refl U.vm) qK, qD, qN.same rfl, SKs.moved (u := U) (U := U.calling g mk a) (Vm.Alike.refl U.vm) qS⟩, va_recv hK hP (ci := 0) (q0 := k_43) rfl (Wd_ob kg_45 sg_45 (by decide)), fun U hU hW => ⟨rfl, by rw [hU], by rw [hU]; exact hP, va_K.moved hW.alike hK, hD.weaken (fun _ _ _ _ => trivial), hN.warm hW, by rw [hU]; exact ((hSK.kept hS.2.1).narrow hFc).moved hW.alike⟩⟩ rfl rfl hl.1 rfl (lv_room (Nat.le_of_ble_eq_true rfl)) dX9_addPlace_128 ⟨Nat.le_of_ble_eq_true rfl, Nat.le_of_ble_eq_true rfl⟩) hS (fun q _ h => hFc q h) hFc (fun u t H_46 locs ht hvm hw hB hz1 hk1 hS2 => ?_)
    obtain ⟨hP1, -, hD1⟩ := hB
    rw [ht] at hP1
    replace hD := hD1.weaken (fun _ _ _ h => hFc _ h)
    replace hP := hP1
    replace hS := hS2
    clear hP1 hD1 hS2 hFc hfc hz1 hk1 hvm ht
    refine lv_aload_n hx hb dX9_addPlace_131 rfl (lv_at hl 1 rfl) ?_
    obtain ⟨k_47, ek_47, hf⟩ := lnk_some hf
    refine va_get (D := (dC, dI)) (ci := 9) (v := .ref (a k_47)) (C := RX9) (T := TX9) (N := 13) hx hb hts iwd_X9_addPlace_X9 hown hK hP h0 (Wd_ob kg_1 sg_1 (by decide)) rfl 2 (by decide) (hts _ md_X9_addPlace_1) (fun _ h9 => h9) (fl_q rfl ek_47) dX9_addPlace_132 ?_
    refine lv_aload_n hx hb dX9_addPlace_135 rfl (lv_at hl 1 rfl) ?_
    obtain ⟨k_48, ek_48, hf⟩ := lnk_some hf
    refine va_get (D := (dC, dI)) (ci := 9) (v := .ref (a k_48)) (C := RX9) (T := TX9) (N := 13) hx hb hts iwd_X9_addPlace_X9 hown hK hP h0 (Wd_ob kg_1 sg_1 (by decide)) rfl 4 (by decide) (hts _ md_X9_addPlace_5) (fun _ h9 => h9) (fl_q rfl ek_48) dX9_addPlace_136 ?_
    refine lv_aload_n hx hb dX9_addPlace_139 rfl (lv_at hl 1 rfl) ?_
    refine va_get (D := (dC, dI)) (ci := 9) (v := .int (z_44.1 h0 7)) (C := RX9) (T := TX9) (N := 13) hx hb hts iwd_X9_addPlace_X9 hown hK hP h0 (Wd_ob kg_1 sg_1 (by decide)) rfl 7 (by decide) (hts _ md_X9_addPlace_2) (fun _ h9 => h9) (fl_at (t := 0) rfl) dX9_addPlace_140 ?_
    refine lv_iconst (v := 4) hx hb dX9_addPlace_143 (by decide) ?_
    refine lv_imul hx hb dX9_addPlace_144 ?_
    obtain ⟨g_50, hf⟩ := grd_some hf
    obtain ⟨kg_50, sg_50⟩ := okO_at g_50
    obtain ⟨z_49, _u, hfc, hf⟩ := cal_some hf
    have hFc := de_free hD hS hA
    refine va_callv (va_runV (As := [.ref (a k_48), .int ((z_44.1 h0 7) * 4)]) (rest := []) ⟨hx, hb, hml, hown, hts⟩ (de_X0_copyTo l dC dI cy a sh n H_46.size F z_44 k_47 k_48 ((z_44.1 h0 7) * 4) hfc) (cwV 2 hts gX9_addPlace_X0_copyTo rfl rfl rfl (by decide +kernel) ⟨Nat.le_of_ble_eq_true rfl, Nat.le_of_ble_eq_true rfl⟩) ⟨fun a U g mk q => by obtain ⟨q0, q1, qP, qK, qD, qN⟩ := q; exact ⟨q0, q1, qP, va_K.moved (u := U) (U := U.calling g mk a) (Vm.Alike.refl U.vm) qK, qD, qN.same rfl⟩, va_recv hK hP (ci := 0) (q0 := k_47) rfl (Wd_ob kg_50 sg_50 (by decide)), fun U hU hW => ⟨rfl, by rw [hU], by rw [hU]; exact hP, va_K.moved hW.alike hK, hD.weaken (fun _ _ _ _ => trivial), hN.warm hW⟩⟩ rfl rfl hl.1 rfl (lv_room (Nat.le_of_ble_eq_true rfl)) dX9_addPlace_145 ⟨Nat.le_of_ble_eq_true rfl, Nat.le_of_ble_eq_true rfl⟩) hS (fun q _ h => hFc q h) hFc (fun u t H_51 locs ht hvm hw hB hz1 hk1 hS2 => ?_)
    obtain ⟨hP1, -, hD1⟩ := hB
    rw [ht] at hP1
    replace hD := hD1.weaken (fun _ _ _ h => hFc _ h)
    replace hP := hP1
    replace hS := hS2
    clear hP1 hD1 hS2 hFc hfc hz1 hk1 hvm ht
    refine lv_aload_n hx hb dX9_addPlace_148 rfl (lv_at hl 1 rfl) ?_
    refine va_get (D := (dC, dI)) (ci := 9) (v := .int (z_49.1 h0 7)) (C := RX9) (T := TX9) (N := 13) hx hb hts iwd_X9_addPlace_X9 hown hK hP h0 (Wd_ob kg_1 sg_1 (by decide)) rfl 7 (by decide) (hts _ md_X9_addPlace_2) (fun _ h9 => h9) (fl_at (t := 0) rfl) dX9_addPlace_149 ?_
    refine lv_topi (fun v_52 ev_52 => ?_)
    replace hf := lt_at ev_52 hf
    clear ev_52
    refine lv_istore (lv' := [(7, .int v_52), (6, .int v_7), (0, .ref (a h0)), (1, .int x0), (2, .long x1), (4, .int x2), (5, .int x3)]) hx hb dX9_addPlace_152 hl (by decide) rfl (fun ls hl2 => ?_)
    replace hl := hl2
    clear hl2
    have hl0 : lv_has ls 8 [(7, .int v_52), (0, .ref (a h0))] := lv_sub hl [0, 2] rfl
    refine de_loop (h := 154) (fun (x : St × Int32) ls H locs => lv_has ls 8 [(7, .int x.2), (0, .ref (a h0))] ∧ va_P (dC, dI) vwCl (Wd cy a sh n x.1) H ∧ va_D A (Wd cy a sh n x.1) ∧ va_S A s.heap H locs) (fun f x => fn_X9_addPlace_L154 F sh n h0 f x.1 x.2) (z8, r8) ?_ (fun _ => rfl) F (z_49, v_52) ls H_51 locs ⟨hl0, hP, hD, hS⟩ hf
    intro f_55 x ls H locs ih154 hI hf
    obtain ⟨z_54, p_53⟩ := x
    obtain ⟨hl2, hP2, hD2, hS2⟩ := hI
    replace hl : lv_has ls 8 [(7, .int p_53), (0, .ref (a h0))] := hl2
    replace hP := hP2
    replace hD := hD2
    replace hS := hS2
    clear hl2 hP2 hD2 hS2 hl0
    replace hf := fn_X9_addPlace_L154_s hf
    refine lv_iload hx hb dX9_addPlace_154 (lv_at hl 0 rfl) ?_
    refine de_cut (h := 201) (fun (x : St × Int32) => []) (fun x ls H locs => lv_has ls 8 [(7, .int x.2), (0, .ref (a h0))] ∧ va_P (dC, dI) vwCl (Wd cy a sh n x.1) H ∧ va_D A (Wd cy a sh n x.1) ∧ va_S A s.heap H locs) (fun x => fn_X9_addPlace_B201 F sh n h0 x.1 x.2) (z8, r8) ?_ (fun B201 => ?_)
    · intro x ls H locs hI hf
      obtain ⟨z_57, p_56⟩ := x
      obtain ⟨hl2, hP2, hD2, hS2⟩ := hI
      replace hl : lv_has ls 8 [(7, .int p_56), (0, .ref (a h0))] := hl2
      replace hP := hP2
      replace hD := hD2
      replace hS := hS2
      clear hl2 hP2 hD2 hS2
      replace hf := fn_X9_addPlace_B201_s hf
      refine W.eq (g2 := F0 m 201 ls []) rfl ?_
      refine lv_aload_n hx hb dX9_addPlace_201 rfl (lv_at hl 1 rfl) ?_
      obtain ⟨k_58, ek_58, hf⟩ := lnk_some hf
      refine va_get (D := (dC, dI)) (ci := 9) (v := .ref (a k_58)) (C := RX9) (T := TX9) (N := 13) hx hb hts iwd_X9_addPlace_X9 hown hK hP h0 (Wd_ob kg_1 sg_1 (by decide)) rfl 6 (by decide) (hts _ md_X9_addPlace_6) (fun _ h9 => h9) (fl_q rfl ek_58) dX9_addPlace_202 ?_
      refine lv_iload hx hb dX9_addPlace_205 (lv_at hl 0 rfl) ?_
      refine lv_aload_n hx hb dX9_addPlace_207 rfl (lv_at hl 1 rfl) ?_
      refine va_get (D := (dC, dI)) (ci := 9) (v := .int (z_57.1 h0 7)) (C := RX9) (T := TX9) (N := 13) hx hb hts iwd_X9_addPlace_X9 hown hK hP h0 (Wd_ob kg_1 sg_1 (by decide)) rfl 7 (by decide) (hts _ md_X9_addPlace_2) (fun _ h9 => h9) (fl_at (t := 0) rfl) dX9_addPlace_208 ?_
      obtain ⟨g_59, hf⟩ := grd_some hf
      obtain ⟨kg_59, sg_59, ig_59⟩ := okA_at g_59
      refine va_iast hx hb hK hP hD hS k_58 1 (Wd_ai kg_59 sg_59) rfl ig_59 dX9_addPlace_211 (fun H_60 locs hP2 hD2 hS2 => ?_)
      rw [Wd_ti sg_59] at hP2 hD2
      obtain ⟨z_61, ez_61⟩ : ∃ w, w = si z_57 k_58 p_56.toNatClampNeg (z_57.1 h0 7) := ⟨_, rfl⟩
      rw [← ez_61] at hP2 hD2
      replace hf := lt_at ez_61 hf
      clear ez_61
      replace hP := hP2
      replace hD := hD2
      replace hS := hS2
      clear hP2 hD2 hS2
      refine lv_aload_n hx hb dX9_addPlace_212 rfl (lv_at hl 1 rfl) ?_
      refine lv_dup hx hb dX9_addPlace_213 rfl ?_
      refine va_get (D := (dC, dI)) (ci := 9) (v := .int (z_61.1 h0 7)) (C := RX9) (T := TX9) (N := 13) hx hb hts iwd_X9_addPlace_X9 hown hK hP h0 (Wd_ob kg_1 sg_1 (by decide)) rfl 7 (by decide) (hts _ md_X9_addPlace_2) (fun _ h9 => h9) (fl_at (t := 0) rfl) dX9_addPlace_214 ?_
      refine lv_iconst (v := 1) hx hb dX9_addPlace_217 (by decide) ?_
      refine lv_iadd hx hb dX9_addPlace_218 ?_
      refine va_put (D := (dC, dI)) (ci := 9) (v := .int ((z_61.1 h0 7) + 1)) (ty := .int) (C := RX9) (T := TX9) (N := 13) hx hb hts iwd_X9_addPlace_X9 tyX9 tyX9_ok nmX9 hown hK hP hD hS h0 (Wd_ob kg_1 sg_1 (by decide)) rfl 7 (by decide) (hts _ md_X9_addPlace_2) (fun _ h9 => h9) rfl (by decide +kernel) rfl rfl (by rw [fl_len]; decide) dX9_addPlace_219 (fun H_62 locs hP2 hD2 hS2 => ?_)
      rw [Wd_si sg_1 (by decide) rfl] at hP2 hD2
      obtain ⟨z_63, ez_63⟩ : ∃ w, w = si z_61 h0 7 ((z_61.1 h0 7) + 1) := ⟨_, rfl⟩
      rw [← ez_63] at hP2 hD2
      replace hf := lt_at ez_63 hf
      clear ez_63
      replace hP := hP2
      replace hD := hD2
      replace hS := hS2
      clear hP2 hD2 hS2
      obtain ⟨h8, h9⟩ := ret_some hf
      rw [h8]
      exact W.vret hx hb hr (fun t ht hW => ⟨⟨(), rfl, trivial, by rw [ht]; exact hP, va_K.moved hW.alike hK, hD⟩, hS.F ht⟩) hS.2.2 dX9_addPlace_222
    refine lv_if_le (tgt := 201) hx hb dX9_addPlace_156 (by decide) (fun c_64 => ?_) (fun c_64 => ?_)
    · skip
      rw [if_pos c_64] at hf
      exact B201 (z_54, p_53) ls H locs ⟨lv_sub hl [0, 1] rfl, hP, hD, hS⟩ hf
    · skip
      rw [if_neg c_64] at hf
      refine lv_aload_n hx hb dX9_addPlace_159 rfl (lv_at hl 1 rfl) ?_
      refine lv_aload_n hx hb dX9_addPlace_160 rfl (lv_at hl 1 rfl) ?_
      refine va_get (D := (dC, dI)) (ci := 9) (v := .int (z_54.1 h0 7)) (C := RX9) (T := TX9) (N := 13) hx hb hts iwd_X9_addPlace_X9 hown hK hP h0 (Wd_ob kg_1 sg_1 (by decide)) rfl 7 (by decide) (hts _ md_X9_addPlace_2) (fun _ h9 => h9) (fl_at (t := 0) rfl) dX9_addPlace_161 ?_
      refine lv_aload_n hx hb dX9_addPlace_164 rfl (lv_at hl 1 rfl) ?_
      obtain ⟨k_65, ek_65, hf⟩ := lnk_some hf
      refine va_get (D := (dC, dI)) (ci := 9) (v := .ref (a k_65)) (C := RX9) (T := TX9) (N := 13) hx hb hts iwd_X9_addPlace_X9 hown hK hP h0 (Wd_ob kg_1 sg_1 (by decide)) rfl 6 (by decide) (hts _ md_X9_addPlace_6) (fun _ h9 => h9) (fl_q rfl ek_65) dX9_addPlace_165 ?_
      refine lv_iload hx hb dX9_addPlace_168 (lv_at hl 0 rfl) ?_
      refine lv_iconst (v := 1) hx hb dX9_addPlace_170 (by decide) ?_
      refine lv_isub hx hb dX9_addPlace_171 ?_
      obtain ⟨g_66, hf⟩ := grd_some hf
      obtain ⟨kg_66, sg_66, ig_66⟩ := okA_at g_66
      refine va_iald hx hb hK hP k_65 1 (Wd_ai kg_66 sg_66) rfl ig_66 dX9_addPlace_172 ?_
      obtain ⟨z_67, r_68, hfc, hf⟩ := cal_some hf
      have hFc := de_free hD hS hA
      refine va_calli (va_runV (As := [.int (z_54.1 h0 7), .int (z_54.1 k_65 (p_53 - 1).toNatClampNeg)]) (rest := []) ⟨hx, hb, hml, hown, hts⟩ (de_X9_isBelow l dC dI cy a sh n H.size F z_54 h0 (z_54.1 h0 7) (z_54.1 k_65 (p_53 - 1).toNatClampNeg) hfc) (cwV 2 hts gX9_addPlace_X9_isBelow rfl rfl rfl (by decide +kernel) ⟨Nat.le_of_ble_eq_true rfl, Nat.le_of_ble_eq_true rfl⟩) ⟨fun a U g mk q => by obtain ⟨q0, q1, qP, qK, qD, qN⟩ := q; exact ⟨q0, q1, qP, va_K.moved (u := U) (U := U.calling g mk a) (Vm.Alike.refl U.vm) qK, qD, qN.same rfl⟩, va_recv hK hP (ci := 9) (q0 := h0) rfl (Wd_ob kg_1 sg_1 (by decide)), fun U hU hW => ⟨rfl, by rw [hU], by rw [hU]; exact hP, va_K.moved hW.alike hK, hD.weaken (fun _ _ _ _ => trivial), hN.warm hW⟩⟩ rfl rfl hl.1 rfl (lv_room (Nat.le_of_ble_eq_true rfl)) dX9_addPlace_173 ⟨Nat.le_of_ble_eq_true rfl, Nat.le_of_ble_eq_true rfl⟩) hS (fun q _ h => hFc q h) hFc (fun rr u t H_69 locs ht hvm hw hB hz1 hk1 hS2 => ?_)
      rw [hw]
      clear hw
      obtain ⟨hP1, -, hD1⟩ := hB
      rw [ht] at hP1
      replace hD := hD1.weaken (fun _ _ _ h => hFc _ h)
      replace hP := hP1
      replace hS := hS2
      clear hP1 hD1 hS2 hFc hfc hz1 hk1 hvm ht
      refine lv_if_eq (tgt := 201) hx hb dX9_addPlace_176 (by decide) (fun c_70 => ?_) (fun c_70 => ?_)
      · skip
        rw [if_pos c_70] at hf
        exact B201 (z_67, p_53) ls H_69 locs ⟨lv_sub hl [0, 1] rfl, hP, hD, hS⟩ hf
      · skip
        rw [if_neg c_70] at hf
        refine lv_aload_n hx hb dX9_addPlace_179 rfl (lv_at hl 1 rfl) ?_
        obtain ⟨k_71, ek_71, hf⟩ := lnk_some hf
        refine va_get (D := (dC, dI)) (ci := 9) (v := .ref (a k_71)) (C := RX9) (T := TX9) (N := 13) hx hb hts iwd_X9_addPlace_X9 hown hK hP h0 (Wd_ob kg_1 sg_1 (by decide)) rfl 6 (by decide) (hts _ md_X9_addPlace_6) (fun _ h9 => h9) (fl_q rfl ek_71) dX9_addPlace_180 ?_
        refine lv_iload hx hb dX9_addPlace_183 (lv_at hl 0 rfl) ?_
        refine lv_aload_n hx hb dX9_addPlace_185 rfl (lv_at hl 1 rfl) ?_
        obtain ⟨k_72, ek_72, hf⟩ := lnk_some hf
        refine va_get (D := (dC, dI)) (ci := 9) (v := .ref (a k_72)) (C := RX9) (T := TX9) (N := 13) hx hb hts iwd_X9_addPlace_X9 hown hK hP h0 (Wd_ob kg_1 sg_1 (by decide)) rfl 6 (by decide) (hts _ md_X9_addPlace_6) (fun _ h9 => h9) (fl_q rfl ek_72) dX9_addPlace_186 ?_
        refine lv_iload hx hb dX9_addPlace_189 (lv_at hl 0 rfl) ?_
        refine lv_iconst (v := 1) hx hb dX9_addPlace_191 (by decide) ?_
        refine lv_isub hx hb dX9_addPlace_192 ?_
        obtain ⟨g_73, hf⟩ := grd_some hf
        obtain ⟨kg_73, sg_73, ig_73⟩ := okA_at g_73
        refine va_iald hx hb hK hP k_72 1 (Wd_ai kg_73 sg_73) rfl ig_73 dX9_addPlace_193 ?_
        obtain ⟨g_74, hf⟩ := grd_some hf
        obtain ⟨kg_74, sg_74, ig_74⟩ := okA_at g_74
        refine va_iast hx hb hK hP hD hS k_71 1 (Wd_ai kg_74 sg_74) rfl ig_74 dX9_addPlace_194 (fun H_75 locs hP2 hD2 hS2 => ?_)
        rw [Wd_ti sg_74] at hP2 hD2
        obtain ⟨z_76, ez_76⟩ : ∃ w, w = si z_67 k_71 p_53.toNatClampNeg (z_67.1 k_72 (p_53 - 1).toNatClampNeg) := ⟨_, rfl⟩
        rw [← ez_76] at hP2 hD2
        replace hf := lt_at ez_76 hf
        clear ez_76
        replace hP := hP2
        replace hD := hD2
        replace hS := hS2
        clear hP2 hD2 hS2
        refine lv_iinc (v := (p_53 + (-1))) (lv' := [(7, .int (p_53 + (-1))), (0, .ref (a h0))]) hx hb dX9_addPlace_195 hl (k := 0) rfl rfl (by decide) rfl (fun ls hl2 => ?_)
        replace hl := hl2
        clear hl2
        refine lv_goto (tgt := 154) hx hb dX9_addPlace_198 (by decide) ?_
        exact ih154 (z_76, (p_53 + (-1))) ls H_75 locs ⟨lv_sub hl [0, 1] rfl, hP, hD, hS⟩ hf
  · skip
    rw [if_neg c_6] at hf
    obtain ⟨h8, h9⟩ := ret_some hf
    rw [h8]
    exact W.vret hx hb hr (fun t ht hW => ⟨⟨(), rfl, trivial, by rw [ht]; exact hP, va_K.moved hW.alike hK, hD⟩, hS.F ht⟩) hS.2.2 dX9_addPlace_17

theorem md_X18_onResource_1 : (.fieldLink RX18 369 "ResourceLedgerModel" "unit" "LResourceLedgerModel$Unit;" : Cond) ∈ wsX18_onResource := List.mem_of_getElem? (i := 1) rfl
theorem iwd_X18_onResource_X18 : ∀ w ∈ wsX180, w ∈ wsX18_onResource := fun _ h => List.mem_cons_of_mem _ (List.mem_append_left _ (List.mem_append_left _ (List.mem_append_right _ h)))
theorem md_X18_onResource_4 : (.fieldLink RX18 296 "ResourceLedgerModel" "askedThere" "[Z" : Cond) ∈ wsX18_onResource := List.mem_of_getElem? (i := 4) rfl
theorem md_X18_onResource_6 : (.fieldLink RX18 285 "ResourceLedgerModel" "askedTrees" "[I" : Cond) ∈ wsX18_onResource := List.mem_of_getElem? (i := 6) rfl
theorem md_X18_onResource_3 : (.fieldLink RX18 40 "ResourceLedgerModel" "trees" "LResourceLedgerModel$Trees;" : Cond) ∈ wsX18_onResource := List.mem_of_getElem? (i := 3) rfl
theorem md_X18_onResource_5 : (.constantLong RX18 120 (3) : Cond) ∈ wsX18_onResource := List.mem_of_getElem? (i := 5) rfl
theorem iwd_X18_onResource_X15 : ∀ w ∈ wsX150, w ∈ wsX18_onResource := fun _ h => List.mem_cons_of_mem _ (List.mem_append_left _ (List.mem_append_right _ h))
theorem md_X18_onResource_2 : (.fieldLink RX18 411 "ResourceLedgerModel" "sender" "J" : Cond) ∈ wsX18_onResource := List.mem_of_getElem? (i := 2) rfl
set_option maxHeartbeats 4000000 in
set_option maxRecDepth 100000 in
theorem de_X18_onResource (l : Launch) (dC : Nat → ClassId) (dI : Nat → Nat → Nat) (cy : Nat → ClassId) (a : Nat → Nat) (sh : Nat → Nat × Nat) (n sz : Nat) (F : Nat) (z : St) (h0 : Nat) (x0 : Int32) (x1 : Int32) {z8 : St} {r8 : Unit} (hf : fn_X18_onResource F sh n z h0 x0 x1 = some (z8, r8)) : Met l yX18_onResource wsX18_onResource ({ frames := 52, cells := 0, slots := 0, locals := 1201 }) (va_Pc [.ref (a h0), .int x0, .int x1] (fun U => U.heap.size = sz ∧ va_P (dC, dI) vwCl (Wd cy a sh n z) U.heap ∧ va_K (dC, dI) vwCl (TYS cy) U ∧ va_D (fun _ => True) (Wd cy a sh n z) ∧ NK U)) (va_Qv (fun u : Unit => True) (fun u t => va_P (dC, dI) vwCl (Wd cy a sh n z8) t.heap ∧ va_K (dC, dI) vwCl (TYS cy) t ∧ va_D (va_A (Wd cy a sh n z) sz) (Wd cy a sh n z8)) (va_A (Wd cy a sh n z) sz)) 0 0 (va_A (Wd cy a sh n z) sz) := by
  refine Met.ofW (cc := cX18_onResource) (maxL := 6) (ret := none) (by decide) rfl ?_
  intro p e s m args below meth c s₁ B hml hv
  obtain ⟨rfl, hsz, hP, hK, hD0, hN⟩ := hv
  have hx := B.exec
  have hb := B.bytes
  have hr := B.returns
  have hts := atoms_spec (ws := wsX18_onResource) B.pre
  have hown : s.vm.findClass RX18 = some m.cls := findClass_of_methodNamed B.named
  have hlocks := B.notSynchronized
  subst hsz
  have hD := hD0.self (sz := s.heap.size)
  clear hD0
  generalize hAe : va_A (Wd cy a sh n z) s.heap.size = A at hD ⊢
  have hA : ∀ q : Nat, s.heap.size ≤ q → A q := fun q h => by rw [← hAe]; exact Or.inr h
  clear hAe
  have hS : va_S A s.heap s.heap [] := va_S.rf
  have hl := lv_entry ([.ref (a h0), .int x0, .int x1]) (n := 6) (Nat.le_of_ble_eq_true rfl)
  rw [lg_entry_eq]
  generalize (lg_sl ([.ref (a h0), .int x0, .int x1]) ++ List.replicate (6 - (lg_sl ([.ref (a h0), .int x0, .int x1])).length) Slot.unset).toArray = ls at hl ⊢
  replace hl : lv_has ls 6 [(0, .ref (a h0)), (1, .int x0), (2, .int x1)] := hl
  unfold fn_X18_onResource at hf
  refine de_start hS hP (fun H locs hS hP => ?_)
  refine lv_aload_n hx hb dX18_onResource_0 rfl (lv_at hl 0 rfl) ?_
  obtain ⟨g_1, hf⟩ := grd_some hf
  obtain ⟨kg_1, sg_1⟩ := okO_at g_1
  obtain ⟨k_2, ek_2, hf⟩ := lnk_some hf
  refine va_get (D := (dC, dI)) (ci := 18) (v := .ref (a k_2)) (C := RX18) (T := TX18) (N := 78) hx hb hts iwd_X18_onResource_X18 hown hK hP h0 (Wd_ob kg_1 sg_1 (by decide)) rfl 48 (by decide) (hts _ md_X18_onResource_1) (fun _ h9 => h9) (fl_q rfl ek_2) dX18_onResource_1 ?_
  refine lv_iload_n hx hb dX18_onResource_4 rfl (lv_at hl 2 rfl) ?_
  obtain ⟨g_5, hf⟩ := grd_some hf
  obtain ⟨kg_5, sg_5⟩ := okO_at g_5
  obtain ⟨z_3, r_4, hfc, hf⟩ := cal_some hf
  have hFc := de_free hD hS hA
  refine va_calli (va_runV (As := [.int x1]) (rest := []) ⟨hx, hb, hml, hown, hts⟩ (de_X16_identity l dC dI cy a sh n H.size F z k_2 x1 hfc) (cwV 1 hts gX18_onResource_X16_identity rfl rfl rfl (by decide +kernel) ⟨Nat.le_of_ble_eq_true rfl, Nat.le_of_ble_eq_true rfl⟩) ⟨fun a U g mk q => by obtain ⟨q0, q1, qP, qK, qD, qN⟩ := q; exact ⟨q0, q1, qP, va_K.moved (u := U) (U := U.calling g mk a) (Vm.Alike.refl U.vm) qK, qD, qN.same rfl⟩, va_recv hK hP (ci := 16) (q0 := k_2) rfl (Wd_ob kg_5 sg_5 (by decide)), fun U hU hW => ⟨rfl, by rw [hU], by rw [hU]; exact hP, va_K.moved hW.alike hK, hD.weaken (fun _ _ _ _ => trivial), hN.warm hW⟩⟩ rfl rfl hl.1 rfl (lv_room (Nat.le_of_ble_eq_true rfl)) dX18_onResource_5 ⟨Nat.le_of_ble_eq_true rfl, Nat.le_of_ble_eq_true rfl⟩) hS (fun q _ h => hFc q h) hFc (fun rr u t H_6 locs ht hvm hw hB hz1 hk1 hS2 => ?_)
  rw [hw]
  clear hw
  obtain ⟨hP1, -, hD1⟩ := hB
  rw [ht] at hP1
  replace hD := hD1.weaken (fun _ _ _ h => hFc _ h)
  replace hP := hP1
  replace hS := hS2
  clear hP1 hD1 hS2 hFc hfc hz1 hk1 hvm ht
  refine lv_istore_n (lv' := [(3, .int r_4), (0, .ref (a h0)), (1, .int x0), (2, .int x1)]) hx hb dX18_onResource_8 rfl hl (by decide) rfl (fun ls hl2 => ?_)
  replace hl := hl2
  clear hl2
  refine lv_iload_n hx hb dX18_onResource_9 rfl (lv_at hl 2 rfl) ?_
  refine lv_bipush (v := 47) hx hb dX18_onResource_10 (by decide) ?_
  refine de_cut (h := 29) (fun (x : St × Int32) => [.int x.2]) (fun x ls H locs => lv_has ls 6 [(3, .int r_4), (0, .ref (a h0)), (1, .int x0)] ∧ va_P (dC, dI) vwCl (Wd cy a sh n x.1) H ∧ va_D A (Wd cy a sh n x.1) ∧ va_S A s.heap H locs) (fun x => fn_X18_onResource_B29 F sh n h0 x0 r_4 x.1 x.2) (z8, r8) ?_ (fun B29 => ?_)
  · intro x ls H locs hI hf
    obtain ⟨z_8, p_7⟩ := x
    obtain ⟨hl2, hP2, hD2, hS2⟩ := hI
    replace hl : lv_has ls 6 [(3, .int r_4), (0, .ref (a h0)), (1, .int x0)] := hl2
    replace hP := hP2
    replace hD := hD2
    replace hS := hS2
    clear hl2 hP2 hD2 hS2
    replace hf := fn_X18_onResource_B29_s hf
    refine W.eq (g2 := F0 m 29 ls [.int p_7]) rfl ?_
    refine lv_istore (lv' := [(4, .int p_7), (3, .int r_4), (0, .ref (a h0)), (1, .int x0)]) hx hb dX18_onResource_29 hl (by decide) rfl (fun ls hl2 => ?_)
    replace hl := hl2
    clear hl2
    refine lv_aload_n hx hb dX18_onResource_31 rfl (lv_at hl 2 rfl) ?_
    obtain ⟨z_9, r_10, hfc, hf⟩ := cal_some hf
    have hFc := de_free hD hS hA
    refine va_calli (va_runV (As := []) (rest := []) ⟨hx, hb, hml, hown, hts⟩ (de_X18_goesOn l dC dI cy a sh n H.size F z_8 h0 hfc) (cwV 0 hts gX18_onResource_X18_goesOn rfl rfl rfl (by decide +kernel) ⟨Nat.le_of_ble_eq_true rfl, Nat.le_of_ble_eq_true rfl⟩) ⟨fun a U g mk q => by obtain ⟨q0, q1, qP, qK, qD, qN⟩ := q; exact ⟨q0, q1, qP, va_K.moved (u := U) (U := U.calling g mk a) (Vm.Alike.refl U.vm) qK, qD, qN.same rfl⟩, va_recv hK hP (ci := 18) (q0 := h0) rfl (Wd_ob kg_1 sg_1 (by decide)), fun U hU hW => ⟨rfl, by rw [hU], by rw [hU]; exact hP, va_K.moved hW.alike hK, hD.weaken (fun _ _ _ _ => trivial), hN.warm hW⟩⟩ rfl rfl hl.1 rfl (lv_room (Nat.le_of_ble_eq_true rfl)) dX18_onResource_32 ⟨Nat.le_of_ble_eq_true rfl, Nat.le_of_ble_eq_true rfl⟩) hS (fun q _ h => hFc q h) hFc (fun rr u t H_11 locs ht hvm hw hB hz1 hk1 hS2 => ?_)
    rw [hw]
    clear hw
    obtain ⟨hP1, -, hD1⟩ := hB
    rw [ht] at hP1
    replace hD := hD1.weaken (fun _ _ _ h => hFc _ h)
    replace hP := hP1
    replace hS := hS2
    clear hP1 hD1 hS2 hFc hfc hz1 hk1 hvm ht
    refine lv_if_ne (tgt := 39) hx hb dX18_onResource_35 (by decide) (fun c_12 => ?_) (fun c_12 => ?_)
    · skip
      rw [if_neg c_12] at hf
      refine lv_aload_n hx hb dX18_onResource_39 rfl (lv_at hl 2 rfl) ?_
      refine lv_iconst (v := 3) hx hb dX18_onResource_40 (by decide) ?_
      refine lv_iload_n hx hb dX18_onResource_41 rfl (lv_at hl 3 rfl) ?_
      refine lv_bipush (v := 47) hx hb dX18_onResource_42 (by decide) ?_
      refine de_cut (h := 64) (fun (x : St × Int64) => [.long x.2, .int 3, .ref (a h0)]) (fun x ls H locs => lv_has ls 6 [(4, .int p_7), (3, .int r_4), (0, .ref (a h0)), (1, .int x0)] ∧ va_P (dC, dI) vwCl (Wd cy a sh n x.1) H ∧ va_D A (Wd cy a sh n x.1) ∧ va_S A s.heap H locs) (fun x => fn_X18_onResource_B64 F sh n h0 r_4 x0 p_7 x.1 x.2) (z8, r8) ?_ (fun B64 => ?_)
      · intro x ls H locs hI hf
        obtain ⟨z_14, p_13⟩ := x
        obtain ⟨hl2, hP2, hD2, hS2⟩ := hI
        replace hl : lv_has ls 6 [(4, .int p_7), (3, .int r_4), (0, .ref (a h0)), (1, .int x0)] := hl2
        replace hP := hP2
        replace hD := hD2
        replace hS := hS2
        clear hl2 hP2 hD2 hS2
        replace hf := fn_X18_onResource_B64_s hf
        refine W.eq (g2 := F0 m 64 ls [.long p_13, .int 3, .ref (a h0)]) rfl ?_
        refine lv_iload_n hx hb dX18_onResource_64 rfl (lv_at hl 1 rfl) ?_
        obtain ⟨z_15, r_16, hfc, hf⟩ := cal_some hf
        have hFc := de_free hD hS hA
        refine va_calli (va_runV (As := [.int 3, .long p_13, .int r_4]) (rest := []) ⟨hx, hb, hml, hown, hts⟩ (de_X18_ask l dC dI cy a sh n H.size F z_14 h0 3 p_13 r_4 hfc) (cwV 3 hts gX18_onResource_X18_ask rfl rfl rfl (by decide +kernel) ⟨Nat.le_of_ble_eq_true rfl, Nat.le_of_ble_eq_true rfl⟩) ⟨fun a U g mk q => by obtain ⟨q0, q1, qP, qK, qD, qN⟩ := q; exact ⟨q0, q1, qP, va_K.moved (u := U) (U := U.calling g mk a) (Vm.Alike.refl U.vm) qK, qD, qN.same rfl⟩, va_recv hK hP (ci := 18) (q0 := h0) rfl (Wd_ob kg_1 sg_1 (by decide)), fun U hU hW => ⟨rfl, by rw [hU], by rw [hU]; exact hP, va_K.moved hW.alike hK, hD.weaken (fun _ _ _ _ => trivial), hN.warm hW⟩⟩ rfl rfl hl.1 rfl (lv_room (Nat.le_of_ble_eq_true rfl)) dX18_onResource_65 ⟨Nat.le_of_ble_eq_true rfl, Nat.le_of_ble_eq_true rfl⟩) hS (fun q _ h => hFc q h) hFc (fun rr u t H_17 locs ht hvm hw hB hz1 hk1 hS2 => ?_)
        rw [hw]
        clear hw
        obtain ⟨hP1, -, hD1⟩ := hB
        rw [ht] at hP1
        replace hD := hD1.weaken (fun _ _ _ h => hFc _ h)
        replace hP := hP1
        replace hS := hS2
        clear hP1 hD1 hS2 hFc hfc hz1 hk1 hvm ht
        refine lv_istore (lv' := [(5, .int r_16), (4, .int p_7), (3, .int r_4), (0, .ref (a h0)), (1, .int x0)]) hx hb dX18_onResource_68 hl (by decide) rfl (fun ls hl2 => ?_)
        replace hl := hl2
        clear hl2
        refine lv_iload hx hb dX18_onResource_70 (lv_at hl 0 rfl) ?_
        refine lv_if_ge (tgt := 76) hx hb dX18_onResource_72 (by decide) (fun c_18 => ?_) (fun c_18 => ?_)
        · skip
          rw [if_pos c_18] at hf
          refine lv_iload_n hx hb dX18_onResource_76 rfl (lv_at hl 4 rfl) ?_
          refine lv_bipush (v := 49) hx hb dX18_onResource_77 (by decide) ?_
          refine lv_icmp_ne (tgt := 113) hx hb dX18_onResource_79 (by decide) (fun c_19 => ?_) (fun c_19 => ?_)
          · skip
            rw [if_neg c_19] at hf
            refine lv_aload_n hx hb dX18_onResource_113 rfl (lv_at hl 3 rfl) ?_
            obtain ⟨k_20, ek_20, hf⟩ := lnk_some hf
            refine va_get (D := (dC, dI)) (ci := 18) (v := .ref (a k_20)) (C := RX18) (T := TX18) (N := 78) hx hb hts iwd_X18_onResource_X18 hown hK hP h0 (Wd_ob kg_1 sg_1 (by decide)) rfl 35 (by decide) (hts _ md_X18_onResource_4) (fun _ h9 => h9) (fl_q rfl ek_20) dX18_onResource_114 ?_
            refine lv_iload hx hb dX18_onResource_117 (lv_at hl 0 rfl) ?_
            obtain ⟨g_21, hf⟩ := grd_some hf
            obtain ⟨kg_21, sg_21, ig_21⟩ := okA_at g_21
            refine va_zald hx hb hK hP k_20 3 (Wd_az kg_21 sg_21) rfl ig_21 dX18_onResource_119 ?_
            refine lv_iload_n hx hb dX18_onResource_120 rfl (lv_at hl 4 rfl) ?_
            refine lv_bipush (v := 47) hx hb dX18_onResource_121 (by decide) ?_
            refine de_cut (h := 131) (fun (x : St × Int32) => [.int x.2, .int (z_15.1 k_20 r_16.toNatClampNeg)]) (fun x ls H locs => lv_has ls 6 [(5, .int r_16), (4, .int p_7), (0, .ref (a h0)), (1, .int x0)] ∧ va_P (dC, dI) vwCl (Wd cy a sh n x.1) H ∧ va_D A (Wd cy a sh n x.1) ∧ va_S A s.heap H locs) (fun x => fn_X18_onResource_B131 F sh n z_15 k_20 r_16 h0 x0 p_7 x.1 x.2) (z8, r8) ?_ (fun B131 => ?_)
            · intro x ls H locs hI hf
              obtain ⟨z_23, p_22⟩ := x
              obtain ⟨hl2, hP2, hD2, hS2⟩ := hI
              replace hl : lv_has ls 6 [(5, .int r_16), (4, .int p_7), (0, .ref (a h0)), (1, .int x0)] := hl2
              replace hP := hP2
              replace hD := hD2
              replace hS := hS2
              clear hl2 hP2 hD2 hS2
              replace hf := fn_X18_onResource_B131_s hf
              refine W.eq (g2 := F0 m 131 ls [.int p_22, .int (z_15.1 k_20 r_16.toNatClampNeg)]) rfl ?_
              refine lv_icmp_ne (tgt := 143) hx hb dX18_onResource_131 (by decide) (fun c_24 => ?_) (fun c_24 => ?_)
              · skip
                rw [if_neg c_24] at hf
                refine lv_aload_n hx hb dX18_onResource_143 rfl (lv_at hl 2 rfl) ?_
                refine lv_bipush (v := 10) hx hb dX18_onResource_144 (by decide) ?_
                refine lv_iload_n hx hb dX18_onResource_146 rfl (lv_at hl 3 rfl) ?_
                refine lv_bipush (v := 47) hx hb dX18_onResource_147 (by decide) ?_
                refine de_cut (h := 165) (fun (x : St × Int32) => [.int x.2, .int 10, .ref (a h0)]) (fun x ls H locs => lv_has ls 6 [(5, .int r_16), (4, .int p_7), (0, .ref (a h0)), (1, .int x0)] ∧ va_P (dC, dI) vwCl (Wd cy a sh n x.1) H ∧ va_D A (Wd cy a sh n x.1) ∧ va_S A s.heap H locs) (fun x => fn_X18_onResource_B165 F sh n h0 x0 r_16 p_7 x.1 x.2) (z8, r8) ?_ (fun B165 => ?_)
                · intro x ls H locs hI hf
                  obtain ⟨z_26, p_25⟩ := x
                  obtain ⟨hl2, hP2, hD2, hS2⟩ := hI
                  replace hl : lv_has ls 6 [(5, .int r_16), (4, .int p_7), (0, .ref (a h0)), (1, .int x0)] := hl2
                  replace hP := hP2
                  replace hD := hD2
                  replace hS := hS2
                  clear hl2 hP2 hD2 hS2
                  replace hf := fn_X18_onResource_B165_s hf
                  refine W.eq (g2 := F0 m 165 ls [.int p_25, .int 10, .ref (a h0)]) rfl ?_
                  refine lv_iadd hx hb dX18_onResource_165 ?_
                  obtain ⟨z_27, r_28, hfc, hf⟩ := cal_some hf
                  have hFc := de_free hD hS hA
                  refine va_calli (va_runV (As := [.int (10 + p_25)]) (rest := []) ⟨hx, hb, hml, hown, hts⟩ (de_X18_spend l dC dI cy a sh n H.size F z_26 h0 (10 + p_25) hfc) (cwV 1 hts gX18_onResource_X18_spend rfl rfl rfl (by decide +kernel) ⟨Nat.le_of_ble_eq_true rfl, Nat.le_of_ble_eq_true rfl⟩) ⟨fun a U g mk q => by obtain ⟨q0, q1, qP, qK, qD, qN⟩ := q; exact ⟨q0, q1, qP, va_K.moved (u := U) (U := U.calling g mk a) (Vm.Alike.refl U.vm) qK, qD, qN.same rfl⟩, va_recv hK hP (ci := 18) (q0 := h0) rfl (Wd_ob kg_1 sg_1 (by decide)), fun U hU hW => ⟨rfl, by rw [hU], by rw [hU]; exact hP, va_K.moved hW.alike hK, hD.weaken (fun _ _ _ _ => trivial), hN.warm hW⟩⟩ rfl rfl hl.1 rfl (lv_room (Nat.le_of_ble_eq_true rfl)) dX18_onResource_166 ⟨Nat.le_of_ble_eq_true rfl, Nat.le_of_ble_eq_true rfl⟩) hS (fun q _ h => hFc q h) hFc (fun rr u t H_29 locs ht hvm hw hB hz1 hk1 hS2 => ?_)
                  rw [hw]
                  clear hw
                  obtain ⟨hP1, -, hD1⟩ := hB
                  rw [ht] at hP1
                  replace hD := hD1.weaken (fun _ _ _ h => hFc _ h)
                  replace hP := hP1
                  replace hS := hS2
                  clear hP1 hD1 hS2 hFc hfc hz1 hk1 hvm ht
                  refine lv_if_ne (tgt := 173) hx hb dX18_onResource_169 (by decide) (fun c_30 => ?_) (fun c_30 => ?_)
                  · skip
                    rw [if_neg c_30] at hf
                    refine lv_iload_n hx hb dX18_onResource_173 rfl (lv_at hl 3 rfl) ?_
                    refine lv_bipush (v := 47) hx hb dX18_onResource_174 (by decide) ?_
                    refine lv_icmp_ne (tgt := 199) hx hb dX18_onResource_176 (by decide) (fun c_31 => ?_) (fun c_31 => ?_)
                    · skip
                      rw [if_neg c_31] at hf
                      refine lv_iload_n hx hb dX18_onResource_199 rfl (lv_at hl 3 rfl) ?_
                      refine lv_bipush (v := 48) hx hb dX18_onResource_200 (by decide) ?_
                      refine lv_icmp_ne (tgt := 236) hx hb dX18_onResource_202 (by decide) (fun c_32 => ?_) (fun c_32 => ?_)
                      · skip
                        rw [if_neg c_32] at hf
                        refine lv_aload_n hx hb dX18_onResource_236 rfl (lv_at hl 2 rfl) ?_
                        refine lv_aload_n hx hb dX18_onResource_237 rfl (lv_at hl 2 rfl) ?_
                        obtain ⟨k_33, ek_33, hf⟩ := lnk_some hf
                        refine va_get (D := (dC, dI)) (ci := 18) (v := .ref (a k_33)) (C := RX18) (T := TX18) (N := 78) hx hb hts iwd_X18_onResource_X18 hown hK hP h0 (Wd_ob kg_1 sg_1 (by decide)) rfl 34 (by decide) (hts _ md_X18_onResource_6) (fun _ h9 => h9) (fl_q rfl ek_33) dX18_onResource_238 ?_
                        refine lv_iload hx hb dX18_onResource_241 (lv_at hl 0 rfl) ?_
                        obtain ⟨g_34, hf⟩ := grd_some hf
                        obtain ⟨kg_34, sg_34, ig_34⟩ := okA_at g_34
                        refine va_iald hx hb hK hP k_33 1 (Wd_ai kg_34 sg_34) rfl ig_34 dX18_onResource_243 ?_
                        refine lv_iconst (v := 1) hx hb dX18_onResource_244 (by decide) ?_
                        obtain ⟨z_35, _u, hfc, hf⟩ := cal_some hf
                        have hFc := de_free hD hS hA
                        refine va_callv (va_runV (As := [.int (z_27.1 k_33 r_16.toNatClampNeg), .int 1]) (rest := []) ⟨hx, hb, hml, hown, hts⟩ (de_X18_push l dC dI cy a sh n H_29.size F z_27 h0 (z_27.1 k_33 r_16.toNatClampNeg) 1 hfc) (cwV 2 hts gX18_onResource_X18_push rfl rfl rfl (by decide +kernel) ⟨Nat.le_of_ble_eq_true rfl, Nat.le_of_ble_eq_true rfl⟩) ⟨fun a U g mk q => by obtain ⟨q0, q1, qP, qK, qD, qN⟩ := q; exact ⟨q0, q1, qP, va_K.moved (u := U) (U := U.calling g mk a) (Vm.Alike.refl U.vm) qK, qD, qN.same rfl⟩, va_recv hK hP (ci := 18) (q0 := h0) rfl (Wd_ob kg_1 sg_1 (by decide)), fun U hU hW => ⟨rfl, by rw [hU], by rw [hU]; exact hP, va_K.moved hW.alike hK, hD.weaken (fun _ _ _ _ => trivial), hN.warm hW⟩⟩ rfl rfl hl.1 rfl (lv_room (Nat.le_of_ble_eq_true rfl)) dX18_onResource_245 ⟨Nat.le_of_ble_eq_true rfl, Nat.le_of_ble_eq_true rfl⟩) hS (fun q _ h => hFc q h) hFc (fun u t H_36 locs ht hvm hw hB hz1 hk1 hS2 => ?_)
                        obtain ⟨hP1, -, hD1⟩ := hB
                        rw [ht] at hP1
                        replace hD := hD1.weaken (fun _ _ _ h => hFc _ h)
                        replace hP := hP1
                        replace hS := hS2
                        clear hP1 hD1 hS2 hFc hfc hz1 hk1 hvm ht
                        obtain ⟨h8, h9⟩ := ret_some hf
                        rw [h8]
                        exact W.vret hx hb hr (fun t ht hW => ⟨⟨(), rfl, trivial, by rw [ht]; exact hP, va_K.moved hW.alike hK, hD⟩, hS.F ht⟩) hS.2.2 dX18_onResource_248
                      · skip
                        rw [if_pos c_32] at hf
                        refine lv_aload_n hx hb dX18_onResource_205 rfl (lv_at hl 2 rfl) ?_
                        refine lv_aload_n hx hb dX18_onResource_206 rfl (lv_at hl 2 rfl) ?_
                        obtain ⟨k_37, ek_37, hf⟩ := lnk_some hf
                        refine va_get (D := (dC, dI)) (ci := 18) (v := .ref (a k_37)) (C := RX18) (T := TX18) (N := 78) hx hb hts iwd_X18_onResource_X18 hown hK hP h0 (Wd_ob kg_1 sg_1 (by decide)) rfl 34 (by decide) (hts _ md_X18_onResource_6) (fun _ h9 => h9) (fl_q rfl ek_37) dX18_onResource_207 ?_
                        refine lv_iload hx hb dX18_onResource_210 (lv_at hl 0 rfl) ?_
                        obtain ⟨g_38, hf⟩ := grd_some hf
                        obtain ⟨kg_38, sg_38, ig_38⟩ := okA_at g_38
                        refine va_iald hx hb hK hP k_37 1 (Wd_ai kg_38 sg_38) rfl ig_38 dX18_onResource_212 ?_
                        refine lv_iconst (v := 0) hx hb dX18_onResource_213 (by decide) ?_
                        obtain ⟨z_39, _u, hfc, hf⟩ := cal_some hf
                        have hFc := de_free hD hS hA
                        refine va_callv (va_runV (As := [.int (z_27.1 k_37 r_16.toNatClampNeg), .int 0]) (rest := []) ⟨hx, hb, hml, hown, hts⟩ (de_X18_push l dC dI cy a sh n H_29.size F z_27 h0 (z_27.1 k_37 r_16.toNatClampNeg) 0 hfc) (cwV 2 hts gX18_onResource_X18_push rfl rfl rfl (by decide +kernel) ⟨Nat.le_of_ble_eq_true rfl, Nat.le_of_ble_eq_true rfl⟩) ⟨fun a U g mk q => by obtain ⟨q0, q1, qP, qK, qD, qN⟩ := q; exact ⟨q0, q1, qP, va_K.moved (u := U) (U := U.calling g mk a) (Vm.Alike.refl U.vm) qK, qD, qN.same rfl⟩, va_recv hK hP (ci := 18) (q0 := h0) rfl (Wd_ob kg_1 sg_1 (by decide)), fun U hU hW => ⟨rfl, by rw [hU], by rw [hU]; exact hP, va_K.moved hW.alike hK, hD.weaken (fun _ _ _ _ => trivial), hN.warm hW⟩⟩ rfl rfl hl.1 rfl (lv_room (Nat.le_of_ble_eq_true rfl)) dX18_onResource_214 ⟨Nat.le_of_ble_eq_true rfl, Nat.le_of_ble_eq_true rfl⟩) hS (fun q _ h => hFc q h) hFc (fun u t H_40 locs ht hvm hw hB hz1 hk1 hS2 => ?_)
                        obtain ⟨hP1, -, hD1⟩ := hB
                        rw [ht] at hP1
                        replace hD := hD1.weaken (fun _ _ _ h => hFc _ h)
                        replace hP := hP1
                        replace hS := hS2
                        clear hP1 hD1 hS2 hFc hfc hz1 hk1 hvm ht
                        refine lv_aload_n hx hb dX18_onResource_217 rfl (lv_at hl 2 rfl) ?_
                        obtain ⟨k_41, ek_41, hf⟩ := lnk_some hf
                        refine va_get (D := (dC, dI)) (ci := 18) (v := .ref (a k_41)) (C := RX18) (T := TX18) (N := 78) hx hb hts iwd_X18_onResource_X18 hown hK hP h0 (Wd_ob kg_1 sg_1 (by decide)) rfl 35 (by decide) (hts _ md_X18_onResource_4) (fun _ h9 => h9) (fl_q rfl ek_41) dX18_onResource_218 ?_
                        refine lv_iload hx hb dX18_onResource_221 (lv_at hl 0 rfl) ?_
                        refine lv_iconst (v := 0) hx hb dX18_onResource_223 (by decide) ?_
                        obtain ⟨g_42, hf⟩ := grd_some hf
                        obtain ⟨kg_42, sg_42, ig_42⟩ := okA_at g_42
                        refine va_zast hx hb hK hP hD hS k_41 3 (Wd_az kg_42 sg_42) rfl ig_42 dX18_onResource_224 (fun H_43 locs hP2 hD2 hS2 => ?_)
                        rw [Wd_tz sg_42] at hP2 hD2
                        obtain ⟨z_44, ez_44⟩ : ∃ w, w = si z_39 k_41 r_16.toNatClampNeg (vp_nar .boolean 0) := ⟨_, rfl⟩
                        rw [← ez_44] at hP2 hD2
                        replace hf := lt_at ez_44 hf
                        clear ez_44
                        replace hP := hP2
                        replace hD := hD2
                        replace hS := hS2
                        clear hP2 hD2 hS2
                        refine lv_aload_n hx hb dX18_onResource_225 rfl (lv_at hl 2 rfl) ?_
                        obtain ⟨k_45, ek_45, hf⟩ := lnk_some hf
                        refine va_get (D := (dC, dI)) (ci := 18) (v := .ref (a k_45)) (C := RX18) (T := TX18) (N := 78) hx hb hts iwd_X18_onResource_X18 hown hK hP h0 (Wd_ob kg_1 sg_1 (by decide)) rfl 34 (by decide) (hts _ md_X18_onResource_6) (fun _ h9 => h9) (fl_q rfl ek_45) dX18_onResource_226 ?_
                        refine lv_iload hx hb dX18_onResource_229 (lv_at hl 0 rfl) ?_
                        refine lv_iconst (v := (-1)) hx hb dX18_onResource_231 (by decide) ?_
                        obtain ⟨g_46, hf⟩ := grd_some hf
                        obtain ⟨kg_46, sg_46, ig_46⟩ := okA_at g_46
                        refine va_iast hx hb hK hP hD hS k_45 1 (Wd_ai kg_46 sg_46) rfl ig_46 dX18_onResource_232 (fun H_47 locs hP2 hD2 hS2 => ?_)
                        rw [Wd_ti sg_46] at hP2 hD2
                        obtain ⟨z_48, ez_48⟩ : ∃ w, w = si z_44 k_45 r_16.toNatClampNeg (-1) := ⟨_, rfl⟩
                        rw [← ez_48] at hP2 hD2
                        replace hf := lt_at ez_48 hf
                        clear ez_48
                        replace hP := hP2
                        replace hD := hD2
                        replace hS := hS2
                        clear hP2 hD2 hS2
                        refine lv_goto (tgt := 248) hx hb dX18_onResource_233 (by decide) ?_
                        obtain ⟨h8, h9⟩ := ret_some hf
                        rw [h8]
                        exact W.vret hx hb hr (fun t ht hW => ⟨⟨(), rfl, trivial, by rw [ht]; exact hP, va_K.moved hW.alike hK, hD⟩, hS.F ht⟩) hS.2.2 dX18_onResource_248
                    · skip
                      rw [if_pos c_31] at hf
                      refine lv_aload_n hx hb dX18_onResource_179 rfl (lv_at hl 2 rfl) ?_
                      obtain ⟨k_49, ek_49, hf⟩ := lnk_some hf
                      refine va_get (D := (dC, dI)) (ci := 18) (v := .ref (a k_49)) (C := RX18) (T := TX18) (N := 78) hx hb hts iwd_X18_onResource_X18 hown hK hP h0 (Wd_ob kg_1 sg_1 (by decide)) rfl 35 (by decide) (hts _ md_X18_onResource_4) (fun _ h9 => h9) (fl_q rfl ek_49) dX18_onResource_180 ?_
                      refine lv_iload hx hb dX18_onResource_183 (lv_at hl 0 rfl) ?_
                      refine lv_iconst (v := 1) hx hb dX18_onResource_185 (by decide) ?_
                      obtain ⟨g_50, hf⟩ := grd_some hf
                      obtain ⟨kg_50, sg_50, ig_50⟩ := okA_at g_50
                      refine va_zast hx hb hK hP hD hS k_49 3 (Wd_az kg_50 sg_50) rfl ig_50 dX18_onResource_186 (fun H_51 locs hP2 hD2 hS2 => ?_)
                      rw [Wd_tz sg_50] at hP2 hD2
                      obtain ⟨z_52, ez_52⟩ : ∃ w, w = si z_27 k_49 r_16.toNatClampNeg (vp_nar .boolean 1) := ⟨_, rfl⟩
                      rw [← ez_52] at hP2 hD2
                      replace hf := lt_at ez_52 hf
                      clear ez_52
                      replace hP := hP2
                      replace hD := hD2
                      replace hS := hS2
                      clear hP2 hD2 hS2
                      refine lv_aload_n hx hb dX18_onResource_187 rfl (lv_at hl 2 rfl) ?_
                      obtain ⟨k_53, ek_53, hf⟩ := lnk_some hf
                      refine va_get (D := (dC, dI)) (ci := 18) (v := .ref (a k_53)) (C := RX18) (T := TX18) (N := 78) hx hb hts iwd_X18_onResource_X18 hown hK hP h0 (Wd_ob kg_1 sg_1 (by decide)) rfl 34 (by decide) (hts _ md_X18_onResource_6) (fun _ h9 => h9) (fl_q rfl ek_53) dX18_onResource_188 ?_
                      refine lv_iload hx hb dX18_onResource_191 (lv_at hl 0 rfl) ?_
                      refine lv_iload hx hb dX18_onResource_193 (lv_at hl 1 rfl) ?_
                      obtain ⟨g_54, hf⟩ := grd_some hf
                      obtain ⟨kg_54, sg_54, ig_54⟩ := okA_at g_54
                      refine va_iast hx hb hK hP hD hS k_53 1 (Wd_ai kg_54 sg_54) rfl ig_54 dX18_onResource_195 (fun H_55 locs hP2 hD2 hS2 => ?_)
                      rw [Wd_ti sg_54] at hP2 hD2
                      obtain ⟨z_56, ez_56⟩ : ∃ w, w = si z_52 k_53 r_16.toNatClampNeg p_7 := ⟨_, rfl⟩
                      rw [← ez_56] at hP2 hD2
                      replace hf := lt_at ez_56 hf
                      clear ez_56
                      replace hP := hP2
                      replace hD := hD2
                      replace hS := hS2
                      clear hP2 hD2 hS2
                      refine lv_goto (tgt := 248) hx hb dX18_onResource_196 (by decide) ?_
                      obtain ⟨h8, h9⟩ := ret_some hf
                      rw [h8]
                      exact W.vret hx hb hr (fun t ht hW => ⟨⟨(), rfl, trivial, by rw [ht]; exact hP, va_K.moved hW.alike hK, hD⟩, hS.F ht⟩) hS.2.2 dX18_onResource_248
                  · skip
                    rw [if_pos c_30] at hf
                    obtain ⟨h8, h9⟩ := ret_some hf
                    rw [h8]
                    exact W.vret hx hb hr (fun t ht hW => ⟨⟨(), rfl, trivial, by rw [ht]; exact hP, va_K.moved hW.alike hK, hD⟩, hS.F ht⟩) hS.2.2 dX18_onResource_172
                refine lv_icmp_ne (tgt := 164) hx hb dX18_onResource_149 (by decide) (fun c_57 => ?_) (fun c_57 => ?_)
                · skip
                  rw [if_neg c_57] at hf
                  refine lv_iconst (v := 0) hx hb dX18_onResource_164 (by decide) ?_
                  exact B165 (z_23, 0) ls H locs ⟨lv_sub hl [0, 1, 2, 3] rfl, hP, hD, hS⟩ hf
                · skip
                  rw [if_pos c_57] at hf
                  refine lv_aload_n hx hb dX18_onResource_152 rfl (lv_at hl 2 rfl) ?_
                  obtain ⟨k_58, ek_58, hf⟩ := lnk_some hf
                  refine va_get (D := (dC, dI)) (ci := 18) (v := .ref (a k_58)) (C := RX18) (T := TX18) (N := 78) hx hb hts iwd_X18_onResource_X18 hown hK hP h0 (Wd_ob kg_1 sg_1 (by decide)) rfl 15 (by decide) (hts _ md_X18_onResource_3) (fun _ h9 => h9) (fl_q rfl ek_58) dX18_onResource_153 ?_
                  refine lv_iload hx hb dX18_onResource_156 (lv_at hl 1 rfl) ?_
                  obtain ⟨g_61, hf⟩ := grd_some hf
                  obtain ⟨kg_61, sg_61⟩ := okO_at g_61
                  obtain ⟨z_59, r_60, hfc, hf⟩ := cal_some hf
                  have hFc := de_free hD hS hA
                  refine va_calli (va_runV (As := [.int p_7]) (rest := [.int 10, .ref (a h0)]) ⟨hx, hb, hml, hown, hts⟩ (de_X15_sizeOf l dC dI cy a sh n F 48 H.size z_23 k_58 p_7 hfc) (cwV 1 hts gX18_onResource_X15_sizeOf rfl rfl rfl (by decide +kernel) ⟨Nat.le_of_ble_eq_true rfl, Nat.le_of_ble_eq_true rfl⟩) ⟨fun a U g mk q => by obtain ⟨q0, q1, qP, qK, qD, qN⟩ := q; exact ⟨q0, q1, qP, va_K.moved (u := U) (U := U.calling g mk a) (Vm.Alike.refl U.vm) qK, qD, qN.same rfl⟩, va_recv hK hP (ci := 15) (q0 := k_58) rfl (Wd_ob kg_61 sg_61 (by decide)), fun U hU hW => ⟨rfl, by rw [hU], by rw [hU]; exact hP, va_K.moved hW.alike hK, hD.weaken (fun _ _ _ _ => trivial), hN.warm hW⟩⟩ rfl rfl hl.1 rfl (lv_room (Nat.le_of_ble_eq_true rfl)) dX18_onResource_158 ⟨Nat.le_of_ble_eq_true rfl, Nat.le_of_ble_eq_true rfl⟩) hS (fun q _ h => hFc q h) hFc (fun rr u t H_62 locs ht hvm hw hB hz1 hk1 hS2 => ?_)
                  rw [hw]
                  clear hw
                  obtain ⟨hP1, -, hD1⟩ := hB
                  rw [ht] at hP1
                  replace hD := hD1.weaken (fun _ _ _ h => hFc _ h)
                  replace hP := hP1
                  replace hS := hS2
                  clear hP1 hD1 hS2 hFc hfc hz1 hk1 hvm ht
                  refine lv_goto (tgt := 165) hx hb dX18_onResource_161 (by decide) ?_
                  exact B165 (z_59, r_60) ls H_62 locs ⟨lv_sub hl [0, 1, 2, 3] rfl, hP, hD, hS⟩ hf
              · skip
                rw [if_pos c_24] at hf
                refine lv_aload_n hx hb dX18_onResource_134 rfl (lv_at hl 2 rfl) ?_
                refine lv_iconst (v := 2) hx hb dX18_onResource_135 (by decide) ?_
                refine lv_ldc2 hx hb hown (hts _ md_X18_onResource_5) dX18_onResource_136 ?_
                obtain ⟨z_63, _u, hfc, hf⟩ := cal_some hf
                have hFc := de_free hD hS hA
                refine va_callv (va_runV (As := [.int 2, .long 3]) (rest := []) ⟨hx, hb, hml, hown, hts⟩ (de_X18_end l dC dI cy a sh n H.size F z_23 h0 2 3 hfc) (cwV 2 hts gX18_onResource_X18_end rfl rfl rfl (by decide +kernel) ⟨Nat.le_of_ble_eq_true rfl, Nat.le_of_ble_eq_true rfl⟩) ⟨fun a U g mk q => by obtain ⟨q0, q1, qP, qK, qD, qN⟩ := q; exact ⟨q0, q1, qP, va_K.moved (u := U) (U := U.calling g mk a) (Vm.Alike.refl U.vm) qK, qD, qN.same rfl⟩, va_recv hK hP (ci := 18) (q0 := h0) rfl (Wd_ob kg_1 sg_1 (by decide)), fun U hU hW => ⟨rfl, by rw [hU], by rw [hU]; exact hP, va_K.moved hW.alike hK, hD.weaken (fun _ _ _ _ => trivial), hN.warm hW⟩⟩ rfl rfl hl.1 rfl (lv_room (Nat.le_of_ble_eq_true rfl)) dX18_onResource_139 ⟨Nat.le_of_ble_eq_true rfl, Nat.le_of_ble_eq_true rfl⟩) hS (fun q _ h => hFc q h) hFc (fun u t H_64 locs ht hvm hw hB hz1 hk1 hS2 => ?_)
                obtain ⟨hP1, -, hD1⟩ := hB
                rw [ht] at hP1
                replace hD := hD1.weaken (fun _ _ _ h => hFc _ h)
                replace hP := hP1
                replace hS := hS2
                clear hP1 hD1 hS2 hFc hfc hz1 hk1 hvm ht
                obtain ⟨h8, h9⟩ := ret_some hf
                rw [h8]
                exact W.vret hx hb hr (fun t ht hW => ⟨⟨(), rfl, trivial, by rw [ht]; exact hP, va_K.moved hW.alike hK, hD⟩, hS.F ht⟩) hS.2.2 dX18_onResource_142
            refine lv_icmp_ne (tgt := 130) hx hb dX18_onResource_123 (by decide) (fun c_65 => ?_) (fun c_65 => ?_)
            · skip
              rw [if_neg c_65] at hf
              refine lv_iconst (v := 0) hx hb dX18_onResource_130 (by decide) ?_
              exact B131 (z_15, 0) ls H_17 locs ⟨lv_sub hl [0, 1, 3, 4] rfl, hP, hD, hS⟩ hf
            · skip
              rw [if_pos c_65] at hf
              refine lv_iconst (v := 1) hx hb dX18_onResource_126 (by decide) ?_
              refine lv_goto (tgt := 131) hx hb dX18_onResource_127 (by decide) ?_
              exact B131 (z_15, 1) ls H_17 locs ⟨lv_sub hl [0, 1, 3, 4] rfl, hP, hD, hS⟩ hf
          · skip
            rw [if_pos c_19] at hf
            refine lv_aload_n hx hb dX18_onResource_82 rfl (lv_at hl 3 rfl) ?_
            refine lv_bipush (v := 10) hx hb dX18_onResource_83 (by decide) ?_
            obtain ⟨z_66, r_67, hfc, hf⟩ := cal_some hf
            have hFc := de_free hD hS hA
            refine va_calli (va_runV (As := [.int 10]) (rest := []) ⟨hx, hb, hml, hown, hts⟩ (de_X18_spend l dC dI cy a sh n H_17.size F z_15 h0 10 hfc) (cwV 1 hts gX18_onResource_X18_spend rfl rfl rfl (by decide +kernel) ⟨Nat.le_of_ble_eq_true rfl, Nat.le_of_ble_eq_true rfl⟩) ⟨fun a U g mk q => by obtain ⟨q0, q1, qP, qK, qD, qN⟩ := q; exact ⟨q0, q1, qP, va_K.moved (u := U) (U := U.calling g mk a) (Vm.Alike.refl U.vm) qK, qD, qN.same rfl⟩, va_recv hK hP (ci := 18) (q0 := h0) rfl (Wd_ob kg_1 sg_1 (by decide)), fun U hU hW => ⟨rfl, by rw [hU], by rw [hU]; exact hP, va_K.moved hW.alike hK, hD.weaken (fun _ _ _ _ => trivial), hN.warm hW⟩⟩ rfl rfl hl.1 rfl (lv_room (Nat.le_of_ble_eq_true rfl)) dX18_onResource_85 ⟨Nat.le_of_ble_eq_true rfl, Nat.le_of_ble_eq_true rfl⟩) hS (fun q _ h => hFc q h) hFc (fun rr u t H_68 locs ht hvm hw hB hz1 hk1 hS2 => ?_)
            rw [hw]
            clear hw
            obtain ⟨hP1, -, hD1⟩ := hB
            rw [ht] at hP1
            replace hD := hD1.weaken (fun _ _ _ h => hFc _ h)
            replace hP := hP1
            replace hS := hS2
            clear hP1 hD1 hS2 hFc hfc hz1 hk1 hvm ht
            refine lv_if_eq (tgt := 112) hx hb dX18_onResource_88 (by decide) (fun c_69 => ?_) (fun c_69 => ?_)
            · skip
              rw [if_pos c_69] at hf
              obtain ⟨h8, h9⟩ := ret_some hf
              rw [h8]
              exact W.vret hx hb hr (fun t ht hW => ⟨⟨(), rfl, trivial, by rw [ht]; exact hP, va_K.moved hW.alike hK, hD⟩, hS.F ht⟩) hS.2.2 dX18_onResource_112
            · skip
              rw [if_neg c_69] at hf
              refine lv_aload_n hx hb dX18_onResource_91 rfl (lv_at hl 3 rfl) ?_
              refine lv_iconst (v := 1) hx hb dX18_onResource_92 (by decide) ?_
              refine lv_lconst (v := 0) hx hb dX18_onResource_93 (by decide) ?_
              refine lv_aload_n hx hb dX18_onResource_94 rfl (lv_at hl 3 rfl) ?_
              obtain ⟨k_70, ek_70, hf⟩ := lnk_some hf
              refine va_get (D := (dC, dI)) (ci := 18) (v := .ref (a k_70)) (C := RX18) (T := TX18) (N := 78) hx hb hts iwd_X18_onResource_X18 hown hK hP h0 (Wd_ob kg_1 sg_1 (by decide)) rfl 35 (by decide) (hts _ md_X18_onResource_4) (fun _ h9 => h9) (fl_q rfl ek_70) dX18_onResource_95 ?_
              refine lv_iload hx hb dX18_onResource_98 (lv_at hl 0 rfl) ?_
              obtain ⟨g_71, hf⟩ := grd_some hf
              obtain ⟨kg_71, sg_71, ig_71⟩ := okA_at g_71
              refine va_zald hx hb hK hP k_70 3 (Wd_az kg_71 sg_71) rfl ig_71 dX18_onResource_100 ?_
              refine lv_if_eq (tgt := 108) hx hb dX18_onResource_101 (by decide) (fun c_72 => ?_) (fun c_72 => ?_)
              · skip
                rw [if_pos c_72] at hf
                refine lv_lconst (v := 0) hx hb dX18_onResource_108 (by decide) ?_
                obtain ⟨z_73, _u, hfc, hf⟩ := cal_some hf
                have hFc := de_free hD hS hA
                refine va_callv (va_runV (As := [.int 1, .long 0, .long 0]) (rest := []) ⟨hx, hb, hml, hown, hts⟩ (de_X18_make l dC dI cy a sh n H_68.size F z_66 h0 1 0 0 hfc) (cwV 3 hts gX18_onResource_X18_make rfl rfl rfl (by decide +kernel) ⟨Nat.le_of_ble_eq_true rfl, Nat.le_of_ble_eq_true rfl⟩) ⟨fun a U g mk q => by obtain ⟨q0, q1, qP, qK, qD, qN⟩ := q; exact ⟨q0, q1, qP, va_K.moved (u := U) (U := U.calling g mk a) (Vm.Alike.refl U.vm) qK, qD, qN.same rfl⟩, va_recv hK hP (ci := 18) (q0 := h0) rfl (Wd_ob kg_1 sg_1 (by decide)), fun U hU hW => ⟨rfl, by rw [hU], by rw [hU]; exact hP, va_K.moved hW.alike hK, hD.weaken (fun _ _ _ _ => trivial), hN.warm hW⟩⟩ rfl rfl hl.1 rfl (lv_room (Nat.le_of_ble_eq_true rfl)) dX18_onResource_109 ⟨Nat.le_of_ble_eq_true rfl, Nat.le_of_ble_eq_true rfl⟩) hS (fun q _ h => hFc q h) hFc (fun u t H_74 locs ht hvm hw hB hz1 hk1 hS2 => ?_)
                obtain ⟨hP1, -, hD1⟩ := hB
                rw [ht] at hP1
                replace hD := hD1.weaken (fun _ _ _ h => hFc _ h)
                replace hP := hP1
                replace hS := hS2
                clear hP1 hD1 hS2 hFc hfc hz1 hk1 hvm ht
                obtain ⟨h8, h9⟩ := ret_some hf
                rw [h8]
                exact W.vret hx hb hr (fun t ht hW => ⟨⟨(), rfl, trivial, by rw [ht]; exact hP, va_K.moved hW.alike hK, hD⟩, hS.F ht⟩) hS.2.2 dX18_onResource_112
              · skip
                rw [if_neg c_72] at hf
                refine lv_lconst (v := 1) hx hb dX18_onResource_104 (by decide) ?_
                refine lv_goto (tgt := 109) hx hb dX18_onResource_105 (by decide) ?_
                obtain ⟨z_75, _u, hfc, hf⟩ := cal_some hf
                have hFc := de_free hD hS hA
                refine va_callv (va_runV (As := [.int 1, .long 0, .long 1]) (rest := []) ⟨hx, hb, hml, hown, hts⟩ (de_X18_make l dC dI cy a sh n H_68.size F z_66 h0 1 0 1 hfc) (cwV 3 hts gX18_onResource_X18_make rfl rfl rfl (by decide +kernel) ⟨Nat.le_of_ble_eq_true rfl, Nat.le_of_ble_eq_true rfl⟩) ⟨fun a U g mk q => by obtain ⟨q0, q1, qP, qK, qD, qN⟩ := q; exact ⟨q0, q1, qP, va_K.moved (u := U) (U := U.calling g mk a) (Vm.Alike.refl U.vm) qK, qD, qN.same rfl⟩, va_recv hK hP (ci := 18) (q0 := h0) rfl (Wd_ob kg_1 sg_1 (by decide)), fun U hU hW => ⟨rfl, by rw [hU], by rw [hU]; exact hP, va_K.moved hW.alike hK, hD.weaken (fun _ _ _ _ => trivial), hN.warm hW⟩⟩ rfl rfl hl.1 rfl (lv_room (Nat.le_of_ble_eq_true rfl)) dX18_onResource_109 ⟨Nat.le_of_ble_eq_true rfl, Nat.le_of_ble_eq_true rfl⟩) hS (fun q _ h => hFc q h) hFc (fun u t H_76 locs ht hvm hw hB hz1 hk1 hS2 => ?_)
                obtain ⟨hP1, -, hD1⟩ := hB
                rw [ht] at hP1
                replace hD := hD1.weaken (fun _ _ _ h => hFc _ h)
                replace hP := hP1
                replace hS := hS2
                clear hP1 hD1 hS2 hFc hfc hz1 hk1 hvm ht
                obtain ⟨h8, h9⟩ := ret_some hf
                rw [h8]
                exact W.vret hx hb hr (fun t ht hW => ⟨⟨(), rfl, trivial, by rw [ht]; exact hP, va_K.moved hW.alike hK, hD⟩, hS.F ht⟩) hS.2.2 dX18_onResource_112
        · skip
          rw [if_neg c_18] at hf
          obtain ⟨h8, h9⟩ := ret_some hf
          rw [h8]
          exact W.vret hx hb hr (fun t ht hW => ⟨⟨(), rfl, trivial, by rw [ht]; exact hP, va_K.moved hW.alike hK, hD⟩, hS.F ht⟩) hS.2.2 dX18_onResource_75
      refine lv_icmp_ne (tgt := 54) hx hb dX18_onResource_44 (by decide) (fun c_77 => ?_) (fun c_77 => ?_)
      · skip
        rw [if_neg c_77] at hf
        refine lv_aload_n hx hb dX18_onResource_54 rfl (lv_at hl 2 rfl) ?_
        obtain ⟨k_78, ek_78, hf⟩ := lnk_some hf
        refine va_get (D := (dC, dI)) (ci := 18) (v := .ref (a k_78)) (C := RX18) (T := TX18) (N := 78) hx hb hts iwd_X18_onResource_X18 hown hK hP h0 (Wd_ob kg_1 sg_1 (by decide)) rfl 15 (by decide) (hts _ md_X18_onResource_3) (fun _ h9 => h9) (fl_q rfl ek_78) dX18_onResource_55 ?_
        obtain ⟨g_79, hf⟩ := grd_some hf
        obtain ⟨kg_79, sg_79⟩ := okO_at g_79
        obtain ⟨k_80, ek_80, hf⟩ := lnk_some hf
        refine va_getN (D := (dC, dI)) (ci := 15) (v := .ref (a k_80)) (C := RX15) (T := TX15) (N := 6) hx hb hts iwd_X18_onResource_X15 hown hK hP k_78 (Wd_ob kg_79 sg_79 (by decide)) rfl 2 (by decide) (va_Nw.use rfl (NK_f_X18_77 hN)) (fun _ h9 => h9) (fl_q rfl ek_80) dX18_onResource_58 ?_
        refine lv_iload hx hb dX18_onResource_61 (lv_at hl 0 rfl) ?_
        obtain ⟨g_81, hf⟩ := grd_some hf
        obtain ⟨kg_81, sg_81, ig_81⟩ := okA_at g_81
        refine va_lald hx hb hK hP k_80 2 (Wd_al kg_81 sg_81) rfl ig_81 dX18_onResource_63 ?_
        exact B64 (z_9, (z_9.2.1 k_80 p_7.toNatClampNeg)) ls H_11 locs ⟨lv_sub hl [0, 1, 2, 3] rfl, hP, hD, hS⟩ hf
      · skip
        rw [if_pos c_77] at hf
        refine lv_aload_n hx hb dX18_onResource_47 rfl (lv_at hl 2 rfl) ?_
        refine va_get (D := (dC, dI)) (ci := 18) (v := .long (z_9.2.1 h0 24)) (C := RX18) (T := TX18) (N := 78) hx hb hts iwd_X18_onResource_X18 hown hK hP h0 (Wd_ob kg_1 sg_1 (by decide)) rfl 24 (by decide) (hts _ md_X18_onResource_2) (fun _ h9 => h9) (fl_at (t := 1) rfl) dX18_onResource_48 ?_
        refine lv_goto (tgt := 64) hx hb dX18_onResource_51 (by decide) ?_
        exact B64 (z_9, (z_9.2.1 h0 24)) ls H_11 locs ⟨lv_sub hl [0, 1, 2, 3] rfl, hP, hD, hS⟩ hf
    · skip
      rw [if_pos c_12] at hf
      obtain ⟨h8, h9⟩ := ret_some hf
      rw [h8]
      exact W.vret hx hb hr (fun t ht hW => ⟨⟨(), rfl, trivial, by rw [ht]; exact hP, va_K.moved hW.alike hK, hD⟩, hS.F ht⟩) hS.2.2 dX18_onResource_38
  refine lv_icmp_ne (tgt := 24) hx hb dX18_onResource_12 (by decide) (fun c_82 => ?_) (fun c_82 => ?_)
  · skip
    rw [if_neg c_82] at hf
    refine lv_aload_n hx hb dX18_onResource_24 rfl (lv_at hl 1 rfl) ?_
    refine lv_iconst (v := 5) hx hb dX18_onResource_25 (by decide) ?_
    obtain ⟨z_83, r_84, hfc, hf⟩ := cal_some hf
    have hFc := de_free hD hS hA
    refine va_calli (va_runV (As := [.int 5]) (rest := []) ⟨hx, hb, hml, hown, hts⟩ (de_X18_take l dC dI cy a sh n H_6.size F z_3 h0 5 hfc) (cwV 1 hts gX18_onResource_X18_take rfl rfl rfl (by decide +kernel) ⟨Nat.le_of_ble_eq_true rfl, Nat.le_of_ble_eq_true rfl⟩) ⟨fun a U g mk q => by obtain ⟨q0, q1, qP, qK, qD, qN⟩ := q; exact ⟨q0, q1, qP, va_K.moved (u := U) (U := U.calling g mk a) (Vm.Alike.refl U.vm) qK, qD, qN.same rfl⟩, va_recv hK hP (ci := 18) (q0 := h0) rfl (Wd_ob kg_1 sg_1 (by decide)), fun U hU hW => ⟨rfl, by rw [hU], by rw [hU]; exact hP, va_K.moved hW.alike hK, hD.weaken (fun _ _ _ _ => trivial), hN.warm hW⟩⟩ rfl rfl hl.1 rfl (lv_room (Nat.le_of_ble_eq_true rfl)) dX18_onResource_26 ⟨Nat.le_of_ble_eq_true rfl, Nat.le_of_ble_eq_true rfl⟩) hS (fun q _ h => hFc q h) hFc (fun rr u t H_85 locs ht hvm hw hB hz1 hk1 hS2 => ?_)
    rw [hw]
    clear hw
    obtain ⟨hP1, -, hD1⟩ := hB
    rw [ht] at hP1
    replace hD := hD1.weaken (fun _ _ _ h => hFc _ h)
    replace hP := hP1
    replace hS := hS2
    clear hP1 hD1 hS2 hFc hfc hz1 hk1 hvm ht
    exact B29 (z_83, r_84) ls H_85 locs ⟨lv_sub hl [0, 1, 2] rfl, hP, hD, hS⟩ hf
  · skip
    rw [if_pos c_82] at hf
    refine lv_aload_n hx hb dX18_onResource_15 rfl (lv_at hl 1 rfl) ?_
    refine lv_bipush (v := 6) hx hb dX18_onResource_16 (by decide) ?_
    obtain ⟨z_86, r_87, hfc, hf⟩ := cal_some hf
    have hFc := de_free hD hS hA
    refine va_calli (va_runV (As := [.int 6]) (rest := []) ⟨hx, hb, hml, hown, hts⟩ (de_X18_take l dC dI cy a sh n H_6.size F z_3 h0 6 hfc) (cwV 1 hts gX18_onResource_X18_take rfl rfl rfl (by decide +kernel) ⟨Nat.le_of_ble_eq_true rfl, Nat.le_of_ble_eq_true rfl⟩) ⟨fun a U g mk q => by obtain ⟨q0, q1, qP, qK, qD, qN⟩ := q; exact ⟨q0, q1, qP, va_K.moved (u := U) (U := U.calling g mk a) (Vm.Alike.refl U.vm) qK, qD, qN.same rfl⟩, va_recv hK hP (ci := 18) (q0 := h0) rfl (Wd_ob kg_1 sg_1 (by decide)), fun U hU hW => ⟨rfl, by rw [hU], by rw [hU]; exact hP, va_K.moved hW.alike hK, hD.weaken (fun _ _ _ _ => trivial), hN.warm hW⟩⟩ rfl rfl hl.1 rfl (lv_room (Nat.le_of_ble_eq_true rfl)) dX18_onResource_18 ⟨Nat.le_of_ble_eq_true rfl, Nat.le_of_ble_eq_true rfl⟩) hS (fun q _ h => hFc q h) hFc (fun rr u t H_88 locs ht hvm hw hB hz1 hk1 hS2 => ?_)
    rw [hw]
    clear hw
    obtain ⟨hP1, -, hD1⟩ := hB
    rw [ht] at hP1
    replace hD := hD1.weaken (fun _ _ _ h => hFc _ h)
    replace hP := hP1
    replace hS := hS2
    clear hP1 hD1 hS2 hFc hfc hz1 hk1 hvm ht
    refine lv_goto (tgt := 29) hx hb dX18_onResource_21 (by decide) ?_
    exact B29 (z_86, r_87) ls H_88 locs ⟨lv_sub hl [0, 1, 2] rfl, hP, hD, hS⟩ hf

theorem md_X4_keep_5 : (.fieldLink RX4 67 "ResourceLedger$Machine" "journal" "LResourceLedger$Journal;" : Cond) ∈ wsX4_keep := List.mem_of_getElem? (i := 5) rfl
theorem iwd_X4_keep_X4 : ∀ w ∈ wsX40, w ∈ wsX4_keep := fun _ h => List.mem_cons_of_mem _ (List.mem_append_left _ (List.mem_append_left _ (List.mem_append_left _ (List.mem_append_left _ (List.mem_append_right _ h)))))
theorem md_X4_keep_9 : (.fieldLink RX4 397 "ResourceLedger$Journal" "node" "[I" : Cond) ∈ wsX4_keep := List.mem_of_getElem? (i := 9) rfl
theorem iwd_X4_keep_X2 : ∀ w ∈ wsX20, w ∈ wsX4_keep := fun _ h => List.mem_cons_of_mem _ (List.mem_append_left _ (List.mem_append_right _ h))
theorem md_X4_keep_7 : (.fieldLink RX4 325 "ResourceLedger$Journal" "isThere" "[Z" : Cond) ∈ wsX4_keep := List.mem_of_getElem? (i := 7) rfl
theorem md_X4_keep_3 : (.fieldLink RX4 12 "ResourceLedger$Machine" "heap" "LResourceLedger$Heap;" : Cond) ∈ wsX4_keep := List.mem_of_getElem? (i := 3) rfl
theorem md_X4_keep_8 : (.constantLong RX4 395 (3) : Cond) ∈ wsX4_keep := List.mem_of_getElem? (i := 8) rfl
theorem md_X4_keep_6 : (.constantLong RX4 151 (4) : Cond) ∈ wsX4_keep := List.mem_of_getElem? (i := 6) rfl
theorem md_X4_keep_4 : (.fieldLink RX4 163 "ResourceLedger$Heap" "low" "[J" : Cond) ∈ wsX4_keep := List.mem_of_getElem? (i := 4) rfl
theorem iwd_X4_keep_X1 : ∀ w ∈ wsX10, w ∈ wsX4_keep := fun _ h => List.mem_cons_of_mem _ (List.mem_append_left _ (List.mem_append_left _ (List.mem_append_right _ h)))
theorem md_X4_keep_1 : (.fieldLink RX4 75 "ResourceLedger$Machine" "t" "LResourceLedger$Transaction;" : Cond) ∈ wsX4_keep := List.mem_of_getElem? (i := 1) rfl
theorem md_X4_keep_2 : (.fieldLink RX4 277 "ResourceLedger$Transaction" "sender" "J" : Cond) ∈ wsX4_keep := List.mem_of_getElem? (i := 2) rfl
theorem iwd_X4_keep_X8 : ∀ w ∈ wsX80, w ∈ wsX4_keep := fun _ h => List.mem_cons_of_mem _ (List.mem_append_left _ (List.mem_append_left _ (List.mem_append_left _ (List.mem_append_right _ h))))
set_option maxHeartbeats 4000000 in
set_option maxRecDepth 100000 in
theorem de_X4_keep (l : Launch) (dC : Nat → ClassId) (dI : Nat → Nat → Nat) (cy : Nat → ClassId) (a : Nat → Nat) (sh : Nat → Nat × Nat) (n sz : Nat) (F : Nat) (z : St) (h0 : Nat) (x0 : Int32) (x1 : Int32) (x2 : Int32) {z8 : St} {r8 : Unit} (hf : fn_X4_keep F sh n z h0 x0 x1 x2 = some (z8, r8)) : Met l yX4_keep wsX4_keep ({ frames := 52, cells := 0, slots := 0, locals := 1446 }) (va_Pc [.ref (a h0), .int x0, .int x1, .int x2] (fun U => U.heap.size = sz ∧ va_P (dC, dI) vwCl (Wd cy a sh n z) U.heap ∧ va_K (dC, dI) vwCl (TYS cy) U ∧ va_D (fun _ => True) (Wd cy a sh n z) ∧ NK U)) (va_Qv (fun u : Unit => True) (fun u t => va_P (dC, dI) vwCl (Wd cy a sh n z8) t.heap ∧ va_K (dC, dI) vwCl (TYS cy) t ∧ va_D (va_A (Wd cy a sh n z) sz) (Wd cy a sh n z8)) (va_A (Wd cy a sh n z) sz)) 0 0 (va_A (Wd cy a sh n z) sz) := by
  refine Met.ofW (cc := cX4_keep) (maxL := 8) (ret := none) (by decide) rfl ?_
  intro p e s m args below meth c s₁ B hml hv
  obtain ⟨rfl, hsz, hP, hK, hD0, hN⟩ := hv
  have hx := B.exec
  have hb := B.bytes
  have hr := B.returns
  have hts := atoms_spec (ws := wsX4_keep) B.pre
  have hown : s.vm.findClass RX4 = some m.cls := findClass_of_methodNamed B.named
  have hlocks := B.notSynchronized
  subst hsz
  have hD := hD0.self (sz := s.heap.size)
  clear hD0
  generalize hAe : va_A (Wd cy a sh n z) s.heap.size = A at hD ⊢
  have hA : ∀ q : Nat, s.heap.size ≤ q → A q := fun q h => by rw [← hAe]; exact Or.inr h
  clear hAe
  have hS : va_S A s.heap s.heap [] := va_S.rf
  have hl := lv_entry ([.ref (a h0), .int x0, .int x1, .int x2]) (n := 8) (Nat.le_of_ble_eq_true rfl)
  rw [lg_entry_eq]
  generalize (lg_sl ([.ref (a h0), .int x0, .int x1, .int x2]) ++ List.replicate (8 - (lg_sl ([.ref (a h0), .int x0, .int x1, .int x2])).length) Slot.unset).toArray = ls at hl ⊢
  replace hl : lv_has ls 8 [(0, .ref (a h0)), (1, .int x0), (2, .int x1), (3, .int x2)] := hl
  unfold fn_X4_keep at hf
  refine de_start hS hP (fun H locs hS hP => ?_)
  refine lv_aload_n hx hb dX4_keep_0 rfl (lv_at hl 0 rfl) ?_
  refine lv_iload_n hx hb dX4_keep_1 rfl (lv_at hl 1 rfl) ?_
  refine lv_bipush (v := 47) hx hb dX4_keep_2 (by decide) ?_
  refine de_cut (h := 13) (fun (x : St × Int32) => [.int x.2, .ref (a h0)]) (fun x ls H locs => lv_has ls 8 [(0, .ref (a h0)), (1, .int x0), (2, .int x1), (3, .int x2)] ∧ va_P (dC, dI) vwCl (Wd cy a sh n x.1) H ∧ va_D A (Wd cy a sh n x.1) ∧ va_S A s.heap H locs) (fun x => fn_X4_keep_B13 F sh n h0 x0 x1 x2 x.1 x.2) (z8, r8) ?_ (fun B13 => ?_)
  · intro x ls H locs hI hf
    obtain ⟨z_2, p_1⟩ := x
    obtain ⟨hl2, hP2, hD2, hS2⟩ := hI
    replace hl : lv_has ls 8 [(0, .ref (a h0)), (1, .int x0), (2, .int x1), (3, .int x2)] := hl2
    replace hP := hP2
    replace hD := hD2
    replace hS := hS2
    clear hl2 hP2 hD2 hS2
    replace hf := fn_X4_keep_B13_s hf
    refine W.eq (g2 := F0 m 13 ls [.int p_1, .ref (a h0)]) rfl ?_
    obtain ⟨g_5, hf⟩ := grd_some hf
    obtain ⟨kg_5, sg_5⟩ := okO_at g_5
    obtain ⟨z_3, r_4, hfc, hf⟩ := cal_some hf
    have hFc := de_free hD hS hA
    refine va_calli (va_runV (As := [.int p_1]) (rest := []) ⟨hx, hb, hml, hown, hts⟩ (de_X4_popOf l dC dI cy a sh n H.size F z_2 h0 p_1 hfc) (cwV 1 hts gX4_keep_X4_popOf rfl rfl rfl (by decide +kernel) ⟨Nat.le_of_ble_eq_true rfl, Nat.le_of_ble_eq_true rfl⟩) ⟨fun a U g mk q => by obtain ⟨q0, q1, qP, qK, qD, qN⟩ := q; exact ⟨q0, q1, qP, va_K.moved (u := U) (U := U.calling g mk a) (Vm.Alike.refl U.vm) qK, qD, qN.same rfl⟩, va_recv hK hP (ci := 4) (q0 := h0) rfl (Wd_ob kg_5 sg_5 (by decide)), fun U hU hW => ⟨rfl, by rw [hU], by rw [hU]; exact hP, va_K.moved hW.alike hK, hD.weaken (fun _ _ _ _ => trivial), hN.warm hW⟩⟩ rfl rfl hl.1 rfl (lv_room (Nat.le_of_ble_eq_true rfl)) dX4_keep_13 ⟨Nat.le_of_ble_eq_true rfl, Nat.le_of_ble_eq_true rfl⟩) hS (fun q _ h => hFc q h) hFc (fun rr u t H_6 locs ht hvm hw hB hz1 hk1 hS2 => ?_)
    rw [hw]
    clear hw
    obtain ⟨hP1, -, hD1⟩ := hB
    rw [ht] at hP1
    replace hD := hD1.weaken (fun _ _ _ h => hFc _ h)
    replace hP := hP1
    replace hS := hS2
    clear hP1 hD1 hS2 hFc hfc hz1 hk1 hvm ht
    refine lv_istore (lv' := [(4, .int r_4), (0, .ref (a h0)), (1, .int x0), (2, .int x1), (3, .int x2)]) hx hb dX4_keep_16 hl (by decide) rfl (fun ls hl2 => ?_)
    replace hl := hl2
    clear hl2
    refine lv_iload_n hx hb dX4_keep_18 rfl (lv_at hl 2 rfl) ?_
    refine lv_bipush (v := 47) hx hb dX4_keep_19 (by decide) ?_
    refine de_cut (h := 44) (fun (x : St × Int64) => [.long x.2]) (fun x ls H locs => lv_has ls 8 [(4, .int r_4), (0, .ref (a h0)), (1, .int x0), (2, .int x1), (3, .int x2)] ∧ va_P (dC, dI) vwCl (Wd cy a sh n x.1) H ∧ va_D A (Wd cy a sh n x.1) ∧ va_S A s.heap H locs) (fun x => fn_X4_keep_B44 F sh n h0 x1 x2 x0 r_4 x.1 x.2) (z8, r8) ?_ (fun B44 => ?_)
    · intro x ls H locs hI hf
      obtain ⟨z_8, p_7⟩ := x
      obtain ⟨hl2, hP2, hD2, hS2⟩ := hI
      replace hl : lv_has ls 8 [(4, .int r_4), (0, .ref (a h0)), (1, .int x0), (2, .int x1), (3, .int x2)] := hl2
      replace hP := hP2
      replace hD := hD2
      replace hS := hS2
      clear hl2 hP2 hD2 hS2
      replace hf := fn_X4_keep_B44_s hf
      refine W.eq (g2 := F0 m 44 ls [.long p_7]) rfl ?_
      refine lv_lstore (lv' := [(5, .long p_7), (4, .int r_4), (0, .ref (a h0)), (1, .int x0), (2, .int x1), (3, .int x2)]) hx hb dX4_keep_44 hl (by decide) rfl (fun ls hl2 => ?_)
      replace hl := hl2
      clear hl2
      refine lv_aload_n hx hb dX4_keep_46 rfl (lv_at hl 2 rfl) ?_
      obtain ⟨k_9, ek_9, hf⟩ := lnk_some hf
      refine va_get (D := (dC, dI)) (ci := 4) (v := .ref (a k_9)) (C := RX4) (T := TX4) (N := 18) hx hb hts iwd_X4_keep_X4 hown hK hP h0 (Wd_ob kg_5 sg_5 (by decide)) rfl 2 (by decide) (hts _ md_X4_keep_5) (fun _ h9 => h9) (fl_q rfl ek_9) dX4_keep_47 ?_
      refine lv_iconst (v := 3) hx hb dX4_keep_50 (by decide) ?_
      refine lv_lload hx hb dX4_keep_51 (lv_at hl 0 rfl) ?_
      refine lv_iload_n hx hb dX4_keep_53 rfl (lv_at hl 4 rfl) ?_
      refine lv_iload_n hx hb dX4_keep_54 rfl (lv_at hl 5 rfl) ?_
      obtain ⟨g_12, hf⟩ := grd_some hf
      obtain ⟨kg_12, sg_12⟩ := okO_at g_12
      obtain ⟨z_10, r_11, hfc, hf⟩ := cal_some hf
      have hFc := de_free hD hS hA
      refine va_calli (va_runV (As := [.int 3, .long p_7, .int x1, .int x2]) (rest := []) ⟨hx, hb, hml, hown, hts⟩ (de_X2_ask l dC dI cy a sh n H.size F z_8 k_9 3 p_7 x1 x2 hfc) (cwV 4 hts gX4_keep_X2_ask rfl rfl rfl (by decide +kernel) ⟨Nat.le_of_ble_eq_true rfl, Nat.le_of_ble_eq_true rfl⟩) ⟨fun a U g mk q => by obtain ⟨q0, q1, qP, qK, qD, qN⟩ := q; exact ⟨q0, q1, qP, va_K.moved (u := U) (U := U.calling g mk a) (Vm.Alike.refl U.vm) qK, qD, qN.same rfl⟩, va_recv hK hP (ci := 2) (q0 := k_9) rfl (Wd_ob kg_12 sg_12 (by decide)), fun U hU hW => ⟨rfl, by rw [hU], by rw [hU]; exact hP, va_K.moved hW.alike hK, hD.weaken (fun _ _ _ _ => trivial), hN.warm hW⟩⟩ rfl rfl hl.1 rfl (lv_room (Nat.le_of_ble_eq_true rfl)) dX4_keep_55 ⟨Nat.le_of_ble_eq_true rfl, Nat.le_of_ble_eq_true rfl⟩) hS (fun q _ h => hFc q h) hFc (fun rr u t H_13 locs ht hvm hw hB hz1 hk1 hS2 => ?_)
      rw [hw]
      clear hw
      obtain ⟨hP1, -, hD1⟩ := hB
      rw [ht] at hP1
      replace hD := hD1.weaken (fun _ _ _ h => hFc _ h)
      replace hP := hP1
      replace hS := hS2
      clear hP1 hD1 hS2 hFc hfc hz1 hk1 hvm ht
      refine lv_istore (lv' := [(7, .int r_11), (5, .long p_7), (4, .int r_4), (0, .ref (a h0)), (1, .int x0), (2, .int x1), (3, .int x2)]) hx hb dX4_keep_58 hl (by decide) rfl (fun ls hl2 => ?_)
      replace hl := hl2
      clear hl2
      refine lv_iload hx hb dX4_keep_60 (lv_at hl 0 rfl) ?_
      refine lv_if_ge (tgt := 74) hx hb dX4_keep_62 (by decide) (fun c_14 => ?_) (fun c_14 => ?_)
      · skip
        rw [if_pos c_14] at hf
        refine lv_iload_n hx hb dX4_keep_74 rfl (lv_at hl 4 rfl) ?_
        refine lv_bipush (v := 49) hx hb dX4_keep_75 (by decide) ?_
        refine de_cut (h := 113) (fun (x : St) => []) (fun x ls H locs => lv_has ls 8 [(7, .int r_11), (4, .int r_4), (0, .ref (a h0)), (1, .int x0)] ∧ va_P (dC, dI) vwCl (Wd cy a sh n x) H ∧ va_D A (Wd cy a sh n x) ∧ va_S A s.heap H locs) (fun x => fn_X4_keep_B113 F sh n x0 h0 r_4 r_11 x) (z8, r8) ?_ (fun B113 => ?_)
        · intro x ls H locs hI hf
          obtain ⟨z_15, ez⟩ : ∃ w, w = x := ⟨_, rfl⟩
          subst ez
          obtain ⟨hl2, hP2, hD2, hS2⟩ := hI
          replace hl : lv_has ls 8 [(7, .int r_11), (4, .int r_4), (0, .ref (a h0)), (1, .int x0)] := hl2
          replace hP := hP2
          replace hD := hD2
          replace hS := hS2
          clear hl2 hP2 hD2 hS2
          replace hf := fn_X4_keep_B113_s hf
          refine W.eq (g2 := F0 m 113 ls []) rfl ?_
          refine lv_aload_n hx hb dX4_keep_113 rfl (lv_at hl 2 rfl) ?_
          refine lv_iload_n hx hb dX4_keep_114 rfl (lv_at hl 3 rfl) ?_
          refine lv_bipush (v := 47) hx hb dX4_keep_115 (by decide) ?_
          refine de_cut (h := 137) (fun (x : St × Int32) => [.int x.2, .ref (a h0)]) (fun x ls H locs => lv_has ls 8 [(7, .int r_11), (4, .int r_4), (0, .ref (a h0)), (1, .int x0)] ∧ va_P (dC, dI) vwCl (Wd cy a sh n x.1) H ∧ va_D A (Wd cy a sh n x.1) ∧ va_S A s.heap H locs) (fun x => fn_X4_keep_B137 F sh n h0 x0 r_11 r_4 x.1 x.2) (z8, r8) ?_ (fun B137 => ?_)
          · intro x ls H locs hI hf
            obtain ⟨z_17, p_16⟩ := x
            obtain ⟨hl2, hP2, hD2, hS2⟩ := hI
            replace hl : lv_has ls 8 [(7, .int r_11), (4, .int r_4), (0, .ref (a h0)), (1, .int x0)] := hl2
            replace hP := hP2
            replace hD := hD2
            replace hS := hS2
            clear hl2 hP2 hD2 hS2
            replace hf := fn_X4_keep_B137_s hf
            refine W.eq (g2 := F0 m 137 ls [.int p_16, .ref (a h0)]) rfl ?_
            obtain ⟨z_18, r_19, hfc, hf⟩ := cal_some hf
            have hFc := de_free hD hS hA
            refine va_calli (va_runV (As := [.int p_16]) (rest := []) ⟨hx, hb, hml, hown, hts⟩ (de_X4_pay l dC dI cy a sh n H.size F z_17 h0 p_16 hfc) (cwV 1 hts gX4_keep_X4_pay rfl rfl rfl (by decide +kernel) ⟨Nat.le_of_ble_eq_true rfl, Nat.le_of_ble_eq_true rfl⟩) ⟨fun a U g mk q => by obtain ⟨q0, q1, qP, qK, qD, qN⟩ := q; exact ⟨q0, q1, qP, va_K.moved (u := U) (U := U.calling g mk a) (Vm.Alike.refl U.vm) qK, qD, qN.same rfl⟩, va_recv hK hP (ci := 4) (q0 := h0) rfl (Wd_ob kg_5 sg_5 (by decide)), fun U hU hW => ⟨rfl, by rw [hU], by rw [hU]; exact hP, va_K.moved hW.alike hK, hD.weaken (fun _ _ _ _ => trivial), hN.warm hW⟩⟩ rfl rfl hl.1 rfl (lv_room (Nat.le_of_ble_eq_true rfl)) dX4_keep_137 ⟨Nat.le_of_ble_eq_true rfl, Nat.le_of_ble_eq_true rfl⟩) hS (fun q _ h => hFc q h) hFc (fun rr u t H_20 locs ht hvm hw hB hz1 hk1 hS2 => ?_)
            rw [hw]
            clear hw
            obtain ⟨hP1, -, hD1⟩ := hB
            rw [ht] at hP1
            replace hD := hD1.weaken (fun _ _ _ h => hFc _ h)
            replace hP := hP1
            replace hS := hS2
            clear hP1 hD1 hS2 hFc hfc hz1 hk1 hvm ht
            refine lv_if_ne (tgt := 144) hx hb dX4_keep_140 (by decide) (fun c_21 => ?_) (fun c_21 => ?_)
            · skip
              rw [if_neg c_21] at hf
              refine lv_iload_n hx hb dX4_keep_144 rfl (lv_at hl 3 rfl) ?_
              refine lv_bipush (v := 47) hx hb dX4_keep_145 (by decide) ?_
              refine lv_icmp_ne (tgt := 176) hx hb dX4_keep_147 (by decide) (fun c_22 => ?_) (fun c_22 => ?_)
              · skip
                rw [if_neg c_22] at hf
                refine lv_iload_n hx hb dX4_keep_176 rfl (lv_at hl 3 rfl) ?_
                refine lv_bipush (v := 48) hx hb dX4_keep_177 (by decide) ?_
                refine lv_icmp_ne (tgt := 210) hx hb dX4_keep_179 (by decide) (fun c_23 => ?_) (fun c_23 => ?_)
                · skip
                  rw [if_neg c_23] at hf
                  refine lv_iload_n hx hb dX4_keep_210 rfl (lv_at hl 3 rfl) ?_
                  refine lv_bipush (v := 49) hx hb dX4_keep_211 (by decide) ?_
                  refine lv_icmp_ne (tgt := 243) hx hb dX4_keep_213 (by decide) (fun c_24 => ?_) (fun c_24 => ?_)
                  · skip
                    rw [if_neg c_24] at hf
                    refine lv_aload_n hx hb dX4_keep_243 rfl (lv_at hl 2 rfl) ?_
                    refine lv_bipush (v := 8) hx hb dX4_keep_244 (by decide) ?_
                    refine lv_lconst (v := 0) hx hb dX4_keep_246 (by decide) ?_
                    refine lv_aload_n hx hb dX4_keep_247 rfl (lv_at hl 2 rfl) ?_
                    obtain ⟨k_25, ek_25, hf⟩ := lnk_some hf
                    refine va_get (D := (dC, dI)) (ci := 4) (v := .ref (a k_25)) (C := RX4) (T := TX4) (N := 18) hx hb hts iwd_X4_keep_X4 hown hK hP h0 (Wd_ob kg_5 sg_5 (by decide)) rfl 2 (by decide) (hts _ md_X4_keep_5) (fun _ h9 => h9) (fl_q rfl ek_25) dX4_keep_248 ?_
                    obtain ⟨g_26, hf⟩ := grd_some hf
                    obtain ⟨kg_26, sg_26⟩ := okO_at g_26
                    obtain ⟨k_27, ek_27, hf⟩ := lnk_some hf
                    refine va_get (D := (dC, dI)) (ci := 2) (v := .ref (a k_27)) (C := RX2) (T := TX2) (N := 11) hx hb hts iwd_X4_keep_X2 hown hK hP k_25 (Wd_ob kg_26 sg_26 (by decide)) rfl 10 (by decide) (hts _ md_X4_keep_9) (fun _ h9 => h9) (fl_q rfl ek_27) dX4_keep_251 ?_
                    refine lv_iload hx hb dX4_keep_254 (lv_at hl 0 rfl) ?_
                    obtain ⟨g_28, hf⟩ := grd_some hf
                    obtain ⟨kg_28, sg_28, ig_28⟩ := okA_at g_28
                    refine va_iald hx hb hK hP k_27 1 (Wd_ai kg_28 sg_28) rfl ig_28 dX4_keep_256 ?_
                    refine lv_i2l (v := ((z_18.1 k_27 r_11.toNatClampNeg) : Int32).toInt64) hx hb dX4_keep_257 rfl ?_
                    obtain ⟨z_29, _u, hfc, hf⟩ := cal_some hf
                    have hFc := de_free hD hS hA
                    refine va_callv (va_runV (As := [.int 8, .long 0, .long (((z_18.1 k_27 r_11.toNatClampNeg) : Int32).toInt64)]) (rest := []) ⟨hx, hb, hml, hown, hts⟩ (de_X4_pushNumber l dC dI cy a sh n H_20.size F z_18 h0 8 0 (((z_18.1 k_27 r_11.toNatClampNeg) : Int32).toInt64) hfc) (cwV 3 hts gX4_keep_X4_pushNumber rfl rfl rfl (by decide +kernel) ⟨Nat.le_of_ble_eq_true rfl, Nat.le_of_ble_eq_true rfl⟩) ⟨fun a U g mk q => by obtain ⟨q0, q1, qP, qK, qD, qN⟩ := q; exact ⟨q0, q1, qP, va_K.moved (u := U) (U := U.calling g mk a) (Vm.Alike.refl U.vm) qK, qD, qN.same rfl⟩, va_recv hK hP (ci := 4) (q0 := h0) rfl (Wd_ob kg_5 sg_5 (by decide)), fun U hU hW => ⟨rfl, by rw [hU], by rw [hU]; exact hP, va_K.moved hW.alike hK, hD.weaken (fun _ _ _ _ => trivial), hN.warm hW⟩⟩ rfl rfl hl.1 rfl (lv_room (Nat.le_of_ble_eq_true rfl)) dX4_keep_258 ⟨Nat.le_of_ble_eq_true rfl, Nat.le_of_ble_eq_true rfl⟩) hS (fun q _ h => hFc q h) hFc (fun u t H_30 locs ht hvm hw hB hz1 hk1 hS2 => ?_)
                    obtain ⟨hP1, -, hD1⟩ := hB
                    rw [ht] at hP1
                    replace hD := hD1.weaken (fun _ _ _ h => hFc _ h)
                    replace hP := hP1
                    replace hS := hS2
                    clear hP1 hD1 hS2 hFc hfc hz1 hk1 hvm ht
                    obtain ⟨h8, h9⟩ := ret_some hf
                    rw [h8]
                    exact W.vret hx hb hr (fun t ht hW => ⟨⟨(), rfl, trivial, by rw [ht]; exact hP, va_K.moved hW.alike hK, hD⟩, hS.F ht⟩) hS.2.2 dX4_keep_261
                  · skip
                    rw [if_pos c_24] at hf
                    refine lv_aload_n hx hb dX4_keep_216 rfl (lv_at hl 2 rfl) ?_
                    refine lv_iconst (v := 1) hx hb dX4_keep_217 (by decide) ?_
                    refine lv_lconst (v := 0) hx hb dX4_keep_218 (by decide) ?_
                    refine lv_aload_n hx hb dX4_keep_219 rfl (lv_at hl 2 rfl) ?_
                    obtain ⟨k_31, ek_31, hf⟩ := lnk_some hf
                    refine va_get (D := (dC, dI)) (ci := 4) (v := .ref (a k_31)) (C := RX4) (T := TX4) (N := 18) hx hb hts iwd_X4_keep_X4 hown hK hP h0 (Wd_ob kg_5 sg_5 (by decide)) rfl 2 (by decide) (hts _ md_X4_keep_5) (fun _ h9 => h9) (fl_q rfl ek_31) dX4_keep_220 ?_
                    obtain ⟨g_32, hf⟩ := grd_some hf
                    obtain ⟨kg_32, sg_32⟩ := okO_at g_32
                    obtain ⟨k_33, ek_33, hf⟩ := lnk_some hf
                    refine va_get (D := (dC, dI)) (ci := 2) (v := .ref (a k_33)) (C := RX2) (T := TX2) (N := 11) hx hb hts iwd_X4_keep_X2 hown hK hP k_31 (Wd_ob kg_32 sg_32 (by decide)) rfl 8 (by decide) (hts _ md_X4_keep_7) (fun _ h9 => h9) (fl_q rfl ek_33) dX4_keep_223 ?_
                    refine lv_iload hx hb dX4_keep_226 (lv_at hl 0 rfl) ?_
                    obtain ⟨g_34, hf⟩ := grd_some hf
                    obtain ⟨kg_34, sg_34, ig_34⟩ := okA_at g_34
                    refine va_zald hx hb hK hP k_33 3 (Wd_az kg_34 sg_34) rfl ig_34 dX4_keep_228 ?_
                    refine lv_if_eq (tgt := 236) hx hb dX4_keep_229 (by decide) (fun c_35 => ?_) (fun c_35 => ?_)
                    · skip
                      rw [if_pos c_35] at hf
                      refine lv_lconst (v := 0) hx hb dX4_keep_236 (by decide) ?_
                      obtain ⟨z_36, _u, hfc, hf⟩ := cal_some hf
                      have hFc := de_free hD hS hA
                      refine va_callv (va_runV (As := [.int 1, .long 0, .long 0]) (rest := []) ⟨hx, hb, hml, hown, hts⟩ (de_X4_pushNumber l dC dI cy a sh n H_20.size F z_18 h0 1 0 0 hfc) (cwV 3 hts gX4_keep_X4_pushNumber rfl rfl rfl (by decide +kernel) ⟨Nat.le_of_ble_eq_true rfl, Nat.le_of_ble_eq_true rfl⟩) ⟨fun a U g mk q => by obtain ⟨q0, q1, qP, qK, qD, qN⟩ := q; exact ⟨q0, q1, qP, va_K.moved (u := U) (U := U.calling g mk a) (Vm.Alike.refl U.vm) qK, qD, qN.same rfl⟩, va_recv hK hP (ci := 4) (q0 := h0) rfl (Wd_ob kg_5 sg_5 (by decide)), fun U hU hW => ⟨rfl, by rw [hU], by rw [hU]; exact hP, va_K.moved hW.alike hK, hD.weaken (fun _ _ _ _ => trivial), hN.warm hW⟩⟩ rfl rfl hl.1 rfl (lv_room (Nat.le_of_ble_eq_true rfl)) dX4_keep_237 ⟨Nat.le_of_ble_eq_true rfl, Nat.le_of_ble_eq_true rfl⟩) hS (fun q _ h => hFc q h) hFc (fun u t H_37 locs ht hvm hw hB hz1 hk1 hS2 => ?_)
                      obtain ⟨hP1, -, hD1⟩ := hB
                      rw [ht] at hP1
                      replace hD := hD1.weaken (fun _ _ _ h => hFc _ h)
                      replace hP := hP1
                      replace hS := hS2
                      clear hP1 hD1 hS2 hFc hfc hz1 hk1 hvm ht
                      refine lv_goto (tgt := 261) hx hb dX4_keep_240 (by decide) ?_
                      obtain ⟨h8, h9⟩ := ret_some hf
                      rw [h8]
                      exact W.vret hx hb hr (fun t ht hW => ⟨⟨(), rfl, trivial, by rw [ht]; exact hP, va_K.moved hW.alike hK, hD⟩, hS.F ht⟩) hS.2.2 dX4_keep_261
                    · skip
                      rw [if_neg c_35] at hf
                      refine lv_lconst (v := 1) hx hb dX4_keep_232 (by decide) ?_
                      refine lv_goto (tgt := 237) hx hb dX4_keep_233 (by decide) ?_
                      obtain ⟨z_38, _u, hfc, hf⟩ := cal_some hf
                      have hFc := de_free hD hS hA
                      refine va_callv (va_runV (As := [.int 1, .long 0, .long 1]) (rest := []) ⟨hx, hb, hml, hown, hts⟩ (de_X4_pushNumber l dC dI cy a sh n H_20.size F z_18 h0 1 0 1 hfc) (cwV 3 hts gX4_keep_X4_pushNumber rfl rfl rfl (by decide +kernel) ⟨Nat.le_of_ble_eq_true rfl, Nat.le_of_ble_eq_true rfl⟩) ⟨fun a U g mk q => by obtain ⟨q0, q1, qP, qK, qD, qN⟩ := q; exact ⟨q0, q1, qP, va_K.moved (u := U) (U := U.calling g mk a) (Vm.Alike.refl U.vm) qK, qD, qN.same rfl⟩, va_recv hK hP (ci := 4) (q0 := h0) rfl (Wd_ob kg_5 sg_5 (by decide)), fun U hU hW => ⟨rfl, by rw [hU], by rw [hU]; exact hP, va_K.moved hW.alike hK, hD.weaken (fun _ _ _ _ => trivial), hN.warm hW⟩⟩ rfl rfl hl.1 rfl (lv_room (Nat.le_of_ble_eq_true rfl)) dX4_keep_237 ⟨Nat.le_of_ble_eq_true rfl, Nat.le_of_ble_eq_true rfl⟩) hS (fun q _ h => hFc q h) hFc (fun u t H_39 locs ht hvm hw hB hz1 hk1 hS2 => ?_)
                      obtain ⟨hP1, -, hD1⟩ := hB
                      rw [ht] at hP1
                      replace hD := hD1.weaken (fun _ _ _ h => hFc _ h)
                      replace hP := hP1
                      replace hS := hS2
                      clear hP1 hD1 hS2 hFc hfc hz1 hk1 hvm ht
                      refine lv_goto (tgt := 261) hx hb dX4_keep_240 (by decide) ?_
                      obtain ⟨h8, h9⟩ := ret_some hf
                      rw [h8]
                      exact W.vret hx hb hr (fun t ht hW => ⟨⟨(), rfl, trivial, by rw [ht]; exact hP, va_K.moved hW.alike hK, hD⟩, hS.F ht⟩) hS.2.2 dX4_keep_261
                · skip
                  rw [if_pos c_23] at hf
                  refine lv_aload_n hx hb dX4_keep_182 rfl (lv_at hl 2 rfl) ?_
                  obtain ⟨k_40, ek_40, hf⟩ := lnk_some hf
                  refine va_get (D := (dC, dI)) (ci := 4) (v := .ref (a k_40)) (C := RX4) (T := TX4) (N := 18) hx hb hts iwd_X4_keep_X4 hown hK hP h0 (Wd_ob kg_5 sg_5 (by decide)) rfl 2 (by decide) (hts _ md_X4_keep_5) (fun _ h9 => h9) (fl_q rfl ek_40) dX4_keep_183 ?_
                  obtain ⟨g_41, hf⟩ := grd_some hf
                  obtain ⟨kg_41, sg_41⟩ := okO_at g_41
                  obtain ⟨k_42, ek_42, hf⟩ := lnk_some hf
                  refine va_get (D := (dC, dI)) (ci := 2) (v := .ref (a k_42)) (C := RX2) (T := TX2) (N := 11) hx hb hts iwd_X4_keep_X2 hown hK hP k_40 (Wd_ob kg_41 sg_41 (by decide)) rfl 8 (by decide) (hts _ md_X4_keep_7) (fun _ h9 => h9) (fl_q rfl ek_42) dX4_keep_186 ?_
                  refine lv_iload hx hb dX4_keep_189 (lv_at hl 0 rfl) ?_
                  refine lv_iconst (v := 0) hx hb dX4_keep_191 (by decide) ?_
                  obtain ⟨g_43, hf⟩ := grd_some hf
                  obtain ⟨kg_43, sg_43, ig_43⟩ := okA_at g_43
                  refine va_zast hx hb hK hP hD hS k_42 3 (Wd_az kg_43 sg_43) rfl ig_43 dX4_keep_192 (fun H_44 locs hP2 hD2 hS2 => ?_)
                  rw [Wd_tz sg_43] at hP2 hD2
                  obtain ⟨z_45, ez_45⟩ : ∃ w, w = si z_18 k_42 r_11.toNatClampNeg (vp_nar .boolean 0) := ⟨_, rfl⟩
                  rw [← ez_45] at hP2 hD2
                  replace hf := lt_at ez_45 hf
                  clear ez_45
                  replace hP := hP2
                  replace hD := hD2
                  replace hS := hS2
                  clear hP2 hD2 hS2
                  refine lv_aload_n hx hb dX4_keep_193 rfl (lv_at hl 2 rfl) ?_
                  refine lv_aload_n hx hb dX4_keep_194 rfl (lv_at hl 2 rfl) ?_
                  obtain ⟨k_46, ek_46, hf⟩ := lnk_some hf
                  refine va_get (D := (dC, dI)) (ci := 4) (v := .ref (a k_46)) (C := RX4) (T := TX4) (N := 18) hx hb hts iwd_X4_keep_X4 hown hK hP h0 (Wd_ob kg_5 sg_5 (by decide)) rfl 2 (by decide) (hts _ md_X4_keep_5) (fun _ h9 => h9) (fl_q rfl ek_46) dX4_keep_195 ?_
                  obtain ⟨g_47, hf⟩ := grd_some hf
                  obtain ⟨kg_47, sg_47⟩ := okO_at g_47
                  obtain ⟨k_48, ek_48, hf⟩ := lnk_some hf
                  refine va_get (D := (dC, dI)) (ci := 2) (v := .ref (a k_48)) (C := RX2) (T := TX2) (N := 11) hx hb hts iwd_X4_keep_X2 hown hK hP k_46 (Wd_ob kg_47 sg_47 (by decide)) rfl 10 (by decide) (hts _ md_X4_keep_9) (fun _ h9 => h9) (fl_q rfl ek_48) dX4_keep_198 ?_
                  refine lv_iload hx hb dX4_keep_201 (lv_at hl 0 rfl) ?_
                  obtain ⟨g_49, hf⟩ := grd_some hf
                  obtain ⟨kg_49, sg_49, ig_49⟩ := okA_at g_49
                  refine va_iald hx hb hK hP k_48 1 (Wd_ai kg_49 sg_49) rfl ig_49 dX4_keep_203 ?_
                  obtain ⟨z_50, _u, hfc, hf⟩ := cal_some hf
                  have hFc := de_free hD hS hA
                  refine va_callv (va_runV (As := [.int (z_45.1 k_48 r_11.toNatClampNeg)]) (rest := []) ⟨hx, hb, hml, hown, hts⟩ (de_X4_push l dC dI cy a sh n H_44.size F z_45 h0 (z_45.1 k_48 r_11.toNatClampNeg) hfc) (cwV 1 hts gX4_keep_X4_push rfl rfl rfl (by decide +kernel) ⟨Nat.le_of_ble_eq_true rfl, Nat.le_of_ble_eq_true rfl⟩) ⟨fun a U g mk q => by obtain ⟨q0, q1, qP, qK, qD, qN⟩ := q; exact ⟨q0, q1, qP, va_K.moved (u := U) (U := U.calling g mk a) (Vm.Alike.refl U.vm) qK, qD, qN.same rfl⟩, va_recv hK hP (ci := 4) (q0 := h0) rfl (Wd_ob kg_5 sg_5 (by decide)), fun U hU hW => ⟨rfl, by rw [hU], by rw [hU]; exact hP, va_K.moved hW.alike hK, hD.weaken (fun _ _ _ _ => trivial), hN.warm hW⟩⟩ rfl rfl hl.1 rfl (lv_room (Nat.le_of_ble_eq_true rfl)) dX4_keep_204 ⟨Nat.le_of_ble_eq_true rfl, Nat.le_of_ble_eq_true rfl⟩) hS (fun q _ h => hFc q h) hFc (fun u t H_51 locs ht hvm hw hB hz1 hk1 hS2 => ?_)
                  obtain ⟨hP1, -, hD1⟩ := hB
                  rw [ht] at hP1
                  replace hD := hD1.weaken (fun _ _ _ h => hFc _ h)
                  replace hP := hP1
                  replace hS := hS2
                  clear hP1 hD1 hS2 hFc hfc hz1 hk1 hvm ht
                  refine lv_goto (tgt := 261) hx hb dX4_keep_207 (by decide) ?_
                  obtain ⟨h8, h9⟩ := ret_some hf
                  rw [h8]
                  exact W.vret hx hb hr (fun t ht hW => ⟨⟨(), rfl, trivial, by rw [ht]; exact hP, va_K.moved hW.alike hK, hD⟩, hS.F ht⟩) hS.2.2 dX4_keep_261
              · skip
                rw [if_pos c_22] at hf
                refine lv_aload_n hx hb dX4_keep_150 rfl (lv_at hl 2 rfl) ?_
                obtain ⟨k_52, ek_52, hf⟩ := lnk_some hf
                refine va_get (D := (dC, dI)) (ci := 4) (v := .ref (a k_52)) (C := RX4) (T := TX4) (N := 18) hx hb hts iwd_X4_keep_X4 hown hK hP h0 (Wd_ob kg_5 sg_5 (by decide)) rfl 2 (by decide) (hts _ md_X4_keep_5) (fun _ h9 => h9) (fl_q rfl ek_52) dX4_keep_151 ?_
                obtain ⟨g_53, hf⟩ := grd_some hf
                obtain ⟨kg_53, sg_53⟩ := okO_at g_53
                obtain ⟨k_54, ek_54, hf⟩ := lnk_some hf
                refine va_get (D := (dC, dI)) (ci := 2) (v := .ref (a k_54)) (C := RX2) (T := TX2) (N := 11) hx hb hts iwd_X4_keep_X2 hown hK hP k_52 (Wd_ob kg_53 sg_53 (by decide)) rfl 8 (by decide) (hts _ md_X4_keep_7) (fun _ h9 => h9) (fl_q rfl ek_54) dX4_keep_154 ?_
                refine lv_iload hx hb dX4_keep_157 (lv_at hl 0 rfl) ?_
                refine lv_iconst (v := 1) hx hb dX4_keep_159 (by decide) ?_
                obtain ⟨g_55, hf⟩ := grd_some hf
                obtain ⟨kg_55, sg_55, ig_55⟩ := okA_at g_55
                refine va_zast hx hb hK hP hD hS k_54 3 (Wd_az kg_55 sg_55) rfl ig_55 dX4_keep_160 (fun H_56 locs hP2 hD2 hS2 => ?_)
                rw [Wd_tz sg_55] at hP2 hD2
                obtain ⟨z_57, ez_57⟩ : ∃ w, w = si z_18 k_54 r_11.toNatClampNeg (vp_nar .boolean 1) := ⟨_, rfl⟩
                rw [← ez_57] at hP2 hD2
                replace hf := lt_at ez_57 hf
                clear ez_57
                replace hP := hP2
                replace hD := hD2
                replace hS := hS2
                clear hP2 hD2 hS2
                refine lv_aload_n hx hb dX4_keep_161 rfl (lv_at hl 2 rfl) ?_
                obtain ⟨k_58, ek_58, hf⟩ := lnk_some hf
                refine va_get (D := (dC, dI)) (ci := 4) (v := .ref (a k_58)) (C := RX4) (T := TX4) (N := 18) hx hb hts iwd_X4_keep_X4 hown hK hP h0 (Wd_ob kg_5 sg_5 (by decide)) rfl 2 (by decide) (hts _ md_X4_keep_5) (fun _ h9 => h9) (fl_q rfl ek_58) dX4_keep_162 ?_
                obtain ⟨g_59, hf⟩ := grd_some hf
                obtain ⟨kg_59, sg_59⟩ := okO_at g_59
                obtain ⟨k_60, ek_60, hf⟩ := lnk_some hf
                refine va_get (D := (dC, dI)) (ci := 2) (v := .ref (a k_60)) (C := RX2) (T := TX2) (N := 11) hx hb hts iwd_X4_keep_X2 hown hK hP k_58 (Wd_ob kg_59 sg_59 (by decide)) rfl 10 (by decide) (hts _ md_X4_keep_9) (fun _ h9 => h9) (fl_q rfl ek_60) dX4_keep_165 ?_
                refine lv_iload hx hb dX4_keep_168 (lv_at hl 0 rfl) ?_
                refine lv_iload hx hb dX4_keep_170 (lv_at hl 1 rfl) ?_
                obtain ⟨g_61, hf⟩ := grd_some hf
                obtain ⟨kg_61, sg_61, ig_61⟩ := okA_at g_61
                refine va_iast hx hb hK hP hD hS k_60 1 (Wd_ai kg_61 sg_61) rfl ig_61 dX4_keep_172 (fun H_62 locs hP2 hD2 hS2 => ?_)
                rw [Wd_ti sg_61] at hP2 hD2
                obtain ⟨z_63, ez_63⟩ : ∃ w, w = si z_57 k_60 r_11.toNatClampNeg r_4 := ⟨_, rfl⟩
                rw [← ez_63] at hP2 hD2
                replace hf := lt_at ez_63 hf
                clear ez_63
                replace hP := hP2
                replace hD := hD2
                replace hS := hS2
                clear hP2 hD2 hS2
                refine lv_goto (tgt := 261) hx hb dX4_keep_173 (by decide) ?_
                obtain ⟨h8, h9⟩ := ret_some hf
                rw [h8]
                exact W.vret hx hb hr (fun t ht hW => ⟨⟨(), rfl, trivial, by rw [ht]; exact hP, va_K.moved hW.alike hK, hD⟩, hS.F ht⟩) hS.2.2 dX4_keep_261
            · skip
              rw [if_pos c_21] at hf
              obtain ⟨h8, h9⟩ := ret_some hf
              rw [h8]
              exact W.vret hx hb hr (fun t ht hW => ⟨⟨(), rfl, trivial, by rw [ht]; exact hP, va_K.moved hW.alike hK, hD⟩, hS.F ht⟩) hS.2.2 dX4_keep_143
          refine lv_icmp_ne (tgt := 135) hx hb dX4_keep_117 (by decide) (fun c_64 => ?_) (fun c_64 => ?_)
          · skip
            rw [if_neg c_64] at hf
            refine lv_bipush (v := 10) hx hb dX4_keep_135 (by decide) ?_
            exact B137 (z_15, 10) ls H locs ⟨lv_sub hl [0, 1, 2, 3] rfl, hP, hD, hS⟩ hf
          · skip
            rw [if_pos c_64] at hf
            refine lv_bipush (v := 10) hx hb dX4_keep_120 (by decide) ?_
            refine lv_aload_n hx hb dX4_keep_122 rfl (lv_at hl 2 rfl) ?_
            obtain ⟨k_65, ek_65, hf⟩ := lnk_some hf
            refine va_get (D := (dC, dI)) (ci := 4) (v := .ref (a k_65)) (C := RX4) (T := TX4) (N := 18) hx hb hts iwd_X4_keep_X4 hown hK hP h0 (Wd_ob kg_5 sg_5 (by decide)) rfl 1 (by decide) (hts _ md_X4_keep_3) (fun _ h9 => h9) (fl_q rfl ek_65) dX4_keep_123 ?_
            refine lv_iload hx hb dX4_keep_126 (lv_at hl 1 rfl) ?_
            obtain ⟨g_68, hf⟩ := grd_some hf
            obtain ⟨kg_68, sg_68⟩ := okO_at g_68
            obtain ⟨z_66, r_67, hfc, hf⟩ := cal_some hf
            have hFc := de_free hD hS hA
            refine va_calli (va_runV (As := [.int r_4]) (rest := [.int 10, .ref (a h0)]) ⟨hx, hb, hml, hown, hts⟩ (de_X1_sizeOf l dC dI cy a sh n H.size F z_15 k_65 r_4 hfc) (cwV 1 hts gX4_keep_X1_sizeOf rfl rfl rfl (by decide +kernel) ⟨Nat.le_of_ble_eq_true rfl, Nat.le_of_ble_eq_true rfl⟩) ⟨fun a U g mk q => by obtain ⟨q0, q1, qP, qK, qD, qN⟩ := q; exact ⟨q0, q1, qP, va_K.moved (u := U) (U := U.calling g mk a) (Vm.Alike.refl U.vm) qK, qD, qN.same rfl⟩, va_recv hK hP (ci := 1) (q0 := k_65) rfl (Wd_ob kg_68 sg_68 (by decide)), fun U hU hW => ⟨rfl, by rw [hU], by rw [hU]; exact hP, va_K.moved hW.alike hK, hD.weaken (fun _ _ _ _ => trivial), hN.warm hW⟩⟩ rfl rfl hl.1 rfl (lv_room (Nat.le_of_ble_eq_true rfl)) dX4_keep_128 ⟨Nat.le_of_ble_eq_true rfl, Nat.le_of_ble_eq_true rfl⟩) hS (fun q _ h => hFc q h) hFc (fun rr u t H_69 locs ht hvm hw hB hz1 hk1 hS2 => ?_)
            rw [hw]
            clear hw
            obtain ⟨hP1, -, hD1⟩ := hB
            rw [ht] at hP1
            replace hD := hD1.weaken (fun _ _ _ h => hFc _ h)
            replace hP := hP1
            replace hS := hS2
            clear hP1 hD1 hS2 hFc hfc hz1 hk1 hvm ht
            refine lv_iadd hx hb dX4_keep_131 ?_
            refine lv_goto (tgt := 137) hx hb dX4_keep_132 (by decide) ?_
            exact B137 (z_66, (10 + r_67)) ls H_69 locs ⟨lv_sub hl [0, 1, 2, 3] rfl, hP, hD, hS⟩ hf
        refine lv_icmp_eq (tgt := 113) hx hb dX4_keep_77 (by decide) (fun c_70 => ?_) (fun c_70 => ?_)
        · skip
          rw [if_pos c_70] at hf
          exact B113 (z_10) ls H_13 locs ⟨lv_sub hl [0, 2, 3, 4] rfl, hP, hD, hS⟩ hf
        · skip
          rw [if_neg c_70] at hf
          refine lv_aload_n hx hb dX4_keep_80 rfl (lv_at hl 3 rfl) ?_
          obtain ⟨k_71, ek_71, hf⟩ := lnk_some hf
          refine va_get (D := (dC, dI)) (ci := 4) (v := .ref (a k_71)) (C := RX4) (T := TX4) (N := 18) hx hb hts iwd_X4_keep_X4 hown hK hP h0 (Wd_ob kg_5 sg_5 (by decide)) rfl 2 (by decide) (hts _ md_X4_keep_5) (fun _ h9 => h9) (fl_q rfl ek_71) dX4_keep_81 ?_
          obtain ⟨g_72, hf⟩ := grd_some hf
          obtain ⟨kg_72, sg_72⟩ := okO_at g_72
          obtain ⟨k_73, ek_73, hf⟩ := lnk_some hf
          refine va_get (D := (dC, dI)) (ci := 2) (v := .ref (a k_73)) (C := RX2) (T := TX2) (N := 11) hx hb hts iwd_X4_keep_X2 hown hK hP k_71 (Wd_ob kg_72 sg_72 (by decide)) rfl 8 (by decide) (hts _ md_X4_keep_7) (fun _ h9 => h9) (fl_q rfl ek_73) dX4_keep_84 ?_
          refine lv_iload hx hb dX4_keep_87 (lv_at hl 0 rfl) ?_
          obtain ⟨g_74, hf⟩ := grd_some hf
          obtain ⟨kg_74, sg_74, ig_74⟩ := okA_at g_74
          refine va_zald hx hb hK hP k_73 3 (Wd_az kg_74 sg_74) rfl ig_74 dX4_keep_89 ?_
          refine lv_iload_n hx hb dX4_keep_90 rfl (lv_at hl 4 rfl) ?_
          refine lv_bipush (v := 47) hx hb dX4_keep_91 (by decide) ?_
          refine de_cut (h := 101) (fun (x : St × Int32) => [.int x.2, .int (z_10.1 k_73 r_11.toNatClampNeg)]) (fun x ls H locs => lv_has ls 8 [(7, .int r_11), (4, .int r_4), (0, .ref (a h0)), (1, .int x0)] ∧ va_P (dC, dI) vwCl (Wd cy a sh n x.1) H ∧ va_D A (Wd cy a sh n x.1) ∧ va_S A s.heap H locs) (fun x => fn_X4_keep_B101 F sh n z_10 k_73 r_11 h0 x0 r_4 x.1 x.2) (z8, r8) ?_ (fun B101 => ?_)
          · intro x ls H locs hI hf
            obtain ⟨z_76, p_75⟩ := x
            obtain ⟨hl2, hP2, hD2, hS2⟩ := hI
            replace hl : lv_has ls 8 [(7, .int r_11), (4, .int r_4), (0, .ref (a h0)), (1, .int x0)] := hl2
            replace hP := hP2
            replace hD := hD2
            replace hS := hS2
            clear hl2 hP2 hD2 hS2
            replace hf := fn_X4_keep_B101_s hf
            refine W.eq (g2 := F0 m 101 ls [.int p_75, .int (z_10.1 k_73 r_11.toNatClampNeg)]) rfl ?_
            refine lv_icmp_ne (tgt := 113) hx hb dX4_keep_101 (by decide) (fun c_77 => ?_) (fun c_77 => ?_)
            · skip
              rw [if_neg c_77] at hf
              exact B113 (z_76) ls H locs ⟨lv_sub hl [0, 1, 2, 3] rfl, hP, hD, hS⟩ hf
            · skip
              rw [if_pos c_77] at hf
              refine lv_aload_n hx hb dX4_keep_104 rfl (lv_at hl 2 rfl) ?_
              refine lv_iconst (v := 2) hx hb dX4_keep_105 (by decide) ?_
              refine lv_ldc2 hx hb hown (hts _ md_X4_keep_8) dX4_keep_106 ?_
              obtain ⟨z_78, _u, hfc, hf⟩ := cal_some hf
              have hFc := de_free hD hS hA
              refine va_callv (va_runV (As := [.int 2, .long 3]) (rest := []) ⟨hx, hb, hml, hown, hts⟩ (de_X4_end l dC dI cy a sh n H.size F z_76 h0 2 3 hfc) (cwV 2 hts gX4_keep_X4_end rfl rfl rfl (by decide +kernel) ⟨Nat.le_of_ble_eq_true rfl, Nat.le_of_ble_eq_true rfl⟩) ⟨fun a U g mk q => by obtain ⟨q0, q1, qP, qK, qD, qN⟩ := q; exact ⟨q0, q1, qP, va_K.moved (u := U) (U := U.calling g mk a) (Vm.Alike.refl U.vm) qK, qD, qN.same rfl⟩, va_recv hK hP (ci := 4) (q0 := h0) rfl (Wd_ob kg_5 sg_5 (by decide)), fun U hU hW => ⟨rfl, by rw [hU], by rw [hU]; exact hP, va_K.moved hW.alike hK, hD.weaken (fun _ _ _ _ => trivial), hN.warm hW⟩⟩ rfl rfl hl.1 rfl (lv_room (Nat.le_of_ble_eq_true rfl)) dX4_keep_109 ⟨Nat.le_of_ble_eq_true rfl, Nat.le_of_ble_eq_true rfl⟩) hS (fun q _ h => hFc q h) hFc (fun u t H_79 locs ht hvm hw hB hz1 hk1 hS2 => ?_)
              obtain ⟨hP1, -, hD1⟩ := hB
              rw [ht] at hP1
              replace hD := hD1.weaken (fun _ _ _ h => hFc _ h)
              replace hP := hP1
              replace hS := hS2
              clear hP1 hD1 hS2 hFc hfc hz1 hk1 hvm ht
              obtain ⟨h8, h9⟩ := ret_some hf
              rw [h8]
              exact W.vret hx hb hr (fun t ht hW => ⟨⟨(), rfl, trivial, by rw [ht]; exact hP, va_K.moved hW.alike hK, hD⟩, hS.F ht⟩) hS.2.2 dX4_keep_112
          refine lv_icmp_ne (tgt := 100) hx hb dX4_keep_93 (by decide) (fun c_80 => ?_) (fun c_80 => ?_)
          · skip
            rw [if_neg c_80] at hf
            refine lv_iconst (v := 0) hx hb dX4_keep_100 (by decide) ?_
            exact B101 (z_10, 0) ls H_13 locs ⟨lv_sub hl [0, 2, 3, 4] rfl, hP, hD, hS⟩ hf
          · skip
            rw [if_pos c_80] at hf
            refine lv_iconst (v := 1) hx hb dX4_keep_96 (by decide) ?_
            refine lv_goto (tgt := 101) hx hb dX4_keep_97 (by decide) ?_
            exact B101 (z_10, 1) ls H_13 locs ⟨lv_sub hl [0, 2, 3, 4] rfl, hP, hD, hS⟩ hf
      · skip
        rw [if_neg c_14] at hf
        refine lv_aload_n hx hb dX4_keep_65 rfl (lv_at hl 3 rfl) ?_
        refine lv_iconst (v := 2) hx hb dX4_keep_66 (by decide) ?_
        refine lv_ldc2 hx hb hown (hts _ md_X4_keep_6) dX4_keep_67 ?_
        obtain ⟨z_81, _u, hfc, hf⟩ := cal_some hf
        have hFc := de_free hD hS hA
        refine va_callv (va_runV (As := [.int 2, .long 4]) (rest := []) ⟨hx, hb, hml, hown, hts⟩ (de_X4_end l dC dI cy a sh n H_13.size F z_10 h0 2 4 hfc) (cwV 2 hts gX4_keep_X4_end rfl rfl rfl (by decide +kernel) ⟨Nat.le_of_ble_eq_true rfl, Nat.le_of_ble_eq_true rfl⟩) ⟨fun a U g mk q => by obtain ⟨q0, q1, qP, qK, qD, qN⟩ := q; exact ⟨q0, q1, qP, va_K.moved (u := U) (U := U.calling g mk a) (Vm.Alike.refl U.vm) qK, qD, qN.same rfl⟩, va_recv hK hP (ci := 4) (q0 := h0) rfl (Wd_ob kg_5 sg_5 (by decide)), fun U hU hW => ⟨rfl, by rw [hU], by rw [hU]; exact hP, va_K.moved hW.alike hK, hD.weaken (fun _ _ _ _ => trivial), hN.warm hW⟩⟩ rfl rfl hl.1 rfl (lv_room (Nat.le_of_ble_eq_true rfl)) dX4_keep_70 ⟨Nat.le_of_ble_eq_true rfl, Nat.le_of_ble_eq_true rfl⟩) hS (fun q _ h => hFc q h) hFc (fun u t H_82 locs ht hvm hw hB hz1 hk1 hS2 => ?_)
        obtain ⟨hP1, -, hD1⟩ := hB
        rw [ht] at hP1
        replace hD := hD1.weaken (fun _ _ _ h => hFc _ h)
        replace hP := hP1
        replace hS := hS2
        clear hP1 hD1 hS2 hFc hfc hz1 hk1 hvm ht
        obtain ⟨h8, h9⟩ := ret_some hf
        rw [h8]
        exact W.vret hx hb hr (fun t ht hW => ⟨⟨(), rfl, trivial, by rw [ht]; exact hP, va_K.moved hW.alike hK, hD⟩, hS.F ht⟩) hS.2.2 dX4_keep_73
    refine lv_icmp_ne (tgt := 34) hx hb dX4_keep_21 (by decide) (fun c_83 => ?_) (fun c_83 => ?_)
    · skip
      rw [if_neg c_83] at hf
      refine lv_aload_n hx hb dX4_keep_34 rfl (lv_at hl 1 rfl) ?_
      obtain ⟨k_84, ek_84, hf⟩ := lnk_some hf
      refine va_get (D := (dC, dI)) (ci := 4) (v := .ref (a k_84)) (C := RX4) (T := TX4) (N := 18) hx hb hts iwd_X4_keep_X4 hown hK hP h0 (Wd_ob kg_5 sg_5 (by decide)) rfl 1 (by decide) (hts _ md_X4_keep_3) (fun _ h9 => h9) (fl_q rfl ek_84) dX4_keep_35 ?_
      obtain ⟨g_85, hf⟩ := grd_some hf
      obtain ⟨kg_85, sg_85⟩ := okO_at g_85
      obtain ⟨k_86, ek_86, hf⟩ := lnk_some hf
      refine va_get (D := (dC, dI)) (ci := 1) (v := .ref (a k_86)) (C := RX1) (T := TX1) (N := 7) hx hb hts iwd_X4_keep_X1 hown hK hP k_84 (Wd_ob kg_85 sg_85 (by decide)) rfl 1 (by decide) (hts _ md_X4_keep_4) (fun _ h9 => h9) (fl_q rfl ek_86) dX4_keep_38 ?_
      refine lv_iload hx hb dX4_keep_41 (lv_at hl 0 rfl) ?_
      obtain ⟨g_87, hf⟩ := grd_some hf
      obtain ⟨kg_87, sg_87, ig_87⟩ := okA_at g_87
      refine va_lald hx hb hK hP k_86 2 (Wd_al kg_87 sg_87) rfl ig_87 dX4_keep_43 ?_
      exact B44 (z_3, (z_3.2.1 k_86 r_4.toNatClampNeg)) ls H_6 locs ⟨lv_sub hl [0, 1, 2, 3, 4] rfl, hP, hD, hS⟩ hf
    · skip
      rw [if_pos c_83] at hf
      refine lv_aload_n hx hb dX4_keep_24 rfl (lv_at hl 1 rfl) ?_
      obtain ⟨k_88, ek_88, hf⟩ := lnk_some hf
      refine va_get (D := (dC, dI)) (ci := 4) (v := .ref (a k_88)) (C := RX4) (T := TX4) (N := 18) hx hb hts iwd_X4_keep_X4 hown hK hP h0 (Wd_ob kg_5 sg_5 (by decide)) rfl 13 (by decide) (hts _ md_X4_keep_1) (fun _ h9 => h9) (fl_q rfl ek_88) dX4_keep_25 ?_
      obtain ⟨g_89, hf⟩ := grd_some hf
      obtain ⟨kg_89, sg_89⟩ := okO_at g_89
      refine va_get (D := (dC, dI)) (ci := 8) (v := .long (z_3.2.1 k_88 1)) (C := RX8) (T := TX8) (N := 19) hx hb hts iwd_X4_keep_X8 hown hK hP k_88 (Wd_ob kg_89 sg_89 (by decide)) rfl 1 (by decide) (hts _ md_X4_keep_2) (fun _ h9 => h9) (fl_at (t := 1) rfl) dX4_keep_28 ?_
      refine lv_goto (tgt := 44) hx hb dX4_keep_31 (by decide) ?_
      exact B44 (z_3, (z_3.2.1 k_88 1)) ls H_6 locs ⟨lv_sub hl [0, 1, 2, 3, 4] rfl, hP, hD, hS⟩ hf
  refine lv_icmp_ne (tgt := 12) hx hb dX4_keep_4 (by decide) (fun c_90 => ?_) (fun c_90 => ?_)
  · skip
    rw [if_neg c_90] at hf
    refine lv_iconst (v := 5) hx hb dX4_keep_12 (by decide) ?_
    exact B13 (z, 5) ls H locs ⟨lv_sub hl [0, 1, 2, 3] rfl, hP, hD, hS⟩ hf
  · skip
    rw [if_pos c_90] at hf
    refine lv_bipush (v := 6) hx hb dX4_keep_7 (by decide) ?_
    refine lv_goto (tgt := 13) hx hb dX4_keep_9 (by decide) ?_
    exact B13 (z, 6) ls H locs ⟨lv_sub hl [0, 1, 2, 3] rfl, hP, hD, hS⟩ hf

