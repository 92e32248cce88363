theorem md_X4_popOf_1 : (.fieldLink RX4 12 "ResourceLedger$Machine" "heap" "LResourceLedger$Heap;" : Cond) ∈ wsX4_popOf := List.mem_of_getElem? (i := 1) rfl
theorem iwd_X4_popOf_X4 : ∀ w ∈ wsX40, w ∈ wsX4_popOf := fun _ h => List.mem_cons_of_mem _ (List.mem_append_left _ (List.mem_append_right _ h))
theorem md_X4_popOf_2 : (.fieldLink RX4 157 "ResourceLedger$Heap" "kind" "[B" : Cond) ∈ wsX4_popOf := List.mem_of_getElem? (i := 2) rfl
theorem iwd_X4_popOf_X1 : ∀ w ∈ wsX10, w ∈ wsX4_popOf := fun _ h => List.mem_cons_of_mem _ (List.mem_append_right _ h)
theorem md_X4_popOf_3 : (.fieldLink RX4 71 "ResourceLedger$Heap" "slips" "I" : Cond) ∈ wsX4_popOf := List.mem_of_getElem? (i := 3) rfl
set_option maxHeartbeats 4000000 in
set_option maxRecDepth 100000 in
theorem de_X4_popOf (l : Launch) (dC : Nat → ClassId) (dI : Nat → Nat → Nat) (cy : Nat → ClassId) (a : Nat → Nat) (sh : Nat → Nat × Nat) (n sz : Nat) (F : Nat) (z : St) (h0 : Nat) (x0 : Int32) {z8 : St} {r8 : Int32} (hf : fn_X4_popOf F sh n z h0 x0 = some (z8, r8)) : Met l yX4_popOf wsX4_popOf ({ frames := 1, cells := 0, slots := 0, locals := 20 }) (va_Pc [.ref (a h0), .int x0] (fun U => U.heap.size = sz ∧ va_P (dC, dI) vwCl (Wd cy a sh n z) U.heap ∧ va_K (dC, dI) vwCl (TYS cy) U ∧ va_D (fun _ => True) (Wd cy a sh n z) ∧ NK U)) (va_Qi (fun (r9 : Int32) (u : Unit) => r9 = r8) (fun u t => va_P (dC, dI) vwCl (Wd cy a sh n z8) t.heap ∧ va_K (dC, dI) vwCl (TYS cy) t ∧ va_D (va_A (Wd cy a sh n z) sz) (Wd cy a sh n z8)) (va_A (Wd cy a sh n z) sz)) 0 0 (va_A (Wd cy a sh n z) sz) := by
  refine Met.ofW (cc := cX4_popOf) (maxL := 3) (ret := (some .int)) (by decide) rfl ?_
  intro p e s m args below meth c s₁ B hml hv
  obtain ⟨rfl, hsz, hP, hK, hD0, hN⟩ := hv
  have hx := B.exec
  have hb := B.bytes
  have hr := B.returns
  have hts := atoms_spec (ws := wsX4_popOf) B.pre
  have hown : s.vm.findClass RX4 = some m.cls := findClass_of_methodNamed B.named
  have hlocks := B.notSynchronized
  subst hsz
  have hD := hD0.self (sz := s.heap.size)
  clear hD0
  generalize hAe : va_A (Wd cy a sh n z) s.heap.size = A at hD ⊢
  have hA : ∀ q : Nat, s.heap.size ≤ q → A q := fun q h => by rw [← hAe]; exact Or.inr h
  clear hAe
  have hS : va_S A s.heap s.heap [] := va_S.rf
  have hl := lv_entry ([.ref (a h0), .int x0]) (n := 3) (Nat.le_of_ble_eq_true rfl)
  rw [lg_entry_eq]
  generalize (lg_sl ([.ref (a h0), .int x0]) ++ List.replicate (3 - (lg_sl ([.ref (a h0), .int x0])).length) Slot.unset).toArray = ls at hl ⊢
  replace hl : lv_has ls 3 [(0, .ref (a h0)), (1, .int x0)] := hl
  unfold fn_X4_popOf at hf
  refine de_start hS hP (fun H locs hS hP => ?_)
  refine lv_aload_n hx hb dX4_popOf_0 rfl (lv_at hl 0 rfl) ?_
  obtain ⟨g_3, hf⟩ := grd_some hf
  obtain ⟨kg_3, sg_3⟩ := okO_at g_3
  obtain ⟨z_1, r_2, hfc, hf⟩ := cal_some hf
  have hFc := de_free hD hS hA
  refine va_calli (va_runV (As := []) (rest := []) ⟨hx, hb, hml, hown, hts⟩ (de_X4_pop l dC dI cy a sh n H.size F z h0 hfc) (cwV 0 hts gX4_popOf_X4_pop rfl rfl rfl (by decide +kernel) ⟨Nat.le_of_ble_eq_true rfl, Nat.le_of_ble_eq_true rfl⟩) ⟨fun a U g mk q => by obtain ⟨q0, q1, qP, qK, qD, qN⟩ := q; exact ⟨q0, q1, qP, va_K.moved (u := U) (U := U.calling g mk a) (Vm.Alike.refl U.vm) qK, qD, qN.same rfl⟩, va_recv hK hP (ci := 4) (q0 := h0) rfl (Wd_ob kg_3 sg_3 (by decide)), fun U hU hW => ⟨rfl, by rw [hU], by rw [hU]; exact hP, va_K.moved hW.alike hK, hD.weaken (fun _ _ _ _ => trivial), hN.warm hW⟩⟩ rfl rfl hl.1 rfl (lv_room (Nat.le_of_ble_eq_true rfl)) dX4_popOf_1 ⟨Nat.le_of_ble_eq_true rfl, Nat.le_of_ble_eq_true rfl⟩) hS (fun q _ h => hFc q h) hFc (fun rr u t H_4 locs ht hvm hw hB hz1 hk1 hS2 => ?_)
  rw [hw]
  clear hw
  obtain ⟨hP1, -, hD1⟩ := hB
  rw [ht] at hP1
  replace hD := hD1.weaken (fun _ _ _ h => hFc _ h)
  replace hP := hP1
  replace hS := hS2
  clear hP1 hD1 hS2 hFc hfc hz1 hk1 hvm ht
  refine lv_istore_n (lv' := [(2, .int r_2), (0, .ref (a h0)), (1, .int x0)]) hx hb dX4_popOf_4 rfl hl (by decide) rfl (fun ls hl2 => ?_)
  replace hl := hl2
  clear hl2
  refine lv_aload_n hx hb dX4_popOf_5 rfl (lv_at hl 1 rfl) ?_
  obtain ⟨k_5, ek_5, hf⟩ := lnk_some hf
  refine va_get (D := (dC, dI)) (ci := 4) (v := .ref (a k_5)) (C := RX4) (T := TX4) (N := 18) hx hb hts iwd_X4_popOf_X4 hown hK hP h0 (Wd_ob kg_3 sg_3 (by decide)) rfl 1 (by decide) (hts _ md_X4_popOf_1) (fun _ h9 => h9) (fl_q rfl ek_5) dX4_popOf_6 ?_
  obtain ⟨g_6, hf⟩ := grd_some hf
  obtain ⟨kg_6, sg_6⟩ := okO_at g_6
  obtain ⟨k_7, ek_7, hf⟩ := lnk_some hf
  refine va_get (D := (dC, dI)) (ci := 1) (v := .ref (a k_7)) (C := RX1) (T := TX1) (N := 7) hx hb hts iwd_X4_popOf_X1 hown hK hP k_5 (Wd_ob kg_6 sg_6 (by decide)) rfl 0 (by decide) (hts _ md_X4_popOf_2) (fun _ h9 => h9) (fl_q rfl ek_7) dX4_popOf_9 ?_
  refine lv_iload_n hx hb dX4_popOf_12 rfl (lv_at hl 0 rfl) ?_
  obtain ⟨g_8, hf⟩ := grd_some hf
  obtain ⟨kg_8, sg_8, ig_8⟩ := okA_at g_8
  refine va_bald hx hb hK hP k_7 0 (Wd_ab kg_8 sg_8) rfl ig_8 dX4_popOf_13 ?_
  refine lv_iload_n hx hb dX4_popOf_14 rfl (lv_at hl 2 rfl) ?_
  refine lv_icmp_eq (tgt := 31) hx hb dX4_popOf_15 (by decide) (fun c_9 => ?_) (fun c_9 => ?_)
  · skip
    rw [if_pos c_9] at hf
    refine lv_iload_n hx hb dX4_popOf_31 rfl (lv_at hl 0 rfl) ?_
    obtain ⟨h8, h9⟩ := ret_some hf
    rw [h8, h9]
    exact W.iret (v := r_2) hx hb hr (fun t ht hW => ⟨⟨r_2, (), rfl, rfl, by rw [ht]; exact hP, va_K.moved hW.alike hK, hD⟩, hS.F ht⟩) hS.2.2 dX4_popOf_32
  · skip
    rw [if_neg c_9] at hf
    refine lv_aload_n hx hb dX4_popOf_18 rfl (lv_at hl 1 rfl) ?_
    obtain ⟨k_10, ek_10, hf⟩ := lnk_some hf
    refine va_get (D := (dC, dI)) (ci := 4) (v := .ref (a k_10)) (C := RX4) (T := TX4) (N := 18) hx hb hts iwd_X4_popOf_X4 hown hK hP h0 (Wd_ob kg_3 sg_3 (by decide)) rfl 1 (by decide) (hts _ md_X4_popOf_1) (fun _ h9 => h9) (fl_q rfl ek_10) dX4_popOf_19 ?_
    refine lv_dup hx hb dX4_popOf_22 rfl ?_
    obtain ⟨g_11, hf⟩ := grd_some hf
    obtain ⟨kg_11, sg_11⟩ := okO_at g_11
    refine va_get (D := (dC, dI)) (ci := 1) (v := .int (z_1.1 k_10 6)) (C := RX1) (T := TX1) (N := 7) hx hb hts iwd_X4_popOf_X1 hown hK hP k_10 (Wd_ob kg_11 sg_11 (by decide)) rfl 6 (by decide) (hts _ md_X4_popOf_3) (fun _ h9 => h9) (fl_at (t := 0) rfl) dX4_popOf_23 ?_
    refine lv_iconst (v := 1) hx hb dX4_popOf_26 (by decide) ?_
    refine lv_iadd hx hb dX4_popOf_27 ?_
    refine va_put (D := (dC, dI)) (ci := 1) (v := .int ((z_1.1 k_10 6) + 1)) (ty := .int) (C := RX1) (T := TX1) (N := 7) hx hb hts iwd_X4_popOf_X1 tyX1 tyX1_ok nmX1 hown hK hP hD hS k_10 (Wd_ob kg_11 sg_11 (by decide)) rfl 6 (by decide) (hts _ md_X4_popOf_3) (fun _ h9 => h9) rfl (by decide +kernel) rfl rfl (by rw [fl_len]; decide) dX4_popOf_28 (fun H_12 locs hP2 hD2 hS2 => ?_)
    rw [Wd_si sg_11 (by decide) rfl] at hP2 hD2
    obtain ⟨z_13, ez_13⟩ : ∃ w, w = si z_1 k_10 6 ((z_1.1 k_10 6) + 1) := ⟨_, rfl⟩
    rw [← ez_13] at hP2 hD2
    replace hf := lt_at ez_13 hf
    clear ez_13
    replace hP := hP2
    replace hD := hD2
    replace hS := hS2
    clear hP2 hD2 hS2
    refine lv_iload_n hx hb dX4_popOf_31 rfl (lv_at hl 0 rfl) ?_
    obtain ⟨h8, h9⟩ := ret_some hf
    rw [h8, h9]
    exact W.iret (v := r_2) hx hb hr (fun t ht hW => ⟨⟨r_2, (), rfl, rfl, by rw [ht]; exact hP, va_K.moved hW.alike hK, hD⟩, hS.F ht⟩) hS.2.2 dX4_popOf_32

theorem tbd_0_3 {x : Int32} (h0 : ¬ x = 0) (h1 : ¬ x = 1) (h2 : ¬ x = 2) (h3 : ¬ x = 3) : x.toInt < 0 ∨ 3 < x.toInt := by
  have a0 : x.toInt ≠ 0 := tbd_ne h0
  have a1 : x.toInt ≠ 1 := tbd_ne h1
  have a2 : x.toInt ≠ 2 := tbd_ne h2
  have a3 : x.toInt ≠ 3 := tbd_ne h3
  omega
theorem md_X11_coins_1 : (.fieldLink RX11 22 "ResourceLedger" "state" "LResourceLedger$State;" : Cond) ∈ wsX11_coins := List.mem_of_getElem? (i := 1) rfl
theorem iwd_X11_coins_X11 : ∀ w ∈ wsX110, w ∈ wsX11_coins := fun _ h => List.mem_cons_of_mem _ (List.mem_append_left _ (List.mem_append_right _ h))
theorem md_X11_coins_2 : (.fieldLink RX11 86 "ResourceLedger$State" "minted" "J" : Cond) ∈ wsX11_coins := List.mem_of_getElem? (i := 2) rfl
theorem iwd_X11_coins_X7 : ∀ w ∈ wsX70, w ∈ wsX11_coins := fun _ h => List.mem_cons_of_mem _ (List.mem_append_right _ h)
theorem md_X11_coins_3 : (.fieldLink RX11 90 "ResourceLedger$State" "burned" "J" : Cond) ∈ wsX11_coins := List.mem_of_getElem? (i := 3) rfl
set_option maxHeartbeats 4000000 in
set_option maxRecDepth 100000 in
theorem de_X11_coins (l : Launch) (dC : Nat → ClassId) (dI : Nat → Nat → Nat) (cy : Nat → ClassId) (a : Nat → Nat) (sh : Nat → Nat × Nat) (n sz : Nat) (F : Nat) (z : St) (h0 : Nat) (x0 : Int32) {z8 : St} {r8 : Int64} (hf : fn_X11_coins F sh n z h0 x0 = some (z8, r8)) : Met l yX11_coins wsX11_coins ({ frames := 1, cells := 0, slots := 0, locals := 24 }) (va_Pc [.ref (a h0), .int x0] (fun U => U.heap.size = sz ∧ va_P (dC, dI) vwCl (Wd cy a sh n z) U.heap ∧ va_K (dC, dI) vwCl (TYS cy) U ∧ va_D (fun _ => True) (Wd cy a sh n z) ∧ NK U)) (va_Ql (fun (r9 : Int64) (u : Unit) => r9 = r8) (fun u t => va_P (dC, dI) vwCl (Wd cy a sh n z8) t.heap ∧ va_K (dC, dI) vwCl (TYS cy) t ∧ va_D (va_A (Wd cy a sh n z) sz) (Wd cy a sh n z8)) (va_A (Wd cy a sh n z) sz)) 0 0 (va_A (Wd cy a sh n z) sz) := by
  refine Met.ofW (cc := cX11_coins) (maxL := 2) (ret := (some .long)) (by decide) rfl ?_
  intro p e s m args below meth c s₁ B hml hv
  obtain ⟨rfl, hsz, hP, hK, hD0, hN⟩ := hv
  have hx := B.exec
  have hb := B.bytes
  have hr := B.returns
  have hts := atoms_spec (ws := wsX11_coins) B.pre
  have hown : s.vm.findClass RX11 = some m.cls := findClass_of_methodNamed B.named
  have hlocks := B.notSynchronized
  subst hsz
  have hD := hD0.self (sz := s.heap.size)
  clear hD0
  generalize hAe : va_A (Wd cy a sh n z) s.heap.size = A at hD ⊢
  have hA : ∀ q : Nat, s.heap.size ≤ q → A q := fun q h => by rw [← hAe]; exact Or.inr h
  clear hAe
  have hS : va_S A s.heap s.heap [] := va_S.rf
  have hl := lv_entry ([.ref (a h0), .int x0]) (n := 2) (Nat.le_of_ble_eq_true rfl)
  rw [lg_entry_eq]
  generalize (lg_sl ([.ref (a h0), .int x0]) ++ List.replicate (2 - (lg_sl ([.ref (a h0), .int x0])).length) Slot.unset).toArray = ls at hl ⊢
  replace hl : lv_has ls 2 [(0, .ref (a h0)), (1, .int x0)] := hl
  unfold fn_X11_coins at hf
  refine de_start hS hP (fun H locs hS hP => ?_)
  refine lv_iload_n hx hb dX11_coins_0 rfl (lv_at hl 1 rfl) ?_
  by_cases c_1 : x0 = 0
  · skip
    rw [if_pos c_1] at hf
    refine lv_tableIn (tgt := 32) hx hb dX11_coins_1 (by rw [c_1]; decide) (by rw [c_1]; decide) (by rw [c_1]; rfl) (by decide) ?_
    refine lv_aload_n hx hb dX11_coins_32 rfl (lv_at hl 0 rfl) ?_
    obtain ⟨g_2, hf⟩ := grd_some hf
    obtain ⟨kg_2, sg_2⟩ := okO_at g_2
    obtain ⟨k_3, ek_3, hf⟩ := lnk_some hf
    refine va_get (D := (dC, dI)) (ci := 11) (v := .ref (a k_3)) (C := RX11) (T := TX11) (N := 13) hx hb hts iwd_X11_coins_X11 hown hK hP h0 (Wd_ob kg_2 sg_2 (by decide)) rfl 6 (by decide) (hts _ md_X11_coins_1) (fun _ h9 => h9) (fl_q rfl ek_3) dX11_coins_33 ?_
    obtain ⟨g_4, hf⟩ := grd_some hf
    obtain ⟨kg_4, sg_4⟩ := okO_at g_4
    refine va_get (D := (dC, dI)) (ci := 7) (v := .long (z.2.1 k_3 14)) (C := RX7) (T := TX7) (N := 16) hx hb hts iwd_X11_coins_X7 hown hK hP k_3 (Wd_ob kg_4 sg_4 (by decide)) rfl 14 (by decide) (hts _ md_X11_coins_2) (fun _ h9 => h9) (fl_at (t := 1) rfl) dX11_coins_36 ?_
    obtain ⟨h8, h9⟩ := ret_some hf
    rw [h8, h9]
    exact W.lret (v := (z.2.1 k_3 14)) hx hb hr (fun t ht hW => ⟨⟨(z.2.1 k_3 14), (), rfl, rfl, by rw [ht]; exact hP, va_K.moved hW.alike hK, hD⟩, hS.F ht⟩) hS.2.2 dX11_coins_39
  rw [if_neg c_1] at hf
  by_cases c_5 : x0 = 1
  · skip
    rw [if_pos c_5] at hf
    refine lv_tableIn (tgt := 40) hx hb dX11_coins_1 (by rw [c_5]; decide) (by rw [c_5]; decide) (by rw [c_5]; rfl) (by decide) ?_
    refine lv_aload_n hx hb dX11_coins_40 rfl (lv_at hl 0 rfl) ?_
    obtain ⟨g_6, hf⟩ := grd_some hf
    obtain ⟨kg_6, sg_6⟩ := okO_at g_6
    obtain ⟨k_7, ek_7, hf⟩ := lnk_some hf
    refine va_get (D := (dC, dI)) (ci := 11) (v := .ref (a k_7)) (C := RX11) (T := TX11) (N := 13) hx hb hts iwd_X11_coins_X11 hown hK hP h0 (Wd_ob kg_6 sg_6 (by decide)) rfl 6 (by decide) (hts _ md_X11_coins_1) (fun _ h9 => h9) (fl_q rfl ek_7) dX11_coins_41 ?_
    obtain ⟨g_8, hf⟩ := grd_some hf
    obtain ⟨kg_8, sg_8⟩ := okO_at g_8
    refine va_get (D := (dC, dI)) (ci := 7) (v := .long (z.2.1 k_7 15)) (C := RX7) (T := TX7) (N := 16) hx hb hts iwd_X11_coins_X7 hown hK hP k_7 (Wd_ob kg_8 sg_8 (by decide)) rfl 15 (by decide) (hts _ md_X11_coins_3) (fun _ h9 => h9) (fl_at (t := 1) rfl) dX11_coins_44 ?_
    obtain ⟨h8, h9⟩ := ret_some hf
    rw [h8, h9]
    exact W.lret (v := (z.2.1 k_7 15)) hx hb hr (fun t ht hW => ⟨⟨(z.2.1 k_7 15), (), rfl, rfl, by rw [ht]; exact hP, va_K.moved hW.alike hK, hD⟩, hS.F ht⟩) hS.2.2 dX11_coins_47
  rw [if_neg c_5] at hf
  by_cases c_9 : x0 = 2
  · skip
    rw [if_pos c_9] at hf
    refine lv_tableIn (tgt := 48) hx hb dX11_coins_1 (by rw [c_9]; decide) (by rw [c_9]; decide) (by rw [c_9]; rfl) (by decide) ?_
    refine lv_aload_n hx hb dX11_coins_48 rfl (lv_at hl 0 rfl) ?_
    obtain ⟨g_10, hf⟩ := grd_some hf
    obtain ⟨kg_10, sg_10⟩ := okO_at g_10
    obtain ⟨k_11, ek_11, hf⟩ := lnk_some hf
    refine va_get (D := (dC, dI)) (ci := 11) (v := .ref (a k_11)) (C := RX11) (T := TX11) (N := 13) hx hb hts iwd_X11_coins_X11 hown hK hP h0 (Wd_ob kg_10 sg_10 (by decide)) rfl 6 (by decide) (hts _ md_X11_coins_1) (fun _ h9 => h9) (fl_q rfl ek_11) dX11_coins_49 ?_
    obtain ⟨g_14, hf⟩ := grd_some hf
    obtain ⟨kg_14, sg_14⟩ := okO_at g_14
    obtain ⟨z_12, r_13, hfc, hf⟩ := cal_some hf
    have hFc := de_free hD hS hA
    refine va_calll (va_runV (As := []) (rest := []) ⟨hx, hb, hml, hown, hts⟩ (de_X7_allBalances l dC dI cy a sh n H.size F z k_11 hfc) (cwV 0 hts gX11_coins_X7_allBalances rfl rfl rfl (by decide +kernel) ⟨Nat.le_of_ble_eq_true rfl, Nat.le_of_ble_eq_true rfl⟩) ⟨fun a U g mk q => by obtain ⟨q0, q1, qP, qK, qD, qN⟩ := q; exact ⟨q0, q1, qP, va_K.moved (u := U) (U := U.calling g mk a) (Vm.Alike.refl U.vm) qK, qD, qN.same rfl⟩, va_recv hK hP (ci := 7) (q0 := k_11) rfl (Wd_ob kg_14 sg_14 (by decide)), fun U hU hW => ⟨rfl, by rw [hU], by rw [hU]; exact hP, va_K.moved hW.alike hK, hD.weaken (fun _ _ _ _ => trivial), hN.warm hW⟩⟩ rfl rfl hl.1 rfl (lv_room (Nat.le_of_ble_eq_true rfl)) dX11_coins_52 ⟨Nat.le_of_ble_eq_true rfl, Nat.le_of_ble_eq_true rfl⟩) hS (fun q _ h => hFc q h) hFc (fun rr u t H_15 locs ht hvm hw hB hz1 hk1 hS2 => ?_)
    rw [hw]
    clear hw
    obtain ⟨hP1, -, hD1⟩ := hB
    rw [ht] at hP1
    replace hD := hD1.weaken (fun _ _ _ h => hFc _ h)
    replace hP := hP1
    replace hS := hS2
    clear hP1 hD1 hS2 hFc hfc hz1 hk1 hvm ht
    obtain ⟨h8, h9⟩ := ret_some hf
    rw [h8, h9]
    exact W.lret (v := r_13) hx hb hr (fun t ht hW => ⟨⟨r_13, (), rfl, rfl, by rw [ht]; exact hP, va_K.moved hW.alike hK, hD⟩, hS.F ht⟩) hS.2.2 dX11_coins_55
  rw [if_neg c_9] at hf
  by_cases c_16 : x0 = 3
  · skip
    rw [if_pos c_16] at hf
    refine lv_tableIn (tgt := 56) hx hb dX11_coins_1 (by rw [c_16]; decide) (by rw [c_16]; decide) (by rw [c_16]; rfl) (by decide) ?_
    refine lv_aload_n hx hb dX11_coins_56 rfl (lv_at hl 0 rfl) ?_
    obtain ⟨g_17, hf⟩ := grd_some hf
    obtain ⟨kg_17, sg_17⟩ := okO_at g_17
    obtain ⟨k_18, ek_18, hf⟩ := lnk_some hf
    refine va_get (D := (dC, dI)) (ci := 11) (v := .ref (a k_18)) (C := RX11) (T := TX11) (N := 13) hx hb hts iwd_X11_coins_X11 hown hK hP h0 (Wd_ob kg_17 sg_17 (by decide)) rfl 6 (by decide) (hts _ md_X11_coins_1) (fun _ h9 => h9) (fl_q rfl ek_18) dX11_coins_57 ?_
    obtain ⟨g_21, hf⟩ := grd_some hf
    obtain ⟨kg_21, sg_21⟩ := okO_at g_21
    obtain ⟨z_19, r_20, hfc, hf⟩ := cal_some hf
    have hFc := de_free hD hS hA
    refine va_calll (va_runV (As := []) (rest := []) ⟨hx, hb, hml, hown, hts⟩ (de_X7_storedCoins l dC dI cy a sh n H.size F z k_18 hfc) (cwV 0 hts gX11_coins_X7_storedCoins rfl rfl rfl (by decide +kernel) ⟨Nat.le_of_ble_eq_true rfl, Nat.le_of_ble_eq_true rfl⟩) ⟨fun a U g mk q => by obtain ⟨q0, q1, qP, qK, qD, qN⟩ := q; exact ⟨q0, q1, qP, va_K.moved (u := U) (U := U.calling g mk a) (Vm.Alike.refl U.vm) qK, qD, qN.same rfl⟩, va_recv hK hP (ci := 7) (q0 := k_18) rfl (Wd_ob kg_21 sg_21 (by decide)), fun U hU hW => ⟨rfl, by rw [hU], by rw [hU]; exact hP, va_K.moved hW.alike hK, hD.weaken (fun _ _ _ _ => trivial), hN.warm hW⟩⟩ rfl rfl hl.1 rfl (lv_room (Nat.le_of_ble_eq_true rfl)) dX11_coins_60 ⟨Nat.le_of_ble_eq_true rfl, Nat.le_of_ble_eq_true rfl⟩) hS (fun q _ h => hFc q h) hFc (fun rr u t H_22 locs ht hvm hw hB hz1 hk1 hS2 => ?_)
    rw [hw]
    clear hw
    obtain ⟨hP1, -, hD1⟩ := hB
    rw [ht] at hP1
    replace hD := hD1.weaken (fun _ _ _ h => hFc _ h)
    replace hP := hP1
    replace hS := hS2
    clear hP1 hD1 hS2 hFc hfc hz1 hk1 hvm ht
    obtain ⟨h8, h9⟩ := ret_some hf
    rw [h8, h9]
    exact W.lret (v := r_20) hx hb hr (fun t ht hW => ⟨⟨r_20, (), rfl, rfl, by rw [ht]; exact hP, va_K.moved hW.alike hK, hD⟩, hS.F ht⟩) hS.2.2 dX11_coins_63
  rw [if_neg c_16] at hf
  refine lv_tableOut (tgt := 64) hx hb dX11_coins_1 (tbd_0_3 c_1 c_5 c_9 c_16) (by decide) ?_
  refine lv_lconst (v := 0) hx hb dX11_coins_64 (by decide) ?_
  obtain ⟨h8, h9⟩ := ret_some hf
  rw [h8, h9]
  exact W.lret (v := 0) hx hb hr (fun t ht hW => ⟨⟨0, (), rfl, rfl, by rw [ht]; exact hP, va_K.moved hW.alike hK, hD⟩, hS.F ht⟩) hS.2.2 dX11_coins_65

theorem md_X11_places_1 : (.fieldLink RX11 22 "ResourceLedger" "state" "LResourceLedger$State;" : Cond) ∈ wsX11_places := List.mem_of_getElem? (i := 1) rfl
theorem iwd_X11_places_X11 : ∀ w ∈ wsX110, w ∈ wsX11_places := fun _ h => List.mem_cons_of_mem _ (List.mem_append_left _ (List.mem_append_right _ h))
theorem md_X11_places_2 : (.fieldLink RX11 209 "ResourceLedger$State" "moduleCount" "I" : Cond) ∈ wsX11_places := List.mem_of_getElem? (i := 2) rfl
theorem iwd_X11_places_X7 : ∀ w ∈ wsX70, w ∈ wsX11_places := fun _ h => List.mem_cons_of_mem _ (List.mem_append_right _ h)
theorem md_X11_places_3 : (.fieldLink RX11 268 "ResourceLedger$State" "resourceCount" "I" : Cond) ∈ wsX11_places := List.mem_of_getElem? (i := 3) rfl
theorem md_X11_places_4 : (.fieldLink RX11 271 "ResourceLedger$State" "accountCount" "I" : Cond) ∈ wsX11_places := List.mem_of_getElem? (i := 4) rfl
set_option maxHeartbeats 4000000 in
set_option maxRecDepth 100000 in
theorem de_X11_places (l : Launch) (dC : Nat → ClassId) (dI : Nat → Nat → Nat) (cy : Nat → ClassId) (a : Nat → Nat) (sh : Nat → Nat × Nat) (n sz : Nat) (F : Nat) (z : St) (h0 : Nat) (x0 : Int32) {z8 : St} {r8 : Int32} (hf : fn_X11_places F sh n z h0 x0 = some (z8, r8)) : Met l yX11_places wsX11_places ({ frames := 1, cells := 0, slots := 0, locals := 20 }) (va_Pc [.ref (a h0), .int x0] (fun U => U.heap.size = sz ∧ va_P (dC, dI) vwCl (Wd cy a sh n z) U.heap ∧ va_K (dC, dI) vwCl (TYS cy) U ∧ va_D (fun _ => True) (Wd cy a sh n z) ∧ NK U)) (va_Qi (fun (r9 : Int32) (u : Unit) => r9 = r8) (fun u t => va_P (dC, dI) vwCl (Wd cy a sh n z8) t.heap ∧ va_K (dC, dI) vwCl (TYS cy) t ∧ va_D (va_A (Wd cy a sh n z) sz) (Wd cy a sh n z8)) (va_A (Wd cy a sh n z) sz)) 0 0 (va_A (Wd cy a sh n z) sz) := by
  refine Met.ofW (cc := cX11_places) (maxL := 2) (ret := (some .int)) (by decide) rfl ?_
  intro p e s m args below meth c s₁ B hml hv
  obtain ⟨rfl, hsz, hP, hK, hD0, hN⟩ := hv
  have hx := B.exec
  have hb := B.bytes
  have hr := B.returns
  have hts := atoms_spec (ws := wsX11_places) B.pre
  have hown : s.vm.findClass RX11 = some m.cls := findClass_of_methodNamed B.named
  have hlocks := B.notSynchronized
  subst hsz
  have hD := hD0.self (sz := s.heap.size)
  clear hD0
  generalize hAe : va_A (Wd cy a sh n z) s.heap.size = A at hD ⊢
  have hA : ∀ q : Nat, s.heap.size ≤ q → A q := fun q h => by rw [← hAe]; exact Or.inr h
  clear hAe
  have hS : va_S A s.heap s.heap [] := va_S.rf
  have hl := lv_entry ([.ref (a h0), .int x0]) (n := 2) (Nat.le_of_ble_eq_true rfl)
  rw [lg_entry_eq]
  generalize (lg_sl ([.ref (a h0), .int x0]) ++ List.replicate (2 - (lg_sl ([.ref (a h0), .int x0])).length) Slot.unset).toArray = ls at hl ⊢
  replace hl : lv_has ls 2 [(0, .ref (a h0)), (1, .int x0)] := hl
  unfold fn_X11_places at hf
  refine de_start hS hP (fun H locs hS hP => ?_)
  refine lv_iload_n hx hb dX11_places_0 rfl (lv_at hl 1 rfl) ?_
  by_cases c_1 : x0 = 0
  · skip
    rw [if_pos c_1] at hf
    refine lv_tableIn (tgt := 32) hx hb dX11_places_1 (by rw [c_1]; decide) (by rw [c_1]; decide) (by rw [c_1]; rfl) (by decide) ?_
    refine lv_aload_n hx hb dX11_places_32 rfl (lv_at hl 0 rfl) ?_
    obtain ⟨g_2, hf⟩ := grd_some hf
    obtain ⟨kg_2, sg_2⟩ := okO_at g_2
    obtain ⟨k_3, ek_3, hf⟩ := lnk_some hf
    refine va_get (D := (dC, dI)) (ci := 11) (v := .ref (a k_3)) (C := RX11) (T := TX11) (N := 13) hx hb hts iwd_X11_places_X11 hown hK hP h0 (Wd_ob kg_2 sg_2 (by decide)) rfl 6 (by decide) (hts _ md_X11_places_1) (fun _ h9 => h9) (fl_q rfl ek_3) dX11_places_33 ?_
    obtain ⟨g_6, hf⟩ := grd_some hf
    obtain ⟨kg_6, sg_6⟩ := okO_at g_6
    obtain ⟨z_4, r_5, hfc, hf⟩ := cal_some hf
    have hFc := de_free hD hS hA
    refine va_calli (va_runV (As := []) (rest := []) ⟨hx, hb, hml, hown, hts⟩ (de_X7_placeCount l dC dI cy a sh n H.size F z k_3 hfc) (cwV 0 hts gX11_places_X7_placeCount rfl rfl rfl (by decide +kernel) ⟨Nat.le_of_ble_eq_true rfl, Nat.le_of_ble_eq_true rfl⟩) ⟨fun a U g mk q => by obtain ⟨q0, q1, qP, qK, qD, qN⟩ := q; exact ⟨q0, q1, qP, va_K.moved (u := U) (U := U.calling g mk a) (Vm.Alike.refl U.vm) qK, qD, qN.same rfl⟩, va_recv hK hP (ci := 7) (q0 := k_3) rfl (Wd_ob kg_6 sg_6 (by decide)), fun U hU hW => ⟨rfl, by rw [hU], by rw [hU]; exact hP, va_K.moved hW.alike hK, hD.weaken (fun _ _ _ _ => trivial), hN.warm hW⟩⟩ rfl rfl hl.1 rfl (lv_room (Nat.le_of_ble_eq_true rfl)) dX11_places_36 ⟨Nat.le_of_ble_eq_true rfl, Nat.le_of_ble_eq_true rfl⟩) hS (fun q _ h => hFc q h) hFc (fun rr u t H_7 locs ht hvm hw hB hz1 hk1 hS2 => ?_)
    rw [hw]
    clear hw
    obtain ⟨hP1, -, hD1⟩ := hB
    rw [ht] at hP1
    replace hD := hD1.weaken (fun _ _ _ h => hFc _ h)
    replace hP := hP1
    replace hS := hS2
    clear hP1 hD1 hS2 hFc hfc hz1 hk1 hvm ht
    obtain ⟨h8, h9⟩ := ret_some hf
    rw [h8, h9]
    exact W.iret (v := r_5) hx hb hr (fun t ht hW => ⟨⟨r_5, (), rfl, rfl, by rw [ht]; exact hP, va_K.moved hW.alike hK, hD⟩, hS.F ht⟩) hS.2.2 dX11_places_39
  rw [if_neg c_1] at hf
  by_cases c_8 : x0 = 1
  · skip
    rw [if_pos c_8] at hf
    refine lv_tableIn (tgt := 40) hx hb dX11_places_1 (by rw [c_8]; decide) (by rw [c_8]; decide) (by rw [c_8]; rfl) (by decide) ?_
    refine lv_aload_n hx hb dX11_places_40 rfl (lv_at hl 0 rfl) ?_
    obtain ⟨g_9, hf⟩ := grd_some hf
    obtain ⟨kg_9, sg_9⟩ := okO_at g_9
    obtain ⟨k_10, ek_10, hf⟩ := lnk_some hf
    refine va_get (D := (dC, dI)) (ci := 11) (v := .ref (a k_10)) (C := RX11) (T := TX11) (N := 13) hx hb hts iwd_X11_places_X11 hown hK hP h0 (Wd_ob kg_9 sg_9 (by decide)) rfl 6 (by decide) (hts _ md_X11_places_1) (fun _ h9 => h9) (fl_q rfl ek_10) dX11_places_41 ?_
    obtain ⟨g_11, hf⟩ := grd_some hf
    obtain ⟨kg_11, sg_11⟩ := okO_at g_11
    refine va_get (D := (dC, dI)) (ci := 7) (v := .int (z.1 k_10 5)) (C := RX7) (T := TX7) (N := 16) hx hb hts iwd_X11_places_X7 hown hK hP k_10 (Wd_ob kg_11 sg_11 (by decide)) rfl 5 (by decide) (hts _ md_X11_places_2) (fun _ h9 => h9) (fl_at (t := 0) rfl) dX11_places_44 ?_
    obtain ⟨h8, h9⟩ := ret_some hf
    rw [h8, h9]
    exact W.iret (v := (z.1 k_10 5)) hx hb hr (fun t ht hW => ⟨⟨(z.1 k_10 5), (), rfl, rfl, by rw [ht]; exact hP, va_K.moved hW.alike hK, hD⟩, hS.F ht⟩) hS.2.2 dX11_places_47
  rw [if_neg c_8] at hf
  by_cases c_12 : x0 = 2
  · skip
    rw [if_pos c_12] at hf
    refine lv_tableIn (tgt := 48) hx hb dX11_places_1 (by rw [c_12]; decide) (by rw [c_12]; decide) (by rw [c_12]; rfl) (by decide) ?_
    refine lv_aload_n hx hb dX11_places_48 rfl (lv_at hl 0 rfl) ?_
    obtain ⟨g_13, hf⟩ := grd_some hf
    obtain ⟨kg_13, sg_13⟩ := okO_at g_13
    obtain ⟨k_14, ek_14, hf⟩ := lnk_some hf
    refine va_get (D := (dC, dI)) (ci := 11) (v := .ref (a k_14)) (C := RX11) (T := TX11) (N := 13) hx hb hts iwd_X11_places_X11 hown hK hP h0 (Wd_ob kg_13 sg_13 (by decide)) rfl 6 (by decide) (hts _ md_X11_places_1) (fun _ h9 => h9) (fl_q rfl ek_14) dX11_places_49 ?_
    obtain ⟨g_15, hf⟩ := grd_some hf
    obtain ⟨kg_15, sg_15⟩ := okO_at g_15
    refine va_get (D := (dC, dI)) (ci := 7) (v := .int (z.1 k_14 10)) (C := RX7) (T := TX7) (N := 16) hx hb hts iwd_X11_places_X7 hown hK hP k_14 (Wd_ob kg_15 sg_15 (by decide)) rfl 10 (by decide) (hts _ md_X11_places_3) (fun _ h9 => h9) (fl_at (t := 0) rfl) dX11_places_52 ?_
    obtain ⟨h8, h9⟩ := ret_some hf
    rw [h8, h9]
    exact W.iret (v := (z.1 k_14 10)) hx hb hr (fun t ht hW => ⟨⟨(z.1 k_14 10), (), rfl, rfl, by rw [ht]; exact hP, va_K.moved hW.alike hK, hD⟩, hS.F ht⟩) hS.2.2 dX11_places_55
  rw [if_neg c_12] at hf
  by_cases c_16 : x0 = 3
  · skip
    rw [if_pos c_16] at hf
    refine lv_tableIn (tgt := 56) hx hb dX11_places_1 (by rw [c_16]; decide) (by rw [c_16]; decide) (by rw [c_16]; rfl) (by decide) ?_
    refine lv_aload_n hx hb dX11_places_56 rfl (lv_at hl 0 rfl) ?_
    obtain ⟨g_17, hf⟩ := grd_some hf
    obtain ⟨kg_17, sg_17⟩ := okO_at g_17
    obtain ⟨k_18, ek_18, hf⟩ := lnk_some hf
    refine va_get (D := (dC, dI)) (ci := 11) (v := .ref (a k_18)) (C := RX11) (T := TX11) (N := 13) hx hb hts iwd_X11_places_X11 hown hK hP h0 (Wd_ob kg_17 sg_17 (by decide)) rfl 6 (by decide) (hts _ md_X11_places_1) (fun _ h9 => h9) (fl_q rfl ek_18) dX11_places_57 ?_
    obtain ⟨g_19, hf⟩ := grd_some hf
    obtain ⟨kg_19, sg_19⟩ := okO_at g_19
    refine va_get (D := (dC, dI)) (ci := 7) (v := .int (z.1 k_18 3)) (C := RX7) (T := TX7) (N := 16) hx hb hts iwd_X11_places_X7 hown hK hP k_18 (Wd_ob kg_19 sg_19 (by decide)) rfl 3 (by decide) (hts _ md_X11_places_4) (fun _ h9 => h9) (fl_at (t := 0) rfl) dX11_places_60 ?_
    obtain ⟨h8, h9⟩ := ret_some hf
    rw [h8, h9]
    exact W.iret (v := (z.1 k_18 3)) hx hb hr (fun t ht hW => ⟨⟨(z.1 k_18 3), (), rfl, rfl, by rw [ht]; exact hP, va_K.moved hW.alike hK, hD⟩, hS.F ht⟩) hS.2.2 dX11_places_63
  rw [if_neg c_16] at hf
  refine lv_tableOut (tgt := 64) hx hb dX11_places_1 (tbd_0_3 c_1 c_8 c_12 c_16) (by decide) ?_
  refine lv_iconst (v := (-1)) hx hb dX11_places_64 (by decide) ?_
  obtain ⟨h8, h9⟩ := ret_some hf
  rw [h8, h9]
  exact W.iret (v := (-1)) hx hb hr (fun t ht hW => ⟨⟨(-1), (), rfl, rfl, by rw [ht]; exact hP, va_K.moved hW.alike hK, hD⟩, hS.F ht⟩) hS.2.2 dX11_places_65

theorem md_X5_instructionPlace_1 : (.fieldLink RX5 42 "ResourceLedger$Program" "startCount" "I" : Cond) ∈ wsX5_instructionPlace := List.mem_of_getElem? (i := 1) rfl
theorem iwd_X5_instructionPlace_X5 : ∀ w ∈ wsX50, w ∈ wsX5_instructionPlace := fun _ h => List.mem_cons_of_mem _ (List.mem_append_right _ h)
theorem md_X5_instructionPlace_2 : (.fieldLink RX5 15 "ResourceLedger$Program" "starts" "[I" : Cond) ∈ wsX5_instructionPlace := List.mem_of_getElem? (i := 2) rfl
set_option maxHeartbeats 4000000 in
set_option maxRecDepth 100000 in
theorem de_X5_instructionPlace (l : Launch) (dC : Nat → ClassId) (dI : Nat → Nat → Nat) (cy : Nat → ClassId) (a : Nat → Nat) (sh : Nat → Nat × Nat) (n sz : Nat) (F : Nat) (z : St) (h0 : Nat) (x0 : Int32) (x1 : Int32) {z8 : St} {r8 : Int32} (hf : fn_X5_instructionPlace F sh n z h0 x0 x1 = some (z8, r8)) : Met l yX5_instructionPlace wsX5_instructionPlace ({ frames := 1, cells := 0, slots := 0, locals := 23 }) (va_Pc [.ref (a h0), .int x0, .int x1] (fun U => U.heap.size = sz ∧ va_P (dC, dI) vwCl (Wd cy a sh n z) U.heap ∧ va_K (dC, dI) vwCl (TYS cy) U ∧ va_D (fun _ => True) (Wd cy a sh n z) ∧ NK U)) (va_Qi (fun (r9 : Int32) (u : Unit) => r9 = r8) (fun u t => va_P (dC, dI) vwCl (Wd cy a sh n z8) t.heap ∧ va_K (dC, dI) vwCl (TYS cy) t ∧ va_D (va_A (Wd cy a sh n z) sz) (Wd cy a sh n z8)) (va_A (Wd cy a sh n z) sz)) 0 0 (va_A (Wd cy a sh n z) sz) := by
  refine Met.ofW (cc := cX5_instructionPlace) (maxL := 4) (ret := (some .int)) (by decide) rfl ?_
  intro p e s m args below meth c s₁ B hml hv
  obtain ⟨rfl, hsz, hP, hK, hD0, hN⟩ := hv
  have hx := B.exec
  have hb := B.bytes
  have hr := B.returns
  have hts := atoms_spec (ws := wsX5_instructionPlace) B.pre
  have hown : s.vm.findClass RX5 = some m.cls := findClass_of_methodNamed B.named
  have hlocks := B.notSynchronized
  subst hsz
  have hD := hD0.self (sz := s.heap.size)
  clear hD0
  generalize hAe : va_A (Wd cy a sh n z) s.heap.size = A at hD ⊢
  have hA : ∀ q : Nat, s.heap.size ≤ q → A q := fun q h => by rw [← hAe]; exact Or.inr h
  clear hAe
  have hS : va_S A s.heap s.heap [] := va_S.rf
  have hl := lv_entry ([.ref (a h0), .int x0, .int x1]) (n := 4) (Nat.le_of_ble_eq_true rfl)
  rw [lg_entry_eq]
  generalize (lg_sl ([.ref (a h0), .int x0, .int x1]) ++ List.replicate (4 - (lg_sl ([.ref (a h0), .int x0, .int x1])).length) Slot.unset).toArray = ls at hl ⊢
  replace hl : lv_has ls 4 [(0, .ref (a h0)), (1, .int x0), (2, .int x1)] := hl
  unfold fn_X5_instructionPlace at hf
  refine de_start hS hP (fun H locs hS hP => ?_)
  refine lv_aload_n hx hb dX5_instructionPlace_0 rfl (lv_at hl 0 rfl) ?_
  refine lv_iload_n hx hb dX5_instructionPlace_1 rfl (lv_at hl 1 rfl) ?_
  refine lv_iconst (v := 5) hx hb dX5_instructionPlace_2 (by decide) ?_
  obtain ⟨g_3, hf⟩ := grd_some hf
  obtain ⟨kg_3, sg_3⟩ := okO_at g_3
  obtain ⟨z_1, r_2, hfc, hf⟩ := cal_some hf
  have hFc := de_free hD hS hA
  refine va_calli (va_runV (As := [.int x0, .int 5]) (rest := []) ⟨hx, hb, hml, hown, hts⟩ (de_X5_functionColumn l dC dI cy a sh n H.size F z h0 x0 5 hfc) (cwV 2 hts gX5_instructionPlace_X5_functionColumn rfl rfl rfl (by decide +kernel) ⟨Nat.le_of_ble_eq_true rfl, Nat.le_of_ble_eq_true rfl⟩) ⟨fun a U g mk q => by obtain ⟨q0, q1, qP, qK, qD, qN⟩ := q; exact ⟨q0, q1, qP, va_K.moved (u := U) (U := U.calling g mk a) (Vm.Alike.refl U.vm) qK, qD, qN.same rfl⟩, va_recv hK hP (ci := 5) (q0 := h0) rfl (Wd_ob kg_3 sg_3 (by decide)), fun U hU hW => ⟨rfl, by rw [hU], by rw [hU]; exact hP, va_K.moved hW.alike hK, hD.weaken (fun _ _ _ _ => trivial), hN.warm hW⟩⟩ rfl rfl hl.1 rfl (lv_room (Nat.le_of_ble_eq_true rfl)) dX5_instructionPlace_3 ⟨Nat.le_of_ble_eq_true rfl, Nat.le_of_ble_eq_true rfl⟩) hS (fun q _ h => hFc q h) hFc (fun rr u t H_4 locs ht hvm hw hB hz1 hk1 hS2 => ?_)
  rw [hw]
  clear hw
  obtain ⟨hP1, -, hD1⟩ := hB
  rw [ht] at hP1
  replace hD := hD1.weaken (fun _ _ _ h => hFc _ h)
  replace hP := hP1
  replace hS := hS2
  clear hP1 hD1 hS2 hFc hfc hz1 hk1 hvm ht
  refine lv_iload_n hx hb dX5_instructionPlace_6 rfl (lv_at hl 2 rfl) ?_
  refine lv_iadd hx hb dX5_instructionPlace_7 ?_
  refine lv_topi (fun v_5 ev_5 => ?_)
  replace hf := lt_at ev_5 hf
  clear ev_5
  refine lv_istore_n (lv' := [(3, .int v_5), (0, .ref (a h0)), (1, .int x0), (2, .int x1)]) hx hb dX5_instructionPlace_8 rfl hl (by decide) rfl (fun ls hl2 => ?_)
  replace hl := hl2
  clear hl2
  refine lv_iload_n hx hb dX5_instructionPlace_9 rfl (lv_at hl 0 rfl) ?_
  refine lv_if_lt (tgt := 21) hx hb dX5_instructionPlace_10 (by decide) (fun c_6 => ?_) (fun c_6 => ?_)
  · skip
    rw [if_pos c_6] at hf
    refine lv_iconst (v := 0) hx hb dX5_instructionPlace_21 (by decide) ?_
    refine lv_goto (tgt := 31) hx hb dX5_instructionPlace_22 (by decide) ?_
    obtain ⟨h8, h9⟩ := ret_some hf
    rw [h8, h9]
    exact W.iret (v := 0) hx hb hr (fun t ht hW => ⟨⟨0, (), rfl, rfl, by rw [ht]; exact hP, va_K.moved hW.alike hK, hD⟩, hS.F ht⟩) hS.2.2 dX5_instructionPlace_31
  · skip
    rw [if_neg c_6] at hf
    refine lv_iload_n hx hb dX5_instructionPlace_13 rfl (lv_at hl 0 rfl) ?_
    refine lv_aload_n hx hb dX5_instructionPlace_14 rfl (lv_at hl 1 rfl) ?_
    refine va_get (D := (dC, dI)) (ci := 5) (v := .int (z_1.1 h0 6)) (C := RX5) (T := TX5) (N := 15) hx hb hts iwd_X5_instructionPlace_X5 hown hK hP h0 (Wd_ob kg_3 sg_3 (by decide)) rfl 6 (by decide) (hts _ md_X5_instructionPlace_1) (fun _ h9 => h9) (fl_at (t := 0) rfl) dX5_instructionPlace_15 ?_
    refine lv_icmp_lt (tgt := 25) hx hb dX5_instructionPlace_18 (by decide) (fun c_7 => ?_) (fun c_7 => ?_)
    · skip
      rw [if_pos c_7] at hf
      refine lv_aload_n hx hb dX5_instructionPlace_25 rfl (lv_at hl 1 rfl) ?_
      obtain ⟨k_8, ek_8, hf⟩ := lnk_some hf
      refine va_get (D := (dC, dI)) (ci := 5) (v := .ref (a k_8)) (C := RX5) (T := TX5) (N := 15) hx hb hts iwd_X5_instructionPlace_X5 hown hK hP h0 (Wd_ob kg_3 sg_3 (by decide)) rfl 5 (by decide) (hts _ md_X5_instructionPlace_2) (fun _ h9 => h9) (fl_q rfl ek_8) dX5_instructionPlace_26 ?_
      refine lv_iload_n hx hb dX5_instructionPlace_29 rfl (lv_at hl 0 rfl) ?_
      obtain ⟨g_9, hf⟩ := grd_some hf
      obtain ⟨kg_9, sg_9, ig_9⟩ := okA_at g_9
      refine va_iald hx hb hK hP k_8 1 (Wd_ai kg_9 sg_9) rfl ig_9 dX5_instructionPlace_30 ?_
      obtain ⟨h8, h9⟩ := ret_some hf
      rw [h8, h9]
      exact W.iret (v := (z_1.1 k_8 v_5.toNatClampNeg)) hx hb hr (fun t ht hW => ⟨⟨(z_1.1 k_8 v_5.toNatClampNeg), (), rfl, rfl, by rw [ht]; exact hP, va_K.moved hW.alike hK, hD⟩, hS.F ht⟩) hS.2.2 dX5_instructionPlace_31
    · skip
      rw [if_neg c_7] at hf
      refine lv_iconst (v := 0) hx hb dX5_instructionPlace_21 (by decide) ?_
      refine lv_goto (tgt := 31) hx hb dX5_instructionPlace_22 (by decide) ?_
      obtain ⟨h8, h9⟩ := ret_some hf
      rw [h8, h9]
      exact W.iret (v := 0) hx hb hr (fun t ht hW => ⟨⟨0, (), rfl, rfl, by rw [ht]; exact hP, va_K.moved hW.alike hK, hD⟩, hS.F ht⟩) hS.2.2 dX5_instructionPlace_31

theorem md_X7_removeResource_1 : (.fieldLink RX7 37 "ResourceLedger$State" "nodeCount" "[I" : Cond) ∈ wsX7_removeResource := List.mem_of_getElem? (i := 1) rfl
theorem iwd_X7_removeResource_X7 : ∀ w ∈ wsX70, w ∈ wsX7_removeResource := fun _ h => List.mem_cons_of_mem _ (List.mem_append_right _ h)
theorem md_X7_removeResource_2 : (.fieldLink RX7 58 "ResourceLedger$State" "resourceCount" "I" : Cond) ∈ wsX7_removeResource := List.mem_of_getElem? (i := 2) rfl
set_option maxHeartbeats 4000000 in
set_option maxRecDepth 100000 in
theorem de_X7_removeResource (l : Launch) (dC : Nat → ClassId) (dI : Nat → Nat → Nat) (cy : Nat → ClassId) (a : Nat → Nat) (sh : Nat → Nat × Nat) (n sz : Nat) (F : Nat) (z : St) (h0 : Nat) (x0 : Int64) (x1 : Int32) (x2 : Int32) {z8 : St} {r8 : Unit} (hf : fn_X7_removeResource F sh n z h0 x0 x1 x2 = some (z8, r8)) : Met l yX7_removeResource wsX7_removeResource ({ frames := 1, cells := 0, slots := 0, locals := 25 }) (va_Pc [.ref (a h0), .long x0, .int x1, .int x2] (fun U => U.heap.size = sz ∧ va_P (dC, dI) vwCl (Wd cy a sh n z) U.heap ∧ va_K (dC, dI) vwCl (TYS cy) U ∧ va_D (fun _ => True) (Wd cy a sh n z) ∧ NK U)) (va_Qv (fun u : Unit => True) (fun u t => va_P (dC, dI) vwCl (Wd cy a sh n z8) t.heap ∧ va_K (dC, dI) vwCl (TYS cy) t ∧ va_D (va_A (Wd cy a sh n z) sz) (Wd cy a sh n z8)) (va_A (Wd cy a sh n z) sz)) 0 0 (va_A (Wd cy a sh n z) sz) := by
  refine Met.ofW (cc := cX7_removeResource) (maxL := 6) (ret := none) (by decide) rfl ?_
  intro p e s m args below meth c s₁ B hml hv
  obtain ⟨rfl, hsz, hP, hK, hD0, hN⟩ := hv
  have hx := B.exec
  have hb := B.bytes
  have hr := B.returns
  have hts := atoms_spec (ws := wsX7_removeResource) B.pre
  have hown : s.vm.findClass RX7 = some m.cls := findClass_of_methodNamed B.named
  have hlocks := B.notSynchronized
  subst hsz
  have hD := hD0.self (sz := s.heap.size)
  clear hD0
  generalize hAe : va_A (Wd cy a sh n z) s.heap.size = A at hD ⊢
  have hA : ∀ q : Nat, s.heap.size ≤ q → A q := fun q h => by rw [← hAe]; exact Or.inr h
  clear hAe
  have hS : va_S A s.heap s.heap [] := va_S.rf
  have hl := lv_entry ([.ref (a h0), .long x0, .int x1, .int x2]) (n := 6) (Nat.le_of_ble_eq_true rfl)
  rw [lg_entry_eq]
  generalize (lg_sl ([.ref (a h0), .long x0, .int x1, .int x2]) ++ List.replicate (6 - (lg_sl ([.ref (a h0), .long x0, .int x1, .int x2])).length) Slot.unset).toArray = ls at hl ⊢
  replace hl : lv_has ls 6 [(0, .ref (a h0)), (1, .long x0), (3, .int x1), (4, .int x2)] := hl
  unfold fn_X7_removeResource at hf
  refine de_start hS hP (fun H locs hS hP => ?_)
  refine lv_aload_n hx hb dX7_removeResource_0 rfl (lv_at hl 0 rfl) ?_
  refine lv_lload_n hx hb dX7_removeResource_1 rfl (lv_at hl 1 rfl) ?_
  refine lv_iload_n hx hb dX7_removeResource_2 rfl (lv_at hl 2 rfl) ?_
  refine lv_iload hx hb dX7_removeResource_3 (lv_at hl 3 rfl) ?_
  obtain ⟨g_3, hf⟩ := grd_some hf
  obtain ⟨kg_3, sg_3⟩ := okO_at g_3
  obtain ⟨z_1, r_2, hfc, hf⟩ := cal_some hf
  have hFc := de_free hD hS hA
  refine va_calli (va_runV (As := [.long x0, .int x1, .int x2]) (rest := []) ⟨hx, hb, hml, hown, hts⟩ (de_X7_findResource l dC dI cy a sh n H.size F z h0 x0 x1 x2 hfc) (cwV 3 hts gX7_removeResource_X7_findResource rfl rfl rfl (by decide +kernel) ⟨Nat.le_of_ble_eq_true rfl, Nat.le_of_ble_eq_true rfl⟩) ⟨fun a U g mk q => by obtain ⟨q0, q1, qP, qK, qD, qN⟩ := q; exact ⟨q0, q1, qP, va_K.moved (u := U) (U := U.calling g mk a) (Vm.Alike.refl U.vm) qK, qD, qN.same rfl⟩, va_recv hK hP (ci := 7) (q0 := h0) rfl (Wd_ob kg_3 sg_3 (by decide)), fun U hU hW => ⟨rfl, by rw [hU], by rw [hU]; exact hP, va_K.moved hW.alike hK, hD.weaken (fun _ _ _ _ => trivial), hN.warm hW⟩⟩ rfl rfl hl.1 rfl (lv_room (Nat.le_of_ble_eq_true rfl)) dX7_removeResource_5 ⟨Nat.le_of_ble_eq_true rfl, Nat.le_of_ble_eq_true rfl⟩) hS (fun q _ h => hFc q h) hFc (fun rr u t H_4 locs ht hvm hw hB hz1 hk1 hS2 => ?_)
  rw [hw]
  clear hw
  obtain ⟨hP1, -, hD1⟩ := hB
  rw [ht] at hP1
  replace hD := hD1.weaken (fun _ _ _ h => hFc _ h)
  replace hP := hP1
  replace hS := hS2
  clear hP1 hD1 hS2 hFc hfc hz1 hk1 hvm ht
  refine lv_istore (lv' := [(5, .int r_2), (0, .ref (a h0)), (1, .long x0), (3, .int x1), (4, .int x2)]) hx hb dX7_removeResource_8 hl (by decide) rfl (fun ls hl2 => ?_)
  replace hl := hl2
  clear hl2
  refine lv_iload hx hb dX7_removeResource_10 (lv_at hl 0 rfl) ?_
  refine lv_if_lt (tgt := 33) hx hb dX7_removeResource_12 (by decide) (fun c_5 => ?_) (fun c_5 => ?_)
  · skip
    rw [if_pos c_5] at hf
    obtain ⟨h8, h9⟩ := ret_some hf
    rw [h8]
    exact W.vret hx hb hr (fun t ht hW => ⟨⟨(), rfl, trivial, by rw [ht]; exact hP, va_K.moved hW.alike hK, hD⟩, hS.F ht⟩) hS.2.2 dX7_removeResource_33
  · skip
    rw [if_neg c_5] at hf
    refine lv_aload_n hx hb dX7_removeResource_15 rfl (lv_at hl 1 rfl) ?_
    obtain ⟨k_6, ek_6, hf⟩ := lnk_some hf
    refine va_get (D := (dC, dI)) (ci := 7) (v := .ref (a k_6)) (C := RX7) (T := TX7) (N := 16) hx hb hts iwd_X7_removeResource_X7 hown hK hP h0 (Wd_ob kg_3 sg_3 (by decide)) rfl 9 (by decide) (hts _ md_X7_removeResource_1) (fun _ h9 => h9) (fl_q rfl ek_6) dX7_removeResource_16 ?_
    refine lv_iload hx hb dX7_removeResource_19 (lv_at hl 0 rfl) ?_
    refine lv_iconst (v := 0) hx hb dX7_removeResource_21 (by decide) ?_
    obtain ⟨g_7, hf⟩ := grd_some hf
    obtain ⟨kg_7, sg_7, ig_7⟩ := okA_at g_7
    refine va_iast hx hb hK hP hD hS k_6 1 (Wd_ai kg_7 sg_7) rfl ig_7 dX7_removeResource_22 (fun H_8 locs hP2 hD2 hS2 => ?_)
    rw [Wd_ti sg_7] at hP2 hD2
    obtain ⟨z_9, ez_9⟩ : ∃ w, w = si z_1 k_6 r_2.toNatClampNeg 0 := ⟨_, rfl⟩
    rw [← ez_9] at hP2 hD2
    replace hf := lt_at ez_9 hf
    clear ez_9
    replace hP := hP2
    replace hD := hD2
    replace hS := hS2
    clear hP2 hD2 hS2
    refine lv_aload_n hx hb dX7_removeResource_23 rfl (lv_at hl 1 rfl) ?_
    refine lv_dup hx hb dX7_removeResource_24 rfl ?_
    refine va_get (D := (dC, dI)) (ci := 7) (v := .int (z_9.1 h0 10)) (C := RX7) (T := TX7) (N := 16) hx hb hts iwd_X7_removeResource_X7 hown hK hP h0 (Wd_ob kg_3 sg_3 (by decide)) rfl 10 (by decide) (hts _ md_X7_removeResource_2) (fun _ h9 => h9) (fl_at (t := 0) rfl) dX7_removeResource_25 ?_
    refine lv_iconst (v := 1) hx hb dX7_removeResource_28 (by decide) ?_
    refine lv_isub hx hb dX7_removeResource_29 ?_
    refine va_put (D := (dC, dI)) (ci := 7) (v := .int ((z_9.1 h0 10) - 1)) (ty := .int) (C := RX7) (T := TX7) (N := 16) hx hb hts iwd_X7_removeResource_X7 tyX7 tyX7_ok nmX7 hown hK hP hD hS h0 (Wd_ob kg_3 sg_3 (by decide)) rfl 10 (by decide) (hts _ md_X7_removeResource_2) (fun _ h9 => h9) rfl (by decide +kernel) rfl rfl (by rw [fl_len]; decide) dX7_removeResource_30 (fun H_10 locs hP2 hD2 hS2 => ?_)
    rw [Wd_si sg_3 (by decide) rfl] at hP2 hD2
    obtain ⟨z_11, ez_11⟩ : ∃ w, w = si z_9 h0 10 ((z_9.1 h0 10) - 1) := ⟨_, rfl⟩
    rw [← ez_11] at hP2 hD2
    replace hf := lt_at ez_11 hf
    clear ez_11
    replace hP := hP2
    replace hD := hD2
    replace hS := hS2
    clear hP2 hD2 hS2
    obtain ⟨h8, h9⟩ := ret_some hf
    rw [h8]
    exact W.vret hx hb hr (fun t ht hW => ⟨⟨(), rfl, trivial, by rw [ht]; exact hP, va_K.moved hW.alike hK, hD⟩, hS.F ht⟩) hS.2.2 dX7_removeResource_33

theorem md_X16_number__1 : (.constantLong RX16 161 (256) : Cond) ∈ wsX16_number_ := List.mem_of_getElem? (i := 1) rfl
set_option maxHeartbeats 4000000 in
set_option maxRecDepth 100000 in
theorem de_X16_number_ (l : Launch) (dC : Nat → ClassId) (dI : Nat → Nat → Nat) (cy : Nat → ClassId) (a : Nat → Nat) (sh : Nat → Nat × Nat) (n sz : Nat) (F : Nat) (z : St) (h0 : Nat) (x0 : Int32) (x1 : Int32) {z8 : St} {r8 : Int64} (hf : fn_X16_number_ F sh n z h0 x0 x1 = some (z8, r8)) : Met l yX16_number_ wsX16_number_ ({ frames := 1, cells := 0, slots := 0, locals := 21 }) (va_Pc [.ref (a h0), .int x0, .int x1] (fun U => U.heap.size = sz ∧ va_P (dC, dI) vwCl (Wd cy a sh n z) U.heap ∧ va_K (dC, dI) vwCl (TYS cy) U ∧ va_D (fun _ => True) (Wd cy a sh n z) ∧ NK U)) (va_Ql (fun (r9 : Int64) (u : Unit) => r9 = r8) (fun u t => va_P (dC, dI) vwCl (Wd cy a sh n z8) t.heap ∧ va_K (dC, dI) vwCl (TYS cy) t ∧ va_D (va_A (Wd cy a sh n z) sz) (Wd cy a sh n z8)) (va_A (Wd cy a sh n z) sz)) 0 0 (va_A (Wd cy a sh n z) sz) := by
  refine Met.ofW (cc := cX16_number_) (maxL := 6) (ret := (some .long)) (by decide) rfl ?_
  intro p e s m args below meth c s₁ B hml hv
  obtain ⟨rfl, hsz, hP, hK, hD0, hN⟩ := hv
  have hx := B.exec
  have hb := B.bytes
  have hr := B.returns
  have hts := atoms_spec (ws := wsX16_number_) B.pre
  have hown : s.vm.findClass RX16 = some m.cls := findClass_of_methodNamed B.named
  have hlocks := B.notSynchronized
  subst hsz
  have hD := hD0.self (sz := s.heap.size)
  clear hD0
  generalize hAe : va_A (Wd cy a sh n z) s.heap.size = A at hD ⊢
  have hA : ∀ q : Nat, s.heap.size ≤ q → A q := fun q h => by rw [← hAe]; exact Or.inr h
  clear hAe
  have hS : va_S A s.heap s.heap [] := va_S.rf
  have hl := lv_entry ([.ref (a h0), .int x0, .int x1]) (n := 6) (Nat.le_of_ble_eq_true rfl)
  rw [lg_entry_eq]
  generalize (lg_sl ([.ref (a h0), .int x0, .int x1]) ++ List.replicate (6 - (lg_sl ([.ref (a h0), .int x0, .int x1])).length) Slot.unset).toArray = ls at hl ⊢
  replace hl : lv_has ls 6 [(0, .ref (a h0)), (1, .int x0), (2, .int x1)] := hl
  unfold fn_X16_number_ at hf
  refine de_start hS hP (fun H locs hS hP => ?_)
  refine lv_lconst (v := 0) hx hb dX16_number__0 (by decide) ?_
  refine lv_lstore_n (lv' := [(3, .long 0), (0, .ref (a h0)), (1, .int x0), (2, .int x1)]) hx hb dX16_number__1 rfl hl (by decide) rfl (fun ls hl2 => ?_)
  replace hl := hl2
  clear hl2
  refine lv_iload_n hx hb dX16_number__2 rfl (lv_at hl 2 rfl) ?_
  refine lv_istore (lv' := [(5, .int x0), (3, .long 0), (0, .ref (a h0)), (1, .int x0), (2, .int x1)]) hx hb dX16_number__3 hl (by decide) rfl (fun ls hl2 => ?_)
  replace hl := hl2
  clear hl2
  have hl0 : lv_has ls 6 [(5, .int x0), (3, .long 0), (0, .ref (a h0)), (1, .int x0), (2, .int x1)] := lv_sub hl [0, 1, 2, 3, 4] rfl
  refine de_loop (h := 5) (fun (x : St × Int64 × Int32) ls H locs => lv_has ls 6 [(5, .int x.2.2), (3, .long x.2.1), (0, .ref (a h0)), (1, .int x0), (2, .int x1)] ∧ va_P (dC, dI) vwCl (Wd cy a sh n x.1) H ∧ va_D A (Wd cy a sh n x.1) ∧ va_S A s.heap H locs) (fun f x => fn_X16_number__L5 F sh n x0 x1 h0 f x.1 x.2.1 x.2.2) (z8, r8) ?_ (fun _ => rfl) F (z, 0, x0) ls H locs ⟨hl0, hP, hD, hS⟩ hf
  intro f_4 x ls H locs ih5 hI hf
  obtain ⟨z_3, p_1, p_2⟩ := x
  obtain ⟨hl2, hP2, hD2, hS2⟩ := hI
  replace hl : lv_has ls 6 [(5, .int p_2), (3, .long p_1), (0, .ref (a h0)), (1, .int x0), (2, .int x1)] := hl2
  replace hP := hP2
  replace hD := hD2
  replace hS := hS2
  clear hl2 hP2 hD2 hS2 hl0
  replace hf := fn_X16_number__L5_s hf
  refine lv_iload hx hb dX16_number__5 (lv_at hl 0 rfl) ?_
  refine lv_iload_n hx hb dX16_number__7 rfl (lv_at hl 3 rfl) ?_
  refine lv_iload_n hx hb dX16_number__8 rfl (lv_at hl 4 rfl) ?_
  refine lv_iadd hx hb dX16_number__9 ?_
  refine lv_icmp_ge (tgt := 33) hx hb dX16_number__10 (by decide) (fun c_5 => ?_) (fun c_5 => ?_)
  · skip
    rw [if_pos c_5] at hf
    refine lv_lload_n hx hb dX16_number__33 rfl (lv_at hl 1 rfl) ?_
    obtain ⟨h8, h9⟩ := ret_some hf
    rw [h8, h9]
    exact W.lret (v := p_1) hx hb hr (fun t ht hW => ⟨⟨p_1, (), rfl, rfl, by rw [ht]; exact hP, va_K.moved hW.alike hK, hD⟩, hS.F ht⟩) hS.2.2 dX16_number__34
  · skip
    rw [if_neg c_5] at hf
    refine lv_ldc2 hx hb hown (hts _ md_X16_number__1) dX16_number__13 ?_
    refine lv_lload_n hx hb dX16_number__16 rfl (lv_at hl 1 rfl) ?_
    refine lv_lmul hx hb dX16_number__17 ?_
    refine lv_aload_n hx hb dX16_number__18 rfl (lv_at hl 2 rfl) ?_
    refine lv_iload hx hb dX16_number__19 (lv_at hl 0 rfl) ?_
    obtain ⟨g_8, hf⟩ := grd_some hf
    obtain ⟨kg_8, sg_8⟩ := okO_at g_8
    obtain ⟨z_6, r_7, hfc, hf⟩ := cal_some hf
    have hFc := de_free hD hS hA
    refine va_calli (va_runV (As := [.int p_2]) (rest := [.long (256 * p_1)]) ⟨hx, hb, hml, hown, hts⟩ (de_X16_byteAt l dC dI cy a sh n H.size F z_3 h0 p_2 hfc) (cwV 1 hts gX16_number__X16_byteAt rfl rfl rfl (by decide +kernel) ⟨Nat.le_of_ble_eq_true rfl, Nat.le_of_ble_eq_true rfl⟩) ⟨fun a U g mk q => by obtain ⟨q0, q1, qP, qK, qD, qN⟩ := q; exact ⟨q0, q1, qP, va_K.moved (u := U) (U := U.calling g mk a) (Vm.Alike.refl U.vm) qK, qD, qN.same rfl⟩, va_recv hK hP (ci := 16) (q0 := h0) rfl (Wd_ob kg_8 sg_8 (by decide)), fun U hU hW => ⟨rfl, by rw [hU], by rw [hU]; exact hP, va_K.moved hW.alike hK, hD.weaken (fun _ _ _ _ => trivial), hN.warm hW⟩⟩ rfl rfl hl.1 rfl (lv_room (Nat.le_of_ble_eq_true rfl)) dX16_number__21 ⟨Nat.le_of_ble_eq_true rfl, Nat.le_of_ble_eq_true rfl⟩) hS (fun q _ h => hFc q h) hFc (fun rr u t H_9 locs ht hvm hw hB hz1 hk1 hS2 => ?_)
    rw [hw]
    clear hw
    obtain ⟨hP1, -, hD1⟩ := hB
    rw [ht] at hP1
    replace hD := hD1.weaken (fun _ _ _ h => hFc _ h)
    replace hP := hP1
    replace hS := hS2
    clear hP1 hD1 hS2 hFc hfc hz1 hk1 hvm ht
    refine lv_i2l (v := (r_7 : Int32).toInt64) hx hb dX16_number__24 rfl ?_
    refine lv_ladd hx hb dX16_number__25 ?_
    refine lv_topl (fun v_10 ev_10 => ?_)
    replace hf := lt_at ev_10 hf
    clear ev_10
    refine lv_lstore_n (lv' := [(3, .long v_10), (5, .int p_2), (0, .ref (a h0)), (1, .int x0), (2, .int x1)]) hx hb dX16_number__26 rfl hl (by decide) rfl (fun ls hl2 => ?_)
    replace hl := hl2
    clear hl2
    refine lv_iinc (v := (p_2 + 1)) (lv' := [(5, .int (p_2 + 1)), (3, .long v_10), (0, .ref (a h0)), (1, .int x0), (2, .int x1)]) hx hb dX16_number__27 hl (k := 1) rfl rfl (by decide) rfl (fun ls hl2 => ?_)
    replace hl := hl2
    clear hl2
    refine lv_goto (tgt := 5) hx hb dX16_number__30 (by decide) ?_
    exact ih5 (z_6, v_10, (p_2 + 1)) ls H_9 locs ⟨lv_sub hl [0, 1, 2, 3, 4] rfl, hP, hD, hS⟩ hf

set_option maxHeartbeats 4000000 in
set_option maxRecDepth 100000 in
theorem de_X16_typeEnd (l : Launch) (dC : Nat → ClassId) (dI : Nat → Nat → Nat) (cy : Nat → ClassId) (a : Nat → Nat) (sh : Nat → Nat × Nat) (n sz : Nat) (F : Nat) (z : St) (h0 : Nat) (x0 : Int32) {z8 : St} {r8 : Int32} (hf : fn_X16_typeEnd F sh n z h0 x0 = some (z8, r8)) : Met l yX16_typeEnd wsX16_typeEnd ({ frames := 1, cells := 0, slots := 0, locals := 21 }) (va_Pc [.ref (a h0), .int x0] (fun U => U.heap.size = sz ∧ va_P (dC, dI) vwCl (Wd cy a sh n z) U.heap ∧ va_K (dC, dI) vwCl (TYS cy) U ∧ va_D (fun _ => True) (Wd cy a sh n z) ∧ NK U)) (va_Qi (fun (r9 : Int32) (u : Unit) => r9 = r8) (fun u t => va_P (dC, dI) vwCl (Wd cy a sh n z8) t.heap ∧ va_K (dC, dI) vwCl (TYS cy) t ∧ va_D (va_A (Wd cy a sh n z) sz) (Wd cy a sh n z8)) (va_A (Wd cy a sh n z) sz)) 0 0 (va_A (Wd cy a sh n z) sz) := by
  refine Met.ofW (cc := cX16_typeEnd) (maxL := 3) (ret := (some .int)) (by decide) rfl ?_
  intro p e s m args below meth c s₁ B hml hv
  obtain ⟨rfl, hsz, hP, hK, hD0, hN⟩ := hv
  have hx := B.exec
  have hb := B.bytes
  have hr := B.returns
  have hts := atoms_spec (ws := wsX16_typeEnd) B.pre
  have hown : s.vm.findClass RX16 = some m.cls := findClass_of_methodNamed B.named
  have hlocks := B.notSynchronized
  subst hsz
  have hD := hD0.self (sz := s.heap.size)
  clear hD0
  generalize hAe : va_A (Wd cy a sh n z) s.heap.size = A at hD ⊢
  have hA : ∀ q : Nat, s.heap.size ≤ q → A q := fun q h => by rw [← hAe]; exact Or.inr h
  clear hAe
  have hS : va_S A s.heap s.heap [] := va_S.rf
  have hl := lv_entry ([.ref (a h0), .int x0]) (n := 3) (Nat.le_of_ble_eq_true rfl)
  rw [lg_entry_eq]
  generalize (lg_sl ([.ref (a h0), .int x0]) ++ List.replicate (3 - (lg_sl ([.ref (a h0), .int x0])).length) Slot.unset).toArray = ls at hl ⊢
  replace hl : lv_has ls 3 [(0, .ref (a h0)), (1, .int x0)] := hl
  unfold fn_X16_typeEnd at hf
  refine de_start hS hP (fun H locs hS hP => ?_)
  refine lv_iload_n hx hb dX16_typeEnd_0 rfl (lv_at hl 1 rfl) ?_
  refine lv_istore_n (lv' := [(2, .int x0), (0, .ref (a h0)), (1, .int x0)]) hx hb dX16_typeEnd_1 rfl hl (by decide) rfl (fun ls hl2 => ?_)
  replace hl := hl2
  clear hl2
  have hl0 : lv_has ls 3 [(2, .int x0), (0, .ref (a h0))] := lv_sub hl [0, 1] rfl
  refine de_loop (h := 2) (fun (x : St × Int32) ls H locs => lv_has ls 3 [(2, .int x.2), (0, .ref (a h0))] ∧ va_P (dC, dI) vwCl (Wd cy a sh n x.1) H ∧ va_D A (Wd cy a sh n x.1) ∧ va_S A s.heap H locs) (fun f x => fn_X16_typeEnd_L2 F sh n h0 f x.1 x.2) (z8, r8) ?_ (fun _ => rfl) F (z, x0) ls H locs ⟨hl0, hP, hD, hS⟩ hf
  intro f_3 x ls H locs ih2 hI hf
  obtain ⟨z_2, p_1⟩ := x
  obtain ⟨hl2, hP2, hD2, hS2⟩ := hI
  replace hl : lv_has ls 3 [(2, .int p_1), (0, .ref (a h0))] := hl2
  replace hP := hP2
  replace hD := hD2
  replace hS := hS2
  clear hl2 hP2 hD2 hS2 hl0
  replace hf := fn_X16_typeEnd_L2_s hf
  refine lv_aload_n hx hb dX16_typeEnd_2 rfl (lv_at hl 1 rfl) ?_
  refine lv_iload_n hx hb dX16_typeEnd_3 rfl (lv_at hl 0 rfl) ?_
  obtain ⟨g_6, hf⟩ := grd_some hf
  obtain ⟨kg_6, sg_6⟩ := okO_at g_6
  obtain ⟨z_4, r_5, hfc, hf⟩ := cal_some hf
  have hFc := de_free hD hS hA
  refine va_calli (va_runV (As := [.int p_1]) (rest := []) ⟨hx, hb, hml, hown, hts⟩ (de_X16_byteAt l dC dI cy a sh n H.size F z_2 h0 p_1 hfc) (cwV 1 hts gX16_typeEnd_X16_byteAt rfl rfl rfl (by decide +kernel) ⟨Nat.le_of_ble_eq_true rfl, Nat.le_of_ble_eq_true rfl⟩) ⟨fun a U g mk q => by obtain ⟨q0, q1, qP, qK, qD, qN⟩ := q; exact ⟨q0, q1, qP, va_K.moved (u := U) (U := U.calling g mk a) (Vm.Alike.refl U.vm) qK, qD, qN.same rfl⟩, va_recv hK hP (ci := 16) (q0 := h0) rfl (Wd_ob kg_6 sg_6 (by decide)), fun U hU hW => ⟨rfl, by rw [hU], by rw [hU]; exact hP, va_K.moved hW.alike hK, hD.weaken (fun _ _ _ _ => trivial), hN.warm hW⟩⟩ rfl rfl hl.1 rfl (lv_room (Nat.le_of_ble_eq_true rfl)) dX16_typeEnd_4 ⟨Nat.le_of_ble_eq_true rfl, Nat.le_of_ble_eq_true rfl⟩) hS (fun q _ h => hFc q h) hFc (fun rr u t H_7 locs ht hvm hw hB hz1 hk1 hS2 => ?_)
  rw [hw]
  clear hw
  obtain ⟨hP1, -, hD1⟩ := hB
  rw [ht] at hP1
  replace hD := hD1.weaken (fun _ _ _ h => hFc _ h)
  replace hP := hP1
  replace hS := hS2
  clear hP1 hD1 hS2 hFc hfc hz1 hk1 hvm ht
  refine lv_bipush (v := 6) hx hb dX16_typeEnd_7 (by decide) ?_
  refine lv_icmp_le (tgt := 18) hx hb dX16_typeEnd_9 (by decide) (fun c_8 => ?_) (fun c_8 => ?_)
  · skip
    rw [if_pos c_8] at hf
    refine lv_aload_n hx hb dX16_typeEnd_18 rfl (lv_at hl 1 rfl) ?_
    refine lv_iload_n hx hb dX16_typeEnd_19 rfl (lv_at hl 0 rfl) ?_
    obtain ⟨z_9, r_10, hfc, hf⟩ := cal_some hf
    have hFc := de_free hD hS hA
    refine va_calli (va_runV (As := [.int p_1]) (rest := []) ⟨hx, hb, hml, hown, hts⟩ (de_X16_byteAt l dC dI cy a sh n H_7.size F z_4 h0 p_1 hfc) (cwV 1 hts gX16_typeEnd_X16_byteAt rfl rfl rfl (by decide +kernel) ⟨Nat.le_of_ble_eq_true rfl, Nat.le_of_ble_eq_true rfl⟩) ⟨fun a U g mk q => by obtain ⟨q0, q1, qP, qK, qD, qN⟩ := q; exact ⟨q0, q1, qP, va_K.moved (u := U) (U := U.calling g mk a) (Vm.Alike.refl U.vm) qK, qD, qN.same rfl⟩, va_recv hK hP (ci := 16) (q0 := h0) rfl (Wd_ob kg_6 sg_6 (by decide)), fun U hU hW => ⟨rfl, by rw [hU], by rw [hU]; exact hP, va_K.moved hW.alike hK, hD.weaken (fun _ _ _ _ => trivial), hN.warm hW⟩⟩ rfl rfl hl.1 rfl (lv_room (Nat.le_of_ble_eq_true rfl)) dX16_typeEnd_20 ⟨Nat.le_of_ble_eq_true rfl, Nat.le_of_ble_eq_true rfl⟩) hS (fun q _ h => hFc q h) hFc (fun rr u t H_11 locs ht hvm hw hB hz1 hk1 hS2 => ?_)
    rw [hw]
    clear hw
    obtain ⟨hP1, -, hD1⟩ := hB
    rw [ht] at hP1
    replace hD := hD1.weaken (fun _ _ _ h => hFc _ h)
    replace hP := hP1
    replace hS := hS2
    clear hP1 hD1 hS2 hFc hfc hz1 hk1 hvm ht
    refine lv_bipush (v := 6) hx hb dX16_typeEnd_23 (by decide) ?_
    refine lv_icmp_ne (tgt := 34) hx hb dX16_typeEnd_25 (by decide) (fun c_12 => ?_) (fun c_12 => ?_)
    · skip
      rw [if_neg c_12] at hf
      refine lv_iload_n hx hb dX16_typeEnd_34 rfl (lv_at hl 0 rfl) ?_
      refine lv_iconst (v := 1) hx hb dX16_typeEnd_35 (by decide) ?_
      refine lv_iadd hx hb dX16_typeEnd_36 ?_
      obtain ⟨h8, h9⟩ := ret_some hf
      rw [h8, h9]
      exact W.iret (v := (p_1 + 1)) hx hb hr (fun t ht hW => ⟨⟨(p_1 + 1), (), rfl, rfl, by rw [ht]; exact hP, va_K.moved hW.alike hK, hD⟩, hS.F ht⟩) hS.2.2 dX16_typeEnd_37
    · skip
      rw [if_pos c_12] at hf
      refine lv_iload_n hx hb dX16_typeEnd_28 rfl (lv_at hl 0 rfl) ?_
      refine lv_iconst (v := 2) hx hb dX16_typeEnd_29 (by decide) ?_
      refine lv_iadd hx hb dX16_typeEnd_30 ?_
      refine lv_goto (tgt := 37) hx hb dX16_typeEnd_31 (by decide) ?_
      obtain ⟨h8, h9⟩ := ret_some hf
      rw [h8, h9]
      exact W.iret (v := (p_1 + 2)) hx hb hr (fun t ht hW => ⟨⟨(p_1 + 2), (), rfl, rfl, by rw [ht]; exact hP, va_K.moved hW.alike hK, hD⟩, hS.F ht⟩) hS.2.2 dX16_typeEnd_37
  · skip
    rw [if_neg c_8] at hf
    refine lv_iinc (v := (p_1 + 1)) (lv' := [(2, .int (p_1 + 1)), (0, .ref (a h0))]) hx hb dX16_typeEnd_12 hl (k := 0) rfl rfl (by decide) rfl (fun ls hl2 => ?_)
    replace hl := hl2
    clear hl2
    refine lv_goto (tgt := 2) hx hb dX16_typeEnd_15 (by decide) ?_
    exact ih2 (z_4, (p_1 + 1)) ls H_7 locs ⟨lv_sub hl [0, 1] rfl, hP, hD, hS⟩ hf

set_option maxHeartbeats 4000000 in
set_option maxRecDepth 100000 in
theorem de_X5_numberAt (l : Launch) (dC : Nat → ClassId) (dI : Nat → Nat → Nat) (cy : Nat → ClassId) (a : Nat → Nat) (sh : Nat → Nat × Nat) (n sz : Nat) (F : Nat) (sk : Nat → Nat) (z : St) (h0 : Nat) (x0 : Int32) (x1 : Int32) {z8 : St} {r8 : Int64} (hf : fn_X5_numberAt F sh n z h0 x0 x1 = some (z8, r8)) : Met l yX5_numberAt wsX5_numberAt ({ frames := 1, cells := 0, slots := 0, locals := 21 }) (va_Pc [.ref (a h0), .int x0, .int x1] (fun U => U.heap.size = sz ∧ va_P (dC, dI) vwCl (Wd cy a sh n z) U.heap ∧ va_K (dC, dI) vwCl (TYS cy) U ∧ va_D (fun _ => True) (Wd cy a sh n z) ∧ NK U ∧ SKs sk (a CBK) (va_A (Wd cy a sh n z) sz) U U.heap)) (va_Ql (fun (r9 : Int64) (u : Unit) => r9 = r8) (fun u t => va_P (dC, dI) vwCl (Wd cy a sh n z8) t.heap ∧ va_K (dC, dI) vwCl (TYS cy) t ∧ va_D (va_A (Wd cy a sh n z) sz) (Wd cy a sh n z8)) (va_A (Wd cy a sh n z) sz)) 0 0 (va_A (Wd cy a sh n z) sz) := by
  refine Met.ofW (cc := cX5_numberAt) (maxL := 6) (ret := (some .long)) (by decide) rfl ?_
  intro p e s m args below meth c s₁ B hml hv
  obtain ⟨rfl, hsz, hP, hK, hD0, hN, hSK⟩ := hv
  have hx := B.exec
  have hb := B.bytes
  have hr := B.returns
  have hts := atoms_spec (ws := wsX5_numberAt) B.pre
  have hown : s.vm.findClass RX5 = some m.cls := findClass_of_methodNamed B.named
  have hlocks := B.notSynchronized
  subst hsz
  have hD := hD0.self (sz := s.heap.size)
  clear hD0
  generalize hAe : va_A (Wd cy a sh n z) s.heap.size = A at hD hSK ⊢
  have hA : ∀ q : Nat, s.heap.size ≤ q → A q := fun q h => by rw [← hAe]; exact Or.inr h
  clear hAe
  have hS : va_S A s.heap s.heap [] := va_S.rf
  have hl := lv_entry ([.ref (a h0), .int x0, .int x1]) (n := 6) (Nat.le_of_ble_eq_true rfl)
  rw [lg_entry_eq]
  generalize (lg_sl ([.ref (a h0), .int x0, .int x1]) ++ List.replicate (6 - (lg_sl ([.ref (a h0), .int x0, .int x1])).length) Slot.unset).toArray = ls at hl ⊢
  replace hl : lv_has ls 6 [(0, .ref (a h0)), (1, .int x0), (2, .int x1)] := hl
  unfold fn_X5_numberAt at hf
  refine de_start hS hP (fun H locs hS hP => ?_)
  refine lv_lconst (v := 0) hx hb dX5_numberAt_0 (by decide) ?_
  refine lv_lstore_n (lv' := [(3, .long 0), (0, .ref (a h0)), (1, .int x0), (2, .int x1)]) hx hb dX5_numberAt_1 rfl hl (by decide) rfl (fun ls hl2 => ?_)
  replace hl := hl2
  clear hl2
  refine lv_iconst (v := 0) hx hb dX5_numberAt_2 (by decide) ?_
  refine lv_istore (lv' := [(5, .int 0), (3, .long 0), (0, .ref (a h0)), (1, .int x0), (2, .int x1)]) hx hb dX5_numberAt_3 hl (by decide) rfl (fun ls hl2 => ?_)
  replace hl := hl2
  clear hl2
  have hl0 : lv_has ls 6 [(5, .int 0), (3, .long 0), (0, .ref (a h0)), (1, .int x0), (2, .int x1)] := lv_sub hl [0, 1, 2, 3, 4] rfl
  refine de_loop (h := 5) (fun (x : St × Int64 × Int32) ls H locs => lv_has ls 6 [(5, .int x.2.2), (3, .long x.2.1), (0, .ref (a h0)), (1, .int x0), (2, .int x1)] ∧ va_P (dC, dI) vwCl (Wd cy a sh n x.1) H ∧ va_D A (Wd cy a sh n x.1) ∧ va_S A s.heap H locs) (fun f x => fn_X5_numberAt_L5 F sh n x1 h0 x0 f x.1 x.2.1 x.2.2) (z8, r8) ?_ (fun _ => rfl) F (z, 0, 0) ls H locs ⟨hl0, hP, hD, hS⟩ hf
  intro f_4 x ls H locs ih5 hI hf
  obtain ⟨z_3, p_1, p_2⟩ := x
  obtain ⟨hl2, hP2, hD2, hS2⟩ := hI
  replace hl : lv_has ls 6 [(5, .int p_2), (3, .long p_1), (0, .ref (a h0)), (1, .int x0), (2, .int x1)] := hl2
  replace hP := hP2
  replace hD := hD2
  replace hS := hS2
  clear hl2 hP2 hD2 hS2 hl0
  replace hf := fn_X5_numberAt_L5_s hf
  refine lv_iload hx hb dX5_numberAt_5 (lv_at hl 0 rfl) ?_
  refine lv_iload_n hx hb dX5_numberAt_7 rfl (lv_at hl 4 rfl) ?_
  refine lv_icmp_ge (tgt := 32) hx hb dX5_numberAt_8 (by decide) (fun c_5 => ?_) (fun c_5 => ?_)
  · skip
    rw [if_pos c_5] at hf
    refine lv_lload_n hx hb dX5_numberAt_32 rfl (lv_at hl 1 rfl) ?_
    obtain ⟨h8, h9⟩ := ret_some hf
    rw [h8, h9]
    exact W.lret (v := p_1) hx hb hr (fun t ht hW => ⟨⟨p_1, (), rfl, rfl, by rw [ht]; exact hP, va_K.moved hW.alike hK, hD⟩, hS.F ht⟩) hS.2.2 dX5_numberAt_33
  · skip
    rw [if_neg c_5] at hf
    refine lv_lload_n hx hb dX5_numberAt_11 rfl (lv_at hl 1 rfl) ?_
    refine lv_bipush (v := 8) hx hb dX5_numberAt_12 (by decide) ?_
    refine lv_lshl (v := (p_1 <<< ((8 : Int32).toInt64 &&& 63))) hx hb dX5_numberAt_14 rfl ?_
    refine lv_aload_n hx hb dX5_numberAt_15 rfl (lv_at hl 2 rfl) ?_
    refine lv_iload_n hx hb dX5_numberAt_16 rfl (lv_at hl 3 rfl) ?_
    refine lv_iload hx hb dX5_numberAt_17 (lv_at hl 0 rfl) ?_
    refine lv_iadd hx hb dX5_numberAt_19 ?_
    obtain ⟨g_8, hf⟩ := grd_some hf
    obtain ⟨kg_8, sg_8⟩ := okO_at g_8
    obtain ⟨z_6, r_7, hfc, hf⟩ := cal_some hf
    have hFc := de_free hD hS hA
    refine va_calli (va_runV (As := [.int (x0 + p_2)]) (rest := [.long ((p_1 <<< ((8 : Int32).toInt64 &&& 63)))]) ⟨hx, hb, hml, hown, hts⟩ (de_X5_at l dC dI cy a sh n H.size F sk z_3 h0 (x0 + p_2) hfc) (cwV 1 hts gX5_numberAt_X5_at rfl rfl rfl (by decide +kernel) ⟨Nat.le_of_ble_eq_true rfl, Nat.le_of_ble_eq_true rfl⟩) ⟨fun a U g mk q => by obtain ⟨q0, q1, qP, qK, qD, qN, qS⟩ := q; exact ⟨q0, q1, qP, va_K.moved (u := U) (U := U.calling g mk a) (Vm.Alike.refl U.vm) qK, qD, qN.same rfl, SKs.moved (u := U) (U := U.calling g mk a) (Vm.Alike.refl U.vm) qS⟩, va_recv hK hP (ci := 5) (q0 := h0) rfl (Wd_ob kg_8 sg_8 (by decide)), fun U hU hW => ⟨rfl, by rw [hU], by rw [hU]; exact hP, va_K.moved hW.alike hK, hD.weaken (fun _ _ _ _ => trivial), hN.warm hW, by rw [hU]; exact ((hSK.kept hS.2.1).narrow hFc).moved hW.alike⟩⟩ rfl rfl hl.1 rfl (lv_room (Nat.le_of_ble_eq_true rfl)) dX5_numberAt_20 ⟨Nat.le_of_ble_eq_true rfl, Nat.le_of_ble_eq_true rfl⟩) hS (fun q _ h => hFc q h) hFc (fun rr u t H_9 locs ht hvm hw hB hz1 hk1 hS2 => ?_)
    rw [hw]
    clear hw
    obtain ⟨hP1, -, hD1⟩ := hB
    rw [ht] at hP1
    replace hD := hD1.weaken (fun _ _ _ h => hFc _ h)
    replace hP := hP1
    replace hS := hS2
    clear hP1 hD1 hS2 hFc hfc hz1 hk1 hvm ht
    refine lv_i2l (v := (r_7 : Int32).toInt64) hx hb dX5_numberAt_23 rfl ?_
    refine lv_lor hx hb dX5_numberAt_24 ?_
    refine lv_topl (fun v_10 ev_10 => ?_)
    replace hf := lt_at ev_10 hf
    clear ev_10
    refine lv_lstore_n (lv' := [(3, .long v_10), (5, .int p_2), (0, .ref (a h0)), (1, .int x0), (2, .int x1)]) hx hb dX5_numberAt_25 rfl hl (by decide) rfl (fun ls hl2 => ?_)
    replace hl := hl2
    clear hl2
    refine lv_iinc (v := (p_2 + 1)) (lv' := [(5, .int (p_2 + 1)), (3, .long v_10), (0, .ref (a h0)), (1, .int x0), (2, .int x1)]) hx hb dX5_numberAt_26 hl (k := 1) rfl rfl (by decide) rfl (fun ls hl2 => ?_)
    replace hl := hl2
    clear hl2
    refine lv_goto (tgt := 5) hx hb dX5_numberAt_29 (by decide) ?_
    exact ih5 (z_6, v_10, (p_2 + 1)) ls H_9 locs ⟨lv_sub hl [0, 1, 2, 3, 4] rfl, hP, hD, hS⟩ hf

theorem md_X16_flags_1 : (.fieldLink RX16 104 "ResourceLedgerModel$Unit" "functions" "I" : Cond) ∈ wsX16_flags := List.mem_of_getElem? (i := 1) rfl
theorem iwd_X16_flags_X16 : ∀ w ∈ wsX160, w ∈ wsX16_flags := fun _ h => List.mem_cons_of_mem _ (List.mem_append_right _ h)
theorem md_X16_flags_3 : (.fieldLink RX16 17 "ResourceLedgerModel$Unit" "calleeAt" "[I" : Cond) ∈ wsX16_flags := List.mem_of_getElem? (i := 3) rfl
theorem md_X16_flags_2 : (.fieldLink RX16 23 "ResourceLedgerModel$Unit" "functionAt" "[I" : Cond) ∈ wsX16_flags := List.mem_of_getElem? (i := 2) rfl
set_option maxHeartbeats 4000000 in
set_option maxRecDepth 100000 in
theorem de_X16_flags (l : Launch) (dC : Nat → ClassId) (dI : Nat → Nat → Nat) (cy : Nat → ClassId) (a : Nat → Nat) (sh : Nat → Nat × Nat) (n sz : Nat) (F : Nat) (z : St) (h0 : Nat) (x0 : Int32) {z8 : St} {r8 : Int32} (hf : fn_X16_flags F sh n z h0 x0 = some (z8, r8)) : Met l yX16_flags wsX16_flags ({ frames := 1, cells := 0, slots := 0, locals := 21 }) (va_Pc [.ref (a h0), .int x0] (fun U => U.heap.size = sz ∧ va_P (dC, dI) vwCl (Wd cy a sh n z) U.heap ∧ va_K (dC, dI) vwCl (TYS cy) U ∧ va_D (fun _ => True) (Wd cy a sh n z) ∧ NK U)) (va_Qi (fun (r9 : Int32) (u : Unit) => r9 = r8) (fun u t => va_P (dC, dI) vwCl (Wd cy a sh n z8) t.heap ∧ va_K (dC, dI) vwCl (TYS cy) t ∧ va_D (va_A (Wd cy a sh n z) sz) (Wd cy a sh n z8)) (va_A (Wd cy a sh n z) sz)) 0 0 (va_A (Wd cy a sh n z) sz) := by
  refine Met.ofW (cc := cX16_flags) (maxL := 2) (ret := (some .int)) (by decide) rfl ?_
  intro p e s m args below meth c s₁ B hml hv
  obtain ⟨rfl, hsz, hP, hK, hD0, hN⟩ := hv
  have hx := B.exec
  have hb := B.bytes
  have hr := B.returns
  have hts := atoms_spec (ws := wsX16_flags) B.pre
  have hown : s.vm.findClass RX16 = some m.cls := findClass_of_methodNamed B.named
  have hlocks := B.notSynchronized
  subst hsz
  have hD := hD0.self (sz := s.heap.size)
  clear hD0
  generalize hAe : va_A (Wd cy a sh n z) s.heap.size = A at hD ⊢
  have hA : ∀ q : Nat, s.heap.size ≤ q → A q := fun q h => by rw [← hAe]; exact Or.inr h
  clear hAe
  have hS : va_S A s.heap s.heap [] := va_S.rf
  have hl := lv_entry ([.ref (a h0), .int x0]) (n := 2) (Nat.le_of_ble_eq_true rfl)
  rw [lg_entry_eq]
  generalize (lg_sl ([.ref (a h0), .int x0]) ++ List.replicate (2 - (lg_sl ([.ref (a h0), .int x0])).length) Slot.unset).toArray = ls at hl ⊢
  replace hl : lv_has ls 2 [(0, .ref (a h0)), (1, .int x0)] := hl
  unfold fn_X16_flags at hf
  refine de_start hS hP (fun H locs hS hP => ?_)
  refine lv_iload_n hx hb dX16_flags_0 rfl (lv_at hl 1 rfl) ?_
  refine lv_aload_n hx hb dX16_flags_1 rfl (lv_at hl 0 rfl) ?_
  obtain ⟨g_1, hf⟩ := grd_some hf
  obtain ⟨kg_1, sg_1⟩ := okO_at g_1
  refine va_get (D := (dC, dI)) (ci := 16) (v := .int (z.1 h0 9)) (C := RX16) (T := TX16) (N := 18) hx hb hts iwd_X16_flags_X16 hown hK hP h0 (Wd_ob kg_1 sg_1 (by decide)) rfl 9 (by decide) (hts _ md_X16_flags_1) (fun _ h9 => h9) (fl_at (t := 0) rfl) dX16_flags_2 ?_
  refine lv_icmp_ge (tgt := 21) hx hb dX16_flags_5 (by decide) (fun c_2 => ?_) (fun c_2 => ?_)
  · skip
    rw [if_pos c_2] at hf
    refine lv_aload_n hx hb dX16_flags_21 rfl (lv_at hl 0 rfl) ?_
    refine lv_aload_n hx hb dX16_flags_22 rfl (lv_at hl 0 rfl) ?_
    obtain ⟨k_3, ek_3, hf⟩ := lnk_some hf
    refine va_get (D := (dC, dI)) (ci := 16) (v := .ref (a k_3)) (C := RX16) (T := TX16) (N := 18) hx hb hts iwd_X16_flags_X16 hown hK hP h0 (Wd_ob kg_1 sg_1 (by decide)) rfl 12 (by decide) (hts _ md_X16_flags_3) (fun _ h9 => h9) (fl_q rfl ek_3) dX16_flags_23 ?_
    refine lv_iload_n hx hb dX16_flags_26 rfl (lv_at hl 1 rfl) ?_
    refine lv_aload_n hx hb dX16_flags_27 rfl (lv_at hl 0 rfl) ?_
    refine va_get (D := (dC, dI)) (ci := 16) (v := .int (z.1 h0 9)) (C := RX16) (T := TX16) (N := 18) hx hb hts iwd_X16_flags_X16 hown hK hP h0 (Wd_ob kg_1 sg_1 (by decide)) rfl 9 (by decide) (hts _ md_X16_flags_1) (fun _ h9 => h9) (fl_at (t := 0) rfl) dX16_flags_28 ?_
    refine lv_isub hx hb dX16_flags_31 ?_
    obtain ⟨g_4, hf⟩ := grd_some hf
    obtain ⟨kg_4, sg_4, ig_4⟩ := okA_at g_4
    refine va_iald hx hb hK hP k_3 1 (Wd_ai kg_4 sg_4) rfl ig_4 dX16_flags_32 ?_
    refine lv_iconst (v := 3) hx hb dX16_flags_33 (by decide) ?_
    refine lv_iadd hx hb dX16_flags_34 ?_
    obtain ⟨z_5, r_6, hfc, hf⟩ := cal_some hf
    have hFc := de_free hD hS hA
    refine va_calli (va_runV (As := [.int ((z.1 k_3 (x0 - (z.1 h0 9)).toNatClampNeg) + 3)]) (rest := []) ⟨hx, hb, hml, hown, hts⟩ (de_X16_byteAt l dC dI cy a sh n H.size F z h0 ((z.1 k_3 (x0 - (z.1 h0 9)).toNatClampNeg) + 3) hfc) (cwV 1 hts gX16_flags_X16_byteAt rfl rfl rfl (by decide +kernel) ⟨Nat.le_of_ble_eq_true rfl, Nat.le_of_ble_eq_true rfl⟩) ⟨fun a U g mk q => by obtain ⟨q0, q1, qP, qK, qD, qN⟩ := q; exact ⟨q0, q1, qP, va_K.moved (u := U) (U := U.calling g mk a) (Vm.Alike.refl U.vm) qK, qD, qN.same rfl⟩, va_recv hK hP (ci := 16) (q0 := h0) rfl (Wd_ob kg_1 sg_1 (by decide)), fun U hU hW => ⟨rfl, by rw [hU], by rw [hU]; exact hP, va_K.moved hW.alike hK, hD.weaken (fun _ _ _ _ => trivial), hN.warm hW⟩⟩ rfl rfl hl.1 rfl (lv_room (Nat.le_of_ble_eq_true rfl)) dX16_flags_35 ⟨Nat.le_of_ble_eq_true rfl, Nat.le_of_ble_eq_true rfl⟩) hS (fun q _ h => hFc q h) hFc (fun rr u t H_7 locs ht hvm hw hB hz1 hk1 hS2 => ?_)
    rw [hw]
    clear hw
    obtain ⟨hP1, -, hD1⟩ := hB
    rw [ht] at hP1
    replace hD := hD1.weaken (fun _ _ _ h => hFc _ h)
    replace hP := hP1
    replace hS := hS2
    clear hP1 hD1 hS2 hFc hfc hz1 hk1 hvm ht
    obtain ⟨h8, h9⟩ := ret_some hf
    rw [h8, h9]
    exact W.iret (v := r_6) hx hb hr (fun t ht hW => ⟨⟨r_6, (), rfl, rfl, by rw [ht]; exact hP, va_K.moved hW.alike hK, hD⟩, hS.F ht⟩) hS.2.2 dX16_flags_38
  · skip
    rw [if_neg c_2] at hf
    refine lv_aload_n hx hb dX16_flags_8 rfl (lv_at hl 0 rfl) ?_
    refine lv_aload_n hx hb dX16_flags_9 rfl (lv_at hl 0 rfl) ?_
    obtain ⟨k_8, ek_8, hf⟩ := lnk_some hf
    refine va_get (D := (dC, dI)) (ci := 16) (v := .ref (a k_8)) (C := RX16) (T := TX16) (N := 18) hx hb hts iwd_X16_flags_X16 hown hK hP h0 (Wd_ob kg_1 sg_1 (by decide)) rfl 14 (by decide) (hts _ md_X16_flags_2) (fun _ h9 => h9) (fl_q rfl ek_8) dX16_flags_10 ?_
    refine lv_iload_n hx hb dX16_flags_13 rfl (lv_at hl 1 rfl) ?_
    obtain ⟨g_9, hf⟩ := grd_some hf
    obtain ⟨kg_9, sg_9, ig_9⟩ := okA_at g_9
    refine va_iald hx hb hK hP k_8 1 (Wd_ai kg_9 sg_9) rfl ig_9 dX16_flags_14 ?_
    obtain ⟨z_10, r_11, hfc, hf⟩ := cal_some hf
    have hFc := de_free hD hS hA
    refine va_calli (va_runV (As := [.int (z.1 k_8 x0.toNatClampNeg)]) (rest := []) ⟨hx, hb, hml, hown, hts⟩ (de_X16_byteAt l dC dI cy a sh n H.size F z h0 (z.1 k_8 x0.toNatClampNeg) hfc) (cwV 1 hts gX16_flags_X16_byteAt rfl rfl rfl (by decide +kernel) ⟨Nat.le_of_ble_eq_true rfl, Nat.le_of_ble_eq_true rfl⟩) ⟨fun a U g mk q => by obtain ⟨q0, q1, qP, qK, qD, qN⟩ := q; exact ⟨q0, q1, qP, va_K.moved (u := U) (U := U.calling g mk a) (Vm.Alike.refl U.vm) qK, qD, qN.same rfl⟩, va_recv hK hP (ci := 16) (q0 := h0) rfl (Wd_ob kg_1 sg_1 (by decide)), fun U hU hW => ⟨rfl, by rw [hU], by rw [hU]; exact hP, va_K.moved hW.alike hK, hD.weaken (fun _ _ _ _ => trivial), hN.warm hW⟩⟩ rfl rfl hl.1 rfl (lv_room (Nat.le_of_ble_eq_true rfl)) dX16_flags_15 ⟨Nat.le_of_ble_eq_true rfl, Nat.le_of_ble_eq_true rfl⟩) hS (fun q _ h => hFc q h) hFc (fun rr u t H_12 locs ht hvm hw hB hz1 hk1 hS2 => ?_)
    rw [hw]
    clear hw
    obtain ⟨hP1, -, hD1⟩ := hB
    rw [ht] at hP1
    replace hD := hD1.weaken (fun _ _ _ h => hFc _ h)
    replace hP := hP1
    replace hS := hS2
    clear hP1 hD1 hS2 hFc hfc hz1 hk1 hvm ht
    refine lv_goto (tgt := 38) hx hb dX16_flags_18 (by decide) ?_
    obtain ⟨h8, h9⟩ := ret_some hf
    rw [h8, h9]
    exact W.iret (v := r_11) hx hb hr (fun t ht hW => ⟨⟨r_11, (), rfl, rfl, by rw [ht]; exact hP, va_K.moved hW.alike hK, hD⟩, hS.F ht⟩) hS.2.2 dX16_flags_38

theorem md_X18_push_1 : (.fieldLink RX18 309 "ResourceLedgerModel" "stack" "[I" : Cond) ∈ wsX18_push := List.mem_of_getElem? (i := 1) rfl
theorem iwd_X18_push_X18 : ∀ w ∈ wsX180, w ∈ wsX18_push := fun _ h => List.mem_cons_of_mem _ (List.mem_append_right _ h)
theorem md_X18_push_2 : (.fieldLink RX18 312 "ResourceLedgerModel" "height" "I" : Cond) ∈ wsX18_push := List.mem_of_getElem? (i := 2) rfl
theorem md_X18_push_3 : (.fieldLink RX18 315 "ResourceLedgerModel" "refers" "[Z" : Cond) ∈ wsX18_push := List.mem_of_getElem? (i := 3) rfl
set_option maxHeartbeats 4000000 in
set_option maxRecDepth 100000 in
theorem de_X18_push (l : Launch) (dC : Nat → ClassId) (dI : Nat → Nat → Nat) (cy : Nat → ClassId) (a : Nat → Nat) (sh : Nat → Nat × Nat) (n sz : Nat) (F : Nat) (z : St) (h0 : Nat) (x0 : Int32) (x1 : Int32) {z8 : St} {r8 : Unit} (hf : fn_X18_push F sh n z h0 x0 x1 = some (z8, r8)) : Met l yX18_push wsX18_push ({ frames := 1, cells := 0, slots := 0, locals := 20 }) (va_Pc [.ref (a h0), .int x0, .int x1] (fun U => U.heap.size = sz ∧ va_P (dC, dI) vwCl (Wd cy a sh n z) U.heap ∧ va_K (dC, dI) vwCl (TYS cy) U ∧ va_D (fun _ => True) (Wd cy a sh n z) ∧ NK U)) (va_Qv (fun u : Unit => True) (fun u t => va_P (dC, dI) vwCl (Wd cy a sh n z8) t.heap ∧ va_K (dC, dI) vwCl (TYS cy) t ∧ va_D (va_A (Wd cy a sh n z) sz) (Wd cy a sh n z8)) (va_A (Wd cy a sh n z) sz)) 0 0 (va_A (Wd cy a sh n z) sz) := by
  refine Met.ofW (cc := cX18_push) (maxL := 3) (ret := none) (by decide) rfl ?_
  intro p e s m args below meth c s₁ B hml hv
  obtain ⟨rfl, hsz, hP, hK, hD0, hN⟩ := hv
  have hx := B.exec
  have hb := B.bytes
  have hr := B.returns
  have hts := atoms_spec (ws := wsX18_push) B.pre
  have hown : s.vm.findClass RX18 = some m.cls := findClass_of_methodNamed B.named
  have hlocks := B.notSynchronized
  subst hsz
  have hD := hD0.self (sz := s.heap.size)
  clear hD0
  generalize hAe : va_A (Wd cy a sh n z) s.heap.size = A at hD ⊢
  have hA : ∀ q : Nat, s.heap.size ≤ q → A q := fun q h => by rw [← hAe]; exact Or.inr h
  clear hAe
  have hS : va_S A s.heap s.heap [] := va_S.rf
  have hl := lv_entry ([.ref (a h0), .int x0, .int x1]) (n := 3) (Nat.le_of_ble_eq_true rfl)
  rw [lg_entry_eq]
  generalize (lg_sl ([.ref (a h0), .int x0, .int x1]) ++ List.replicate (3 - (lg_sl ([.ref (a h0), .int x0, .int x1])).length) Slot.unset).toArray = ls at hl ⊢
  replace hl : lv_has ls 3 [(0, .ref (a h0)), (1, .int x0), (2, .int x1)] := hl
  unfold fn_X18_push at hf
  refine de_start hS hP (fun H locs hS hP => ?_)
  refine lv_aload_n hx hb dX18_push_0 rfl (lv_at hl 0 rfl) ?_
  obtain ⟨g_3, hf⟩ := grd_some hf
  obtain ⟨kg_3, sg_3⟩ := okO_at g_3
  obtain ⟨z_1, r_2, hfc, hf⟩ := cal_some hf
  have hFc := de_free hD hS hA
  refine va_calli (va_runV (As := []) (rest := []) ⟨hx, hb, hml, hown, hts⟩ (de_X18_goesOn l dC dI cy a sh n H.size F z h0 hfc) (cwV 0 hts gX18_push_X18_goesOn rfl rfl rfl (by decide +kernel) ⟨Nat.le_of_ble_eq_true rfl, Nat.le_of_ble_eq_true rfl⟩) ⟨fun a U g mk q => by obtain ⟨q0, q1, qP, qK, qD, qN⟩ := q; exact ⟨q0, q1, qP, va_K.moved (u := U) (U := U.calling g mk a) (Vm.Alike.refl U.vm) qK, qD, qN.same rfl⟩, va_recv hK hP (ci := 18) (q0 := h0) rfl (Wd_ob kg_3 sg_3 (by decide)), fun U hU hW => ⟨rfl, by rw [hU], by rw [hU]; exact hP, va_K.moved hW.alike hK, hD.weaken (fun _ _ _ _ => trivial), hN.warm hW⟩⟩ rfl rfl hl.1 rfl (lv_room (Nat.le_of_ble_eq_true rfl)) dX18_push_1 ⟨Nat.le_of_ble_eq_true rfl, Nat.le_of_ble_eq_true rfl⟩) hS (fun q _ h => hFc q h) hFc (fun rr u t H_4 locs ht hvm hw hB hz1 hk1 hS2 => ?_)
  rw [hw]
  clear hw
  obtain ⟨hP1, -, hD1⟩ := hB
  rw [ht] at hP1
  replace hD := hD1.weaken (fun _ _ _ h => hFc _ h)
  replace hP := hP1
  replace hS := hS2
  clear hP1 hD1 hS2 hFc hfc hz1 hk1 hvm ht
  refine lv_if_ne (tgt := 8) hx hb dX18_push_4 (by decide) (fun c_5 => ?_) (fun c_5 => ?_)
  · skip
    rw [if_neg c_5] at hf
    refine lv_aload_n hx hb dX18_push_8 rfl (lv_at hl 0 rfl) ?_
    obtain ⟨k_6, ek_6, hf⟩ := lnk_some hf
    refine va_get (D := (dC, dI)) (ci := 18) (v := .ref (a k_6)) (C := RX18) (T := TX18) (N := 78) hx hb hts iwd_X18_push_X18 hown hK hP h0 (Wd_ob kg_3 sg_3 (by decide)) rfl 43 (by decide) (hts _ md_X18_push_1) (fun _ h9 => h9) (fl_q rfl ek_6) dX18_push_9 ?_
    refine lv_aload_n hx hb dX18_push_12 rfl (lv_at hl 0 rfl) ?_
    refine va_get (D := (dC, dI)) (ci := 18) (v := .int (z_1.1 h0 45)) (C := RX18) (T := TX18) (N := 78) hx hb hts iwd_X18_push_X18 hown hK hP h0 (Wd_ob kg_3 sg_3 (by decide)) rfl 45 (by decide) (hts _ md_X18_push_2) (fun _ h9 => h9) (fl_at (t := 0) rfl) dX18_push_13 ?_
    refine lv_iload_n hx hb dX18_push_16 rfl (lv_at hl 1 rfl) ?_
    obtain ⟨g_7, hf⟩ := grd_some hf
    obtain ⟨kg_7, sg_7, ig_7⟩ := okA_at g_7
    refine va_iast hx hb hK hP hD hS k_6 1 (Wd_ai kg_7 sg_7) rfl ig_7 dX18_push_17 (fun H_8 locs hP2 hD2 hS2 => ?_)
    rw [Wd_ti sg_7] at hP2 hD2
    obtain ⟨z_9, ez_9⟩ : ∃ w, w = si z_1 k_6 (z_1.1 h0 45).toNatClampNeg x0 := ⟨_, rfl⟩
    rw [← ez_9] at hP2 hD2
    replace hf := lt_at ez_9 hf
    clear ez_9
    replace hP := hP2
    replace hD := hD2
    replace hS := hS2
    clear hP2 hD2 hS2
    refine lv_aload_n hx hb dX18_push_18 rfl (lv_at hl 0 rfl) ?_
    obtain ⟨k_10, ek_10, hf⟩ := lnk_some hf
    refine va_get (D := (dC, dI)) (ci := 18) (v := .ref (a k_10)) (C := RX18) (T := TX18) (N := 78) hx hb hts iwd_X18_push_X18 hown hK hP h0 (Wd_ob kg_3 sg_3 (by decide)) rfl 44 (by decide) (hts _ md_X18_push_3) (fun _ h9 => h9) (fl_q rfl ek_10) dX18_push_19 ?_
    refine lv_aload_n hx hb dX18_push_22 rfl (lv_at hl 0 rfl) ?_
    refine va_get (D := (dC, dI)) (ci := 18) (v := .int (z_9.1 h0 45)) (C := RX18) (T := TX18) (N := 78) hx hb hts iwd_X18_push_X18 hown hK hP h0 (Wd_ob kg_3 sg_3 (by decide)) rfl 45 (by decide) (hts _ md_X18_push_2) (fun _ h9 => h9) (fl_at (t := 0) rfl) dX18_push_23 ?_
    refine lv_iload_n hx hb dX18_push_26 rfl (lv_at hl 2 rfl) ?_
    obtain ⟨g_11, hf⟩ := grd_some hf
    obtain ⟨kg_11, sg_11, ig_11⟩ := okA_at g_11
    refine va_zast hx hb hK hP hD hS k_10 3 (Wd_az kg_11 sg_11) rfl ig_11 dX18_push_27 (fun H_12 locs hP2 hD2 hS2 => ?_)
    rw [Wd_tz sg_11] at hP2 hD2
    obtain ⟨z_13, ez_13⟩ : ∃ w, w = si z_9 k_10 (z_9.1 h0 45).toNatClampNeg (vp_nar .boolean x1) := ⟨_, rfl⟩
    rw [← ez_13] at hP2 hD2
    replace hf := lt_at ez_13 hf
    clear ez_13
    replace hP := hP2
    replace hD := hD2
    replace hS := hS2
    clear hP2 hD2 hS2
    refine lv_aload_n hx hb dX18_push_28 rfl (lv_at hl 0 rfl) ?_
    refine lv_dup hx hb dX18_push_29 rfl ?_
    refine va_get (D := (dC, dI)) (ci := 18) (v := .int (z_13.1 h0 45)) (C := RX18) (T := TX18) (N := 78) hx hb hts iwd_X18_push_X18 hown hK hP h0 (Wd_ob kg_3 sg_3 (by decide)) rfl 45 (by decide) (hts _ md_X18_push_2) (fun _ h9 => h9) (fl_at (t := 0) rfl) dX18_push_30 ?_
    refine lv_iconst (v := 1) hx hb dX18_push_33 (by decide) ?_
    refine lv_iadd hx hb dX18_push_34 ?_
    refine va_put (D := (dC, dI)) (ci := 18) (v := .int ((z_13.1 h0 45) + 1)) (ty := .int) (C := RX18) (T := TX18) (N := 78) hx hb hts iwd_X18_push_X18 tyX18 tyX18_ok nmX18 hown hK hP hD hS h0 (Wd_ob kg_3 sg_3 (by decide)) rfl 45 (by decide) (hts _ md_X18_push_2) (fun _ h9 => h9) rfl (by decide +kernel) rfl rfl (by rw [fl_len]; decide) dX18_push_35 (fun H_14 locs hP2 hD2 hS2 => ?_)
    rw [Wd_si sg_3 (by decide) rfl] at hP2 hD2
    obtain ⟨z_15, ez_15⟩ : ∃ w, w = si z_13 h0 45 ((z_13.1 h0 45) + 1) := ⟨_, rfl⟩
    rw [← ez_15] at hP2 hD2
    replace hf := lt_at ez_15 hf
    clear ez_15
    replace hP := hP2
    replace hD := hD2
    replace hS := hS2
    clear hP2 hD2 hS2
    obtain ⟨h8, h9⟩ := ret_some hf
    rw [h8]
    exact W.vret hx hb hr (fun t ht hW => ⟨⟨(), rfl, trivial, by rw [ht]; exact hP, va_K.moved hW.alike hK, hD⟩, hS.F ht⟩) hS.2.2 dX18_push_38
  · skip
    rw [if_pos c_5] at hf
    obtain ⟨h8, h9⟩ := ret_some hf
    rw [h8]
    exact W.vret hx hb hr (fun t ht hW => ⟨⟨(), rfl, trivial, by rw [ht]; exact hP, va_K.moved hW.alike hK, hD⟩, hS.F ht⟩) hS.2.2 dX18_push_7

theorem md_X6_readNumber_1 : (.fieldLink RX6 32 "ResourceLedger$Reader" "at" "I" : Cond) ∈ wsX6_readNumber := List.mem_of_getElem? (i := 1) rfl
theorem iwd_X6_readNumber_X6 : ∀ w ∈ wsX60, w ∈ wsX6_readNumber := fun _ h => List.mem_cons_of_mem _ (List.mem_append_left _ (List.mem_append_right _ h))
theorem md_X6_readNumber_2 : (.fieldLink RX6 21 "ResourceLedger$Reader" "fault" "I" : Cond) ∈ wsX6_readNumber := List.mem_of_getElem? (i := 2) rfl
set_option maxHeartbeats 4000000 in
set_option maxRecDepth 100000 in
theorem de_X6_readNumber (l : Launch) (dC : Nat → ClassId) (dI : Nat → Nat → Nat) (cy : Nat → ClassId) (a : Nat → Nat) (sh : Nat → Nat × Nat) (n sz : Nat) (F : Nat) (sk : Nat → Nat) (z : St) (h0 : Nat) (x0 : Int32) (x1 : Int32) {z8 : St} {r8 : Int32} (hf : fn_X6_readNumber F sh n z h0 x0 x1 = some (z8, r8)) : Met l yX6_readNumber wsX6_readNumber ({ frames := 1, cells := 0, slots := 0, locals := 22 }) (va_Pc [.ref (a h0), .int x0, .int x1] (fun U => U.heap.size = sz ∧ va_P (dC, dI) vwCl (Wd cy a sh n z) U.heap ∧ va_K (dC, dI) vwCl (TYS cy) U ∧ va_D (fun _ => True) (Wd cy a sh n z) ∧ NK U ∧ SKs sk (a CBK) (va_A (Wd cy a sh n z) sz) U U.heap)) (va_Qi (fun (r9 : Int32) (u : Unit) => r9 = r8) (fun u t => va_P (dC, dI) vwCl (Wd cy a sh n z8) t.heap ∧ va_K (dC, dI) vwCl (TYS cy) t ∧ va_D (va_A (Wd cy a sh n z) sz) (Wd cy a sh n z8)) (va_A (Wd cy a sh n z) sz)) 0 0 (va_A (Wd cy a sh n z) sz) := by
  refine Met.ofW (cc := cX6_readNumber) (maxL := 5) (ret := (some .int)) (by decide) rfl ?_
  intro p e s m args below meth c s₁ B hml hv
  obtain ⟨rfl, hsz, hP, hK, hD0, hN, hSK⟩ := hv
  have hx := B.exec
  have hb := B.bytes
  have hr := B.returns
  have hts := atoms_spec (ws := wsX6_readNumber) B.pre
  have hown : s.vm.findClass RX6 = some m.cls := findClass_of_methodNamed B.named
  have hlocks := B.notSynchronized
  subst hsz
  have hD := hD0.self (sz := s.heap.size)
  clear hD0
  generalize hAe : va_A (Wd cy a sh n z) s.heap.size = A at hD hSK ⊢
  have hA : ∀ q : Nat, s.heap.size ≤ q → A q := fun q h => by rw [← hAe]; exact Or.inr h
  clear hAe
  have hS : va_S A s.heap s.heap [] := va_S.rf
  have hl := lv_entry ([.ref (a h0), .int x0, .int x1]) (n := 5) (Nat.le_of_ble_eq_true rfl)
  rw [lg_entry_eq]
  generalize (lg_sl ([.ref (a h0), .int x0, .int x1]) ++ List.replicate (5 - (lg_sl ([.ref (a h0), .int x0, .int x1])).length) Slot.unset).toArray = ls at hl ⊢
  replace hl : lv_has ls 5 [(0, .ref (a h0)), (1, .int x0), (2, .int x1)] := hl
  unfold fn_X6_readNumber at hf
  refine de_start hS hP (fun H locs hS hP => ?_)
  refine lv_aload_n hx hb dX6_readNumber_0 rfl (lv_at hl 0 rfl) ?_
  obtain ⟨g_1, hf⟩ := grd_some hf
  obtain ⟨kg_1, sg_1⟩ := okO_at g_1
  refine va_get (D := (dC, dI)) (ci := 6) (v := .int (z.1 h0 3)) (C := RX6) (T := TX6) (N := 9) hx hb hts iwd_X6_readNumber_X6 hown hK hP h0 (Wd_ob kg_1 sg_1 (by decide)) rfl 3 (by decide) (hts _ md_X6_readNumber_1) (fun _ h9 => h9) (fl_at (t := 0) rfl) dX6_readNumber_1 ?_
  refine lv_topi (fun v_2 ev_2 => ?_)
  replace hf := lt_at ev_2 hf
  clear ev_2
  refine lv_istore_n (lv' := [(3, .int v_2), (0, .ref (a h0)), (1, .int x0), (2, .int x1)]) hx hb dX6_readNumber_4 rfl hl (by decide) rfl (fun ls hl2 => ?_)
  replace hl := hl2
  clear hl2
  refine lv_aload_n hx hb dX6_readNumber_5 rfl (lv_at hl 1 rfl) ?_
  obtain ⟨z_3, r_4, hfc, hf⟩ := cal_some hf
  have hFc := de_free hD hS hA
  refine va_calli (va_runV (As := []) (rest := []) ⟨hx, hb, hml, hown, hts⟩ (de_X6_readByte l dC dI cy a sh n H.size F sk z h0 hfc) (cwV 0 hts gX6_readNumber_X6_readByte rfl rfl rfl (by decide +kernel) ⟨Nat.le_of_ble_eq_true rfl, Nat.le_of_ble_eq_true rfl⟩) ⟨fun a U g mk q => by obtain ⟨q0, q1, qP, qK, qD, qN, qS⟩ := q; exact ⟨q0, q1, qP, va_K.moved (u := U) (U := U.calling g mk a) (Vm.Alike.refl U.vm) qK, qD, qN.same rfl, SKs.moved (u := U) (U := U.calling g mk a) (Vm.Alike.refl U.vm) qS⟩, va_recv hK hP (ci := 6) (q0 := h0) rfl (Wd_ob kg_1 sg_1 (by decide)), fun U hU hW => ⟨rfl, by rw [hU], by rw [hU]; exact hP, va_K.moved hW.alike hK, hD.weaken (fun _ _ _ _ => trivial), hN.warm hW, by rw [hU]; exact ((hSK.kept hS.2.1).narrow hFc).moved hW.alike⟩⟩ rfl rfl hl.1 rfl (lv_room (Nat.le_of_ble_eq_true rfl)) dX6_readNumber_6 ⟨Nat.le_of_ble_eq_true rfl, Nat.le_of_ble_eq_true rfl⟩) hS (fun q _ h => hFc q h) hFc (fun rr u t H_5 locs ht hvm hw hB hz1 hk1 hS2 => ?_)
  rw [hw]
  clear hw
  obtain ⟨hP1, -, hD1⟩ := hB
  rw [ht] at hP1
  replace hD := hD1.weaken (fun _ _ _ h => hFc _ h)
  replace hP := hP1
  replace hS := hS2
  clear hP1 hD1 hS2 hFc hfc hz1 hk1 hvm ht
  refine lv_istore (lv' := [(4, .int r_4), (3, .int v_2), (0, .ref (a h0)), (1, .int x0), (2, .int x1)]) hx hb dX6_readNumber_9 hl (by decide) rfl (fun ls hl2 => ?_)
  replace hl := hl2
  clear hl2
  refine lv_iload hx hb dX6_readNumber_11 (lv_at hl 0 rfl) ?_
  refine lv_iload_n hx hb dX6_readNumber_13 rfl (lv_at hl 3 rfl) ?_
  refine de_cut (h := 29) (fun (x : St) => []) (fun x ls H locs => lv_has ls 5 [(4, .int r_4), (0, .ref (a h0))] ∧ va_P (dC, dI) vwCl (Wd cy a sh n x) H ∧ va_D A (Wd cy a sh n x) ∧ va_S A s.heap H locs) (fun x => fn_X6_readNumber_B29 F sh n h0 r_4 x) (z8, r8) ?_ (fun B29 => ?_)
  · intro x ls H locs hI hf
    obtain ⟨z_6, ez⟩ : ∃ w, w = x := ⟨_, rfl⟩
    subst ez
    obtain ⟨hl2, hP2, hD2, hS2⟩ := hI
    replace hl : lv_has ls 5 [(4, .int r_4), (0, .ref (a h0))] := hl2
    replace hP := hP2
    replace hD := hD2
    replace hS := hS2
    clear hl2 hP2 hD2 hS2
    replace hf := fn_X6_readNumber_B29_s hf
    refine W.eq (g2 := F0 m 29 ls []) rfl ?_
    refine lv_aload_n hx hb dX6_readNumber_29 rfl (lv_at hl 1 rfl) ?_
    refine va_get (D := (dC, dI)) (ci := 6) (v := .int (z_6.1 h0 1)) (C := RX6) (T := TX6) (N := 9) hx hb hts iwd_X6_readNumber_X6 hown hK hP h0 (Wd_ob kg_1 sg_1 (by decide)) rfl 1 (by decide) (hts _ md_X6_readNumber_2) (fun _ h9 => h9) (fl_at (t := 0) rfl) dX6_readNumber_30 ?_
    refine lv_if_ne (tgt := 41) hx hb dX6_readNumber_33 (by decide) (fun c_7 => ?_) (fun c_7 => ?_)
    · skip
      rw [if_neg c_7] at hf
      refine lv_iconst (v := 0) hx hb dX6_readNumber_41 (by decide) ?_
      obtain ⟨h8, h9⟩ := ret_some hf
      rw [h8, h9]
      exact W.iret (v := 0) hx hb hr (fun t ht hW => ⟨⟨0, (), rfl, rfl, by rw [ht]; exact hP, va_K.moved hW.alike hK, hD⟩, hS.F ht⟩) hS.2.2 dX6_readNumber_42
    · skip
      rw [if_pos c_7] at hf
      refine lv_iload hx hb dX6_readNumber_36 (lv_at hl 0 rfl) ?_
      refine lv_goto (tgt := 42) hx hb dX6_readNumber_38 (by decide) ?_
      obtain ⟨h8, h9⟩ := ret_some hf
      rw [h8, h9]
      exact W.iret (v := r_4) hx hb hr (fun t ht hW => ⟨⟨r_4, (), rfl, rfl, by rw [ht]; exact hP, va_K.moved hW.alike hK, hD⟩, hS.F ht⟩) hS.2.2 dX6_readNumber_42
  refine de_cut (h := 23) (fun (x : St) => []) (fun x ls H locs => lv_has ls 5 [(4, .int r_4), (3, .int v_2), (0, .ref (a h0))] ∧ va_P (dC, dI) vwCl (Wd cy a sh n x) H ∧ va_D A (Wd cy a sh n x) ∧ va_S A s.heap H locs) (fun x => fn_X6_readNumber_B23 F sh n h0 v_2 r_4 x) (z8, r8) ?_ (fun B23 => ?_)
  · intro x ls H locs hI hf
    obtain ⟨z_8, ez⟩ : ∃ w, w = x := ⟨_, rfl⟩
    subst ez
    obtain ⟨hl2, hP2, hD2, hS2⟩ := hI
    replace hl : lv_has ls 5 [(4, .int r_4), (3, .int v_2), (0, .ref (a h0))] := hl2
    replace hP := hP2
    replace hD := hD2
    replace hS := hS2
    clear hl2 hP2 hD2 hS2
    replace hf := fn_X6_readNumber_B23_s hf
    refine W.eq (g2 := F0 m 23 ls []) rfl ?_
    refine lv_aload_n hx hb dX6_readNumber_23 rfl (lv_at hl 2 rfl) ?_
    refine lv_iconst (v := 3) hx hb dX6_readNumber_24 (by decide) ?_
    refine lv_iload_n hx hb dX6_readNumber_25 rfl (lv_at hl 1 rfl) ?_
    obtain ⟨z_9, _u, hfc, hf⟩ := cal_some hf
    have hFc := de_free hD hS hA
    refine va_callv (va_runV (As := [.int 3, .int v_2]) (rest := []) ⟨hx, hb, hml, hown, hts⟩ (de_X6_fail l dC dI cy a sh n H.size F z_8 h0 3 v_2 hfc) (cwV 2 hts gX6_readNumber_X6_fail rfl rfl rfl (by decide +kernel) ⟨Nat.le_of_ble_eq_true rfl, Nat.le_of_ble_eq_true rfl⟩) ⟨fun a U g mk q => by obtain ⟨q0, q1, qP, qK, qD, qN⟩ := q; exact ⟨q0, q1, qP, va_K.moved (u := U) (U := U.calling g mk a) (Vm.Alike.refl U.vm) qK, qD, qN.same rfl⟩, va_recv hK hP (ci := 6) (q0 := h0) rfl (Wd_ob kg_1 sg_1 (by decide)), fun U hU hW => ⟨rfl, by rw [hU], by rw [hU]; exact hP, va_K.moved hW.alike hK, hD.weaken (fun _ _ _ _ => trivial), hN.warm hW⟩⟩ rfl rfl hl.1 rfl (lv_room (Nat.le_of_ble_eq_true rfl)) dX6_readNumber_26 ⟨Nat.le_of_ble_eq_true rfl, Nat.le_of_ble_eq_true rfl⟩) hS (fun q _ h => hFc q h) hFc (fun u t H_10 locs ht hvm hw hB hz1 hk1 hS2 => ?_)
    obtain ⟨hP1, -, hD1⟩ := hB
    rw [ht] at hP1
    replace hD := hD1.weaken (fun _ _ _ h => hFc _ h)
    replace hP := hP1
    replace hS := hS2
    clear hP1 hD1 hS2 hFc hfc hz1 hk1 hvm ht
    exact B29 (z_9) ls H_10 locs ⟨lv_sub hl [0, 2] rfl, hP, hD, hS⟩ hf
  refine lv_icmp_lt (tgt := 23) hx hb dX6_readNumber_14 (by decide) (fun c_11 => ?_) (fun c_11 => ?_)
  · skip
    rw [if_pos c_11] at hf
    exact B23 (z_3) ls H_5 locs ⟨lv_sub hl [0, 1, 2] rfl, hP, hD, hS⟩ hf
  · skip
    rw [if_neg c_11] at hf
    refine lv_iload hx hb dX6_readNumber_17 (lv_at hl 0 rfl) ?_
    refine lv_iload_n hx hb dX6_readNumber_19 rfl (lv_at hl 4 rfl) ?_
    refine lv_icmp_le (tgt := 29) hx hb dX6_readNumber_20 (by decide) (fun c_12 => ?_) (fun c_12 => ?_)
    · skip
      rw [if_pos c_12] at hf
      exact B29 (z_3) ls H_5 locs ⟨lv_sub hl [0, 2] rfl, hP, hD, hS⟩ hf
    · skip
      rw [if_neg c_12] at hf
      exact B23 (z_3) ls H_5 locs ⟨lv_sub hl [0, 1, 2] rfl, hP, hD, hS⟩ hf

theorem md_X16_over_1 : (.fieldLink RX16 50 "ResourceLedgerModel$Unit" "at" "I" : Cond) ∈ wsX16_over := List.mem_of_getElem? (i := 1) rfl
theorem iwd_X16_over_X16 : ∀ w ∈ wsX160, w ∈ wsX16_over := fun _ h => List.mem_cons_of_mem _ (List.mem_append_right _ h)
theorem md_X16_over_2 : (.fieldLink RX16 43 "ResourceLedgerModel$Unit" "length" "I" : Cond) ∈ wsX16_over := List.mem_of_getElem? (i := 2) rfl
set_option maxHeartbeats 4000000 in
set_option maxRecDepth 100000 in
theorem de_X16_over (l : Launch) (dC : Nat → ClassId) (dI : Nat → Nat → Nat) (cy : Nat → ClassId) (a : Nat → Nat) (sh : Nat → Nat × Nat) (n sz : Nat) (F : Nat) (z : St) (h0 : Nat) (x0 : Int32) {z8 : St} {r8 : Int32} (hf : fn_X16_over F sh n z h0 x0 = some (z8, r8)) : Met l yX16_over wsX16_over ({ frames := 1, cells := 0, slots := 0, locals := 22 }) (va_Pc [.ref (a h0), .int x0] (fun U => U.heap.size = sz ∧ va_P (dC, dI) vwCl (Wd cy a sh n z) U.heap ∧ va_K (dC, dI) vwCl (TYS cy) U ∧ va_D (fun _ => True) (Wd cy a sh n z) ∧ NK U)) (va_Qi (fun (r9 : Int32) (u : Unit) => r9 = r8) (fun u t => va_P (dC, dI) vwCl (Wd cy a sh n z8) t.heap ∧ va_K (dC, dI) vwCl (TYS cy) t ∧ va_D (va_A (Wd cy a sh n z) sz) (Wd cy a sh n z8)) (va_A (Wd cy a sh n z) sz)) 0 0 (va_A (Wd cy a sh n z) sz) := by
  refine Met.ofW (cc := cX16_over) (maxL := 3) (ret := (some .int)) (by decide) rfl ?_
  intro p e s m args below meth c s₁ B hml hv
  obtain ⟨rfl, hsz, hP, hK, hD0, hN⟩ := hv
  have hx := B.exec
  have hb := B.bytes
  have hr := B.returns
  have hts := atoms_spec (ws := wsX16_over) B.pre
  have hown : s.vm.findClass RX16 = some m.cls := findClass_of_methodNamed B.named
  have hlocks := B.notSynchronized
  subst hsz
  have hD := hD0.self (sz := s.heap.size)
  clear hD0
  generalize hAe : va_A (Wd cy a sh n z) s.heap.size = A at hD ⊢
  have hA : ∀ q : Nat, s.heap.size ≤ q → A q := fun q h => by rw [← hAe]; exact Or.inr h
  clear hAe
  have hS : va_S A s.heap s.heap [] := va_S.rf
  have hl := lv_entry ([.ref (a h0), .int x0]) (n := 3) (Nat.le_of_ble_eq_true rfl)
  rw [lg_entry_eq]
  generalize (lg_sl ([.ref (a h0), .int x0]) ++ List.replicate (3 - (lg_sl ([.ref (a h0), .int x0])).length) Slot.unset).toArray = ls at hl ⊢
  replace hl : lv_has ls 3 [(0, .ref (a h0)), (1, .int x0)] := hl
  unfold fn_X16_over at hf
  refine de_start hS hP (fun H locs hS hP => ?_)
  refine lv_aload_n hx hb dX16_over_0 rfl (lv_at hl 0 rfl) ?_
  obtain ⟨g_1, hf⟩ := grd_some hf
  obtain ⟨kg_1, sg_1⟩ := okO_at g_1
  refine va_get (D := (dC, dI)) (ci := 16) (v := .int (z.1 h0 2)) (C := RX16) (T := TX16) (N := 18) hx hb hts iwd_X16_over_X16 hown hK hP h0 (Wd_ob kg_1 sg_1 (by decide)) rfl 2 (by decide) (hts _ md_X16_over_1) (fun _ h9 => h9) (fl_at (t := 0) rfl) dX16_over_1 ?_
  refine lv_topi (fun v_2 ev_2 => ?_)
  replace hf := lt_at ev_2 hf
  clear ev_2
  refine lv_istore_n (lv' := [(2, .int v_2), (0, .ref (a h0)), (1, .int x0)]) hx hb dX16_over_4 rfl hl (by decide) rfl (fun ls hl2 => ?_)
  replace hl := hl2
  clear hl2
  refine lv_aload_n hx hb dX16_over_5 rfl (lv_at hl 1 rfl) ?_
  refine va_get (D := (dC, dI)) (ci := 16) (v := .int (z.1 h0 2)) (C := RX16) (T := TX16) (N := 18) hx hb hts iwd_X16_over_X16 hown hK hP h0 (Wd_ob kg_1 sg_1 (by decide)) rfl 2 (by decide) (hts _ md_X16_over_1) (fun _ h9 => h9) (fl_at (t := 0) rfl) dX16_over_6 ?_
  refine lv_iload_n hx hb dX16_over_9 rfl (lv_at hl 2 rfl) ?_
  refine lv_iadd hx hb dX16_over_10 ?_
  refine lv_aload_n hx hb dX16_over_11 rfl (lv_at hl 1 rfl) ?_
  refine va_get (D := (dC, dI)) (ci := 16) (v := .int (z.1 h0 1)) (C := RX16) (T := TX16) (N := 18) hx hb hts iwd_X16_over_X16 hown hK hP h0 (Wd_ob kg_1 sg_1 (by decide)) rfl 1 (by decide) (hts _ md_X16_over_2) (fun _ h9 => h9) (fl_at (t := 0) rfl) dX16_over_12 ?_
  refine lv_icmp_le (tgt := 30) hx hb dX16_over_15 (by decide) (fun c_3 => ?_) (fun c_3 => ?_)
  · skip
    rw [if_pos c_3] at hf
    refine lv_aload_n hx hb dX16_over_30 rfl (lv_at hl 1 rfl) ?_
    refine lv_dup hx hb dX16_over_31 rfl ?_
    refine va_get (D := (dC, dI)) (ci := 16) (v := .int (z.1 h0 2)) (C := RX16) (T := TX16) (N := 18) hx hb hts iwd_X16_over_X16 hown hK hP h0 (Wd_ob kg_1 sg_1 (by decide)) rfl 2 (by decide) (hts _ md_X16_over_1) (fun _ h9 => h9) (fl_at (t := 0) rfl) dX16_over_32 ?_
    refine lv_iload_n hx hb dX16_over_35 rfl (lv_at hl 2 rfl) ?_
    refine lv_iadd hx hb dX16_over_36 ?_
    refine va_put (D := (dC, dI)) (ci := 16) (v := .int ((z.1 h0 2) + x0)) (ty := .int) (C := RX16) (T := TX16) (N := 18) hx hb hts iwd_X16_over_X16 tyX16 tyX16_ok nmX16 hown hK hP hD hS h0 (Wd_ob kg_1 sg_1 (by decide)) rfl 2 (by decide) (hts _ md_X16_over_1) (fun _ h9 => h9) rfl (by decide +kernel) rfl rfl (by rw [fl_len]; decide) dX16_over_37 (fun H_4 locs hP2 hD2 hS2 => ?_)
    rw [Wd_si sg_1 (by decide) rfl] at hP2 hD2
    obtain ⟨z_5, ez_5⟩ : ∃ w, w = si z h0 2 ((z.1 h0 2) + x0) := ⟨_, rfl⟩
    rw [← ez_5] at hP2 hD2
    replace hf := lt_at ez_5 hf
    clear ez_5
    replace hP := hP2
    replace hD := hD2
    replace hS := hS2
    clear hP2 hD2 hS2
    refine lv_iload_n hx hb dX16_over_40 rfl (lv_at hl 0 rfl) ?_
    obtain ⟨h8, h9⟩ := ret_some hf
    rw [h8, h9]
    exact W.iret (v := v_2) hx hb hr (fun t ht hW => ⟨⟨v_2, (), rfl, rfl, by rw [ht]; exact hP, va_K.moved hW.alike hK, hD⟩, hS.F ht⟩) hS.2.2 dX16_over_41
  · skip
    rw [if_neg c_3] at hf
    refine lv_aload_n hx hb dX16_over_18 rfl (lv_at hl 1 rfl) ?_
    refine lv_iconst (v := 2) hx hb dX16_over_19 (by decide) ?_
    refine lv_aload_n hx hb dX16_over_20 rfl (lv_at hl 1 rfl) ?_
    refine va_get (D := (dC, dI)) (ci := 16) (v := .int (z.1 h0 1)) (C := RX16) (T := TX16) (N := 18) hx hb hts iwd_X16_over_X16 hown hK hP h0 (Wd_ob kg_1 sg_1 (by decide)) rfl 1 (by decide) (hts _ md_X16_over_2) (fun _ h9 => h9) (fl_at (t := 0) rfl) dX16_over_21 ?_
    obtain ⟨z_6, _u, hfc, hf⟩ := cal_some hf
    have hFc := de_free hD hS hA
    refine va_callv (va_runV (As := [.int 2, .int (z.1 h0 1)]) (rest := []) ⟨hx, hb, hml, hown, hts⟩ (de_X16_fail l dC dI cy a sh n H.size F z h0 2 (z.1 h0 1) hfc) (cwV 2 hts gX16_over_X16_fail rfl rfl rfl (by decide +kernel) ⟨Nat.le_of_ble_eq_true rfl, Nat.le_of_ble_eq_true rfl⟩) ⟨fun a U g mk q => by obtain ⟨q0, q1, qP, qK, qD, qN⟩ := q; exact ⟨q0, q1, qP, va_K.moved (u := U) (U := U.calling g mk a) (Vm.Alike.refl U.vm) qK, qD, qN.same rfl⟩, va_recv hK hP (ci := 16) (q0 := h0) rfl (Wd_ob kg_1 sg_1 (by decide)), fun U hU hW => ⟨rfl, by rw [hU], by rw [hU]; exact hP, va_K.moved hW.alike hK, hD.weaken (fun _ _ _ _ => trivial), hN.warm hW⟩⟩ rfl rfl hl.1 rfl (lv_room (Nat.le_of_ble_eq_true rfl)) dX16_over_24 ⟨Nat.le_of_ble_eq_true rfl, Nat.le_of_ble_eq_true rfl⟩) hS (fun q _ h => hFc q h) hFc (fun u t H_7 locs ht hvm hw hB hz1 hk1 hS2 => ?_)
    obtain ⟨hP1, -, hD1⟩ := hB
    rw [ht] at hP1
    replace hD := hD1.weaken (fun _ _ _ h => hFc _ h)
    replace hP := hP1
    replace hS := hS2
    clear hP1 hD1 hS2 hFc hfc hz1 hk1 hvm ht
    refine lv_goto (tgt := 40) hx hb dX16_over_27 (by decide) ?_
    refine lv_iload_n hx hb dX16_over_40 rfl (lv_at hl 0 rfl) ?_
    obtain ⟨h8, h9⟩ := ret_some hf
    rw [h8, h9]
    exact W.iret (v := v_2) hx hb hr (fun t ht hW => ⟨⟨v_2, (), rfl, rfl, by rw [ht]; exact hP, va_K.moved hW.alike hK, hD⟩, hS.F ht⟩) hS.2.2 dX16_over_41

theorem md_X16_lookOwn_1 : (.fieldLink RX16 92 "ResourceLedgerModel$Unit" "structures" "I" : Cond) ∈ wsX16_lookOwn := List.mem_of_getElem? (i := 1) rfl
theorem iwd_X16_lookOwn_X16 : ∀ w ∈ wsX160, w ∈ wsX16_lookOwn := fun _ h => List.mem_cons_of_mem _ (List.mem_append_right _ h)
theorem md_X16_lookOwn_2 : (.fieldLink RX16 95 "ResourceLedgerModel$Unit" "foreigns" "I" : Cond) ∈ wsX16_lookOwn := List.mem_of_getElem? (i := 2) rfl
set_option maxHeartbeats 4000000 in
set_option maxRecDepth 100000 in
theorem de_X16_lookOwn (l : Launch) (dC : Nat → ClassId) (dI : Nat → Nat → Nat) (cy : Nat → ClassId) (a : Nat → Nat) (sh : Nat → Nat × Nat) (n sz : Nat) (F : Nat) (z : St) (h0 : Nat) (x0 : Int32) {z8 : St} {r8 : Unit} (hf : fn_X16_lookOwn F sh n z h0 x0 = some (z8, r8)) : Met l yX16_lookOwn wsX16_lookOwn ({ frames := 1, cells := 0, slots := 0, locals := 22 }) (va_Pc [.ref (a h0), .int x0] (fun U => U.heap.size = sz ∧ va_P (dC, dI) vwCl (Wd cy a sh n z) U.heap ∧ va_K (dC, dI) vwCl (TYS cy) U ∧ va_D (fun _ => True) (Wd cy a sh n z) ∧ NK U)) (va_Qv (fun u : Unit => True) (fun u t => va_P (dC, dI) vwCl (Wd cy a sh n z8) t.heap ∧ va_K (dC, dI) vwCl (TYS cy) t ∧ va_D (va_A (Wd cy a sh n z) sz) (Wd cy a sh n z8)) (va_A (Wd cy a sh n z) sz)) 0 0 (va_A (Wd cy a sh n z) sz) := by
  refine Met.ofW (cc := cX16_lookOwn) (maxL := 2) (ret := none) (by decide) rfl ?_
  intro p e s m args below meth c s₁ B hml hv
  obtain ⟨rfl, hsz, hP, hK, hD0, hN⟩ := hv
  have hx := B.exec
  have hb := B.bytes
  have hr := B.returns
  have hts := atoms_spec (ws := wsX16_lookOwn) B.pre
  have hown : s.vm.findClass RX16 = some m.cls := findClass_of_methodNamed B.named
  have hlocks := B.notSynchronized
  subst hsz
  have hD := hD0.self (sz := s.heap.size)
  clear hD0
  generalize hAe : va_A (Wd cy a sh n z) s.heap.size = A at hD ⊢
  have hA : ∀ q : Nat, s.heap.size ≤ q → A q := fun q h => by rw [← hAe]; exact Or.inr h
  clear hAe
  have hS : va_S A s.heap s.heap [] := va_S.rf
  have hl := lv_entry ([.ref (a h0), .int x0]) (n := 2) (Nat.le_of_ble_eq_true rfl)
  rw [lg_entry_eq]
  generalize (lg_sl ([.ref (a h0), .int x0]) ++ List.replicate (2 - (lg_sl ([.ref (a h0), .int x0])).length) Slot.unset).toArray = ls at hl ⊢
  replace hl : lv_has ls 2 [(0, .ref (a h0)), (1, .int x0)] := hl
  unfold fn_X16_lookOwn at hf
  refine de_start hS hP (fun H locs hS hP => ?_)
  refine lv_aload_n hx hb dX16_lookOwn_0 rfl (lv_at hl 0 rfl) ?_
  refine lv_iload_n hx hb dX16_lookOwn_1 rfl (lv_at hl 1 rfl) ?_
  obtain ⟨g_3, hf⟩ := grd_some hf
  obtain ⟨kg_3, sg_3⟩ := okO_at g_3
  obtain ⟨z_1, r_2, hfc, hf⟩ := cal_some hf
  have hFc := de_free hD hS hA
  refine va_calli (va_runV (As := [.int x0]) (rest := []) ⟨hx, hb, hml, hown, hts⟩ (de_X16_byteAt l dC dI cy a sh n H.size F z h0 x0 hfc) (cwV 1 hts gX16_lookOwn_X16_byteAt rfl rfl rfl (by decide +kernel) ⟨Nat.le_of_ble_eq_true rfl, Nat.le_of_ble_eq_true rfl⟩) ⟨fun a U g mk q => by obtain ⟨q0, q1, qP, qK, qD, qN⟩ := q; exact ⟨q0, q1, qP, va_K.moved (u := U) (U := U.calling g mk a) (Vm.Alike.refl U.vm) qK, qD, qN.same rfl⟩, va_recv hK hP (ci := 16) (q0 := h0) rfl (Wd_ob kg_3 sg_3 (by decide)), fun U hU hW => ⟨rfl, by rw [hU], by rw [hU]; exact hP, va_K.moved hW.alike hK, hD.weaken (fun _ _ _ _ => trivial), hN.warm hW⟩⟩ rfl rfl hl.1 rfl (lv_room (Nat.le_of_ble_eq_true rfl)) dX16_lookOwn_2 ⟨Nat.le_of_ble_eq_true rfl, Nat.le_of_ble_eq_true rfl⟩) hS (fun q _ h => hFc q h) hFc (fun rr u t H_4 locs ht hvm hw hB hz1 hk1 hS2 => ?_)
  rw [hw]
  clear hw
  obtain ⟨hP1, -, hD1⟩ := hB
  rw [ht] at hP1
  replace hD := hD1.weaken (fun _ _ _ h => hFc _ h)
  replace hP := hP1
  replace hS := hS2
  clear hP1 hD1 hS2 hFc hfc hz1 hk1 hvm ht
  refine lv_aload_n hx hb dX16_lookOwn_5 rfl (lv_at hl 0 rfl) ?_
  refine va_get (D := (dC, dI)) (ci := 16) (v := .int (z_1.1 h0 5)) (C := RX16) (T := TX16) (N := 18) hx hb hts iwd_X16_lookOwn_X16 hown hK hP h0 (Wd_ob kg_3 sg_3 (by decide)) rfl 5 (by decide) (hts _ md_X16_lookOwn_1) (fun _ h9 => h9) (fl_at (t := 0) rfl) dX16_lookOwn_6 ?_
  refine lv_aload_n hx hb dX16_lookOwn_9 rfl (lv_at hl 0 rfl) ?_
  refine va_get (D := (dC, dI)) (ci := 16) (v := .int (z_1.1 h0 6)) (C := RX16) (T := TX16) (N := 18) hx hb hts iwd_X16_lookOwn_X16 hown hK hP h0 (Wd_ob kg_3 sg_3 (by decide)) rfl 6 (by decide) (hts _ md_X16_lookOwn_2) (fun _ h9 => h9) (fl_at (t := 0) rfl) dX16_lookOwn_10 ?_
  refine lv_iadd hx hb dX16_lookOwn_13 ?_
  refine lv_icmp_lt (tgt := 27) hx hb dX16_lookOwn_14 (by decide) (fun c_5 => ?_) (fun c_5 => ?_)
  · skip
    rw [if_pos c_5] at hf
    refine lv_aload_n hx hb dX16_lookOwn_27 rfl (lv_at hl 0 rfl) ?_
    refine lv_iload_n hx hb dX16_lookOwn_28 rfl (lv_at hl 1 rfl) ?_
    obtain ⟨z_6, r_7, hfc, hf⟩ := cal_some hf
    have hFc := de_free hD hS hA
    refine va_calli (va_runV (As := [.int x0]) (rest := []) ⟨hx, hb, hml, hown, hts⟩ (de_X16_byteAt l dC dI cy a sh n H_4.size F z_1 h0 x0 hfc) (cwV 1 hts gX16_lookOwn_X16_byteAt rfl rfl rfl (by decide +kernel) ⟨Nat.le_of_ble_eq_true rfl, Nat.le_of_ble_eq_true rfl⟩) ⟨fun a U g mk q => by obtain ⟨q0, q1, qP, qK, qD, qN⟩ := q; exact ⟨q0, q1, qP, va_K.moved (u := U) (U := U.calling g mk a) (Vm.Alike.refl U.vm) qK, qD, qN.same rfl⟩, va_recv hK hP (ci := 16) (q0 := h0) rfl (Wd_ob kg_3 sg_3 (by decide)), fun U hU hW => ⟨rfl, by rw [hU], by rw [hU]; exact hP, va_K.moved hW.alike hK, hD.weaken (fun _ _ _ _ => trivial), hN.warm hW⟩⟩ rfl rfl hl.1 rfl (lv_room (Nat.le_of_ble_eq_true rfl)) dX16_lookOwn_29 ⟨Nat.le_of_ble_eq_true rfl, Nat.le_of_ble_eq_true rfl⟩) hS (fun q _ h => hFc q h) hFc (fun rr u t H_8 locs ht hvm hw hB hz1 hk1 hS2 => ?_)
    rw [hw]
    clear hw
    obtain ⟨hP1, -, hD1⟩ := hB
    rw [ht] at hP1
    replace hD := hD1.weaken (fun _ _ _ h => hFc _ h)
    replace hP := hP1
    replace hS := hS2
    clear hP1 hD1 hS2 hFc hfc hz1 hk1 hvm ht
    refine lv_aload_n hx hb dX16_lookOwn_32 rfl (lv_at hl 0 rfl) ?_
    refine va_get (D := (dC, dI)) (ci := 16) (v := .int (z_6.1 h0 5)) (C := RX16) (T := TX16) (N := 18) hx hb hts iwd_X16_lookOwn_X16 hown hK hP h0 (Wd_ob kg_3 sg_3 (by decide)) rfl 5 (by decide) (hts _ md_X16_lookOwn_1) (fun _ h9 => h9) (fl_at (t := 0) rfl) dX16_lookOwn_33 ?_
    refine lv_icmp_lt (tgt := 46) hx hb dX16_lookOwn_36 (by decide) (fun c_9 => ?_) (fun c_9 => ?_)
    · skip
      rw [if_pos c_9] at hf
      obtain ⟨h8, h9⟩ := ret_some hf
      rw [h8]
      exact W.vret hx hb hr (fun t ht hW => ⟨⟨(), rfl, trivial, by rw [ht]; exact hP, va_K.moved hW.alike hK, hD⟩, hS.F ht⟩) hS.2.2 dX16_lookOwn_46
    · skip
      rw [if_neg c_9] at hf
      refine lv_aload_n hx hb dX16_lookOwn_39 rfl (lv_at hl 0 rfl) ?_
      refine lv_bipush (v := 8) hx hb dX16_lookOwn_40 (by decide) ?_
      refine lv_iload_n hx hb dX16_lookOwn_42 rfl (lv_at hl 1 rfl) ?_
      obtain ⟨z_10, _u, hfc, hf⟩ := cal_some hf
      have hFc := de_free hD hS hA
      refine va_callv (va_runV (As := [.int 8, .int x0]) (rest := []) ⟨hx, hb, hml, hown, hts⟩ (de_X16_fail l dC dI cy a sh n H_8.size F z_6 h0 8 x0 hfc) (cwV 2 hts gX16_lookOwn_X16_fail rfl rfl rfl (by decide +kernel) ⟨Nat.le_of_ble_eq_true rfl, Nat.le_of_ble_eq_true rfl⟩) ⟨fun a U g mk q => by obtain ⟨q0, q1, qP, qK, qD, qN⟩ := q; exact ⟨q0, q1, qP, va_K.moved (u := U) (U := U.calling g mk a) (Vm.Alike.refl U.vm) qK, qD, qN.same rfl⟩, va_recv hK hP (ci := 16) (q0 := h0) rfl (Wd_ob kg_3 sg_3 (by decide)), fun U hU hW => ⟨rfl, by rw [hU], by rw [hU]; exact hP, va_K.moved hW.alike hK, hD.weaken (fun _ _ _ _ => trivial), hN.warm hW⟩⟩ rfl rfl hl.1 rfl (lv_room (Nat.le_of_ble_eq_true rfl)) dX16_lookOwn_43 ⟨Nat.le_of_ble_eq_true rfl, Nat.le_of_ble_eq_true rfl⟩) hS (fun q _ h => hFc q h) hFc (fun u t H_11 locs ht hvm hw hB hz1 hk1 hS2 => ?_)
      obtain ⟨hP1, -, hD1⟩ := hB
      rw [ht] at hP1
      replace hD := hD1.weaken (fun _ _ _ h => hFc _ h)
      replace hP := hP1
      replace hS := hS2
      clear hP1 hD1 hS2 hFc hfc hz1 hk1 hvm ht
      obtain ⟨h8, h9⟩ := ret_some hf
      rw [h8]
      exact W.vret hx hb hr (fun t ht hW => ⟨⟨(), rfl, trivial, by rw [ht]; exact hP, va_K.moved hW.alike hK, hD⟩, hS.F ht⟩) hS.2.2 dX16_lookOwn_46
  · skip
    rw [if_neg c_5] at hf
    refine lv_aload_n hx hb dX16_lookOwn_17 rfl (lv_at hl 0 rfl) ?_
    refine lv_bipush (v := 7) hx hb dX16_lookOwn_18 (by decide) ?_
    refine lv_iload_n hx hb dX16_lookOwn_20 rfl (lv_at hl 1 rfl) ?_
    obtain ⟨z_12, _u, hfc, hf⟩ := cal_some hf
    have hFc := de_free hD hS hA
    refine va_callv (va_runV (As := [.int 7, .int x0]) (rest := []) ⟨hx, hb, hml, hown, hts⟩ (de_X16_fail l dC dI cy a sh n H_4.size F z_1 h0 7 x0 hfc) (cwV 2 hts gX16_lookOwn_X16_fail rfl rfl rfl (by decide +kernel) ⟨Nat.le_of_ble_eq_true rfl, Nat.le_of_ble_eq_true rfl⟩) ⟨fun a U g mk q => by obtain ⟨q0, q1, qP, qK, qD, qN⟩ := q; exact ⟨q0, q1, qP, va_K.moved (u := U) (U := U.calling g mk a) (Vm.Alike.refl U.vm) qK, qD, qN.same rfl⟩, va_recv hK hP (ci := 16) (q0 := h0) rfl (Wd_ob kg_3 sg_3 (by decide)), fun U hU hW => ⟨rfl, by rw [hU], by rw [hU]; exact hP, va_K.moved hW.alike hK, hD.weaken (fun _ _ _ _ => trivial), hN.warm hW⟩⟩ rfl rfl hl.1 rfl (lv_room (Nat.le_of_ble_eq_true rfl)) dX16_lookOwn_21 ⟨Nat.le_of_ble_eq_true rfl, Nat.le_of_ble_eq_true rfl⟩) hS (fun q _ h => hFc q h) hFc (fun u t H_13 locs ht hvm hw hB hz1 hk1 hS2 => ?_)
    obtain ⟨hP1, -, hD1⟩ := hB
    rw [ht] at hP1
    replace hD := hD1.weaken (fun _ _ _ h => hFc _ h)
    replace hP := hP1
    replace hS := hS2
    clear hP1 hD1 hS2 hFc hfc hz1 hk1 hvm ht
    refine lv_goto (tgt := 46) hx hb dX16_lookOwn_24 (by decide) ?_
    obtain ⟨h8, h9⟩ := ret_some hf
    rw [h8]
    exact W.vret hx hb hr (fun t ht hW => ⟨⟨(), rfl, trivial, by rw [ht]; exact hP, va_K.moved hW.alike hK, hD⟩, hS.F ht⟩) hS.2.2 dX16_lookOwn_46

theorem md_X18_account_2 : (.fieldLink RX18 519 "ResourceLedgerModel" "sequences" "[J" : Cond) ∈ wsX18_account := List.mem_of_getElem? (i := 2) rfl
theorem iwd_X18_account_X18 : ∀ w ∈ wsX180, w ∈ wsX18_account := fun _ h => List.mem_cons_of_mem _ (List.mem_append_right _ h)
theorem md_X18_account_1 : (.fieldLink RX18 303 "ResourceLedgerModel" "balances" "[J" : Cond) ∈ wsX18_account := List.mem_of_getElem? (i := 1) rfl
set_option maxHeartbeats 4000000 in
set_option maxRecDepth 100000 in
theorem de_X18_account (l : Launch) (dC : Nat → ClassId) (dI : Nat → Nat → Nat) (cy : Nat → ClassId) (a : Nat → Nat) (sh : Nat → Nat × Nat) (n sz : Nat) (F : Nat) (z : St) (h0 : Nat) (x0 : Int64) (x1 : Int32) {z8 : St} {r8 : Int64} (hf : fn_X18_account F sh n z h0 x0 x1 = some (z8, r8)) : Met l yX18_account wsX18_account ({ frames := 1, cells := 0, slots := 0, locals := 23 }) (va_Pc [.ref (a h0), .long x0, .int x1] (fun U => U.heap.size = sz ∧ va_P (dC, dI) vwCl (Wd cy a sh n z) U.heap ∧ va_K (dC, dI) vwCl (TYS cy) U ∧ va_D (fun _ => True) (Wd cy a sh n z) ∧ NK U)) (va_Ql (fun (r9 : Int64) (u : Unit) => r9 = r8) (fun u t => va_P (dC, dI) vwCl (Wd cy a sh n z8) t.heap ∧ va_K (dC, dI) vwCl (TYS cy) t ∧ va_D (va_A (Wd cy a sh n z) sz) (Wd cy a sh n z8)) (va_A (Wd cy a sh n z) sz)) 0 0 (va_A (Wd cy a sh n z) sz) := by
  refine Met.ofW (cc := cX18_account) (maxL := 5) (ret := (some .long)) (by decide) rfl ?_
  intro p e s m args below meth c s₁ B hml hv
  obtain ⟨rfl, hsz, hP, hK, hD0, hN⟩ := hv
  have hx := B.exec
  have hb := B.bytes
  have hr := B.returns
  have hts := atoms_spec (ws := wsX18_account) B.pre
  have hown : s.vm.findClass RX18 = some m.cls := findClass_of_methodNamed B.named
  have hlocks := B.notSynchronized
  subst hsz
  have hD := hD0.self (sz := s.heap.size)
  clear hD0
  generalize hAe : va_A (Wd cy a sh n z) s.heap.size = A at hD ⊢
  have hA : ∀ q : Nat, s.heap.size ≤ q → A q := fun q h => by rw [← hAe]; exact Or.inr h
  clear hAe
  have hS : va_S A s.heap s.heap [] := va_S.rf
  have hl := lv_entry ([.ref (a h0), .long x0, .int x1]) (n := 5) (Nat.le_of_ble_eq_true rfl)
  rw [lg_entry_eq]
  generalize (lg_sl ([.ref (a h0), .long x0, .int x1]) ++ List.replicate (5 - (lg_sl ([.ref (a h0), .long x0, .int x1])).length) Slot.unset).toArray = ls at hl ⊢
  replace hl : lv_has ls 5 [(0, .ref (a h0)), (1, .long x0), (3, .int x1)] := hl
  unfold fn_X18_account at hf
  refine de_start hS hP (fun H locs hS hP => ?_)
  refine lv_aload_n hx hb dX18_account_0 rfl (lv_at hl 0 rfl) ?_
  refine lv_lload_n hx hb dX18_account_1 rfl (lv_at hl 1 rfl) ?_
  obtain ⟨g_3, hf⟩ := grd_some hf
  obtain ⟨kg_3, sg_3⟩ := okO_at g_3
  obtain ⟨z_1, r_2, hfc, hf⟩ := cal_some hf
  have hFc := de_free hD hS hA
  refine va_calli (va_runV (As := [.long x0]) (rest := []) ⟨hx, hb, hml, hown, hts⟩ (de_X18_findAccount l dC dI cy a sh n H.size F z h0 x0 hfc) (cwV 1 hts gX18_account_X18_findAccount rfl rfl rfl (by decide +kernel) ⟨Nat.le_of_ble_eq_true rfl, Nat.le_of_ble_eq_true rfl⟩) ⟨fun a U g mk q => by obtain ⟨q0, q1, qP, qK, qD, qN⟩ := q; exact ⟨q0, q1, qP, va_K.moved (u := U) (U := U.calling g mk a) (Vm.Alike.refl U.vm) qK, qD, qN.same rfl⟩, va_recv hK hP (ci := 18) (q0 := h0) rfl (Wd_ob kg_3 sg_3 (by decide)), fun U hU hW => ⟨rfl, by rw [hU], by rw [hU]; exact hP, va_K.moved hW.alike hK, hD.weaken (fun _ _ _ _ => trivial), hN.warm hW⟩⟩ rfl rfl hl.1 rfl (lv_room (Nat.le_of_ble_eq_true rfl)) dX18_account_2 ⟨Nat.le_of_ble_eq_true rfl, Nat.le_of_ble_eq_true rfl⟩) hS (fun q _ h => hFc q h) hFc (fun rr u t H_4 locs ht hvm hw hB hz1 hk1 hS2 => ?_)
  rw [hw]
  clear hw
  obtain ⟨hP1, -, hD1⟩ := hB
  rw [ht] at hP1
  replace hD := hD1.weaken (fun _ _ _ h => hFc _ h)
  replace hP := hP1
  replace hS := hS2
  clear hP1 hD1 hS2 hFc hfc hz1 hk1 hvm ht
  refine lv_istore (lv' := [(4, .int r_2), (0, .ref (a h0)), (1, .long x0), (3, .int x1)]) hx hb dX18_account_5 hl (by decide) rfl (fun ls hl2 => ?_)
  replace hl := hl2
  clear hl2
  refine lv_iload hx hb dX18_account_7 (lv_at hl 0 rfl) ?_
  refine lv_if_ge (tgt := 16) hx hb dX18_account_9 (by decide) (fun c_5 => ?_) (fun c_5 => ?_)
  · skip
    rw [if_pos c_5] at hf
    refine lv_iload_n hx hb dX18_account_16 rfl (lv_at hl 3 rfl) ?_
    refine lv_if_ne (tgt := 30) hx hb dX18_account_17 (by decide) (fun c_6 => ?_) (fun c_6 => ?_)
    · skip
      rw [if_neg c_6] at hf
      refine lv_iload_n hx hb dX18_account_30 rfl (lv_at hl 3 rfl) ?_
      refine lv_iconst (v := 1) hx hb dX18_account_31 (by decide) ?_
      refine lv_icmp_ne (tgt := 45) hx hb dX18_account_32 (by decide) (fun c_7 => ?_) (fun c_7 => ?_)
      · skip
        rw [if_neg c_7] at hf
        refine lv_lconst (v := 0) hx hb dX18_account_45 (by decide) ?_
        obtain ⟨h8, h9⟩ := ret_some hf
        rw [h8, h9]
        exact W.lret (v := 0) hx hb hr (fun t ht hW => ⟨⟨0, (), rfl, rfl, by rw [ht]; exact hP, va_K.moved hW.alike hK, hD⟩, hS.F ht⟩) hS.2.2 dX18_account_46
      · skip
        rw [if_pos c_7] at hf
        refine lv_aload_n hx hb dX18_account_35 rfl (lv_at hl 1 rfl) ?_
        obtain ⟨k_8, ek_8, hf⟩ := lnk_some hf
        refine va_get (D := (dC, dI)) (ci := 18) (v := .ref (a k_8)) (C := RX18) (T := TX18) (N := 78) hx hb hts iwd_X18_account_X18 hown hK hP h0 (Wd_ob kg_3 sg_3 (by decide)) rfl 2 (by decide) (hts _ md_X18_account_2) (fun _ h9 => h9) (fl_q rfl ek_8) dX18_account_36 ?_
        refine lv_iload hx hb dX18_account_39 (lv_at hl 0 rfl) ?_
        obtain ⟨g_9, hf⟩ := grd_some hf
        obtain ⟨kg_9, sg_9, ig_9⟩ := okA_at g_9
        refine va_lald hx hb hK hP k_8 2 (Wd_al kg_9 sg_9) rfl ig_9 dX18_account_41 ?_
        refine lv_goto (tgt := 46) hx hb dX18_account_42 (by decide) ?_
        obtain ⟨h8, h9⟩ := ret_some hf
        rw [h8, h9]
        exact W.lret (v := (z_1.2.1 k_8 r_2.toNatClampNeg)) hx hb hr (fun t ht hW => ⟨⟨(z_1.2.1 k_8 r_2.toNatClampNeg), (), rfl, rfl, by rw [ht]; exact hP, va_K.moved hW.alike hK, hD⟩, hS.F ht⟩) hS.2.2 dX18_account_46
    · skip
      rw [if_pos c_6] at hf
      refine lv_aload_n hx hb dX18_account_20 rfl (lv_at hl 1 rfl) ?_
      obtain ⟨k_10, ek_10, hf⟩ := lnk_some hf
      refine va_get (D := (dC, dI)) (ci := 18) (v := .ref (a k_10)) (C := RX18) (T := TX18) (N := 78) hx hb hts iwd_X18_account_X18 hown hK hP h0 (Wd_ob kg_3 sg_3 (by decide)) rfl 1 (by decide) (hts _ md_X18_account_1) (fun _ h9 => h9) (fl_q rfl ek_10) dX18_account_21 ?_
      refine lv_iload hx hb dX18_account_24 (lv_at hl 0 rfl) ?_
      obtain ⟨g_11, hf⟩ := grd_some hf
      obtain ⟨kg_11, sg_11, ig_11⟩ := okA_at g_11
      refine va_lald hx hb hK hP k_10 2 (Wd_al kg_11 sg_11) rfl ig_11 dX18_account_26 ?_
      refine lv_goto (tgt := 46) hx hb dX18_account_27 (by decide) ?_
      obtain ⟨h8, h9⟩ := ret_some hf
      rw [h8, h9]
      exact W.lret (v := (z_1.2.1 k_10 r_2.toNatClampNeg)) hx hb hr (fun t ht hW => ⟨⟨(z_1.2.1 k_10 r_2.toNatClampNeg), (), rfl, rfl, by rw [ht]; exact hP, va_K.moved hW.alike hK, hD⟩, hS.F ht⟩) hS.2.2 dX18_account_46
  · skip
    rw [if_neg c_5] at hf
    refine lv_lconst (v := 0) hx hb dX18_account_12 (by decide) ?_
    refine lv_goto (tgt := 46) hx hb dX18_account_13 (by decide) ?_
    obtain ⟨h8, h9⟩ := ret_some hf
    rw [h8, h9]
    exact W.lret (v := 0) hx hb hr (fun t ht hW => ⟨⟨0, (), rfl, rfl, by rw [ht]; exact hP, va_K.moved hW.alike hK, hD⟩, hS.F ht⟩) hS.2.2 dX18_account_46

theorem md_X18_places_3 : (.fieldLink RX18 1 "ResourceLedgerModel" "accounts" "I" : Cond) ∈ wsX18_places := List.mem_of_getElem? (i := 3) rfl
theorem iwd_X18_places_X18 : ∀ w ∈ wsX180, w ∈ wsX18_places := fun _ h => List.mem_cons_of_mem _ (List.mem_append_right _ h)
theorem md_X18_places_2 : (.fieldLink RX18 10 "ResourceLedgerModel" "resources" "I" : Cond) ∈ wsX18_places := List.mem_of_getElem? (i := 2) rfl
theorem md_X18_places_1 : (.fieldLink RX18 7 "ResourceLedgerModel" "modules" "I" : Cond) ∈ wsX18_places := List.mem_of_getElem? (i := 1) rfl
set_option maxHeartbeats 4000000 in
set_option maxRecDepth 100000 in
theorem de_X18_places (l : Launch) (dC : Nat → ClassId) (dI : Nat → Nat → Nat) (cy : Nat → ClassId) (a : Nat → Nat) (sh : Nat → Nat × Nat) (n sz : Nat) (F : Nat) (z : St) (h0 : Nat) (x0 : Int32) {z8 : St} {r8 : Int32} (hf : fn_X18_places F sh n z h0 x0 = some (z8, r8)) : Met l yX18_places wsX18_places ({ frames := 1, cells := 0, slots := 0, locals := 20 }) (va_Pc [.ref (a h0), .int x0] (fun U => U.heap.size = sz ∧ va_P (dC, dI) vwCl (Wd cy a sh n z) U.heap ∧ va_K (dC, dI) vwCl (TYS cy) U ∧ va_D (fun _ => True) (Wd cy a sh n z) ∧ NK U)) (va_Qi (fun (r9 : Int32) (u : Unit) => r9 = r8) (fun u t => va_P (dC, dI) vwCl (Wd cy a sh n z8) t.heap ∧ va_K (dC, dI) vwCl (TYS cy) t ∧ va_D (va_A (Wd cy a sh n z) sz) (Wd cy a sh n z8)) (va_A (Wd cy a sh n z) sz)) 0 0 (va_A (Wd cy a sh n z) sz) := by
  refine Met.ofW (cc := cX18_places) (maxL := 2) (ret := (some .int)) (by decide) rfl ?_
  intro p e s m args below meth c s₁ B hml hv
  obtain ⟨rfl, hsz, hP, hK, hD0, hN⟩ := hv
  have hx := B.exec
  have hb := B.bytes
  have hr := B.returns
  have hts := atoms_spec (ws := wsX18_places) B.pre
  have hown : s.vm.findClass RX18 = some m.cls := findClass_of_methodNamed B.named
  have hlocks := B.notSynchronized
  subst hsz
  have hD := hD0.self (sz := s.heap.size)
  clear hD0
  generalize hAe : va_A (Wd cy a sh n z) s.heap.size = A at hD ⊢
  have hA : ∀ q : Nat, s.heap.size ≤ q → A q := fun q h => by rw [← hAe]; exact Or.inr h
  clear hAe
  have hS : va_S A s.heap s.heap [] := va_S.rf
  have hl := lv_entry ([.ref (a h0), .int x0]) (n := 2) (Nat.le_of_ble_eq_true rfl)
  rw [lg_entry_eq]
  generalize (lg_sl ([.ref (a h0), .int x0]) ++ List.replicate (2 - (lg_sl ([.ref (a h0), .int x0])).length) Slot.unset).toArray = ls at hl ⊢
  replace hl : lv_has ls 2 [(0, .ref (a h0)), (1, .int x0)] := hl
  unfold fn_X18_places at hf
  refine de_start hS hP (fun H locs hS hP => ?_)
  refine lv_iload_n hx hb dX18_places_0 rfl (lv_at hl 1 rfl) ?_
  refine lv_if_ne (tgt := 11) hx hb dX18_places_1 (by decide) (fun c_1 => ?_) (fun c_1 => ?_)
  · skip
    rw [if_neg c_1] at hf
    refine lv_iload_n hx hb dX18_places_11 rfl (lv_at hl 1 rfl) ?_
    refine lv_iconst (v := 1) hx hb dX18_places_12 (by decide) ?_
    refine lv_icmp_ne (tgt := 23) hx hb dX18_places_13 (by decide) (fun c_2 => ?_) (fun c_2 => ?_)
    · skip
      rw [if_neg c_2] at hf
      refine lv_iload_n hx hb dX18_places_23 rfl (lv_at hl 1 rfl) ?_
      refine lv_iconst (v := 2) hx hb dX18_places_24 (by decide) ?_
      refine lv_icmp_ne (tgt := 35) hx hb dX18_places_25 (by decide) (fun c_3 => ?_) (fun c_3 => ?_)
      · skip
        rw [if_neg c_3] at hf
        refine lv_iload_n hx hb dX18_places_35 rfl (lv_at hl 1 rfl) ?_
        refine lv_iconst (v := 3) hx hb dX18_places_36 (by decide) ?_
        refine lv_icmp_ne (tgt := 47) hx hb dX18_places_37 (by decide) (fun c_4 => ?_) (fun c_4 => ?_)
        · skip
          rw [if_neg c_4] at hf
          refine lv_iconst (v := (-1)) hx hb dX18_places_47 (by decide) ?_
          obtain ⟨h8, h9⟩ := ret_some hf
          rw [h8, h9]
          exact W.iret (v := (-1)) hx hb hr (fun t ht hW => ⟨⟨(-1), (), rfl, rfl, by rw [ht]; exact hP, va_K.moved hW.alike hK, hD⟩, hS.F ht⟩) hS.2.2 dX18_places_48
        · skip
          rw [if_pos c_4] at hf
          refine lv_aload_n hx hb dX18_places_40 rfl (lv_at hl 0 rfl) ?_
          obtain ⟨g_5, hf⟩ := grd_some hf
          obtain ⟨kg_5, sg_5⟩ := okO_at g_5
          refine va_get (D := (dC, dI)) (ci := 18) (v := .int (z.1 h0 3)) (C := RX18) (T := TX18) (N := 78) hx hb hts iwd_X18_places_X18 hown hK hP h0 (Wd_ob kg_5 sg_5 (by decide)) rfl 3 (by decide) (hts _ md_X18_places_3) (fun _ h9 => h9) (fl_at (t := 0) rfl) dX18_places_41 ?_
          refine lv_goto (tgt := 48) hx hb dX18_places_44 (by decide) ?_
          obtain ⟨h8, h9⟩ := ret_some hf
          rw [h8, h9]
          exact W.iret (v := (z.1 h0 3)) hx hb hr (fun t ht hW => ⟨⟨(z.1 h0 3), (), rfl, rfl, by rw [ht]; exact hP, va_K.moved hW.alike hK, hD⟩, hS.F ht⟩) hS.2.2 dX18_places_48
      · skip
        rw [if_pos c_3] at hf
        refine lv_aload_n hx hb dX18_places_28 rfl (lv_at hl 0 rfl) ?_
        obtain ⟨g_6, hf⟩ := grd_some hf
        obtain ⟨kg_6, sg_6⟩ := okO_at g_6
        refine va_get (D := (dC, dI)) (ci := 18) (v := .int (z.1 h0 9)) (C := RX18) (T := TX18) (N := 78) hx hb hts iwd_X18_places_X18 hown hK hP h0 (Wd_ob kg_6 sg_6 (by decide)) rfl 9 (by decide) (hts _ md_X18_places_2) (fun _ h9 => h9) (fl_at (t := 0) rfl) dX18_places_29 ?_
        refine lv_goto (tgt := 48) hx hb dX18_places_32 (by decide) ?_
        obtain ⟨h8, h9⟩ := ret_some hf
        rw [h8, h9]
        exact W.iret (v := (z.1 h0 9)) hx hb hr (fun t ht hW => ⟨⟨(z.1 h0 9), (), rfl, rfl, by rw [ht]; exact hP, va_K.moved hW.alike hK, hD⟩, hS.F ht⟩) hS.2.2 dX18_places_48
    · skip
      rw [if_pos c_2] at hf
      refine lv_aload_n hx hb dX18_places_16 rfl (lv_at hl 0 rfl) ?_
      obtain ⟨g_7, hf⟩ := grd_some hf
      obtain ⟨kg_7, sg_7⟩ := okO_at g_7
      refine va_get (D := (dC, dI)) (ci := 18) (v := .int (z.1 h0 5)) (C := RX18) (T := TX18) (N := 78) hx hb hts iwd_X18_places_X18 hown hK hP h0 (Wd_ob kg_7 sg_7 (by decide)) rfl 5 (by decide) (hts _ md_X18_places_1) (fun _ h9 => h9) (fl_at (t := 0) rfl) dX18_places_17 ?_
      refine lv_goto (tgt := 48) hx hb dX18_places_20 (by decide) ?_
      obtain ⟨h8, h9⟩ := ret_some hf
      rw [h8, h9]
      exact W.iret (v := (z.1 h0 5)) hx hb hr (fun t ht hW => ⟨⟨(z.1 h0 5), (), rfl, rfl, by rw [ht]; exact hP, va_K.moved hW.alike hK, hD⟩, hS.F ht⟩) hS.2.2 dX18_places_48
  · skip
    rw [if_pos c_1] at hf
    refine lv_aload_n hx hb dX18_places_4 rfl (lv_at hl 0 rfl) ?_
    obtain ⟨g_10, hf⟩ := grd_some hf
    obtain ⟨kg_10, sg_10⟩ := okO_at g_10
    obtain ⟨z_8, r_9, hfc, hf⟩ := cal_some hf
    have hFc := de_free hD hS hA
    refine va_calli (va_runV (As := []) (rest := []) ⟨hx, hb, hml, hown, hts⟩ (de_X18_placeCount l dC dI cy a sh n H.size F z h0 hfc) (cwV 0 hts gX18_places_X18_placeCount rfl rfl rfl (by decide +kernel) ⟨Nat.le_of_ble_eq_true rfl, Nat.le_of_ble_eq_true rfl⟩) ⟨fun a U g mk q => by obtain ⟨q0, q1, qP, qK, qD, qN⟩ := q; exact ⟨q0, q1, qP, va_K.moved (u := U) (U := U.calling g mk a) (Vm.Alike.refl U.vm) qK, qD, qN.same rfl⟩, va_recv hK hP (ci := 18) (q0 := h0) rfl (Wd_ob kg_10 sg_10 (by decide)), fun U hU hW => ⟨rfl, by rw [hU], by rw [hU]; exact hP, va_K.moved hW.alike hK, hD.weaken (fun _ _ _ _ => trivial), hN.warm hW⟩⟩ rfl rfl hl.1 rfl (lv_room (Nat.le_of_ble_eq_true rfl)) dX18_places_5 ⟨Nat.le_of_ble_eq_true rfl, Nat.le_of_ble_eq_true rfl⟩) hS (fun q _ h => hFc q h) hFc (fun rr u t H_11 locs ht hvm hw hB hz1 hk1 hS2 => ?_)
    rw [hw]
    clear hw
    obtain ⟨hP1, -, hD1⟩ := hB
    rw [ht] at hP1
    replace hD := hD1.weaken (fun _ _ _ h => hFc _ h)
    replace hP := hP1
    replace hS := hS2
    clear hP1 hD1 hS2 hFc hfc hz1 hk1 hvm ht
    refine lv_goto (tgt := 48) hx hb dX18_places_8 (by decide) ?_
    obtain ⟨h8, h9⟩ := ret_some hf
    rw [h8, h9]
    exact W.iret (v := r_9) hx hb hr (fun t ht hW => ⟨⟨r_9, (), rfl, rfl, by rw [ht]; exact hP, va_K.moved hW.alike hK, hD⟩, hS.F ht⟩) hS.2.2 dX18_places_48

set_option maxHeartbeats 4000000 in
set_option maxRecDepth 100000 in
theorem de_X10_compare (l : Launch) (dC : Nat → ClassId) (dI : Nat → Nat → Nat) (cy : Nat → ClassId) (a : Nat → Nat) (sh : Nat → Nat × Nat) (n sz : Nat) (F : Nat) (z : St) (x0 : Int64) (x1 : Int64) (x2 : Int64) (x3 : Int64) {z8 : St} {r8 : Int32} (hf : fn_X10_compare F sh n z x0 x1 x2 x3 = some (z8, r8)) : Met l yX10_compare wsX10_compare ({ frames := 1, cells := 0, slots := 0, locals := 23 }) (va_Pc [.long x0, .long x1, .long x2, .long x3] (fun U => U.heap.size = sz ∧ va_P (dC, dI) vwCl (Wd cy a sh n z) U.heap ∧ va_K (dC, dI) vwCl (TYS cy) U ∧ va_D (fun _ => True) (Wd cy a sh n z) ∧ NK U)) (va_Qi (fun (r9 : Int32) (u : Unit) => r9 = r8) (fun u t => va_P (dC, dI) vwCl (Wd cy a sh n z8) t.heap ∧ va_K (dC, dI) vwCl (TYS cy) t ∧ va_D (va_A (Wd cy a sh n z) sz) (Wd cy a sh n z8)) (va_A (Wd cy a sh n z) sz)) 0 0 (va_A (Wd cy a sh n z) sz) := by
  refine Met.ofW (cc := cX10_compare) (maxL := 8) (ret := (some .int)) (by decide) rfl ?_
  intro p e s m args below meth c s₁ B hml hv
  obtain ⟨rfl, hsz, hP, hK, hD0, hN⟩ := hv
  have hx := B.exec
  have hb := B.bytes
  have hr := B.returns
  have hts := atoms_spec (ws := wsX10_compare) B.pre
  have hown : s.vm.findClass RX10 = some m.cls := findClass_of_methodNamed B.named
  have hlocks := B.notSynchronized
  subst hsz
  have hD := hD0.self (sz := s.heap.size)
  clear hD0
  generalize hAe : va_A (Wd cy a sh n z) s.heap.size = A at hD ⊢
  have hA : ∀ q : Nat, s.heap.size ≤ q → A q := fun q h => by rw [← hAe]; exact Or.inr h
  clear hAe
  have hS : va_S A s.heap s.heap [] := va_S.rf
  have hl := lv_entry ([.long x0, .long x1, .long x2, .long x3]) (n := 8) (Nat.le_of_ble_eq_true rfl)
  rw [lg_entry_eq]
  generalize (lg_sl ([.long x0, .long x1, .long x2, .long x3]) ++ List.replicate (8 - (lg_sl ([.long x0, .long x1, .long x2, .long x3])).length) Slot.unset).toArray = ls at hl ⊢
  replace hl : lv_has ls 8 [(0, .long x0), (2, .long x1), (4, .long x2), (6, .long x3)] := hl
  unfold fn_X10_compare at hf
  refine de_start hS hP (fun H locs hS hP => ?_)
  refine lv_lload_n hx hb dX10_compare_0 rfl (lv_at hl 0 rfl) ?_
  refine lv_lload hx hb dX10_compare_1 (lv_at hl 2 rfl) ?_
  refine W.lcmp hx hb dX10_compare_3 ?_
  refine lv_if_eq (tgt := 22) hx hb dX10_compare_4 (by decide) (fun c_1 => ?_) (fun c_1 => ?_)
  · skip
    rw [lg_cmp_eq] at c_1
    rw [if_pos c_1] at hf
    refine lv_lload_n hx hb dX10_compare_22 rfl (lv_at hl 1 rfl) ?_
    refine lv_lload hx hb dX10_compare_23 (lv_at hl 3 rfl) ?_
    refine W.lcmp hx hb dX10_compare_25 ?_
    refine lv_if_ne (tgt := 33) hx hb dX10_compare_26 (by decide) (fun c_2 => ?_) (fun c_2 => ?_)
    · skip
      rw [lg_cmp_eq] at c_2
      rw [if_neg c_2] at hf
      refine lv_lload_n hx hb dX10_compare_33 rfl (lv_at hl 1 rfl) ?_
      refine lv_lload hx hb dX10_compare_34 (lv_at hl 3 rfl) ?_
      obtain ⟨z_3, r_4, hfc, hf⟩ := cal_some hf
      have hFc := de_free hD hS hA
      refine va_calli (va_runS (As := [.long x1, .long x3]) (rest := []) ⟨hx, hb, hml, hown, hts⟩ (de_X10_below l dC dI cy a sh n H.size F z x1 x3 hfc) (va_cwS 2 hts gX10_compare_X10_below rfl rfl rfl (by decide +kernel) ⟨Nat.le_of_ble_eq_true rfl, Nat.le_of_ble_eq_true rfl⟩) ⟨fun a U g mk q => by obtain ⟨q0, q1, qP, qK, qD, qN⟩ := q; exact ⟨q0, q1, qP, va_K.moved (u := U) (U := U.calling g mk a) (Vm.Alike.refl U.vm) qK, qD, qN.same rfl⟩, fun U hU hW => ⟨rfl, by rw [hU], by rw [hU]; exact hP, va_K.moved hW.alike hK, hD.weaken (fun _ _ _ _ => trivial), hN.warm hW⟩⟩ rfl rfl hl.1 rfl (lv_room (Nat.le_of_ble_eq_true rfl)) dX10_compare_36 ⟨Nat.le_of_ble_eq_true rfl, Nat.le_of_ble_eq_true rfl⟩) hS (fun q _ h => hFc q h) hFc (fun rr u t H_5 locs ht hvm hw hB hz1 hk1 hS2 => ?_)
      rw [hw]
      clear hw
      obtain ⟨hP1, -, hD1⟩ := hB
      rw [ht] at hP1
      replace hD := hD1.weaken (fun _ _ _ h => hFc _ h)
      replace hP := hP1
      replace hS := hS2
      clear hP1 hD1 hS2 hFc hfc hz1 hk1 hvm ht
      refine lv_if_eq (tgt := 46) hx hb dX10_compare_39 (by decide) (fun c_6 => ?_) (fun c_6 => ?_)
      · skip
        rw [if_pos c_6] at hf
        refine lv_iconst (v := 1) hx hb dX10_compare_46 (by decide) ?_
        obtain ⟨h8, h9⟩ := ret_some hf
        rw [h8, h9]
        exact W.iret (v := 1) hx hb hr (fun t ht hW => ⟨⟨1, (), rfl, rfl, by rw [ht]; exact hP, va_K.moved hW.alike hK, hD⟩, hS.F ht⟩) hS.2.2 dX10_compare_47
      · skip
        rw [if_neg c_6] at hf
        refine lv_iconst (v := (-1)) hx hb dX10_compare_42 (by decide) ?_
        refine lv_goto (tgt := 47) hx hb dX10_compare_43 (by decide) ?_
        obtain ⟨h8, h9⟩ := ret_some hf
        rw [h8, h9]
        exact W.iret (v := (-1)) hx hb hr (fun t ht hW => ⟨⟨(-1), (), rfl, rfl, by rw [ht]; exact hP, va_K.moved hW.alike hK, hD⟩, hS.F ht⟩) hS.2.2 dX10_compare_47
    · skip
      rw [lg_cmp_eq] at c_2
      rw [if_pos c_2] at hf
      refine lv_iconst (v := 0) hx hb dX10_compare_29 (by decide) ?_
      refine lv_goto (tgt := 47) hx hb dX10_compare_30 (by decide) ?_
      obtain ⟨h8, h9⟩ := ret_some hf
      rw [h8, h9]
      exact W.iret (v := 0) hx hb hr (fun t ht hW => ⟨⟨0, (), rfl, rfl, by rw [ht]; exact hP, va_K.moved hW.alike hK, hD⟩, hS.F ht⟩) hS.2.2 dX10_compare_47
  · skip
    rw [lg_cmp_eq] at c_1
    rw [if_neg c_1] at hf
    refine lv_lload_n hx hb dX10_compare_7 rfl (lv_at hl 0 rfl) ?_
    refine lv_lload hx hb dX10_compare_8 (lv_at hl 2 rfl) ?_
    obtain ⟨z_7, r_8, hfc, hf⟩ := cal_some hf
    have hFc := de_free hD hS hA
    refine va_calli (va_runS (As := [.long x0, .long x2]) (rest := []) ⟨hx, hb, hml, hown, hts⟩ (de_X10_below l dC dI cy a sh n H.size F z x0 x2 hfc) (va_cwS 2 hts gX10_compare_X10_below rfl rfl rfl (by decide +kernel) ⟨Nat.le_of_ble_eq_true rfl, Nat.le_of_ble_eq_true rfl⟩) ⟨fun a U g mk q => by obtain ⟨q0, q1, qP, qK, qD, qN⟩ := q; exact ⟨q0, q1, qP, va_K.moved (u := U) (U := U.calling g mk a) (Vm.Alike.refl U.vm) qK, qD, qN.same rfl⟩, fun U hU hW => ⟨rfl, by rw [hU], by rw [hU]; exact hP, va_K.moved hW.alike hK, hD.weaken (fun _ _ _ _ => trivial), hN.warm hW⟩⟩ rfl rfl hl.1 rfl (lv_room (Nat.le_of_ble_eq_true rfl)) dX10_compare_10 ⟨Nat.le_of_ble_eq_true rfl, Nat.le_of_ble_eq_true rfl⟩) hS (fun q _ h => hFc q h) hFc (fun rr u t H_9 locs ht hvm hw hB hz1 hk1 hS2 => ?_)
    rw [hw]
    clear hw
    obtain ⟨hP1, -, hD1⟩ := hB
    rw [ht] at hP1
    replace hD := hD1.weaken (fun _ _ _ h => hFc _ h)
    replace hP := hP1
    replace hS := hS2
    clear hP1 hD1 hS2 hFc hfc hz1 hk1 hvm ht
    refine lv_if_eq (tgt := 20) hx hb dX10_compare_13 (by decide) (fun c_10 => ?_) (fun c_10 => ?_)
    · skip
      rw [if_pos c_10] at hf
      refine lv_iconst (v := 1) hx hb dX10_compare_20 (by decide) ?_
      obtain ⟨h8, h9⟩ := ret_some hf
      rw [h8, h9]
      exact W.iret (v := 1) hx hb hr (fun t ht hW => ⟨⟨1, (), rfl, rfl, by rw [ht]; exact hP, va_K.moved hW.alike hK, hD⟩, hS.F ht⟩) hS.2.2 dX10_compare_21
    · skip
      rw [if_neg c_10] at hf
      refine lv_iconst (v := (-1)) hx hb dX10_compare_16 (by decide) ?_
      refine lv_goto (tgt := 21) hx hb dX10_compare_17 (by decide) ?_
      obtain ⟨h8, h9⟩ := ret_some hf
      rw [h8, h9]
      exact W.iret (v := (-1)) hx hb hr (fun t ht hW => ⟨⟨(-1), (), rfl, rfl, by rw [ht]; exact hP, va_K.moved hW.alike hK, hD⟩, hS.F ht⟩) hS.2.2 dX10_compare_21

theorem md_X7_charge_1 : (.fieldLink RX7 67 "ResourceLedger$Transaction" "sender" "J" : Cond) ∈ wsX7_charge := List.mem_of_getElem? (i := 1) rfl
theorem iwd_X7_charge_X8 : ∀ w ∈ wsX80, w ∈ wsX7_charge := fun _ h => List.mem_cons_of_mem _ (List.mem_append_left _ (List.mem_append_right _ h))
theorem md_X7_charge_2 : (.fieldLink RX7 15 "ResourceLedger$State" "balance" "[J" : Cond) ∈ wsX7_charge := List.mem_of_getElem? (i := 2) rfl
theorem iwd_X7_charge_X7 : ∀ w ∈ wsX70, w ∈ wsX7_charge := fun _ h => List.mem_cons_of_mem _ (List.mem_append_right _ h)
theorem md_X7_charge_3 : (.fieldLink RX7 77 "ResourceLedger$Transaction" "limit" "I" : Cond) ∈ wsX7_charge := List.mem_of_getElem? (i := 3) rfl
theorem md_X7_charge_4 : (.fieldLink RX7 18 "ResourceLedger$State" "sequence" "[J" : Cond) ∈ wsX7_charge := List.mem_of_getElem? (i := 4) rfl
set_option maxHeartbeats 4000000 in
set_option maxRecDepth 100000 in
theorem de_X7_charge (l : Launch) (dC : Nat → ClassId) (dI : Nat → Nat → Nat) (cy : Nat → ClassId) (a : Nat → Nat) (sh : Nat → Nat × Nat) (n sz : Nat) (F : Nat) (z : St) (h0 : Nat) (x0 : Nat) {z8 : St} {r8 : Unit} (hf : fn_X7_charge F sh n z h0 x0 = some (z8, r8)) : Met l yX7_charge wsX7_charge ({ frames := 1, cells := 0, slots := 0, locals := 23 }) (va_Pc [.ref (a h0), .ref (a x0)] (fun U => U.heap.size = sz ∧ va_P (dC, dI) vwCl (Wd cy a sh n z) U.heap ∧ va_K (dC, dI) vwCl (TYS cy) U ∧ va_D (fun _ => True) (Wd cy a sh n z) ∧ NK U)) (va_Qv (fun u : Unit => True) (fun u t => va_P (dC, dI) vwCl (Wd cy a sh n z8) t.heap ∧ va_K (dC, dI) vwCl (TYS cy) t ∧ va_D (va_A (Wd cy a sh n z) sz) (Wd cy a sh n z8)) (va_A (Wd cy a sh n z) sz)) 0 0 (va_A (Wd cy a sh n z) sz) := by
  refine Met.ofW (cc := cX7_charge) (maxL := 3) (ret := none) (by decide) rfl ?_
  intro p e s m args below meth c s₁ B hml hv
  obtain ⟨rfl, hsz, hP, hK, hD0, hN⟩ := hv
  have hx := B.exec
  have hb := B.bytes
  have hr := B.returns
  have hts := atoms_spec (ws := wsX7_charge) B.pre
  have hown : s.vm.findClass RX7 = some m.cls := findClass_of_methodNamed B.named
  have hlocks := B.notSynchronized
  subst hsz
  have hD := hD0.self (sz := s.heap.size)
  clear hD0
  generalize hAe : va_A (Wd cy a sh n z) s.heap.size = A at hD ⊢
  have hA : ∀ q : Nat, s.heap.size ≤ q → A q := fun q h => by rw [← hAe]; exact Or.inr h
  clear hAe
  have hS : va_S A s.heap s.heap [] := va_S.rf
  have hl := lv_entry ([.ref (a h0), .ref (a x0)]) (n := 3) (Nat.le_of_ble_eq_true rfl)
  rw [lg_entry_eq]
  generalize (lg_sl ([.ref (a h0), .ref (a x0)]) ++ List.replicate (3 - (lg_sl ([.ref (a h0), .ref (a x0)])).length) Slot.unset).toArray = ls at hl ⊢
  replace hl : lv_has ls 3 [(0, .ref (a h0)), (1, .ref (a x0))] := hl
  unfold fn_X7_charge at hf
  refine de_start hS hP (fun H locs hS hP => ?_)
  refine lv_aload_n hx hb dX7_charge_0 rfl (lv_at hl 0 rfl) ?_
  refine lv_aload_n hx hb dX7_charge_1 rfl (lv_at hl 1 rfl) ?_
  obtain ⟨g_1, hf⟩ := grd_some hf
  obtain ⟨kg_1, sg_1⟩ := okO_at g_1
  refine va_get (D := (dC, dI)) (ci := 8) (v := .long (z.2.1 x0 1)) (C := RX8) (T := TX8) (N := 19) hx hb hts iwd_X7_charge_X8 hown hK hP x0 (Wd_ob kg_1 sg_1 (by decide)) rfl 1 (by decide) (hts _ md_X7_charge_1) (fun _ h9 => h9) (fl_at (t := 1) rfl) dX7_charge_2 ?_
  obtain ⟨g_4, hf⟩ := grd_some hf
  obtain ⟨kg_4, sg_4⟩ := okO_at g_4
  obtain ⟨z_2, r_3, hfc, hf⟩ := cal_some hf
  have hFc := de_free hD hS hA
  refine va_calli (va_runV (As := [.long (z.2.1 x0 1)]) (rest := []) ⟨hx, hb, hml, hown, hts⟩ (de_X7_findAccount l dC dI cy a sh n H.size F z h0 (z.2.1 x0 1) hfc) (cwV 1 hts gX7_charge_X7_findAccount rfl rfl rfl (by decide +kernel) ⟨Nat.le_of_ble_eq_true rfl, Nat.le_of_ble_eq_true rfl⟩) ⟨fun a U g mk q => by obtain ⟨q0, q1, qP, qK, qD, qN⟩ := q; exact ⟨q0, q1, qP, va_K.moved (u := U) (U := U.calling g mk a) (Vm.Alike.refl U.vm) qK, qD, qN.same rfl⟩, va_recv hK hP (ci := 7) (q0 := h0) rfl (Wd_ob kg_4 sg_4 (by decide)), fun U hU hW => ⟨rfl, by rw [hU], by rw [hU]; exact hP, va_K.moved hW.alike hK, hD.weaken (fun _ _ _ _ => trivial), hN.warm hW⟩⟩ rfl rfl hl.1 rfl (lv_room (Nat.le_of_ble_eq_true rfl)) dX7_charge_5 ⟨Nat.le_of_ble_eq_true rfl, Nat.le_of_ble_eq_true rfl⟩) hS (fun q _ h => hFc q h) hFc (fun rr u t H_5 locs ht hvm hw hB hz1 hk1 hS2 => ?_)
  rw [hw]
  clear hw
  obtain ⟨hP1, -, hD1⟩ := hB
  rw [ht] at hP1
  replace hD := hD1.weaken (fun _ _ _ h => hFc _ h)
  replace hP := hP1
  replace hS := hS2
  clear hP1 hD1 hS2 hFc hfc hz1 hk1 hvm ht
  refine lv_istore_n (lv' := [(2, .int r_3), (0, .ref (a h0)), (1, .ref (a x0))]) hx hb dX7_charge_8 rfl hl (by decide) rfl (fun ls hl2 => ?_)
  replace hl := hl2
  clear hl2
  refine lv_iload_n hx hb dX7_charge_9 rfl (lv_at hl 0 rfl) ?_
  refine lv_if_lt (tgt := 37) hx hb dX7_charge_10 (by decide) (fun c_6 => ?_) (fun c_6 => ?_)
  · skip
    rw [if_pos c_6] at hf
    obtain ⟨h8, h9⟩ := ret_some hf
    rw [h8]
    exact W.vret hx hb hr (fun t ht hW => ⟨⟨(), rfl, trivial, by rw [ht]; exact hP, va_K.moved hW.alike hK, hD⟩, hS.F ht⟩) hS.2.2 dX7_charge_37
  · skip
    rw [if_neg c_6] at hf
    refine lv_aload_n hx hb dX7_charge_13 rfl (lv_at hl 1 rfl) ?_
    obtain ⟨k_7, ek_7, hf⟩ := lnk_some hf
    refine va_get (D := (dC, dI)) (ci := 7) (v := .ref (a k_7)) (C := RX7) (T := TX7) (N := 16) hx hb hts iwd_X7_charge_X7 hown hK hP h0 (Wd_ob kg_4 sg_4 (by decide)) rfl 1 (by decide) (hts _ md_X7_charge_2) (fun _ h9 => h9) (fl_q rfl ek_7) dX7_charge_14 ?_
    refine lv_iload_n hx hb dX7_charge_17 rfl (lv_at hl 0 rfl) ?_
    refine lv_dup2_11 hx hb dX7_charge_18 rfl rfl ?_
    obtain ⟨g_8, hf⟩ := grd_some hf
    obtain ⟨kg_8, sg_8, ig_8⟩ := okA_at g_8
    refine va_lald hx hb hK hP k_7 2 (Wd_al kg_8 sg_8) rfl ig_8 dX7_charge_19 ?_
    refine lv_aload_n hx hb dX7_charge_20 rfl (lv_at hl 2 rfl) ?_
    refine va_get (D := (dC, dI)) (ci := 8) (v := .int (z_2.1 x0 3)) (C := RX8) (T := TX8) (N := 19) hx hb hts iwd_X7_charge_X8 hown hK hP x0 (Wd_ob kg_1 sg_1 (by decide)) rfl 3 (by decide) (hts _ md_X7_charge_3) (fun _ h9 => h9) (fl_at (t := 0) rfl) dX7_charge_21 ?_
    refine lv_i2l (v := ((z_2.1 x0 3) : Int32).toInt64) hx hb dX7_charge_24 rfl ?_
    refine lv_lsub hx hb dX7_charge_25 ?_
    obtain ⟨g_9, hf⟩ := grd_some hf
    obtain ⟨kg_9, sg_9, ig_9⟩ := okA_at g_9
    refine va_last hx hb hK hP hD hS k_7 2 (Wd_al kg_9 sg_9) rfl ig_9 dX7_charge_26 (fun H_10 locs hP2 hD2 hS2 => ?_)
    rw [Wd_tl sg_9] at hP2 hD2
    obtain ⟨z_11, ez_11⟩ : ∃ w, w = sl z_2 k_7 r_3.toNatClampNeg ((z_2.2.1 k_7 r_3.toNatClampNeg) - (((z_2.1 x0 3) : Int32).toInt64)) := ⟨_, rfl⟩
    rw [← ez_11] at hP2 hD2
    replace hf := lt_at ez_11 hf
    clear ez_11
    replace hP := hP2
    replace hD := hD2
    replace hS := hS2
    clear hP2 hD2 hS2
    refine lv_aload_n hx hb dX7_charge_27 rfl (lv_at hl 1 rfl) ?_
    obtain ⟨k_12, ek_12, hf⟩ := lnk_some hf
    refine va_get (D := (dC, dI)) (ci := 7) (v := .ref (a k_12)) (C := RX7) (T := TX7) (N := 16) hx hb hts iwd_X7_charge_X7 hown hK hP h0 (Wd_ob kg_4 sg_4 (by decide)) rfl 2 (by decide) (hts _ md_X7_charge_4) (fun _ h9 => h9) (fl_q rfl ek_12) dX7_charge_28 ?_
    refine lv_iload_n hx hb dX7_charge_31 rfl (lv_at hl 0 rfl) ?_
    refine lv_dup2_11 hx hb dX7_charge_32 rfl rfl ?_
    obtain ⟨g_13, hf⟩ := grd_some hf
    obtain ⟨kg_13, sg_13, ig_13⟩ := okA_at g_13
    refine va_lald hx hb hK hP k_12 2 (Wd_al kg_13 sg_13) rfl ig_13 dX7_charge_33 ?_
    refine lv_lconst (v := 1) hx hb dX7_charge_34 (by decide) ?_
    refine lv_ladd hx hb dX7_charge_35 ?_
    obtain ⟨g_14, hf⟩ := grd_some hf
    obtain ⟨kg_14, sg_14, ig_14⟩ := okA_at g_14
    refine va_last hx hb hK hP hD hS k_12 2 (Wd_al kg_14 sg_14) rfl ig_14 dX7_charge_36 (fun H_15 locs hP2 hD2 hS2 => ?_)
    rw [Wd_tl sg_14] at hP2 hD2
    obtain ⟨z_16, ez_16⟩ : ∃ w, w = sl z_11 k_12 r_3.toNatClampNeg ((z_11.2.1 k_12 r_3.toNatClampNeg) + 1) := ⟨_, rfl⟩
    rw [← ez_16] at hP2 hD2
    replace hf := lt_at ez_16 hf
    clear ez_16
    replace hP := hP2
    replace hD := hD2
    replace hS := hS2
    clear hP2 hD2 hS2
    obtain ⟨h8, h9⟩ := ret_some hf
    rw [h8]
    exact W.vret hx hb hr (fun t ht hW => ⟨⟨(), rfl, trivial, by rw [ht]; exact hP, va_K.moved hW.alike hK, hD⟩, hS.F ht⟩) hS.2.2 dX7_charge_37

theorem md_X4_pay_1 : (.fieldLink RX4 75 "ResourceLedger$Machine" "t" "LResourceLedger$Transaction;" : Cond) ∈ wsX4_pay := List.mem_of_getElem? (i := 1) rfl
theorem iwd_X4_pay_X4 : ∀ w ∈ wsX40, w ∈ wsX4_pay := fun _ h => List.mem_cons_of_mem _ (List.mem_append_left _ (List.mem_append_right _ h))
theorem md_X4_pay_2 : (.fieldLink RX4 176 "ResourceLedger$Transaction" "limit" "I" : Cond) ∈ wsX4_pay := List.mem_of_getElem? (i := 2) rfl
theorem iwd_X4_pay_X8 : ∀ w ∈ wsX80, w ∈ wsX4_pay := fun _ h => List.mem_cons_of_mem _ (List.mem_append_right _ h)
theorem md_X4_pay_3 : (.fieldLink RX4 79 "ResourceLedger$Machine" "gas" "I" : Cond) ∈ wsX4_pay := List.mem_of_getElem? (i := 3) rfl
theorem md_X4_pay_4 : (.constantLong RX4 179 (5) : Cond) ∈ wsX4_pay := List.mem_of_getElem? (i := 4) rfl
set_option maxHeartbeats 4000000 in
set_option maxRecDepth 100000 in
theorem de_X4_pay (l : Launch) (dC : Nat → ClassId) (dI : Nat → Nat → Nat) (cy : Nat → ClassId) (a : Nat → Nat) (sh : Nat → Nat × Nat) (n sz : Nat) (F : Nat) (z : St) (h0 : Nat) (x0 : Int32) {z8 : St} {r8 : Int32} (hf : fn_X4_pay F sh n z h0 x0 = some (z8, r8)) : Met l yX4_pay wsX4_pay ({ frames := 1, cells := 0, slots := 0, locals := 23 }) (va_Pc [.ref (a h0), .int x0] (fun U => U.heap.size = sz ∧ va_P (dC, dI) vwCl (Wd cy a sh n z) U.heap ∧ va_K (dC, dI) vwCl (TYS cy) U ∧ va_D (fun _ => True) (Wd cy a sh n z) ∧ NK U)) (va_Qi (fun (r9 : Int32) (u : Unit) => r9 = r8) (fun u t => va_P (dC, dI) vwCl (Wd cy a sh n z8) t.heap ∧ va_K (dC, dI) vwCl (TYS cy) t ∧ va_D (va_A (Wd cy a sh n z) sz) (Wd cy a sh n z8)) (va_A (Wd cy a sh n z) sz)) 0 0 (va_A (Wd cy a sh n z) sz) := by
  refine Met.ofW (cc := cX4_pay) (maxL := 2) (ret := (some .boolean)) (by decide) rfl ?_
  intro p e s m args below meth c s₁ B hml hv
  obtain ⟨rfl, hsz, hP, hK, hD0, hN⟩ := hv
  have hx := B.exec
  have hb := B.bytes
  have hr := B.returns
  have hts := atoms_spec (ws := wsX4_pay) B.pre
  have hown : s.vm.findClass RX4 = some m.cls := findClass_of_methodNamed B.named
  have hlocks := B.notSynchronized
  subst hsz
  have hD := hD0.self (sz := s.heap.size)
  clear hD0
  generalize hAe : va_A (Wd cy a sh n z) s.heap.size = A at hD ⊢
  have hA : ∀ q : Nat, s.heap.size ≤ q → A q := fun q h => by rw [← hAe]; exact Or.inr h
  clear hAe
  have hS : va_S A s.heap s.heap [] := va_S.rf
  have hl := lv_entry ([.ref (a h0), .int x0]) (n := 2) (Nat.le_of_ble_eq_true rfl)
  rw [lg_entry_eq]
  generalize (lg_sl ([.ref (a h0), .int x0]) ++ List.replicate (2 - (lg_sl ([.ref (a h0), .int x0])).length) Slot.unset).toArray = ls at hl ⊢
  replace hl : lv_has ls 2 [(0, .ref (a h0)), (1, .int x0)] := hl
  unfold fn_X4_pay at hf
  refine de_start hS hP (fun H locs hS hP => ?_)
  refine lv_iload_n hx hb dX4_pay_0 rfl (lv_at hl 1 rfl) ?_
  refine lv_aload_n hx hb dX4_pay_1 rfl (lv_at hl 0 rfl) ?_
  obtain ⟨g_1, hf⟩ := grd_some hf
  obtain ⟨kg_1, sg_1⟩ := okO_at g_1
  obtain ⟨k_2, ek_2, hf⟩ := lnk_some hf
  refine va_get (D := (dC, dI)) (ci := 4) (v := .ref (a k_2)) (C := RX4) (T := TX4) (N := 18) hx hb hts iwd_X4_pay_X4 hown hK hP h0 (Wd_ob kg_1 sg_1 (by decide)) rfl 13 (by decide) (hts _ md_X4_pay_1) (fun _ h9 => h9) (fl_q rfl ek_2) dX4_pay_2 ?_
  obtain ⟨g_3, hf⟩ := grd_some hf
  obtain ⟨kg_3, sg_3⟩ := okO_at g_3
  refine va_get (D := (dC, dI)) (ci := 8) (v := .int (z.1 k_2 3)) (C := RX8) (T := TX8) (N := 19) hx hb hts iwd_X4_pay_X8 hown hK hP k_2 (Wd_ob kg_3 sg_3 (by decide)) rfl 3 (by decide) (hts _ md_X4_pay_2) (fun _ h9 => h9) (fl_at (t := 0) rfl) dX4_pay_5 ?_
  refine lv_aload_n hx hb dX4_pay_8 rfl (lv_at hl 0 rfl) ?_
  refine va_get (D := (dC, dI)) (ci := 4) (v := .int (z.1 h0 14)) (C := RX4) (T := TX4) (N := 18) hx hb hts iwd_X4_pay_X4 hown hK hP h0 (Wd_ob kg_1 sg_1 (by decide)) rfl 14 (by decide) (hts _ md_X4_pay_3) (fun _ h9 => h9) (fl_at (t := 0) rfl) dX4_pay_9 ?_
  refine lv_isub hx hb dX4_pay_12 ?_
  refine lv_icmp_le (tgt := 37) hx hb dX4_pay_13 (by decide) (fun c_4 => ?_) (fun c_4 => ?_)
  · skip
    rw [if_pos c_4] at hf
    refine lv_aload_n hx hb dX4_pay_37 rfl (lv_at hl 0 rfl) ?_
    refine lv_dup hx hb dX4_pay_38 rfl ?_
    refine va_get (D := (dC, dI)) (ci := 4) (v := .int (z.1 h0 14)) (C := RX4) (T := TX4) (N := 18) hx hb hts iwd_X4_pay_X4 hown hK hP h0 (Wd_ob kg_1 sg_1 (by decide)) rfl 14 (by decide) (hts _ md_X4_pay_3) (fun _ h9 => h9) (fl_at (t := 0) rfl) dX4_pay_39 ?_
    refine lv_iload_n hx hb dX4_pay_42 rfl (lv_at hl 1 rfl) ?_
    refine lv_iadd hx hb dX4_pay_43 ?_
    refine va_put (D := (dC, dI)) (ci := 4) (v := .int ((z.1 h0 14) + x0)) (ty := .int) (C := RX4) (T := TX4) (N := 18) hx hb hts iwd_X4_pay_X4 tyX4 tyX4_ok nmX4 hown hK hP hD hS h0 (Wd_ob kg_1 sg_1 (by decide)) rfl 14 (by decide) (hts _ md_X4_pay_3) (fun _ h9 => h9) rfl (by decide +kernel) rfl rfl (by rw [fl_len]; decide) dX4_pay_44 (fun H_5 locs hP2 hD2 hS2 => ?_)
    rw [Wd_si sg_1 (by decide) rfl] at hP2 hD2
    obtain ⟨z_6, ez_6⟩ : ∃ w, w = si z h0 14 ((z.1 h0 14) + x0) := ⟨_, rfl⟩
    rw [← ez_6] at hP2 hD2
    replace hf := lt_at ez_6 hf
    clear ez_6
    replace hP := hP2
    replace hD := hD2
    replace hS := hS2
    clear hP2 hD2 hS2
    refine lv_iconst (v := 1) hx hb dX4_pay_47 (by decide) ?_
    obtain ⟨h8, h9⟩ := ret_some hf
    rw [h8, h9]
    exact W.zret (v := 1) hx hb hr rfl (fun t ht hW => ⟨⟨1, (), rfl, rfl, by rw [ht]; exact hP, va_K.moved hW.alike hK, hD⟩, hS.F ht⟩) hS.2.2 dX4_pay_48
  · skip
    rw [if_neg c_4] at hf
    refine lv_aload_n hx hb dX4_pay_16 rfl (lv_at hl 0 rfl) ?_
    refine lv_aload_n hx hb dX4_pay_17 rfl (lv_at hl 0 rfl) ?_
    obtain ⟨k_7, ek_7, hf⟩ := lnk_some hf
    refine va_get (D := (dC, dI)) (ci := 4) (v := .ref (a k_7)) (C := RX4) (T := TX4) (N := 18) hx hb hts iwd_X4_pay_X4 hown hK hP h0 (Wd_ob kg_1 sg_1 (by decide)) rfl 13 (by decide) (hts _ md_X4_pay_1) (fun _ h9 => h9) (fl_q rfl ek_7) dX4_pay_18 ?_
    obtain ⟨g_8, hf⟩ := grd_some hf
    obtain ⟨kg_8, sg_8⟩ := okO_at g_8
    refine va_get (D := (dC, dI)) (ci := 8) (v := .int (z.1 k_7 3)) (C := RX8) (T := TX8) (N := 19) hx hb hts iwd_X4_pay_X8 hown hK hP k_7 (Wd_ob kg_8 sg_8 (by decide)) rfl 3 (by decide) (hts _ md_X4_pay_2) (fun _ h9 => h9) (fl_at (t := 0) rfl) dX4_pay_21 ?_
    refine va_put (D := (dC, dI)) (ci := 4) (v := .int (z.1 k_7 3)) (ty := .int) (C := RX4) (T := TX4) (N := 18) hx hb hts iwd_X4_pay_X4 tyX4 tyX4_ok nmX4 hown hK hP hD hS h0 (Wd_ob kg_1 sg_1 (by decide)) rfl 14 (by decide) (hts _ md_X4_pay_3) (fun _ h9 => h9) rfl (by decide +kernel) rfl rfl (by rw [fl_len]; decide) dX4_pay_24 (fun H_9 locs hP2 hD2 hS2 => ?_)
    rw [Wd_si sg_1 (by decide) rfl] at hP2 hD2
    obtain ⟨z_10, ez_10⟩ : ∃ w, w = si z h0 14 (z.1 k_7 3) := ⟨_, rfl⟩
    rw [← ez_10] at hP2 hD2
    replace hf := lt_at ez_10 hf
    clear ez_10
    replace hP := hP2
    replace hD := hD2
    replace hS := hS2
    clear hP2 hD2 hS2
    refine lv_aload_n hx hb dX4_pay_27 rfl (lv_at hl 0 rfl) ?_
    refine lv_iconst (v := 2) hx hb dX4_pay_28 (by decide) ?_
    refine lv_ldc2 hx hb hown (hts _ md_X4_pay_4) dX4_pay_29 ?_
    obtain ⟨z_11, _u, hfc, hf⟩ := cal_some hf
    have hFc := de_free hD hS hA
    refine va_callv (va_runV (As := [.int 2, .long 5]) (rest := []) ⟨hx, hb, hml, hown, hts⟩ (de_X4_end l dC dI cy a sh n H_9.size F z_10 h0 2 5 hfc) (cwV 2 hts gX4_pay_X4_end rfl rfl rfl (by decide +kernel) ⟨Nat.le_of_ble_eq_true rfl, Nat.le_of_ble_eq_true rfl⟩) ⟨fun a U g mk q => by obtain ⟨q0, q1, qP, qK, qD, qN⟩ := q; exact ⟨q0, q1, qP, va_K.moved (u := U) (U := U.calling g mk a) (Vm.Alike.refl U.vm) qK, qD, qN.same rfl⟩, va_recv hK hP (ci := 4) (q0 := h0) rfl (Wd_ob kg_1 sg_1 (by decide)), fun U hU hW => ⟨rfl, by rw [hU], by rw [hU]; exact hP, va_K.moved hW.alike hK, hD.weaken (fun _ _ _ _ => trivial), hN.warm hW⟩⟩ rfl rfl hl.1 rfl (lv_room (Nat.le_of_ble_eq_true rfl)) dX4_pay_32 ⟨Nat.le_of_ble_eq_true rfl, Nat.le_of_ble_eq_true rfl⟩) hS (fun q _ h => hFc q h) hFc (fun u t H_12 locs ht hvm hw hB hz1 hk1 hS2 => ?_)
    obtain ⟨hP1, -, hD1⟩ := hB
    rw [ht] at hP1
    replace hD := hD1.weaken (fun _ _ _ h => hFc _ h)
    replace hP := hP1
    replace hS := hS2
    clear hP1 hD1 hS2 hFc hfc hz1 hk1 hvm ht
    refine lv_iconst (v := 0) hx hb dX4_pay_35 (by decide) ?_
    obtain ⟨h8, h9⟩ := ret_some hf
    rw [h8, h9]
    exact W.zret (v := 0) hx hb hr rfl (fun t ht hW => ⟨⟨0, (), rfl, rfl, by rw [ht]; exact hP, va_K.moved hW.alike hK, hD⟩, hS.F ht⟩) hS.2.2 dX4_pay_36

theorem md_X9_parting_1 : (.fieldLink RX9 52 "ResourceLedger$Tree" "count" "I" : Cond) ∈ wsX9_parting := List.mem_of_getElem? (i := 1) rfl
theorem iwd_X9_parting_X9 : ∀ w ∈ wsX90, w ∈ wsX9_parting := fun _ h => List.mem_cons_of_mem _ (List.mem_append_right _ h)
theorem md_X9_parting_2 : (.fieldLink RX9 31 "ResourceLedger$Tree" "order" "[I" : Cond) ∈ wsX9_parting := List.mem_of_getElem? (i := 2) rfl
theorem md_X9_parting_3 : (.methodLink RX9 168 Lib.Math.min.name : Cond) ∈ wsX9_parting := List.mem_of_getElem? (i := 3) rfl
theorem md_X9_parting_4 : (.static Lib.Math.min.name : Cond) ∈ wsX9_parting := List.mem_of_getElem? (i := 4) rfl
theorem md_X9_parting_5 : (.initialized "java/lang/Math" : Cond) ∈ wsX9_parting := List.mem_of_getElem? (i := 5) rfl
theorem md_X9_parting_6 : (.code Lib.Math.min.name Lib.Math.min.code 2 (some .int) : Cond) ∈ wsX9_parting := List.mem_of_getElem? (i := 6) rfl
set_option maxHeartbeats 4000000 in
set_option maxRecDepth 100000 in
theorem de_X9_parting (l : Launch) (dC : Nat → ClassId) (dI : Nat → Nat → Nat) (cy : Nat → ClassId) (a : Nat → Nat) (sh : Nat → Nat × Nat) (n sz : Nat) (F : Nat) (z : St) (h0 : Nat) (x0 : Int32) {z8 : St} {r8 : Int32} (hf : fn_X9_parting F sh n z h0 x0 = some (z8, r8)) : Met l yX9_parting wsX9_parting ({ frames := 1, cells := 0, slots := 0, locals := 26 }) (va_Pc [.ref (a h0), .int x0] (fun U => U.heap.size = sz ∧ va_P (dC, dI) vwCl (Wd cy a sh n z) U.heap ∧ va_K (dC, dI) vwCl (TYS cy) U ∧ va_D (fun _ => True) (Wd cy a sh n z) ∧ NK U)) (va_Qi (fun (r9 : Int32) (u : Unit) => r9 = r8) (fun u t => va_P (dC, dI) vwCl (Wd cy a sh n z8) t.heap ∧ va_K (dC, dI) vwCl (TYS cy) t ∧ va_D (va_A (Wd cy a sh n z) sz) (Wd cy a sh n z8)) (va_A (Wd cy a sh n z) sz)) 0 0 (va_A (Wd cy a sh n z) sz) := by
  refine Met.ofW (cc := cX9_parting) (maxL := 2) (ret := (some .int)) (by decide) rfl ?_
  intro p e s m args below meth c s₁ B hml hv
  obtain ⟨rfl, hsz, hP, hK, hD0, hN⟩ := hv
  have hx := B.exec
  have hb := B.bytes
  have hr := B.returns
  have hts := atoms_spec (ws := wsX9_parting) B.pre
  have hown : s.vm.findClass RX9 = some m.cls := findClass_of_methodNamed B.named
  have hlocks := B.notSynchronized
  subst hsz
  have hD := hD0.self (sz := s.heap.size)
  clear hD0
  generalize hAe : va_A (Wd cy a sh n z) s.heap.size = A at hD ⊢
  have hA : ∀ q : Nat, s.heap.size ≤ q → A q := fun q h => by rw [← hAe]; exact Or.inr h
  clear hAe
  have hS : va_S A s.heap s.heap [] := va_S.rf
  have hl := lv_entry ([.ref (a h0), .int x0]) (n := 2) (Nat.le_of_ble_eq_true rfl)
  rw [lg_entry_eq]
  generalize (lg_sl ([.ref (a h0), .int x0]) ++ List.replicate (2 - (lg_sl ([.ref (a h0), .int x0])).length) Slot.unset).toArray = ls at hl ⊢
  replace hl : lv_has ls 2 [(0, .ref (a h0)), (1, .int x0)] := hl
  unfold fn_X9_parting at hf
  refine de_start hS hP (fun H locs hS hP => ?_)
  refine lv_iload_n hx hb dX9_parting_0 rfl (lv_at hl 1 rfl) ?_
  refine lv_if_lt (tgt := 14) hx hb dX9_parting_1 (by decide) (fun c_1 => ?_) (fun c_1 => ?_)
  · skip
    rw [if_pos c_1] at hf
    refine lv_iconst (v := 0) hx hb dX9_parting_14 (by decide) ?_
    obtain ⟨h8, h9⟩ := ret_some hf
    rw [h8, h9]
    exact W.iret (v := 0) hx hb hr (fun t ht hW => ⟨⟨0, (), rfl, rfl, by rw [ht]; exact hP, va_K.moved hW.alike hK, hD⟩, hS.F ht⟩) hS.2.2 dX9_parting_15
  · skip
    rw [if_neg c_1] at hf
    refine lv_iload_n hx hb dX9_parting_4 rfl (lv_at hl 1 rfl) ?_
    refine lv_iconst (v := 1) hx hb dX9_parting_5 (by decide) ?_
    refine lv_iadd hx hb dX9_parting_6 ?_
    refine lv_aload_n hx hb dX9_parting_7 rfl (lv_at hl 0 rfl) ?_
    obtain ⟨g_2, hf⟩ := grd_some hf
    obtain ⟨kg_2, sg_2⟩ := okO_at g_2
    refine va_get (D := (dC, dI)) (ci := 9) (v := .int (z.1 h0 7)) (C := RX9) (T := TX9) (N := 13) hx hb hts iwd_X9_parting_X9 hown hK hP h0 (Wd_ob kg_2 sg_2 (by decide)) rfl 7 (by decide) (hts _ md_X9_parting_1) (fun _ h9 => h9) (fl_at (t := 0) rfl) dX9_parting_8 ?_
    refine lv_icmp_lt (tgt := 16) hx hb dX9_parting_11 (by decide) (fun c_3 => ?_) (fun c_3 => ?_)
    · skip
      rw [if_pos c_3] at hf
      refine lv_aload_n hx hb dX9_parting_16 rfl (lv_at hl 0 rfl) ?_
      refine lv_aload_n hx hb dX9_parting_17 rfl (lv_at hl 0 rfl) ?_
      obtain ⟨k_4, ek_4, hf⟩ := lnk_some hf
      refine va_get (D := (dC, dI)) (ci := 9) (v := .ref (a k_4)) (C := RX9) (T := TX9) (N := 13) hx hb hts iwd_X9_parting_X9 hown hK hP h0 (Wd_ob kg_2 sg_2 (by decide)) rfl 6 (by decide) (hts _ md_X9_parting_2) (fun _ h9 => h9) (fl_q rfl ek_4) dX9_parting_18 ?_
      refine lv_iload_n hx hb dX9_parting_21 rfl (lv_at hl 1 rfl) ?_
      obtain ⟨g_5, hf⟩ := grd_some hf
      obtain ⟨kg_5, sg_5, ig_5⟩ := okA_at g_5
      refine va_iald hx hb hK hP k_4 1 (Wd_ai kg_5 sg_5) rfl ig_5 dX9_parting_22 ?_
      refine lv_aload_n hx hb dX9_parting_23 rfl (lv_at hl 0 rfl) ?_
      obtain ⟨k_6, ek_6, hf⟩ := lnk_some hf
      refine va_get (D := (dC, dI)) (ci := 9) (v := .ref (a k_6)) (C := RX9) (T := TX9) (N := 13) hx hb hts iwd_X9_parting_X9 hown hK hP h0 (Wd_ob kg_2 sg_2 (by decide)) rfl 6 (by decide) (hts _ md_X9_parting_2) (fun _ h9 => h9) (fl_q rfl ek_6) dX9_parting_24 ?_
      refine lv_iload_n hx hb dX9_parting_27 rfl (lv_at hl 1 rfl) ?_
      refine lv_iconst (v := 1) hx hb dX9_parting_28 (by decide) ?_
      refine lv_iadd hx hb dX9_parting_29 ?_
      obtain ⟨g_7, hf⟩ := grd_some hf
      obtain ⟨kg_7, sg_7, ig_7⟩ := okA_at g_7
      refine va_iald hx hb hK hP k_6 1 (Wd_ai kg_7 sg_7) rfl ig_7 dX9_parting_30 ?_
      obtain ⟨z_8, r_9, hfc, hf⟩ := cal_some hf
      have hFc := de_free hD hS hA
      refine va_calli (va_runV (As := [.int (z.1 k_4 x0.toNatClampNeg), .int (z.1 k_6 (x0 + 1).toNatClampNeg)]) (rest := []) ⟨hx, hb, hml, hown, hts⟩ (de_X9_firstDifference l dC dI cy a sh n H.size F z h0 (z.1 k_4 x0.toNatClampNeg) (z.1 k_6 (x0 + 1).toNatClampNeg) hfc) (cwV 2 hts gX9_parting_X9_firstDifference rfl rfl rfl (by decide +kernel) ⟨Nat.le_of_ble_eq_true rfl, Nat.le_of_ble_eq_true rfl⟩) ⟨fun a U g mk q => by obtain ⟨q0, q1, qP, qK, qD, qN⟩ := q; exact ⟨q0, q1, qP, va_K.moved (u := U) (U := U.calling g mk a) (Vm.Alike.refl U.vm) qK, qD, qN.same rfl⟩, va_recv hK hP (ci := 9) (q0 := h0) rfl (Wd_ob kg_2 sg_2 (by decide)), fun U hU hW => ⟨rfl, by rw [hU], by rw [hU]; exact hP, va_K.moved hW.alike hK, hD.weaken (fun _ _ _ _ => trivial), hN.warm hW⟩⟩ rfl rfl hl.1 rfl (lv_room (Nat.le_of_ble_eq_true rfl)) dX9_parting_31 ⟨Nat.le_of_ble_eq_true rfl, Nat.le_of_ble_eq_true rfl⟩) hS (fun q _ h => hFc q h) hFc (fun rr u t H_10 locs ht hvm hw hB hz1 hk1 hS2 => ?_)
      rw [hw]
      clear hw
      obtain ⟨hP1, -, hD1⟩ := hB
      rw [ht] at hP1
      replace hD := hD1.weaken (fun _ _ _ h => hFc _ h)
      replace hP := hP1
      replace hS := hS2
      clear hP1 hD1 hS2 hFc hfc hz1 hk1 hvm ht
      refine lv_iconst (v := 1) hx hb dX9_parting_34 (by decide) ?_
      refine lv_iadd hx hb dX9_parting_35 ?_
      refine lv_sipush (v := 256) hx hb dX9_parting_36 (by decide) ?_
      refine va_mmin hx hb (hml.trans hl.1.symm) hown (hts _ md_X9_parting_3) (hts _ md_X9_parting_4) (hts _ md_X9_parting_5) (hts _ md_X9_parting_6) (Nat.le_of_ble_eq_true rfl) (Nat.le_of_ble_eq_true rfl) (Nat.le_of_ble_eq_true rfl) (Nat.le_of_ble_eq_true rfl) dX9_parting_39 ?_
      refine lv_topi (fun v_11 ev_11 => ?_)
      replace hf := lt_at ev_11 hf
      clear ev_11
      obtain ⟨h8, h9⟩ := ret_some hf
      rw [h8, h9]
      exact W.iret (v := v_11) hx hb hr (fun t ht hW => ⟨⟨v_11, (), rfl, rfl, by rw [ht]; exact hP, va_K.moved hW.alike hK, hD⟩, hS.F ht⟩) hS.2.2 dX9_parting_42
    · skip
      rw [if_neg c_3] at hf
      refine lv_iconst (v := 0) hx hb dX9_parting_14 (by decide) ?_
      obtain ⟨h8, h9⟩ := ret_some hf
      rw [h8, h9]
      exact W.iret (v := 0) hx hb hr (fun t ht hW => ⟨⟨0, (), rfl, rfl, by rw [ht]; exact hP, va_K.moved hW.alike hK, hD⟩, hS.F ht⟩) hS.2.2 dX9_parting_15

theorem md_X11_account_1 : (.fieldLink RX11 22 "ResourceLedger" "state" "LResourceLedger$State;" : Cond) ∈ wsX11_account := List.mem_of_getElem? (i := 1) rfl
theorem iwd_X11_account_X11 : ∀ w ∈ wsX110, w ∈ wsX11_account := fun _ h => List.mem_cons_of_mem _ (List.mem_append_left _ (List.mem_append_right _ h))
theorem md_X11_account_3 : (.fieldLink RX11 180 "ResourceLedger$State" "sequence" "[J" : Cond) ∈ wsX11_account := List.mem_of_getElem? (i := 3) rfl
theorem iwd_X11_account_X7 : ∀ w ∈ wsX70, w ∈ wsX11_account := fun _ h => List.mem_cons_of_mem _ (List.mem_append_right _ h)
theorem md_X11_account_2 : (.fieldLink RX11 104 "ResourceLedger$State" "balance" "[J" : Cond) ∈ wsX11_account := List.mem_of_getElem? (i := 2) rfl
set_option maxHeartbeats 4000000 in
set_option maxRecDepth 100000 in
theorem de_X11_account (l : Launch) (dC : Nat → ClassId) (dI : Nat → Nat → Nat) (cy : Nat → ClassId) (a : Nat → Nat) (sh : Nat → Nat × Nat) (n sz : Nat) (F : Nat) (z : St) (h0 : Nat) (x0 : Int64) (x1 : Int32) {z8 : St} {r8 : Int64} (hf : fn_X11_account F sh n z h0 x0 x1 = some (z8, r8)) : Met l yX11_account wsX11_account ({ frames := 1, cells := 0, slots := 0, locals := 23 }) (va_Pc [.ref (a h0), .long x0, .int x1] (fun U => U.heap.size = sz ∧ va_P (dC, dI) vwCl (Wd cy a sh n z) U.heap ∧ va_K (dC, dI) vwCl (TYS cy) U ∧ va_D (fun _ => True) (Wd cy a sh n z) ∧ NK U)) (va_Ql (fun (r9 : Int64) (u : Unit) => r9 = r8) (fun u t => va_P (dC, dI) vwCl (Wd cy a sh n z8) t.heap ∧ va_K (dC, dI) vwCl (TYS cy) t ∧ va_D (va_A (Wd cy a sh n z) sz) (Wd cy a sh n z8)) (va_A (Wd cy a sh n z) sz)) 0 0 (va_A (Wd cy a sh n z) sz) := by
  refine Met.ofW (cc := cX11_account) (maxL := 5) (ret := (some .long)) (by decide) rfl ?_
  intro p e s m args below meth c s₁ B hml hv
  obtain ⟨rfl, hsz, hP, hK, hD0, hN⟩ := hv
  have hx := B.exec
  have hb := B.bytes
  have hr := B.returns
  have hts := atoms_spec (ws := wsX11_account) B.pre
  have hown : s.vm.findClass RX11 = some m.cls := findClass_of_methodNamed B.named
  have hlocks := B.notSynchronized
  subst hsz
  have hD := hD0.self (sz := s.heap.size)
  clear hD0
  generalize hAe : va_A (Wd cy a sh n z) s.heap.size = A at hD ⊢
  have hA : ∀ q : Nat, s.heap.size ≤ q → A q := fun q h => by rw [← hAe]; exact Or.inr h
  clear hAe
  have hS : va_S A s.heap s.heap [] := va_S.rf
  have hl := lv_entry ([.ref (a h0), .long x0, .int x1]) (n := 5) (Nat.le_of_ble_eq_true rfl)
  rw [lg_entry_eq]
  generalize (lg_sl ([.ref (a h0), .long x0, .int x1]) ++ List.replicate (5 - (lg_sl ([.ref (a h0), .long x0, .int x1])).length) Slot.unset).toArray = ls at hl ⊢
  replace hl : lv_has ls 5 [(0, .ref (a h0)), (1, .long x0), (3, .int x1)] := hl
  unfold fn_X11_account at hf
  refine de_start hS hP (fun H locs hS hP => ?_)
  refine lv_aload_n hx hb dX11_account_0 rfl (lv_at hl 0 rfl) ?_
  obtain ⟨g_1, hf⟩ := grd_some hf
  obtain ⟨kg_1, sg_1⟩ := okO_at g_1
  obtain ⟨k_2, ek_2, hf⟩ := lnk_some hf
  refine va_get (D := (dC, dI)) (ci := 11) (v := .ref (a k_2)) (C := RX11) (T := TX11) (N := 13) hx hb hts iwd_X11_account_X11 hown hK hP h0 (Wd_ob kg_1 sg_1 (by decide)) rfl 6 (by decide) (hts _ md_X11_account_1) (fun _ h9 => h9) (fl_q rfl ek_2) dX11_account_1 ?_
  refine lv_lload_n hx hb dX11_account_4 rfl (lv_at hl 1 rfl) ?_
  obtain ⟨g_5, hf⟩ := grd_some hf
  obtain ⟨kg_5, sg_5⟩ := okO_at g_5
  obtain ⟨z_3, r_4, hfc, hf⟩ := cal_some hf
  have hFc := de_free hD hS hA
  refine va_calli (va_runV (As := [.long x0]) (rest := []) ⟨hx, hb, hml, hown, hts⟩ (de_X7_findAccount l dC dI cy a sh n H.size F z k_2 x0 hfc) (cwV 1 hts gX11_account_X7_findAccount rfl rfl rfl (by decide +kernel) ⟨Nat.le_of_ble_eq_true rfl, Nat.le_of_ble_eq_true rfl⟩) ⟨fun a U g mk q => by obtain ⟨q0, q1, qP, qK, qD, qN⟩ := q; exact ⟨q0, q1, qP, va_K.moved (u := U) (U := U.calling g mk a) (Vm.Alike.refl U.vm) qK, qD, qN.same rfl⟩, va_recv hK hP (ci := 7) (q0 := k_2) rfl (Wd_ob kg_5 sg_5 (by decide)), fun U hU hW => ⟨rfl, by rw [hU], by rw [hU]; exact hP, va_K.moved hW.alike hK, hD.weaken (fun _ _ _ _ => trivial), hN.warm hW⟩⟩ rfl rfl hl.1 rfl (lv_room (Nat.le_of_ble_eq_true rfl)) dX11_account_5 ⟨Nat.le_of_ble_eq_true rfl, Nat.le_of_ble_eq_true rfl⟩) hS (fun q _ h => hFc q h) hFc (fun rr u t H_6 locs ht hvm hw hB hz1 hk1 hS2 => ?_)
  rw [hw]
  clear hw
  obtain ⟨hP1, -, hD1⟩ := hB
  rw [ht] at hP1
  replace hD := hD1.weaken (fun _ _ _ h => hFc _ h)
  replace hP := hP1
  replace hS := hS2
  clear hP1 hD1 hS2 hFc hfc hz1 hk1 hvm ht
  refine lv_istore (lv' := [(4, .int r_4), (0, .ref (a h0)), (1, .long x0), (3, .int x1)]) hx hb dX11_account_8 hl (by decide) rfl (fun ls hl2 => ?_)
  replace hl := hl2
  clear hl2
  refine lv_iload hx hb dX11_account_10 (lv_at hl 0 rfl) ?_
  refine lv_if_ge (tgt := 17) hx hb dX11_account_12 (by decide) (fun c_7 => ?_) (fun c_7 => ?_)
  · skip
    rw [if_pos c_7] at hf
    refine lv_iload_n hx hb dX11_account_17 rfl (lv_at hl 3 rfl) ?_
    refine lv_if_ne (tgt := 32) hx hb dX11_account_18 (by decide) (fun c_8 => ?_) (fun c_8 => ?_)
    · skip
      rw [if_neg c_8] at hf
      refine lv_iload_n hx hb dX11_account_32 rfl (lv_at hl 3 rfl) ?_
      refine lv_iconst (v := 1) hx hb dX11_account_33 (by decide) ?_
      refine lv_icmp_ne (tgt := 50) hx hb dX11_account_34 (by decide) (fun c_9 => ?_) (fun c_9 => ?_)
      · skip
        rw [if_neg c_9] at hf
        refine lv_lconst (v := 0) hx hb dX11_account_50 (by decide) ?_
        obtain ⟨h8, h9⟩ := ret_some hf
        rw [h8, h9]
        exact W.lret (v := 0) hx hb hr (fun t ht hW => ⟨⟨0, (), rfl, rfl, by rw [ht]; exact hP, va_K.moved hW.alike hK, hD⟩, hS.F ht⟩) hS.2.2 dX11_account_51
      · skip
        rw [if_pos c_9] at hf
        refine lv_aload_n hx hb dX11_account_37 rfl (lv_at hl 1 rfl) ?_
        obtain ⟨k_10, ek_10, hf⟩ := lnk_some hf
        refine va_get (D := (dC, dI)) (ci := 11) (v := .ref (a k_10)) (C := RX11) (T := TX11) (N := 13) hx hb hts iwd_X11_account_X11 hown hK hP h0 (Wd_ob kg_1 sg_1 (by decide)) rfl 6 (by decide) (hts _ md_X11_account_1) (fun _ h9 => h9) (fl_q rfl ek_10) dX11_account_38 ?_
        obtain ⟨g_11, hf⟩ := grd_some hf
        obtain ⟨kg_11, sg_11⟩ := okO_at g_11
        obtain ⟨k_12, ek_12, hf⟩ := lnk_some hf
        refine va_get (D := (dC, dI)) (ci := 7) (v := .ref (a k_12)) (C := RX7) (T := TX7) (N := 16) hx hb hts iwd_X11_account_X7 hown hK hP k_10 (Wd_ob kg_11 sg_11 (by decide)) rfl 2 (by decide) (hts _ md_X11_account_3) (fun _ h9 => h9) (fl_q rfl ek_12) dX11_account_41 ?_
        refine lv_iload hx hb dX11_account_44 (lv_at hl 0 rfl) ?_
        obtain ⟨g_13, hf⟩ := grd_some hf
        obtain ⟨kg_13, sg_13, ig_13⟩ := okA_at g_13
        refine va_lald hx hb hK hP k_12 2 (Wd_al kg_13 sg_13) rfl ig_13 dX11_account_46 ?_
        refine lv_goto (tgt := 51) hx hb dX11_account_47 (by decide) ?_
        obtain ⟨h8, h9⟩ := ret_some hf
        rw [h8, h9]
        exact W.lret (v := (z_3.2.1 k_12 r_4.toNatClampNeg)) hx hb hr (fun t ht hW => ⟨⟨(z_3.2.1 k_12 r_4.toNatClampNeg), (), rfl, rfl, by rw [ht]; exact hP, va_K.moved hW.alike hK, hD⟩, hS.F ht⟩) hS.2.2 dX11_account_51
    · skip
      rw [if_pos c_8] at hf
      refine lv_aload_n hx hb dX11_account_21 rfl (lv_at hl 1 rfl) ?_
      obtain ⟨k_14, ek_14, hf⟩ := lnk_some hf
      refine va_get (D := (dC, dI)) (ci := 11) (v := .ref (a k_14)) (C := RX11) (T := TX11) (N := 13) hx hb hts iwd_X11_account_X11 hown hK hP h0 (Wd_ob kg_1 sg_1 (by decide)) rfl 6 (by decide) (hts _ md_X11_account_1) (fun _ h9 => h9) (fl_q rfl ek_14) dX11_account_22 ?_
      obtain ⟨g_15, hf⟩ := grd_some hf
      obtain ⟨kg_15, sg_15⟩ := okO_at g_15
      obtain ⟨k_16, ek_16, hf⟩ := lnk_some hf
      refine va_get (D := (dC, dI)) (ci := 7) (v := .ref (a k_16)) (C := RX7) (T := TX7) (N := 16) hx hb hts iwd_X11_account_X7 hown hK hP k_14 (Wd_ob kg_15 sg_15 (by decide)) rfl 1 (by decide) (hts _ md_X11_account_2) (fun _ h9 => h9) (fl_q rfl ek_16) dX11_account_25 ?_
      refine lv_iload hx hb dX11_account_28 (lv_at hl 0 rfl) ?_
      obtain ⟨g_17, hf⟩ := grd_some hf
      obtain ⟨kg_17, sg_17, ig_17⟩ := okA_at g_17
      refine va_lald hx hb hK hP k_16 2 (Wd_al kg_17 sg_17) rfl ig_17 dX11_account_30 ?_
      obtain ⟨h8, h9⟩ := ret_some hf
      rw [h8, h9]
      exact W.lret (v := (z_3.2.1 k_16 r_4.toNatClampNeg)) hx hb hr (fun t ht hW => ⟨⟨(z_3.2.1 k_16 r_4.toNatClampNeg), (), rfl, rfl, by rw [ht]; exact hP, va_K.moved hW.alike hK, hD⟩, hS.F ht⟩) hS.2.2 dX11_account_31
  · skip
    rw [if_neg c_7] at hf
    refine lv_lconst (v := 0) hx hb dX11_account_15 (by decide) ?_
    obtain ⟨h8, h9⟩ := ret_some hf
    rw [h8, h9]
    exact W.lret (v := 0) hx hb hr (fun t ht hW => ⟨⟨0, (), rfl, rfl, by rw [ht]; exact hP, va_K.moved hW.alike hK, hD⟩, hS.F ht⟩) hS.2.2 dX11_account_16

theorem md_X7_settle_1 : (.fieldLink RX7 67 "ResourceLedger$Transaction" "sender" "J" : Cond) ∈ wsX7_settle := List.mem_of_getElem? (i := 1) rfl
theorem iwd_X7_settle_X8 : ∀ w ∈ wsX80, w ∈ wsX7_settle := fun _ h => List.mem_cons_of_mem _ (List.mem_append_left _ (List.mem_append_right _ h))
theorem md_X7_settle_2 : (.fieldLink RX7 15 "ResourceLedger$State" "balance" "[J" : Cond) ∈ wsX7_settle := List.mem_of_getElem? (i := 2) rfl
theorem iwd_X7_settle_X7 : ∀ w ∈ wsX70, w ∈ wsX7_settle := fun _ h => List.mem_cons_of_mem _ (List.mem_append_right _ h)
theorem md_X7_settle_3 : (.fieldLink RX7 77 "ResourceLedger$Transaction" "limit" "I" : Cond) ∈ wsX7_settle := List.mem_of_getElem? (i := 3) rfl
theorem md_X7_settle_4 : (.fieldLink RX7 80 "ResourceLedger$Transaction" "gas" "I" : Cond) ∈ wsX7_settle := List.mem_of_getElem? (i := 4) rfl
theorem md_X7_settle_5 : (.fieldLink RX7 83 "ResourceLedger$State" "burned" "J" : Cond) ∈ wsX7_settle := List.mem_of_getElem? (i := 5) rfl
set_option maxHeartbeats 4000000 in
set_option maxRecDepth 100000 in
theorem de_X7_settle (l : Launch) (dC : Nat → ClassId) (dI : Nat → Nat → Nat) (cy : Nat → ClassId) (a : Nat → Nat) (sh : Nat → Nat × Nat) (n sz : Nat) (F : Nat) (z : St) (h0 : Nat) (x0 : Nat) {z8 : St} {r8 : Unit} (hf : fn_X7_settle F sh n z h0 x0 = some (z8, r8)) : Met l yX7_settle wsX7_settle ({ frames := 1, cells := 0, slots := 0, locals := 23 }) (va_Pc [.ref (a h0), .ref (a x0)] (fun U => U.heap.size = sz ∧ va_P (dC, dI) vwCl (Wd cy a sh n z) U.heap ∧ va_K (dC, dI) vwCl (TYS cy) U ∧ va_D (fun _ => True) (Wd cy a sh n z) ∧ NK U)) (va_Qv (fun u : Unit => True) (fun u t => va_P (dC, dI) vwCl (Wd cy a sh n z8) t.heap ∧ va_K (dC, dI) vwCl (TYS cy) t ∧ va_D (va_A (Wd cy a sh n z) sz) (Wd cy a sh n z8)) (va_A (Wd cy a sh n z) sz)) 0 0 (va_A (Wd cy a sh n z) sz) := by
  refine Met.ofW (cc := cX7_settle) (maxL := 3) (ret := none) (by decide) rfl ?_
  intro p e s m args below meth c s₁ B hml hv
  obtain ⟨rfl, hsz, hP, hK, hD0, hN⟩ := hv
  have hx := B.exec
  have hb := B.bytes
  have hr := B.returns
  have hts := atoms_spec (ws := wsX7_settle) B.pre
  have hown : s.vm.findClass RX7 = some m.cls := findClass_of_methodNamed B.named
  have hlocks := B.notSynchronized
  subst hsz
  have hD := hD0.self (sz := s.heap.size)
  clear hD0
  generalize hAe : va_A (Wd cy a sh n z) s.heap.size = A at hD ⊢
  have hA : ∀ q : Nat, s.heap.size ≤ q → A q := fun q h => by rw [← hAe]; exact Or.inr h
  clear hAe
  have hS : va_S A s.heap s.heap [] := va_S.rf
  have hl := lv_entry ([.ref (a h0), .ref (a x0)]) (n := 3) (Nat.le_of_ble_eq_true rfl)
  rw [lg_entry_eq]
  generalize (lg_sl ([.ref (a h0), .ref (a x0)]) ++ List.replicate (3 - (lg_sl ([.ref (a h0), .ref (a x0)])).length) Slot.unset).toArray = ls at hl ⊢
  replace hl : lv_has ls 3 [(0, .ref (a h0)), (1, .ref (a x0))] := hl
  unfold fn_X7_settle at hf
  refine de_start hS hP (fun H locs hS hP => ?_)
  refine lv_aload_n hx hb dX7_settle_0 rfl (lv_at hl 0 rfl) ?_
  refine lv_aload_n hx hb dX7_settle_1 rfl (lv_at hl 1 rfl) ?_
  obtain ⟨g_1, hf⟩ := grd_some hf
  obtain ⟨kg_1, sg_1⟩ := okO_at g_1
  refine va_get (D := (dC, dI)) (ci := 8) (v := .long (z.2.1 x0 1)) (C := RX8) (T := TX8) (N := 19) hx hb hts iwd_X7_settle_X8 hown hK hP x0 (Wd_ob kg_1 sg_1 (by decide)) rfl 1 (by decide) (hts _ md_X7_settle_1) (fun _ h9 => h9) (fl_at (t := 1) rfl) dX7_settle_2 ?_
  obtain ⟨g_4, hf⟩ := grd_some hf
  obtain ⟨kg_4, sg_4⟩ := okO_at g_4
  obtain ⟨z_2, r_3, hfc, hf⟩ := cal_some hf
  have hFc := de_free hD hS hA
  refine va_calli (va_runV (As := [.long (z.2.1 x0 1)]) (rest := []) ⟨hx, hb, hml, hown, hts⟩ (de_X7_findAccount l dC dI cy a sh n H.size F z h0 (z.2.1 x0 1) hfc) (cwV 1 hts gX7_settle_X7_findAccount rfl rfl rfl (by decide +kernel) ⟨Nat.le_of_ble_eq_true rfl, Nat.le_of_ble_eq_true rfl⟩) ⟨fun a U g mk q => by obtain ⟨q0, q1, qP, qK, qD, qN⟩ := q; exact ⟨q0, q1, qP, va_K.moved (u := U) (U := U.calling g mk a) (Vm.Alike.refl U.vm) qK, qD, qN.same rfl⟩, va_recv hK hP (ci := 7) (q0 := h0) rfl (Wd_ob kg_4 sg_4 (by decide)), fun U hU hW => ⟨rfl, by rw [hU], by rw [hU]; exact hP, va_K.moved hW.alike hK, hD.weaken (fun _ _ _ _ => trivial), hN.warm hW⟩⟩ rfl rfl hl.1 rfl (lv_room (Nat.le_of_ble_eq_true rfl)) dX7_settle_5 ⟨Nat.le_of_ble_eq_true rfl, Nat.le_of_ble_eq_true rfl⟩) hS (fun q _ h => hFc q h) hFc (fun rr u t H_5 locs ht hvm hw hB hz1 hk1 hS2 => ?_)
  rw [hw]
  clear hw
  obtain ⟨hP1, -, hD1⟩ := hB
  rw [ht] at hP1
  replace hD := hD1.weaken (fun _ _ _ h => hFc _ h)
  replace hP := hP1
  replace hS := hS2
  clear hP1 hD1 hS2 hFc hfc hz1 hk1 hvm ht
  refine lv_istore_n (lv' := [(2, .int r_3), (0, .ref (a h0)), (1, .ref (a x0))]) hx hb dX7_settle_8 rfl hl (by decide) rfl (fun ls hl2 => ?_)
  replace hl := hl2
  clear hl2
  refine lv_iload_n hx hb dX7_settle_9 rfl (lv_at hl 0 rfl) ?_
  refine lv_if_lt (tgt := 46) hx hb dX7_settle_10 (by decide) (fun c_6 => ?_) (fun c_6 => ?_)
  · skip
    rw [if_pos c_6] at hf
    obtain ⟨h8, h9⟩ := ret_some hf
    rw [h8]
    exact W.vret hx hb hr (fun t ht hW => ⟨⟨(), rfl, trivial, by rw [ht]; exact hP, va_K.moved hW.alike hK, hD⟩, hS.F ht⟩) hS.2.2 dX7_settle_46
  · skip
    rw [if_neg c_6] at hf
    refine lv_aload_n hx hb dX7_settle_13 rfl (lv_at hl 1 rfl) ?_
    obtain ⟨k_7, ek_7, hf⟩ := lnk_some hf
    refine va_get (D := (dC, dI)) (ci := 7) (v := .ref (a k_7)) (C := RX7) (T := TX7) (N := 16) hx hb hts iwd_X7_settle_X7 hown hK hP h0 (Wd_ob kg_4 sg_4 (by decide)) rfl 1 (by decide) (hts _ md_X7_settle_2) (fun _ h9 => h9) (fl_q rfl ek_7) dX7_settle_14 ?_
    refine lv_iload_n hx hb dX7_settle_17 rfl (lv_at hl 0 rfl) ?_
    refine lv_dup2_11 hx hb dX7_settle_18 rfl rfl ?_
    obtain ⟨g_8, hf⟩ := grd_some hf
    obtain ⟨kg_8, sg_8, ig_8⟩ := okA_at g_8
    refine va_lald hx hb hK hP k_7 2 (Wd_al kg_8 sg_8) rfl ig_8 dX7_settle_19 ?_
    refine lv_aload_n hx hb dX7_settle_20 rfl (lv_at hl 2 rfl) ?_
    refine va_get (D := (dC, dI)) (ci := 8) (v := .int (z_2.1 x0 3)) (C := RX8) (T := TX8) (N := 19) hx hb hts iwd_X7_settle_X8 hown hK hP x0 (Wd_ob kg_1 sg_1 (by decide)) rfl 3 (by decide) (hts _ md_X7_settle_3) (fun _ h9 => h9) (fl_at (t := 0) rfl) dX7_settle_21 ?_
    refine lv_aload_n hx hb dX7_settle_24 rfl (lv_at hl 2 rfl) ?_
    refine va_get (D := (dC, dI)) (ci := 8) (v := .int (z_2.1 x0 13)) (C := RX8) (T := TX8) (N := 19) hx hb hts iwd_X7_settle_X8 hown hK hP x0 (Wd_ob kg_1 sg_1 (by decide)) rfl 13 (by decide) (hts _ md_X7_settle_4) (fun _ h9 => h9) (fl_at (t := 0) rfl) dX7_settle_25 ?_
    refine lv_isub hx hb dX7_settle_28 ?_
    refine lv_i2l (v := (((z_2.1 x0 3) - (z_2.1 x0 13)) : Int32).toInt64) hx hb dX7_settle_29 rfl ?_
    refine lv_ladd hx hb dX7_settle_30 ?_
    obtain ⟨g_9, hf⟩ := grd_some hf
    obtain ⟨kg_9, sg_9, ig_9⟩ := okA_at g_9
    refine va_last hx hb hK hP hD hS k_7 2 (Wd_al kg_9 sg_9) rfl ig_9 dX7_settle_31 (fun H_10 locs hP2 hD2 hS2 => ?_)
    rw [Wd_tl sg_9] at hP2 hD2
    obtain ⟨z_11, ez_11⟩ : ∃ w, w = sl z_2 k_7 r_3.toNatClampNeg ((z_2.2.1 k_7 r_3.toNatClampNeg) + ((((z_2.1 x0 3) - (z_2.1 x0 13)) : Int32).toInt64)) := ⟨_, rfl⟩
    rw [← ez_11] at hP2 hD2
    replace hf := lt_at ez_11 hf
    clear ez_11
    replace hP := hP2
    replace hD := hD2
    replace hS := hS2
    clear hP2 hD2 hS2
    refine lv_aload_n hx hb dX7_settle_32 rfl (lv_at hl 1 rfl) ?_
    refine lv_dup hx hb dX7_settle_33 rfl ?_
    refine va_get (D := (dC, dI)) (ci := 7) (v := .long (z_11.2.1 h0 15)) (C := RX7) (T := TX7) (N := 16) hx hb hts iwd_X7_settle_X7 hown hK hP h0 (Wd_ob kg_4 sg_4 (by decide)) rfl 15 (by decide) (hts _ md_X7_settle_5) (fun _ h9 => h9) (fl_at (t := 1) rfl) dX7_settle_34 ?_
    refine lv_aload_n hx hb dX7_settle_37 rfl (lv_at hl 2 rfl) ?_
    refine va_get (D := (dC, dI)) (ci := 8) (v := .int (z_11.1 x0 13)) (C := RX8) (T := TX8) (N := 19) hx hb hts iwd_X7_settle_X8 hown hK hP x0 (Wd_ob kg_1 sg_1 (by decide)) rfl 13 (by decide) (hts _ md_X7_settle_4) (fun _ h9 => h9) (fl_at (t := 0) rfl) dX7_settle_38 ?_
    refine lv_i2l (v := ((z_11.1 x0 13) : Int32).toInt64) hx hb dX7_settle_41 rfl ?_
    refine lv_ladd hx hb dX7_settle_42 ?_
    refine va_put (D := (dC, dI)) (ci := 7) (v := .long ((z_11.2.1 h0 15) + (((z_11.1 x0 13) : Int32).toInt64))) (ty := .long) (C := RX7) (T := TX7) (N := 16) hx hb hts iwd_X7_settle_X7 tyX7 tyX7_ok nmX7 hown hK hP hD hS h0 (Wd_ob kg_4 sg_4 (by decide)) rfl 15 (by decide) (hts _ md_X7_settle_5) (fun _ h9 => h9) rfl (by decide +kernel) rfl rfl (by rw [fl_len]; decide) dX7_settle_43 (fun H_12 locs hP2 hD2 hS2 => ?_)
    rw [Wd_sl sg_4 (by decide) rfl] at hP2 hD2
    obtain ⟨z_13, ez_13⟩ : ∃ w, w = sl z_11 h0 15 ((z_11.2.1 h0 15) + (((z_11.1 x0 13) : Int32).toInt64)) := ⟨_, rfl⟩
    rw [← ez_13] at hP2 hD2
    replace hf := lt_at ez_13 hf
    clear ez_13
    replace hP := hP2
    replace hD := hD2
    replace hS := hS2
    clear hP2 hD2 hS2
    obtain ⟨h8, h9⟩ := ret_some hf
    rw [h8]
    exact W.vret hx hb hr (fun t ht hW => ⟨⟨(), rfl, trivial, by rw [ht]; exact hP, va_K.moved hW.alike hK, hD⟩, hS.F ht⟩) hS.2.2 dX7_settle_46

theorem md_X14_isBehind_1 : (.fieldLink RX14 7 "ResourceLedgerModel$Roots" "keys" "[J" : Cond) ∈ wsX14_isBehind := List.mem_of_getElem? (i := 1) rfl
theorem iwd_X14_isBehind_X14 : ∀ w ∈ wsX140, w ∈ wsX14_isBehind := fun _ h => List.mem_cons_of_mem _ (List.mem_append_right _ h)
set_option maxHeartbeats 4000000 in
set_option maxRecDepth 100000 in
theorem de_X14_isBehind (l : Launch) (dC : Nat → ClassId) (dI : Nat → Nat → Nat) (cy : Nat → ClassId) (a : Nat → Nat) (sh : Nat → Nat × Nat) (n sz : Nat) (F : Nat) (z : St) (h0 : Nat) (x0 : Int32) (x1 : Nat) {z8 : St} {r8 : Int32} (hf : fn_X14_isBehind F sh n z h0 x0 x1 = some (z8, r8)) : Met l yX14_isBehind wsX14_isBehind ({ frames := 1, cells := 0, slots := 0, locals := 23 }) (va_Pc [.ref (a h0), .int x0, .ref (a x1)] (fun U => U.heap.size = sz ∧ va_P (dC, dI) vwCl (Wd cy a sh n z) U.heap ∧ va_K (dC, dI) vwCl (TYS cy) U ∧ va_D (fun _ => True) (Wd cy a sh n z) ∧ NK U)) (va_Qi (fun (r9 : Int32) (u : Unit) => r9 = r8) (fun u t => va_P (dC, dI) vwCl (Wd cy a sh n z8) t.heap ∧ va_K (dC, dI) vwCl (TYS cy) t ∧ va_D (va_A (Wd cy a sh n z) sz) (Wd cy a sh n z8)) (va_A (Wd cy a sh n z) sz)) 0 0 (va_A (Wd cy a sh n z) sz) := by
  refine Met.ofW (cc := cX14_isBehind) (maxL := 5) (ret := (some .boolean)) (by decide) rfl ?_
  intro p e s m args below meth c s₁ B hml hv
  obtain ⟨rfl, hsz, hP, hK, hD0, hN⟩ := hv
  have hx := B.exec
  have hb := B.bytes
  have hr := B.returns
  have hts := atoms_spec (ws := wsX14_isBehind) B.pre
  have hown : s.vm.findClass RX14 = some m.cls := findClass_of_methodNamed B.named
  have hlocks := B.notSynchronized
  subst hsz
  have hD := hD0.self (sz := s.heap.size)
  clear hD0
  generalize hAe : va_A (Wd cy a sh n z) s.heap.size = A at hD ⊢
  have hA : ∀ q : Nat, s.heap.size ≤ q → A q := fun q h => by rw [← hAe]; exact Or.inr h
  clear hAe
  have hS : va_S A s.heap s.heap [] := va_S.rf
  have hl := lv_entry ([.ref (a h0), .int x0, .ref (a x1)]) (n := 5) (Nat.le_of_ble_eq_true rfl)
  rw [lg_entry_eq]
  generalize (lg_sl ([.ref (a h0), .int x0, .ref (a x1)]) ++ List.replicate (5 - (lg_sl ([.ref (a h0), .int x0, .ref (a x1)])).length) Slot.unset).toArray = ls at hl ⊢
  replace hl : lv_has ls 5 [(0, .ref (a h0)), (1, .int x0), (2, .ref (a x1))] := hl
  unfold fn_X14_isBehind at hf
  refine de_start hS hP (fun H locs hS hP => ?_)
  refine lv_iconst (v := 0) hx hb dX14_isBehind_0 (by decide) ?_
  refine lv_istore_n (lv' := [(3, .int 0), (0, .ref (a h0)), (1, .int x0), (2, .ref (a x1))]) hx hb dX14_isBehind_1 rfl hl (by decide) rfl (fun ls hl2 => ?_)
  replace hl := hl2
  clear hl2
  have hl0 : lv_has ls 5 [(3, .int 0), (0, .ref (a h0)), (1, .int x0), (2, .ref (a x1))] := lv_sub hl [0, 1, 2, 3] rfl
  refine de_loop (h := 2) (fun (x : St × Int32) ls H locs => lv_has ls 5 [(3, .int x.2), (0, .ref (a h0)), (1, .int x0), (2, .ref (a x1))] ∧ va_P (dC, dI) vwCl (Wd cy a sh n x.1) H ∧ va_D A (Wd cy a sh n x.1) ∧ va_S A s.heap H locs) (fun f x => fn_X14_isBehind_L2 F sh n h0 x0 x1 f x.1 x.2) (z8, r8) ?_ (fun _ => rfl) F (z, 0) ls H locs ⟨hl0, hP, hD, hS⟩ hf
  intro f_3 x ls H locs ih2 hI hf
  obtain ⟨z_2, p_1⟩ := x
  obtain ⟨hl2, hP2, hD2, hS2⟩ := hI
  replace hl : lv_has ls 5 [(3, .int p_1), (0, .ref (a h0)), (1, .int x0), (2, .ref (a x1))] := hl2
  replace hP := hP2
  replace hD := hD2
  replace hS := hS2
  clear hl2 hP2 hD2 hS2 hl0
  replace hf := fn_X14_isBehind_L2_s hf
  refine lv_iload_n hx hb dX14_isBehind_2 rfl (lv_at hl 0 rfl) ?_
  refine lv_iconst (v := 4) hx hb dX14_isBehind_3 (by decide) ?_
  refine lv_icmp_ge (tgt := 47) hx hb dX14_isBehind_4 (by decide) (fun c_4 => ?_) (fun c_4 => ?_)
  · skip
    rw [if_pos c_4] at hf
    refine lv_iconst (v := 0) hx hb dX14_isBehind_47 (by decide) ?_
    obtain ⟨h8, h9⟩ := ret_some hf
    rw [h8, h9]
    exact W.zret (v := 0) hx hb hr rfl (fun t ht hW => ⟨⟨0, (), rfl, rfl, by rw [ht]; exact hP, va_K.moved hW.alike hK, hD⟩, hS.F ht⟩) hS.2.2 dX14_isBehind_48
  · skip
    rw [if_neg c_4] at hf
    refine lv_aload_n hx hb dX14_isBehind_7 rfl (lv_at hl 1 rfl) ?_
    obtain ⟨g_5, hf⟩ := grd_some hf
    obtain ⟨kg_5, sg_5⟩ := okO_at g_5
    obtain ⟨k_6, ek_6, hf⟩ := lnk_some hf
    refine va_get (D := (dC, dI)) (ci := 14) (v := .ref (a k_6)) (C := RX14) (T := TX14) (N := 11) hx hb hts iwd_X14_isBehind_X14 hown hK hP h0 (Wd_ob kg_5 sg_5 (by decide)) rfl 0 (by decide) (hts _ md_X14_isBehind_1) (fun _ h9 => h9) (fl_q rfl ek_6) dX14_isBehind_8 ?_
    refine lv_iconst (v := 4) hx hb dX14_isBehind_11 (by decide) ?_
    refine lv_iload_n hx hb dX14_isBehind_12 rfl (lv_at hl 2 rfl) ?_
    refine lv_imul hx hb dX14_isBehind_13 ?_
    refine lv_iload_n hx hb dX14_isBehind_14 rfl (lv_at hl 0 rfl) ?_
    refine lv_iadd hx hb dX14_isBehind_15 ?_
    obtain ⟨g_7, hf⟩ := grd_some hf
    obtain ⟨kg_7, sg_7, ig_7⟩ := okA_at g_7
    refine va_lald hx hb hK hP k_6 2 (Wd_al kg_7 sg_7) rfl ig_7 dX14_isBehind_16 ?_
    refine lv_aload_n hx hb dX14_isBehind_17 rfl (lv_at hl 3 rfl) ?_
    refine lv_iload_n hx hb dX14_isBehind_18 rfl (lv_at hl 0 rfl) ?_
    obtain ⟨g_8, hf⟩ := grd_some hf
    obtain ⟨kg_8, sg_8, ig_8⟩ := okA_at g_8
    refine va_lald hx hb hK hP x1 2 (Wd_al kg_8 sg_8) rfl ig_8 dX14_isBehind_19 ?_
    obtain ⟨z_9, r_10, hfc, hf⟩ := cal_some hf
    have hFc := de_free hD hS hA
    refine va_calli (va_runS (As := [.long (z_2.2.1 k_6 ((4 * x0) + p_1).toNatClampNeg), .long (z_2.2.1 x1 p_1.toNatClampNeg)]) (rest := []) ⟨hx, hb, hml, hown, hts⟩ (de_X14_order l dC dI cy a sh n H.size F z_2 (z_2.2.1 k_6 ((4 * x0) + p_1).toNatClampNeg) (z_2.2.1 x1 p_1.toNatClampNeg) hfc) (va_cwS 2 hts gX14_isBehind_X14_order rfl rfl rfl (by decide +kernel) ⟨Nat.le_of_ble_eq_true rfl, Nat.le_of_ble_eq_true rfl⟩) ⟨fun a U g mk q => by obtain ⟨q0, q1, qP, qK, qD, qN⟩ := q; exact ⟨q0, q1, qP, va_K.moved (u := U) (U := U.calling g mk a) (Vm.Alike.refl U.vm) qK, qD, qN.same rfl⟩, fun U hU hW => ⟨rfl, by rw [hU], by rw [hU]; exact hP, va_K.moved hW.alike hK, hD.weaken (fun _ _ _ _ => trivial), hN.warm hW⟩⟩ rfl rfl hl.1 rfl (lv_room (Nat.le_of_ble_eq_true rfl)) dX14_isBehind_20 ⟨Nat.le_of_ble_eq_true rfl, Nat.le_of_ble_eq_true rfl⟩) hS (fun q _ h => hFc q h) hFc (fun rr u t H_11 locs ht hvm hw hB hz1 hk1 hS2 => ?_)
    rw [hw]
    clear hw
    obtain ⟨hP1, -, hD1⟩ := hB
    rw [ht] at hP1
    replace hD := hD1.weaken (fun _ _ _ h => hFc _ h)
    replace hP := hP1
    replace hS := hS2
    clear hP1 hD1 hS2 hFc hfc hz1 hk1 hvm ht
    refine lv_istore (lv' := [(4, .int r_10), (3, .int p_1), (0, .ref (a h0)), (1, .int x0), (2, .ref (a x1))]) hx hb dX14_isBehind_23 hl (by decide) rfl (fun ls hl2 => ?_)
    replace hl := hl2
    clear hl2
    refine lv_iload hx hb dX14_isBehind_25 (lv_at hl 0 rfl) ?_
    refine lv_if_eq (tgt := 41) hx hb dX14_isBehind_27 (by decide) (fun c_12 => ?_) (fun c_12 => ?_)
    · skip
      rw [if_pos c_12] at hf
      refine lv_iinc (v := (p_1 + 1)) (lv' := [(3, .int (p_1 + 1)), (4, .int r_10), (0, .ref (a h0)), (1, .int x0), (2, .ref (a x1))]) hx hb dX14_isBehind_41 hl (k := 1) rfl rfl (by decide) rfl (fun ls hl2 => ?_)
      replace hl := hl2
      clear hl2
      refine lv_goto (tgt := 2) hx hb dX14_isBehind_44 (by decide) ?_
      exact ih2 (z_9, (p_1 + 1)) ls H_11 locs ⟨lv_sub hl [0, 2, 3, 4] rfl, hP, hD, hS⟩ hf
    · skip
      rw [if_neg c_12] at hf
      refine lv_iload hx hb dX14_isBehind_30 (lv_at hl 0 rfl) ?_
      refine lv_if_le (tgt := 39) hx hb dX14_isBehind_32 (by decide) (fun c_13 => ?_) (fun c_13 => ?_)
      · skip
        rw [if_pos c_13] at hf
        refine lv_iconst (v := 0) hx hb dX14_isBehind_39 (by decide) ?_
        obtain ⟨h8, h9⟩ := ret_some hf
        rw [h8, h9]
        exact W.zret (v := 0) hx hb hr rfl (fun t ht hW => ⟨⟨0, (), rfl, rfl, by rw [ht]; exact hP, va_K.moved hW.alike hK, hD⟩, hS.F ht⟩) hS.2.2 dX14_isBehind_40
      · skip
        rw [if_neg c_13] at hf
        refine lv_iconst (v := 1) hx hb dX14_isBehind_35 (by decide) ?_
        refine lv_goto (tgt := 40) hx hb dX14_isBehind_36 (by decide) ?_
        obtain ⟨h8, h9⟩ := ret_some hf
        rw [h8, h9]
        exact W.zret (v := 1) hx hb hr rfl (fun t ht hW => ⟨⟨1, (), rfl, rfl, by rw [ht]; exact hP, va_K.moved hW.alike hK, hD⟩, hS.F ht⟩) hS.2.2 dX14_isBehind_40

theorem md_X18_spend_1 : (.fieldLink RX18 261 "ResourceLedgerModel" "gas" "I" : Cond) ∈ wsX18_spend := List.mem_of_getElem? (i := 1) rfl
theorem iwd_X18_spend_X18 : ∀ w ∈ wsX180, w ∈ wsX18_spend := fun _ h => List.mem_cons_of_mem _ (List.mem_append_right _ h)
theorem md_X18_spend_2 : (.fieldLink RX18 264 "ResourceLedgerModel" "limit" "I" : Cond) ∈ wsX18_spend := List.mem_of_getElem? (i := 2) rfl
theorem md_X18_spend_3 : (.constantLong RX18 122 (5) : Cond) ∈ wsX18_spend := List.mem_of_getElem? (i := 3) rfl
set_option maxHeartbeats 4000000 in
set_option maxRecDepth 100000 in
theorem de_X18_spend (l : Launch) (dC : Nat → ClassId) (dI : Nat → Nat → Nat) (cy : Nat → ClassId) (a : Nat → Nat) (sh : Nat → Nat × Nat) (n sz : Nat) (F : Nat) (z : St) (h0 : Nat) (x0 : Int32) {z8 : St} {r8 : Int32} (hf : fn_X18_spend F sh n z h0 x0 = some (z8, r8)) : Met l yX18_spend wsX18_spend ({ frames := 1, cells := 0, slots := 0, locals := 23 }) (va_Pc [.ref (a h0), .int x0] (fun U => U.heap.size = sz ∧ va_P (dC, dI) vwCl (Wd cy a sh n z) U.heap ∧ va_K (dC, dI) vwCl (TYS cy) U ∧ va_D (fun _ => True) (Wd cy a sh n z) ∧ NK U)) (va_Qi (fun (r9 : Int32) (u : Unit) => r9 = r8) (fun u t => va_P (dC, dI) vwCl (Wd cy a sh n z8) t.heap ∧ va_K (dC, dI) vwCl (TYS cy) t ∧ va_D (va_A (Wd cy a sh n z) sz) (Wd cy a sh n z8)) (va_A (Wd cy a sh n z) sz)) 0 0 (va_A (Wd cy a sh n z) sz) := by
  refine Met.ofW (cc := cX18_spend) (maxL := 2) (ret := (some .boolean)) (by decide) rfl ?_
  intro p e s m args below meth c s₁ B hml hv
  obtain ⟨rfl, hsz, hP, hK, hD0, hN⟩ := hv
  have hx := B.exec
  have hb := B.bytes
  have hr := B.returns
  have hts := atoms_spec (ws := wsX18_spend) B.pre
  have hown : s.vm.findClass RX18 = some m.cls := findClass_of_methodNamed B.named
  have hlocks := B.notSynchronized
  subst hsz
  have hD := hD0.self (sz := s.heap.size)
  clear hD0
  generalize hAe : va_A (Wd cy a sh n z) s.heap.size = A at hD ⊢
  have hA : ∀ q : Nat, s.heap.size ≤ q → A q := fun q h => by rw [← hAe]; exact Or.inr h
  clear hAe
  have hS : va_S A s.heap s.heap [] := va_S.rf
  have hl := lv_entry ([.ref (a h0), .int x0]) (n := 2) (Nat.le_of_ble_eq_true rfl)
  rw [lg_entry_eq]
  generalize (lg_sl ([.ref (a h0), .int x0]) ++ List.replicate (2 - (lg_sl ([.ref (a h0), .int x0])).length) Slot.unset).toArray = ls at hl ⊢
  replace hl : lv_has ls 2 [(0, .ref (a h0)), (1, .int x0)] := hl
  unfold fn_X18_spend at hf
  refine de_start hS hP (fun H locs hS hP => ?_)
  refine lv_aload_n hx hb dX18_spend_0 rfl (lv_at hl 0 rfl) ?_
  obtain ⟨g_3, hf⟩ := grd_some hf
  obtain ⟨kg_3, sg_3⟩ := okO_at g_3
  obtain ⟨z_1, r_2, hfc, hf⟩ := cal_some hf
  have hFc := de_free hD hS hA
  refine va_calli (va_runV (As := []) (rest := []) ⟨hx, hb, hml, hown, hts⟩ (de_X18_goesOn l dC dI cy a sh n H.size F z h0 hfc) (cwV 0 hts gX18_spend_X18_goesOn rfl rfl rfl (by decide +kernel) ⟨Nat.le_of_ble_eq_true rfl, Nat.le_of_ble_eq_true rfl⟩) ⟨fun a U g mk q => by obtain ⟨q0, q1, qP, qK, qD, qN⟩ := q; exact ⟨q0, q1, qP, va_K.moved (u := U) (U := U.calling g mk a) (Vm.Alike.refl U.vm) qK, qD, qN.same rfl⟩, va_recv hK hP (ci := 18) (q0 := h0) rfl (Wd_ob kg_3 sg_3 (by decide)), fun U hU hW => ⟨rfl, by rw [hU], by rw [hU]; exact hP, va_K.moved hW.alike hK, hD.weaken (fun _ _ _ _ => trivial), hN.warm hW⟩⟩ rfl rfl hl.1 rfl (lv_room (Nat.le_of_ble_eq_true rfl)) dX18_spend_1 ⟨Nat.le_of_ble_eq_true rfl, Nat.le_of_ble_eq_true rfl⟩) hS (fun q _ h => hFc q h) hFc (fun rr u t H_4 locs ht hvm hw hB hz1 hk1 hS2 => ?_)
  rw [hw]
  clear hw
  obtain ⟨hP1, -, hD1⟩ := hB
  rw [ht] at hP1
  replace hD := hD1.weaken (fun _ _ _ h => hFc _ h)
  replace hP := hP1
  replace hS := hS2
  clear hP1 hD1 hS2 hFc hfc hz1 hk1 hvm ht
  refine lv_if_ne (tgt := 9) hx hb dX18_spend_4 (by decide) (fun c_5 => ?_) (fun c_5 => ?_)
  · skip
    rw [if_neg c_5] at hf
    refine lv_aload_n hx hb dX18_spend_9 rfl (lv_at hl 0 rfl) ?_
    refine va_get (D := (dC, dI)) (ci := 18) (v := .int (z_1.1 h0 26)) (C := RX18) (T := TX18) (N := 78) hx hb hts iwd_X18_spend_X18 hown hK hP h0 (Wd_ob kg_3 sg_3 (by decide)) rfl 26 (by decide) (hts _ md_X18_spend_1) (fun _ h9 => h9) (fl_at (t := 0) rfl) dX18_spend_10 ?_
    refine lv_iload_n hx hb dX18_spend_13 rfl (lv_at hl 1 rfl) ?_
    refine lv_iadd hx hb dX18_spend_14 ?_
    refine lv_aload_n hx hb dX18_spend_15 rfl (lv_at hl 0 rfl) ?_
    refine va_get (D := (dC, dI)) (ci := 18) (v := .int (z_1.1 h0 25)) (C := RX18) (T := TX18) (N := 78) hx hb hts iwd_X18_spend_X18 hown hK hP h0 (Wd_ob kg_3 sg_3 (by decide)) rfl 25 (by decide) (hts _ md_X18_spend_2) (fun _ h9 => h9) (fl_at (t := 0) rfl) dX18_spend_16 ?_
    refine lv_icmp_le (tgt := 40) hx hb dX18_spend_19 (by decide) (fun c_6 => ?_) (fun c_6 => ?_)
    · skip
      rw [if_pos c_6] at hf
      refine lv_aload_n hx hb dX18_spend_40 rfl (lv_at hl 0 rfl) ?_
      refine lv_dup hx hb dX18_spend_41 rfl ?_
      refine va_get (D := (dC, dI)) (ci := 18) (v := .int (z_1.1 h0 26)) (C := RX18) (T := TX18) (N := 78) hx hb hts iwd_X18_spend_X18 hown hK hP h0 (Wd_ob kg_3 sg_3 (by decide)) rfl 26 (by decide) (hts _ md_X18_spend_1) (fun _ h9 => h9) (fl_at (t := 0) rfl) dX18_spend_42 ?_
      refine lv_iload_n hx hb dX18_spend_45 rfl (lv_at hl 1 rfl) ?_
      refine lv_iadd hx hb dX18_spend_46 ?_
      refine va_put (D := (dC, dI)) (ci := 18) (v := .int ((z_1.1 h0 26) + x0)) (ty := .int) (C := RX18) (T := TX18) (N := 78) hx hb hts iwd_X18_spend_X18 tyX18 tyX18_ok nmX18 hown hK hP hD hS h0 (Wd_ob kg_3 sg_3 (by decide)) rfl 26 (by decide) (hts _ md_X18_spend_1) (fun _ h9 => h9) rfl (by decide +kernel) rfl rfl (by rw [fl_len]; decide) dX18_spend_47 (fun H_7 locs hP2 hD2 hS2 => ?_)
      rw [Wd_si sg_3 (by decide) rfl] at hP2 hD2
      obtain ⟨z_8, ez_8⟩ : ∃ w, w = si z_1 h0 26 ((z_1.1 h0 26) + x0) := ⟨_, rfl⟩
      rw [← ez_8] at hP2 hD2
      replace hf := lt_at ez_8 hf
      clear ez_8
      replace hP := hP2
      replace hD := hD2
      replace hS := hS2
      clear hP2 hD2 hS2
      refine lv_iconst (v := 1) hx hb dX18_spend_50 (by decide) ?_
      obtain ⟨h8, h9⟩ := ret_some hf
      rw [h8, h9]
      exact W.zret (v := 1) hx hb hr rfl (fun t ht hW => ⟨⟨1, (), rfl, rfl, by rw [ht]; exact hP, va_K.moved hW.alike hK, hD⟩, hS.F ht⟩) hS.2.2 dX18_spend_51
    · skip
      rw [if_neg c_6] at hf
      refine lv_aload_n hx hb dX18_spend_22 rfl (lv_at hl 0 rfl) ?_
      refine lv_aload_n hx hb dX18_spend_23 rfl (lv_at hl 0 rfl) ?_
      refine va_get (D := (dC, dI)) (ci := 18) (v := .int (z_1.1 h0 25)) (C := RX18) (T := TX18) (N := 78) hx hb hts iwd_X18_spend_X18 hown hK hP h0 (Wd_ob kg_3 sg_3 (by decide)) rfl 25 (by decide) (hts _ md_X18_spend_2) (fun _ h9 => h9) (fl_at (t := 0) rfl) dX18_spend_24 ?_
      refine va_put (D := (dC, dI)) (ci := 18) (v := .int (z_1.1 h0 25)) (ty := .int) (C := RX18) (T := TX18) (N := 78) hx hb hts iwd_X18_spend_X18 tyX18 tyX18_ok nmX18 hown hK hP hD hS h0 (Wd_ob kg_3 sg_3 (by decide)) rfl 26 (by decide) (hts _ md_X18_spend_1) (fun _ h9 => h9) rfl (by decide +kernel) rfl rfl (by rw [fl_len]; decide) dX18_spend_27 (fun H_9 locs hP2 hD2 hS2 => ?_)
      rw [Wd_si sg_3 (by decide) rfl] at hP2 hD2
      obtain ⟨z_10, ez_10⟩ : ∃ w, w = si z_1 h0 26 (z_1.1 h0 25) := ⟨_, rfl⟩
      rw [← ez_10] at hP2 hD2
      replace hf := lt_at ez_10 hf
      clear ez_10
      replace hP := hP2
      replace hD := hD2
      replace hS := hS2
      clear hP2 hD2 hS2
      refine lv_aload_n hx hb dX18_spend_30 rfl (lv_at hl 0 rfl) ?_
      refine lv_iconst (v := 2) hx hb dX18_spend_31 (by decide) ?_
      refine lv_ldc2 hx hb hown (hts _ md_X18_spend_3) dX18_spend_32 ?_
      obtain ⟨z_11, _u, hfc, hf⟩ := cal_some hf
      have hFc := de_free hD hS hA
      refine va_callv (va_runV (As := [.int 2, .long 5]) (rest := []) ⟨hx, hb, hml, hown, hts⟩ (de_X18_end l dC dI cy a sh n H_9.size F z_10 h0 2 5 hfc) (cwV 2 hts gX18_spend_X18_end rfl rfl rfl (by decide +kernel) ⟨Nat.le_of_ble_eq_true rfl, Nat.le_of_ble_eq_true rfl⟩) ⟨fun a U g mk q => by obtain ⟨q0, q1, qP, qK, qD, qN⟩ := q; exact ⟨q0, q1, qP, va_K.moved (u := U) (U := U.calling g mk a) (Vm.Alike.refl U.vm) qK, qD, qN.same rfl⟩, va_recv hK hP (ci := 18) (q0 := h0) rfl (Wd_ob kg_3 sg_3 (by decide)), fun U hU hW => ⟨rfl, by rw [hU], by rw [hU]; exact hP, va_K.moved hW.alike hK, hD.weaken (fun _ _ _ _ => trivial), hN.warm hW⟩⟩ rfl rfl hl.1 rfl (lv_room (Nat.le_of_ble_eq_true rfl)) dX18_spend_35 ⟨Nat.le_of_ble_eq_true rfl, Nat.le_of_ble_eq_true rfl⟩) hS (fun q _ h => hFc q h) hFc (fun u t H_12 locs ht hvm hw hB hz1 hk1 hS2 => ?_)
      obtain ⟨hP1, -, hD1⟩ := hB
      rw [ht] at hP1
      replace hD := hD1.weaken (fun _ _ _ h => hFc _ h)
      replace hP := hP1
      replace hS := hS2
      clear hP1 hD1 hS2 hFc hfc hz1 hk1 hvm ht
      refine lv_iconst (v := 0) hx hb dX18_spend_38 (by decide) ?_
      obtain ⟨h8, h9⟩ := ret_some hf
      rw [h8, h9]
      exact W.zret (v := 0) hx hb hr rfl (fun t ht hW => ⟨⟨0, (), rfl, rfl, by rw [ht]; exact hP, va_K.moved hW.alike hK, hD⟩, hS.F ht⟩) hS.2.2 dX18_spend_39
  · skip
    rw [if_pos c_5] at hf
    refine lv_iconst (v := 0) hx hb dX18_spend_7 (by decide) ?_
    obtain ⟨h8, h9⟩ := ret_some hf
    rw [h8, h9]
    exact W.zret (v := 0) hx hb hr rfl (fun t ht hW => ⟨⟨0, (), rfl, rfl, by rw [ht]; exact hP, va_K.moved hW.alike hK, hD⟩, hS.F ht⟩) hS.2.2 dX18_spend_8

set_option maxHeartbeats 4000000 in
set_option maxRecDepth 100000 in
theorem de_X5_abilities (l : Launch) (dC : Nat → ClassId) (dI : Nat → Nat → Nat) (cy : Nat → ClassId) (a : Nat → Nat) (sh : Nat → Nat × Nat) (n sz : Nat) (F : Nat) (z : St) (h0 : Nat) (x0 : Int64) {z8 : St} {r8 : Int32} (hf : fn_X5_abilities F sh n z h0 x0 = some (z8, r8)) : Met l yX5_abilities wsX5_abilities ({ frames := 1, cells := 0, slots := 0, locals := 22 }) (va_Pc [.ref (a h0), .long x0] (fun U => U.heap.size = sz ∧ va_P (dC, dI) vwCl (Wd cy a sh n z) U.heap ∧ va_K (dC, dI) vwCl (TYS cy) U ∧ va_D (fun _ => True) (Wd cy a sh n z) ∧ NK U)) (va_Qi (fun (r9 : Int32) (u : Unit) => r9 = r8) (fun u t => va_P (dC, dI) vwCl (Wd cy a sh n z8) t.heap ∧ va_K (dC, dI) vwCl (TYS cy) t ∧ va_D (va_A (Wd cy a sh n z) sz) (Wd cy a sh n z8)) (va_A (Wd cy a sh n z) sz)) 0 0 (va_A (Wd cy a sh n z) sz) := by
  refine Met.ofW (cc := cX5_abilities) (maxL := 5) (ret := (some .int)) (by decide) rfl ?_
  intro p e s m args below meth c s₁ B hml hv
  obtain ⟨rfl, hsz, hP, hK, hD0, hN⟩ := hv
  have hx := B.exec
  have hb := B.bytes
  have hr := B.returns
  have hts := atoms_spec (ws := wsX5_abilities) B.pre
  have hown : s.vm.findClass RX5 = some m.cls := findClass_of_methodNamed B.named
  have hlocks := B.notSynchronized
  subst hsz
  have hD := hD0.self (sz := s.heap.size)
  clear hD0
  generalize hAe : va_A (Wd cy a sh n z) s.heap.size = A at hD ⊢
  have hA : ∀ q : Nat, s.heap.size ≤ q → A q := fun q h => by rw [← hAe]; exact Or.inr h
  clear hAe
  have hS : va_S A s.heap s.heap [] := va_S.rf
  have hl := lv_entry ([.ref (a h0), .long x0]) (n := 5) (Nat.le_of_ble_eq_true rfl)
  rw [lg_entry_eq]
  generalize (lg_sl ([.ref (a h0), .long x0]) ++ List.replicate (5 - (lg_sl ([.ref (a h0), .long x0])).length) Slot.unset).toArray = ls at hl ⊢
  replace hl : lv_has ls 5 [(0, .ref (a h0)), (1, .long x0)] := hl
  unfold fn_X5_abilities at hf
  refine de_start hS hP (fun H locs hS hP => ?_)
  refine lv_lload_n hx hb dX5_abilities_0 rfl (lv_at hl 1 rfl) ?_
  obtain ⟨z_1, r_2, hfc, hf⟩ := cal_some hf
  have hFc := de_free hD hS hA
  refine va_calli (va_runS (As := [.long x0]) (rest := []) ⟨hx, hb, hml, hown, hts⟩ (de_X5_head l dC dI cy a sh n H.size F z x0 hfc) (va_cwS 1 hts gX5_abilities_X5_head rfl rfl rfl (by decide +kernel) ⟨Nat.le_of_ble_eq_true rfl, Nat.le_of_ble_eq_true rfl⟩) ⟨fun a U g mk q => by obtain ⟨q0, q1, qP, qK, qD, qN⟩ := q; exact ⟨q0, q1, qP, va_K.moved (u := U) (U := U.calling g mk a) (Vm.Alike.refl U.vm) qK, qD, qN.same rfl⟩, fun U hU hW => ⟨rfl, by rw [hU], by rw [hU]; exact hP, va_K.moved hW.alike hK, hD.weaken (fun _ _ _ _ => trivial), hN.warm hW⟩⟩ rfl rfl hl.1 rfl (lv_room (Nat.le_of_ble_eq_true rfl)) dX5_abilities_1 ⟨Nat.le_of_ble_eq_true rfl, Nat.le_of_ble_eq_true rfl⟩) hS (fun q _ h => hFc q h) hFc (fun rr u t H_3 locs ht hvm hw hB hz1 hk1 hS2 => ?_)
  rw [hw]
  clear hw
  obtain ⟨hP1, -, hD1⟩ := hB
  rw [ht] at hP1
  replace hD := hD1.weaken (fun _ _ _ h => hFc _ h)
  replace hP := hP1
  replace hS := hS2
  clear hP1 hD1 hS2 hFc hfc hz1 hk1 hvm ht
  refine lv_istore_n (lv' := [(3, .int r_2), (0, .ref (a h0)), (1, .long x0)]) hx hb dX5_abilities_4 rfl hl (by decide) rfl (fun ls hl2 => ?_)
  replace hl := hl2
  clear hl2
  refine lv_iload_n hx hb dX5_abilities_5 rfl (lv_at hl 0 rfl) ?_
  refine lv_bipush (v := 8) hx hb dX5_abilities_6 (by decide) ?_
  refine lv_icmp_lt (tgt := 13) hx hb dX5_abilities_8 (by decide) (fun c_4 => ?_) (fun c_4 => ?_)
  · skip
    rw [if_pos c_4] at hf
    refine lv_bipush (v := 7) hx hb dX5_abilities_13 (by decide) ?_
    refine lv_istore (lv' := [(4, .int 7), (3, .int r_2), (0, .ref (a h0)), (1, .long x0)]) hx hb dX5_abilities_15 hl (by decide) rfl (fun ls hl2 => ?_)
    replace hl := hl2
    clear hl2
    refine lv_lload_n hx hb dX5_abilities_17 rfl (lv_at hl 3 rfl) ?_
    obtain ⟨z_5, r_6, hfc, hf⟩ := cal_some hf
    have hFc := de_free hD hS hA
    refine va_calli (va_runS (As := [.long x0]) (rest := []) ⟨hx, hb, hml, hown, hts⟩ (de_X5_endsInStructure l dC dI cy a sh n H_3.size F z_1 x0 hfc) (va_cwS 1 hts gX5_abilities_X5_endsInStructure rfl rfl rfl (by decide +kernel) ⟨Nat.le_of_ble_eq_true rfl, Nat.le_of_ble_eq_true rfl⟩) ⟨fun a U g mk q => by obtain ⟨q0, q1, qP, qK, qD, qN⟩ := q; exact ⟨q0, q1, qP, va_K.moved (u := U) (U := U.calling g mk a) (Vm.Alike.refl U.vm) qK, qD, qN.same rfl⟩, fun U hU hW => ⟨rfl, by rw [hU], by rw [hU]; exact hP, va_K.moved hW.alike hK, hD.weaken (fun _ _ _ _ => trivial), hN.warm hW⟩⟩ rfl rfl hl.1 rfl (lv_room (Nat.le_of_ble_eq_true rfl)) dX5_abilities_18 ⟨Nat.le_of_ble_eq_true rfl, Nat.le_of_ble_eq_true rfl⟩) hS (fun q _ h => hFc q h) hFc (fun rr u t H_7 locs ht hvm hw hB hz1 hk1 hS2 => ?_)
    rw [hw]
    clear hw
    obtain ⟨hP1, -, hD1⟩ := hB
    rw [ht] at hP1
    replace hD := hD1.weaken (fun _ _ _ h => hFc _ h)
    replace hP := hP1
    replace hS := hS2
    clear hP1 hD1 hS2 hFc hfc hz1 hk1 hvm ht
    refine de_cut (h := 37) (fun (x : St × Int32) => []) (fun x ls H locs => lv_has ls 5 [(4, .int x.2), (3, .int r_2)] ∧ va_P (dC, dI) vwCl (Wd cy a sh n x.1) H ∧ va_D A (Wd cy a sh n x.1) ∧ va_S A s.heap H locs) (fun x => fn_X5_abilities_B37 F sh n r_2 x.1 x.2) (z8, r8) ?_ (fun B37 => ?_)
    · intro x ls H locs hI hf
      obtain ⟨z_9, p_8⟩ := x
      obtain ⟨hl2, hP2, hD2, hS2⟩ := hI
      replace hl : lv_has ls 5 [(4, .int p_8), (3, .int r_2)] := hl2
      replace hP := hP2
      replace hD := hD2
      replace hS := hS2
      clear hl2 hP2 hD2 hS2
      replace hf := fn_X5_abilities_B37_s hf
      refine W.eq (g2 := F0 m 37 ls []) rfl ?_
      refine lv_iload_n hx hb dX5_abilities_37 rfl (lv_at hl 1 rfl) ?_
      refine lv_bipush (v := 7) hx hb dX5_abilities_38 (by decide) ?_
      refine lv_icmp_ne (tgt := 51) hx hb dX5_abilities_40 (by decide) (fun c_10 => ?_) (fun c_10 => ?_)
      · skip
        rw [if_neg c_10] at hf
        refine lv_iload hx hb dX5_abilities_51 (lv_at hl 0 rfl) ?_
        obtain ⟨h8, h9⟩ := ret_some hf
        rw [h8, h9]
        exact W.iret (v := p_8) hx hb hr (fun t ht hW => ⟨⟨p_8, (), rfl, rfl, by rw [ht]; exact hP, va_K.moved hW.alike hK, hD⟩, hS.F ht⟩) hS.2.2 dX5_abilities_53
      · skip
        rw [if_pos c_10] at hf
        refine lv_iload hx hb dX5_abilities_43 (lv_at hl 0 rfl) ?_
        refine lv_bipush (v := (-9)) hx hb dX5_abilities_45 (by decide) ?_
        refine lv_iand hx hb dX5_abilities_47 ?_
        refine lv_goto (tgt := 53) hx hb dX5_abilities_48 (by decide) ?_
        obtain ⟨h8, h9⟩ := ret_some hf
        rw [h8, h9]
        exact W.iret (v := (p_8 &&& (-9))) hx hb hr (fun t ht hW => ⟨⟨(p_8 &&& (-9)), (), rfl, rfl, by rw [ht]; exact hP, va_K.moved hW.alike hK, hD⟩, hS.F ht⟩) hS.2.2 dX5_abilities_53
    refine lv_if_eq (tgt := 37) hx hb dX5_abilities_21 (by decide) (fun c_11 => ?_) (fun c_11 => ?_)
    · skip
      rw [if_pos c_11] at hf
      exact B37 (z_5, 7) ls H_7 locs ⟨lv_sub hl [0, 1] rfl, hP, hD, hS⟩ hf
    · skip
      rw [if_neg c_11] at hf
      refine lv_aload_n hx hb dX5_abilities_24 rfl (lv_at hl 2 rfl) ?_
      refine lv_lload_n hx hb dX5_abilities_25 rfl (lv_at hl 3 rfl) ?_
      refine lv_l2i (v := (x0 : Int64).toInt32) hx hb dX5_abilities_26 rfl ?_
      refine lv_sipush (v := 255) hx hb dX5_abilities_27 (by decide) ?_
      refine lv_iand hx hb dX5_abilities_30 ?_
      refine lv_iconst (v := 0) hx hb dX5_abilities_31 (by decide) ?_
      obtain ⟨g_14, hf⟩ := grd_some hf
      obtain ⟨kg_14, sg_14⟩ := okO_at g_14
      obtain ⟨z_12, r_13, hfc, hf⟩ := cal_some hf
      have hFc := de_free hD hS hA
      refine va_calli (va_runV (As := [.int (((x0 : Int64).toInt32) &&& 255), .int 0]) (rest := []) ⟨hx, hb, hml, hown, hts⟩ (de_X5_structureColumn l dC dI cy a sh n H_7.size F z_5 h0 (((x0 : Int64).toInt32) &&& 255) 0 hfc) (cwV 2 hts gX5_abilities_X5_structureColumn rfl rfl rfl (by decide +kernel) ⟨Nat.le_of_ble_eq_true rfl, Nat.le_of_ble_eq_true rfl⟩) ⟨fun a U g mk q => by obtain ⟨q0, q1, qP, qK, qD, qN⟩ := q; exact ⟨q0, q1, qP, va_K.moved (u := U) (U := U.calling g mk a) (Vm.Alike.refl U.vm) qK, qD, qN.same rfl⟩, va_recv hK hP (ci := 5) (q0 := h0) rfl (Wd_ob kg_14 sg_14 (by decide)), fun U hU hW => ⟨rfl, by rw [hU], by rw [hU]; exact hP, va_K.moved hW.alike hK, hD.weaken (fun _ _ _ _ => trivial), hN.warm hW⟩⟩ rfl rfl hl.1 rfl (lv_room (Nat.le_of_ble_eq_true rfl)) dX5_abilities_32 ⟨Nat.le_of_ble_eq_true rfl, Nat.le_of_ble_eq_true rfl⟩) hS (fun q _ h => hFc q h) hFc (fun rr u t H_15 locs ht hvm hw hB hz1 hk1 hS2 => ?_)
      rw [hw]
      clear hw
      obtain ⟨hP1, -, hD1⟩ := hB
      rw [ht] at hP1
      replace hD := hD1.weaken (fun _ _ _ h => hFc _ h)
      replace hP := hP1
      replace hS := hS2
      clear hP1 hD1 hS2 hFc hfc hz1 hk1 hvm ht
      refine lv_istore (lv' := [(4, .int r_13), (3, .int r_2), (0, .ref (a h0)), (1, .long x0)]) hx hb dX5_abilities_35 hl (by decide) rfl (fun ls hl2 => ?_)
      replace hl := hl2
      clear hl2
      exact B37 (z_12, r_13) ls H_15 locs ⟨lv_sub hl [0, 1] rfl, hP, hD, hS⟩ hf
  · skip
    rw [if_neg c_4] at hf
    refine lv_iconst (v := 3) hx hb dX5_abilities_11 (by decide) ?_
    obtain ⟨h8, h9⟩ := ret_some hf
    rw [h8, h9]
    exact W.iret (v := 3) hx hb hr (fun t ht hW => ⟨⟨3, (), rfl, rfl, by rw [ht]; exact hP, va_K.moved hW.alike hK, hD⟩, hS.F ht⟩) hS.2.2 dX5_abilities_12

theorem md_X5_depthOf_1 : (.constantLong RX5 85 (255) : Cond) ∈ wsX5_depthOf := List.mem_of_getElem? (i := 1) rfl
theorem md_X5_depthOf_2 : (.constantLong RX5 143 (7) : Cond) ∈ wsX5_depthOf := List.mem_of_getElem? (i := 2) rfl
set_option maxHeartbeats 4000000 in
set_option maxRecDepth 100000 in
theorem de_X5_depthOf (l : Launch) (dC : Nat → ClassId) (dI : Nat → Nat → Nat) (cy : Nat → ClassId) (a : Nat → Nat) (sh : Nat → Nat × Nat) (n sz : Nat) (F : Nat) (z : St) (h0 : Nat) (x0 : Int64) {z8 : St} {r8 : Int32} (hf : fn_X5_depthOf F sh n z h0 x0 = some (z8, r8)) : Met l yX5_depthOf wsX5_depthOf ({ frames := 1, cells := 0, slots := 0, locals := 22 }) (va_Pc [.ref (a h0), .long x0] (fun U => U.heap.size = sz ∧ va_P (dC, dI) vwCl (Wd cy a sh n z) U.heap ∧ va_K (dC, dI) vwCl (TYS cy) U ∧ va_D (fun _ => True) (Wd cy a sh n z) ∧ NK U)) (va_Qi (fun (r9 : Int32) (u : Unit) => r9 = r8) (fun u t => va_P (dC, dI) vwCl (Wd cy a sh n z8) t.heap ∧ va_K (dC, dI) vwCl (TYS cy) t ∧ va_D (va_A (Wd cy a sh n z) sz) (Wd cy a sh n z8)) (va_A (Wd cy a sh n z) sz)) 0 0 (va_A (Wd cy a sh n z) sz) := by
  refine Met.ofW (cc := cX5_depthOf) (maxL := 5) (ret := (some .int)) (by decide) rfl ?_
  intro p e s m args below meth c s₁ B hml hv
  obtain ⟨rfl, hsz, hP, hK, hD0, hN⟩ := hv
  have hx := B.exec
  have hb := B.bytes
  have hr := B.returns
  have hts := atoms_spec (ws := wsX5_depthOf) B.pre
  have hown : s.vm.findClass RX5 = some m.cls := findClass_of_methodNamed B.named
  have hlocks := B.notSynchronized
  subst hsz
  have hD := hD0.self (sz := s.heap.size)
  clear hD0
  generalize hAe : va_A (Wd cy a sh n z) s.heap.size = A at hD ⊢
  have hA : ∀ q : Nat, s.heap.size ≤ q → A q := fun q h => by rw [← hAe]; exact Or.inr h
  clear hAe
  have hS : va_S A s.heap s.heap [] := va_S.rf
  have hl := lv_entry ([.ref (a h0), .long x0]) (n := 5) (Nat.le_of_ble_eq_true rfl)
  rw [lg_entry_eq]
  generalize (lg_sl ([.ref (a h0), .long x0]) ++ List.replicate (5 - (lg_sl ([.ref (a h0), .long x0])).length) Slot.unset).toArray = ls at hl ⊢
  replace hl : lv_has ls 5 [(0, .ref (a h0)), (1, .long x0)] := hl
  unfold fn_X5_depthOf at hf
  refine de_start hS hP (fun H locs hS hP => ?_)
  refine lv_lload_n hx hb dX5_depthOf_0 rfl (lv_at hl 1 rfl) ?_
  obtain ⟨z_1, r_2, hfc, hf⟩ := cal_some hf
  have hFc := de_free hD hS hA
  refine va_calli (va_runS (As := [.long x0]) (rest := []) ⟨hx, hb, hml, hown, hts⟩ (de_X5_endsInStructure l dC dI cy a sh n H.size F z x0 hfc) (va_cwS 1 hts gX5_depthOf_X5_endsInStructure rfl rfl rfl (by decide +kernel) ⟨Nat.le_of_ble_eq_true rfl, Nat.le_of_ble_eq_true rfl⟩) ⟨fun a U g mk q => by obtain ⟨q0, q1, qP, qK, qD, qN⟩ := q; exact ⟨q0, q1, qP, va_K.moved (u := U) (U := U.calling g mk a) (Vm.Alike.refl U.vm) qK, qD, qN.same rfl⟩, fun U hU hW => ⟨rfl, by rw [hU], by rw [hU]; exact hP, va_K.moved hW.alike hK, hD.weaken (fun _ _ _ _ => trivial), hN.warm hW⟩⟩ rfl rfl hl.1 rfl (lv_room (Nat.le_of_ble_eq_true rfl)) dX5_depthOf_1 ⟨Nat.le_of_ble_eq_true rfl, Nat.le_of_ble_eq_true rfl⟩) hS (fun q _ h => hFc q h) hFc (fun rr u t H_3 locs ht hvm hw hB hz1 hk1 hS2 => ?_)
  rw [hw]
  clear hw
  obtain ⟨hP1, -, hD1⟩ := hB
  rw [ht] at hP1
  replace hD := hD1.weaken (fun _ _ _ h => hFc _ h)
  replace hP := hP1
  replace hS := hS2
  clear hP1 hD1 hS2 hFc hfc hz1 hk1 hvm ht
  refine de_cut (h := 23) (fun (x : St × Int32) => [.int x.2]) (fun x ls H locs => lv_has ls 5 [(1, .long x0)] ∧ va_P (dC, dI) vwCl (Wd cy a sh n x.1) H ∧ va_D A (Wd cy a sh n x.1) ∧ va_S A s.heap H locs) (fun x => fn_X5_depthOf_B23 F sh n x0 x.1 x.2) (z8, r8) ?_ (fun B23 => ?_)
  · intro x ls H locs hI hf
    obtain ⟨z_5, p_4⟩ := x
    obtain ⟨hl2, hP2, hD2, hS2⟩ := hI
    replace hl : lv_has ls 5 [(1, .long x0)] := hl2
    replace hP := hP2
    replace hD := hD2
    replace hS := hS2
    clear hl2 hP2 hD2 hS2
    replace hf := fn_X5_depthOf_B23_s hf
    refine W.eq (g2 := F0 m 23 ls [.int p_4]) rfl ?_
    refine lv_istore_n (lv' := [(3, .int p_4), (1, .long x0)]) hx hb dX5_depthOf_23 rfl hl (by decide) rfl (fun ls hl2 => ?_)
    replace hl := hl2
    clear hl2
    refine lv_lload_n hx hb dX5_depthOf_24 rfl (lv_at hl 1 rfl) ?_
    obtain ⟨z_6, r_7, hfc, hf⟩ := cal_some hf
    have hFc := de_free hD hS hA
    refine va_calli (va_runS (As := [.long x0]) (rest := []) ⟨hx, hb, hml, hown, hts⟩ (de_X5_headShift l dC dI cy a sh n H.size F z_5 x0 hfc) (va_cwS 1 hts gX5_depthOf_X5_headShift rfl rfl rfl (by decide +kernel) ⟨Nat.le_of_ble_eq_true rfl, Nat.le_of_ble_eq_true rfl⟩) ⟨fun a U g mk q => by obtain ⟨q0, q1, qP, qK, qD, qN⟩ := q; exact ⟨q0, q1, qP, va_K.moved (u := U) (U := U.calling g mk a) (Vm.Alike.refl U.vm) qK, qD, qN.same rfl⟩, fun U hU hW => ⟨rfl, by rw [hU], by rw [hU]; exact hP, va_K.moved hW.alike hK, hD.weaken (fun _ _ _ _ => trivial), hN.warm hW⟩⟩ rfl rfl hl.1 rfl (lv_room (Nat.le_of_ble_eq_true rfl)) dX5_depthOf_25 ⟨Nat.le_of_ble_eq_true rfl, Nat.le_of_ble_eq_true rfl⟩) hS (fun q _ h => hFc q h) hFc (fun rr u t H_8 locs ht hvm hw hB hz1 hk1 hS2 => ?_)
    rw [hw]
    clear hw
    obtain ⟨hP1, -, hD1⟩ := hB
    rw [ht] at hP1
    replace hD := hD1.weaken (fun _ _ _ h => hFc _ h)
    replace hP := hP1
    replace hS := hS2
    clear hP1 hD1 hS2 hFc hfc hz1 hk1 hvm ht
    refine lv_istore (lv' := [(4, .int r_7), (3, .int p_4), (1, .long x0)]) hx hb dX5_depthOf_28 hl (by decide) rfl (fun ls hl2 => ?_)
    replace hl := hl2
    clear hl2
    have hl0 : lv_has ls 5 [(4, .int r_7), (3, .int p_4), (1, .long x0)] := lv_sub hl [0, 1, 2] rfl
    refine de_loop (h := 30) (fun (x : St × Int32 × Int32) ls H locs => lv_has ls 5 [(4, .int x.2.2), (3, .int x.2.1), (1, .long x0)] ∧ va_P (dC, dI) vwCl (Wd cy a sh n x.1) H ∧ va_D A (Wd cy a sh n x.1) ∧ va_S A s.heap H locs) (fun f x => fn_X5_depthOf_L30 F sh n x0 f x.1 x.2.1 x.2.2) (z8, r8) ?_ (fun _ => rfl) F (z_6, p_4, r_7) ls H_8 locs ⟨hl0, hP, hD, hS⟩ hf
    intro f_12 x ls H locs ih30 hI hf
    obtain ⟨z_11, p_9, p_10⟩ := x
    obtain ⟨hl2, hP2, hD2, hS2⟩ := hI
    replace hl : lv_has ls 5 [(4, .int p_10), (3, .int p_9), (1, .long x0)] := hl2
    replace hP := hP2
    replace hD := hD2
    replace hS := hS2
    clear hl2 hP2 hD2 hS2 hl0
    replace hf := fn_X5_depthOf_L30_s hf
    refine lv_iload hx hb dX5_depthOf_30 (lv_at hl 0 rfl) ?_
    refine lv_if_le (tgt := 59) hx hb dX5_depthOf_32 (by decide) (fun c_13 => ?_) (fun c_13 => ?_)
    · skip
      rw [if_pos c_13] at hf
      refine lv_iload_n hx hb dX5_depthOf_59 rfl (lv_at hl 1 rfl) ?_
      obtain ⟨h8, h9⟩ := ret_some hf
      rw [h8, h9]
      exact W.iret (v := p_9) hx hb hr (fun t ht hW => ⟨⟨p_9, (), rfl, rfl, by rw [ht]; exact hP, va_K.moved hW.alike hK, hD⟩, hS.F ht⟩) hS.2.2 dX5_depthOf_60
    · skip
      rw [if_neg c_13] at hf
      refine lv_lload_n hx hb dX5_depthOf_35 rfl (lv_at hl 2 rfl) ?_
      refine lv_iload hx hb dX5_depthOf_36 (lv_at hl 0 rfl) ?_
      refine lv_lushr (v := ((x0 : Int64).toUInt64 >>> ((p_10 : Int32).toInt64.toUInt64 &&& Int64.toUInt64 63)).toInt64) hx hb dX5_depthOf_38 rfl ?_
      refine lv_ldc2 hx hb hown (hts _ md_X5_depthOf_1) dX5_depthOf_39 ?_
      refine lv_land hx hb dX5_depthOf_42 ?_
      refine lv_ldc2 hx hb hown (hts _ md_X5_depthOf_2) dX5_depthOf_43 ?_
      refine W.lcmp hx hb dX5_depthOf_46 ?_
      refine lv_if_ne (tgt := 59) hx hb dX5_depthOf_47 (by decide) (fun c_14 => ?_) (fun c_14 => ?_)
      · skip
        rw [lg_cmp_eq] at c_14
        rw [if_neg c_14] at hf
        refine lv_iload_n hx hb dX5_depthOf_59 rfl (lv_at hl 1 rfl) ?_
        obtain ⟨h8, h9⟩ := ret_some hf
        rw [h8, h9]
        exact W.iret (v := p_9) hx hb hr (fun t ht hW => ⟨⟨p_9, (), rfl, rfl, by rw [ht]; exact hP, va_K.moved hW.alike hK, hD⟩, hS.F ht⟩) hS.2.2 dX5_depthOf_60
      · skip
        rw [lg_cmp_eq] at c_14
        rw [if_pos c_14] at hf
        refine lv_iinc (v := (p_9 + 1)) (lv' := [(3, .int (p_9 + 1)), (4, .int p_10), (1, .long x0)]) hx hb dX5_depthOf_50 hl (k := 1) rfl rfl (by decide) rfl (fun ls hl2 => ?_)
        replace hl := hl2
        clear hl2
        refine lv_iinc (v := (p_10 + (-8))) (lv' := [(4, .int (p_10 + (-8))), (3, .int (p_9 + 1)), (1, .long x0)]) hx hb dX5_depthOf_53 hl (k := 1) rfl rfl (by decide) rfl (fun ls hl2 => ?_)
        replace hl := hl2
        clear hl2
        refine lv_goto (tgt := 30) hx hb dX5_depthOf_56 (by decide) ?_
        exact ih30 (z_11, (p_9 + 1), (p_10 + (-8))) ls H locs ⟨lv_sub hl [0, 1, 2] rfl, hP, hD, hS⟩ hf
  refine lv_if_eq (tgt := 22) hx hb dX5_depthOf_4 (by decide) (fun c_15 => ?_) (fun c_15 => ?_)
  · skip
    rw [if_pos c_15] at hf
    refine lv_iconst (v := 1) hx hb dX5_depthOf_22 (by decide) ?_
    exact B23 (z_1, 1) ls H_3 locs ⟨lv_sub hl [1] rfl, hP, hD, hS⟩ hf
  · skip
    rw [if_neg c_15] at hf
    refine lv_aload_n hx hb dX5_depthOf_7 rfl (lv_at hl 0 rfl) ?_
    refine lv_lload_n hx hb dX5_depthOf_8 rfl (lv_at hl 1 rfl) ?_
    refine lv_l2i (v := (x0 : Int64).toInt32) hx hb dX5_depthOf_9 rfl ?_
    refine lv_sipush (v := 255) hx hb dX5_depthOf_10 (by decide) ?_
    refine lv_iand hx hb dX5_depthOf_13 ?_
    refine lv_bipush (v := 6) hx hb dX5_depthOf_14 (by decide) ?_
    obtain ⟨g_18, hf⟩ := grd_some hf
    obtain ⟨kg_18, sg_18⟩ := okO_at g_18
    obtain ⟨z_16, r_17, hfc, hf⟩ := cal_some hf
    have hFc := de_free hD hS hA
    refine va_calli (va_runV (As := [.int (((x0 : Int64).toInt32) &&& 255), .int 6]) (rest := []) ⟨hx, hb, hml, hown, hts⟩ (de_X5_structureColumn l dC dI cy a sh n H_3.size F z_1 h0 (((x0 : Int64).toInt32) &&& 255) 6 hfc) (cwV 2 hts gX5_depthOf_X5_structureColumn rfl rfl rfl (by decide +kernel) ⟨Nat.le_of_ble_eq_true rfl, Nat.le_of_ble_eq_true rfl⟩) ⟨fun a U g mk q => by obtain ⟨q0, q1, qP, qK, qD, qN⟩ := q; exact ⟨q0, q1, qP, va_K.moved (u := U) (U := U.calling g mk a) (Vm.Alike.refl U.vm) qK, qD, qN.same rfl⟩, va_recv hK hP (ci := 5) (q0 := h0) rfl (Wd_ob kg_18 sg_18 (by decide)), fun U hU hW => ⟨rfl, by rw [hU], by rw [hU]; exact hP, va_K.moved hW.alike hK, hD.weaken (fun _ _ _ _ => trivial), hN.warm hW⟩⟩ rfl rfl hl.1 rfl (lv_room (Nat.le_of_ble_eq_true rfl)) dX5_depthOf_16 ⟨Nat.le_of_ble_eq_true rfl, Nat.le_of_ble_eq_true rfl⟩) hS (fun q _ h => hFc q h) hFc (fun rr u t H_19 locs ht hvm hw hB hz1 hk1 hS2 => ?_)
    rw [hw]
    clear hw
    obtain ⟨hP1, -, hD1⟩ := hB
    rw [ht] at hP1
    replace hD := hD1.weaken (fun _ _ _ h => hFc _ h)
    replace hP := hP1
    replace hS := hS2
    clear hP1 hD1 hS2 hFc hfc hz1 hk1 hvm ht
    refine lv_goto (tgt := 23) hx hb dX5_depthOf_19 (by decide) ?_
    exact B23 (z_16, r_17) ls H_19 locs ⟨lv_sub hl [1] rfl, hP, hD, hS⟩ hf

theorem md_X17_result_1 : (.fieldLink RX17 16 "ResourceLedgerModel$Wide" "\x72" "[I" : Cond) ∈ wsX17_result := List.mem_of_getElem? (i := 1) rfl
theorem iwd_X17_result_X17 : ∀ w ∈ wsX170, w ∈ wsX17_result := fun _ h => List.mem_cons_of_mem _ (List.mem_append_right _ h)
theorem md_X17_result_2 : (.fieldLink RX17 25 "ResourceLedgerModel$Wide" "high" "J" : Cond) ∈ wsX17_result := List.mem_of_getElem? (i := 2) rfl
theorem md_X17_result_3 : (.fieldLink RX17 29 "ResourceLedgerModel$Wide" "low" "J" : Cond) ∈ wsX17_result := List.mem_of_getElem? (i := 3) rfl
set_option maxHeartbeats 4000000 in
set_option maxRecDepth 100000 in
theorem de_X17_result (l : Launch) (dC : Nat → ClassId) (dI : Nat → Nat → Nat) (cy : Nat → ClassId) (a : Nat → Nat) (sh : Nat → Nat × Nat) (n sz : Nat) (F : Nat) (z : St) (h0 : Nat) (x0 : Int32) {z8 : St} {r8 : Int32} (hf : fn_X17_result F sh n z h0 x0 = some (z8, r8)) : Met l yX17_result wsX17_result ({ frames := 1, cells := 0, slots := 0, locals := 24 }) (va_Pc [.ref (a h0), .int x0] (fun U => U.heap.size = sz ∧ va_P (dC, dI) vwCl (Wd cy a sh n z) U.heap ∧ va_K (dC, dI) vwCl (TYS cy) U ∧ va_D (fun _ => True) (Wd cy a sh n z) ∧ NK U)) (va_Qi (fun (r9 : Int32) (u : Unit) => r9 = r8) (fun u t => va_P (dC, dI) vwCl (Wd cy a sh n z8) t.heap ∧ va_K (dC, dI) vwCl (TYS cy) t ∧ va_D (va_A (Wd cy a sh n z) sz) (Wd cy a sh n z8)) (va_A (Wd cy a sh n z) sz)) 0 0 (va_A (Wd cy a sh n z) sz) := by
  refine Met.ofW (cc := cX17_result) (maxL := 3) (ret := (some .boolean)) (by decide) rfl ?_
  intro p e s m args below meth c s₁ B hml hv
  obtain ⟨rfl, hsz, hP, hK, hD0, hN⟩ := hv
  have hx := B.exec
  have hb := B.bytes
  have hr := B.returns
  have hts := atoms_spec (ws := wsX17_result) B.pre
  have hown : s.vm.findClass RX17 = some m.cls := findClass_of_methodNamed B.named
  have hlocks := B.notSynchronized
  subst hsz
  have hD := hD0.self (sz := s.heap.size)
  clear hD0
  generalize hAe : va_A (Wd cy a sh n z) s.heap.size = A at hD ⊢
  have hA : ∀ q : Nat, s.heap.size ≤ q → A q := fun q h => by rw [← hAe]; exact Or.inr h
  clear hAe
  have hS : va_S A s.heap s.heap [] := va_S.rf
  have hl := lv_entry ([.ref (a h0), .int x0]) (n := 3) (Nat.le_of_ble_eq_true rfl)
  rw [lg_entry_eq]
  generalize (lg_sl ([.ref (a h0), .int x0]) ++ List.replicate (3 - (lg_sl ([.ref (a h0), .int x0])).length) Slot.unset).toArray = ls at hl ⊢
  replace hl : lv_has ls 3 [(0, .ref (a h0)), (1, .int x0)] := hl
  unfold fn_X17_result at hf
  refine de_start hS hP (fun H locs hS hP => ?_)
  refine lv_bipush (v := 8) hx hb dX17_result_0 (by decide) ?_
  refine lv_istore_n (lv' := [(2, .int 8), (0, .ref (a h0)), (1, .int x0)]) hx hb dX17_result_2 rfl hl (by decide) rfl (fun ls hl2 => ?_)
  replace hl := hl2
  clear hl2
  have hl0 : lv_has ls 3 [(2, .int 8), (0, .ref (a h0)), (1, .int x0)] := lv_sub hl [0, 1, 2] rfl
  refine de_loop (h := 3) (fun (x : St × Int32) ls H locs => lv_has ls 3 [(2, .int x.2), (0, .ref (a h0)), (1, .int x0)] ∧ va_P (dC, dI) vwCl (Wd cy a sh n x.1) H ∧ va_D A (Wd cy a sh n x.1) ∧ va_S A s.heap H locs) (fun f x => fn_X17_result_L3 F sh n h0 x0 f x.1 x.2) (z8, r8) ?_ (fun _ => rfl) F (z, 8) ls H locs ⟨hl0, hP, hD, hS⟩ hf
  intro f_3 x ls H locs ih3 hI hf
  obtain ⟨z_2, p_1⟩ := x
  obtain ⟨hl2, hP2, hD2, hS2⟩ := hI
  replace hl : lv_has ls 3 [(2, .int p_1), (0, .ref (a h0)), (1, .int x0)] := hl2
  replace hP := hP2
  replace hD := hD2
  replace hS := hS2
  clear hl2 hP2 hD2 hS2 hl0
  replace hf := fn_X17_result_L3_s hf
  refine lv_iload_n hx hb dX17_result_3 rfl (lv_at hl 0 rfl) ?_
  refine lv_bipush (v := 32) hx hb dX17_result_4 (by decide) ?_
  refine lv_icmp_ge (tgt := 26) hx hb dX17_result_6 (by decide) (fun c_4 => ?_) (fun c_4 => ?_)
  · skip
    rw [if_pos c_4] at hf
    refine lv_aload_n hx hb dX17_result_26 rfl (lv_at hl 1 rfl) ?_
    refine lv_aload_n hx hb dX17_result_27 rfl (lv_at hl 1 rfl) ?_
    obtain ⟨g_5, hf⟩ := grd_some hf
    obtain ⟨kg_5, sg_5⟩ := okO_at g_5
    obtain ⟨k_6, ek_6, hf⟩ := lnk_some hf
    refine va_get (D := (dC, dI)) (ci := 17) (v := .ref (a k_6)) (C := RX17) (T := TX17) (N := 5) hx hb hts iwd_X17_result_X17 hown hK hP h0 (Wd_ob kg_5 sg_5 (by decide)) rfl 2 (by decide) (hts _ md_X17_result_1) (fun _ h9 => h9) (fl_q rfl ek_6) dX17_result_28 ?_
    refine lv_iconst (v := 4) hx hb dX17_result_31 (by decide) ?_
    obtain ⟨z_7, r_8, hfc, hf⟩ := cal_some hf
    have hFc := de_free hD hS hA
    refine va_calll (va_runS (As := [.ref (a k_6), .int 4]) (rest := [.ref (a h0)]) ⟨hx, hb, hml, hown, hts⟩ (de_X17_four l dC dI cy a sh n H.size F z_2 k_6 4 hfc) (va_cwS 2 hts gX17_result_X17_four rfl rfl rfl (by decide +kernel) ⟨Nat.le_of_ble_eq_true rfl, Nat.le_of_ble_eq_true rfl⟩) ⟨fun a U g mk q => by obtain ⟨q0, q1, qP, qK, qD, qN⟩ := q; exact ⟨q0, q1, qP, va_K.moved (u := U) (U := U.calling g mk a) (Vm.Alike.refl U.vm) qK, qD, qN.same rfl⟩, fun U hU hW => ⟨rfl, by rw [hU], by rw [hU]; exact hP, va_K.moved hW.alike hK, hD.weaken (fun _ _ _ _ => trivial), hN.warm hW⟩⟩ rfl rfl hl.1 rfl (lv_room (Nat.le_of_ble_eq_true rfl)) dX17_result_32 ⟨Nat.le_of_ble_eq_true rfl, Nat.le_of_ble_eq_true rfl⟩) hS (fun q _ h => hFc q h) hFc (fun rr u t H_9 locs ht hvm hw hB hz1 hk1 hS2 => ?_)
    rw [hw]
    clear hw
    obtain ⟨hP1, -, hD1⟩ := hB
    rw [ht] at hP1
    replace hD := hD1.weaken (fun _ _ _ h => hFc _ h)
    replace hP := hP1
    replace hS := hS2
    clear hP1 hD1 hS2 hFc hfc hz1 hk1 hvm ht
    refine va_put (D := (dC, dI)) (ci := 17) (v := .long r_8) (ty := .long) (C := RX17) (T := TX17) (N := 5) hx hb hts iwd_X17_result_X17 tyX17 tyX17_ok nmX17 hown hK hP hD hS h0 (Wd_ob kg_5 sg_5 (by decide)) rfl 3 (by decide) (hts _ md_X17_result_2) (fun _ h9 => h9) rfl (by decide +kernel) rfl rfl (by rw [fl_len]; decide) dX17_result_35 (fun H_10 locs hP2 hD2 hS2 => ?_)
    rw [Wd_sl sg_5 (by decide) rfl] at hP2 hD2
    obtain ⟨z_11, ez_11⟩ : ∃ w, w = sl z_7 h0 3 r_8 := ⟨_, rfl⟩
    rw [← ez_11] at hP2 hD2
    replace hf := lt_at ez_11 hf
    clear ez_11
    replace hP := hP2
    replace hD := hD2
    replace hS := hS2
    clear hP2 hD2 hS2
    refine lv_aload_n hx hb dX17_result_38 rfl (lv_at hl 1 rfl) ?_
    refine lv_aload_n hx hb dX17_result_39 rfl (lv_at hl 1 rfl) ?_
    obtain ⟨k_12, ek_12, hf⟩ := lnk_some hf
    refine va_get (D := (dC, dI)) (ci := 17) (v := .ref (a k_12)) (C := RX17) (T := TX17) (N := 5) hx hb hts iwd_X17_result_X17 hown hK hP h0 (Wd_ob kg_5 sg_5 (by decide)) rfl 2 (by decide) (hts _ md_X17_result_1) (fun _ h9 => h9) (fl_q rfl ek_12) dX17_result_40 ?_
    refine lv_iconst (v := 0) hx hb dX17_result_43 (by decide) ?_
    obtain ⟨z_13, r_14, hfc, hf⟩ := cal_some hf
    have hFc := de_free hD hS hA
    refine va_calll (va_runS (As := [.ref (a k_12), .int 0]) (rest := [.ref (a h0)]) ⟨hx, hb, hml, hown, hts⟩ (de_X17_four l dC dI cy a sh n H_10.size F z_11 k_12 0 hfc) (va_cwS 2 hts gX17_result_X17_four rfl rfl rfl (by decide +kernel) ⟨Nat.le_of_ble_eq_true rfl, Nat.le_of_ble_eq_true rfl⟩) ⟨fun a U g mk q => by obtain ⟨q0, q1, qP, qK, qD, qN⟩ := q; exact ⟨q0, q1, qP, va_K.moved (u := U) (U := U.calling g mk a) (Vm.Alike.refl U.vm) qK, qD, qN.same rfl⟩, fun U hU hW => ⟨rfl, by rw [hU], by rw [hU]; exact hP, va_K.moved hW.alike hK, hD.weaken (fun _ _ _ _ => trivial), hN.warm hW⟩⟩ rfl rfl hl.1 rfl (lv_room (Nat.le_of_ble_eq_true rfl)) dX17_result_44 ⟨Nat.le_of_ble_eq_true rfl, Nat.le_of_ble_eq_true rfl⟩) hS (fun q _ h => hFc q h) hFc (fun rr u t H_15 locs ht hvm hw hB hz1 hk1 hS2 => ?_)
    rw [hw]
    clear hw
    obtain ⟨hP1, -, hD1⟩ := hB
    rw [ht] at hP1
    replace hD := hD1.weaken (fun _ _ _ h => hFc _ h)
    replace hP := hP1
    replace hS := hS2
    clear hP1 hD1 hS2 hFc hfc hz1 hk1 hvm ht
    refine va_put (D := (dC, dI)) (ci := 17) (v := .long r_14) (ty := .long) (C := RX17) (T := TX17) (N := 5) hx hb hts iwd_X17_result_X17 tyX17 tyX17_ok nmX17 hown hK hP hD hS h0 (Wd_ob kg_5 sg_5 (by decide)) rfl 4 (by decide) (hts _ md_X17_result_3) (fun _ h9 => h9) rfl (by decide +kernel) rfl rfl (by rw [fl_len]; decide) dX17_result_47 (fun H_16 locs hP2 hD2 hS2 => ?_)
    rw [Wd_sl sg_5 (by decide) rfl] at hP2 hD2
    obtain ⟨z_17, ez_17⟩ : ∃ w, w = sl z_13 h0 4 r_14 := ⟨_, rfl⟩
    rw [← ez_17] at hP2 hD2
    replace hf := lt_at ez_17 hf
    clear ez_17
    replace hP := hP2
    replace hD := hD2
    replace hS := hS2
    clear hP2 hD2 hS2
    refine lv_aload_n hx hb dX17_result_50 rfl (lv_at hl 1 rfl) ?_
    refine va_get (D := (dC, dI)) (ci := 17) (v := .long (z_17.2.1 h0 3)) (C := RX17) (T := TX17) (N := 5) hx hb hts iwd_X17_result_X17 hown hK hP h0 (Wd_ob kg_5 sg_5 (by decide)) rfl 3 (by decide) (hts _ md_X17_result_2) (fun _ h9 => h9) (fl_at (t := 1) rfl) dX17_result_51 ?_
    refine lv_aload_n hx hb dX17_result_54 rfl (lv_at hl 1 rfl) ?_
    refine va_get (D := (dC, dI)) (ci := 17) (v := .long (z_17.2.1 h0 4)) (C := RX17) (T := TX17) (N := 5) hx hb hts iwd_X17_result_X17 hown hK hP h0 (Wd_ob kg_5 sg_5 (by decide)) rfl 4 (by decide) (hts _ md_X17_result_3) (fun _ h9 => h9) (fl_at (t := 1) rfl) dX17_result_55 ?_
    refine lv_iload_n hx hb dX17_result_58 rfl (lv_at hl 2 rfl) ?_
    obtain ⟨z_18, r_19, hfc, hf⟩ := cal_some hf
    have hFc := de_free hD hS hA
    refine va_calli (va_runS (As := [.long (z_17.2.1 h0 3), .long (z_17.2.1 h0 4), .int x0]) (rest := []) ⟨hx, hb, hml, hown, hts⟩ (de_X17_isOf l dC dI cy a sh n H_16.size F z_17 (z_17.2.1 h0 3) (z_17.2.1 h0 4) x0 hfc) (va_cwS 3 hts gX17_result_X17_isOf rfl rfl rfl (by decide +kernel) ⟨Nat.le_of_ble_eq_true rfl, Nat.le_of_ble_eq_true rfl⟩) ⟨fun a U g mk q => by obtain ⟨q0, q1, qP, qK, qD, qN⟩ := q; exact ⟨q0, q1, qP, va_K.moved (u := U) (U := U.calling g mk a) (Vm.Alike.refl U.vm) qK, qD, qN.same rfl⟩, fun U hU hW => ⟨rfl, by rw [hU], by rw [hU]; exact hP, va_K.moved hW.alike hK, hD.weaken (fun _ _ _ _ => trivial), hN.warm hW⟩⟩ rfl rfl hl.1 rfl (lv_room (Nat.le_of_ble_eq_true rfl)) dX17_result_59 ⟨Nat.le_of_ble_eq_true rfl, Nat.le_of_ble_eq_true rfl⟩) hS (fun q _ h => hFc q h) hFc (fun rr u t H_20 locs ht hvm hw hB hz1 hk1 hS2 => ?_)
    rw [hw]
    clear hw
    obtain ⟨hP1, -, hD1⟩ := hB
    rw [ht] at hP1
    replace hD := hD1.weaken (fun _ _ _ h => hFc _ h)
    replace hP := hP1
    replace hS := hS2
    clear hP1 hD1 hS2 hFc hfc hz1 hk1 hvm ht
    obtain ⟨g_21, hf⟩ := grd_some hf
    obtain ⟨h8, h9⟩ := ret_some hf
    rw [h8, h9]
    exact W.zret (v := r_19) hx hb hr (nar_z g_21) (fun t ht hW => ⟨⟨r_19, (), rfl, rfl, by rw [ht]; exact hP, va_K.moved hW.alike hK, hD⟩, hS.F ht⟩) hS.2.2 dX17_result_62
  · skip
    rw [if_neg c_4] at hf
    refine lv_aload_n hx hb dX17_result_9 rfl (lv_at hl 1 rfl) ?_
    obtain ⟨g_22, hf⟩ := grd_some hf
    obtain ⟨kg_22, sg_22⟩ := okO_at g_22
    obtain ⟨k_23, ek_23, hf⟩ := lnk_some hf
    refine va_get (D := (dC, dI)) (ci := 17) (v := .ref (a k_23)) (C := RX17) (T := TX17) (N := 5) hx hb hts iwd_X17_result_X17 hown hK hP h0 (Wd_ob kg_22 sg_22 (by decide)) rfl 2 (by decide) (hts _ md_X17_result_1) (fun _ h9 => h9) (fl_q rfl ek_23) dX17_result_10 ?_
    refine lv_iload_n hx hb dX17_result_13 rfl (lv_at hl 0 rfl) ?_
    obtain ⟨g_24, hf⟩ := grd_some hf
    obtain ⟨kg_24, sg_24, ig_24⟩ := okA_at g_24
    refine va_iald hx hb hK hP k_23 1 (Wd_ai kg_24 sg_24) rfl ig_24 dX17_result_14 ?_
    refine lv_if_eq (tgt := 20) hx hb dX17_result_15 (by decide) (fun c_25 => ?_) (fun c_25 => ?_)
    · skip
      rw [if_pos c_25] at hf
      refine lv_iinc (v := (p_1 + 1)) (lv' := [(2, .int (p_1 + 1)), (0, .ref (a h0)), (1, .int x0)]) hx hb dX17_result_20 hl (k := 0) rfl rfl (by decide) rfl (fun ls hl2 => ?_)
      replace hl := hl2
      clear hl2
      refine lv_goto (tgt := 3) hx hb dX17_result_23 (by decide) ?_
      exact ih3 (z_2, (p_1 + 1)) ls H locs ⟨lv_sub hl [0, 1, 2] rfl, hP, hD, hS⟩ hf
    · skip
      rw [if_neg c_25] at hf
      refine lv_iconst (v := 0) hx hb dX17_result_18 (by decide) ?_
      obtain ⟨h8, h9⟩ := ret_some hf
      rw [h8, h9]
      exact W.zret (v := 0) hx hb hr rfl (fun t ht hW => ⟨⟨0, (), rfl, rfl, by rw [ht]; exact hP, va_K.moved hW.alike hK, hD⟩, hS.F ht⟩) hS.2.2 dX17_result_19

theorem md_X3_putReference_1 : (.fieldLink RX3 95 "ResourceLedger$Looker" "depth" "I" : Cond) ∈ wsX3_putReference := List.mem_of_getElem? (i := 1) rfl
theorem iwd_X3_putReference_X3 : ∀ w ∈ wsX30, w ∈ wsX3_putReference := fun _ h => List.mem_cons_of_mem _ (List.mem_append_right _ h)
theorem md_X3_putReference_2 : (.fieldLink RX3 11 "ResourceLedger$Looker" "stackType" "[J" : Cond) ∈ wsX3_putReference := List.mem_of_getElem? (i := 2) rfl
theorem md_X3_putReference_3 : (.fieldLink RX3 15 "ResourceLedger$Looker" "stackOrigins" "[J" : Cond) ∈ wsX3_putReference := List.mem_of_getElem? (i := 3) rfl
theorem md_X3_putReference_4 : (.fieldLink RX3 18 "ResourceLedger$Looker" "stackInside" "[Z" : Cond) ∈ wsX3_putReference := List.mem_of_getElem? (i := 4) rfl
set_option maxHeartbeats 4000000 in
set_option maxRecDepth 100000 in
theorem de_X3_putReference (l : Launch) (dC : Nat → ClassId) (dI : Nat → Nat → Nat) (cy : Nat → ClassId) (a : Nat → Nat) (sh : Nat → Nat × Nat) (n sz : Nat) (F : Nat) (z : St) (h0 : Nat) (x0 : Int64) (x1 : Int64) (x2 : Int32) {z8 : St} {r8 : Unit} (hf : fn_X3_putReference F sh n z h0 x0 x1 x2 = some (z8, r8)) : Met l yX3_putReference wsX3_putReference ({ frames := 1, cells := 0, slots := 0, locals := 21 }) (va_Pc [.ref (a h0), .long x0, .long x1, .int x2] (fun U => U.heap.size = sz ∧ va_P (dC, dI) vwCl (Wd cy a sh n z) U.heap ∧ va_K (dC, dI) vwCl (TYS cy) U ∧ va_D (fun _ => True) (Wd cy a sh n z) ∧ NK U)) (va_Qv (fun u : Unit => True) (fun u t => va_P (dC, dI) vwCl (Wd cy a sh n z8) t.heap ∧ va_K (dC, dI) vwCl (TYS cy) t ∧ va_D (va_A (Wd cy a sh n z) sz) (Wd cy a sh n z8)) (va_A (Wd cy a sh n z) sz)) 0 0 (va_A (Wd cy a sh n z) sz) := by
  refine Met.ofW (cc := cX3_putReference) (maxL := 6) (ret := none) (by decide) rfl ?_
  intro p e s m args below meth c s₁ B hml hv
  obtain ⟨rfl, hsz, hP, hK, hD0, hN⟩ := hv
  have hx := B.exec
  have hb := B.bytes
  have hr := B.returns
  have hts := atoms_spec (ws := wsX3_putReference) B.pre
  have hown : s.vm.findClass RX3 = some m.cls := findClass_of_methodNamed B.named
  have hlocks := B.notSynchronized
  subst hsz
  have hD := hD0.self (sz := s.heap.size)
  clear hD0
  generalize hAe : va_A (Wd cy a sh n z) s.heap.size = A at hD ⊢
  have hA : ∀ q : Nat, s.heap.size ≤ q → A q := fun q h => by rw [← hAe]; exact Or.inr h
  clear hAe
  have hS : va_S A s.heap s.heap [] := va_S.rf
  have hl := lv_entry ([.ref (a h0), .long x0, .long x1, .int x2]) (n := 6) (Nat.le_of_ble_eq_true rfl)
  rw [lg_entry_eq]
  generalize (lg_sl ([.ref (a h0), .long x0, .long x1, .int x2]) ++ List.replicate (6 - (lg_sl ([.ref (a h0), .long x0, .long x1, .int x2])).length) Slot.unset).toArray = ls at hl ⊢
  replace hl : lv_has ls 6 [(0, .ref (a h0)), (1, .long x0), (3, .long x1), (5, .int x2)] := hl
  unfold fn_X3_putReference at hf
  refine de_start hS hP (fun H locs hS hP => ?_)
  refine lv_aload_n hx hb dX3_putReference_0 rfl (lv_at hl 0 rfl) ?_
  obtain ⟨g_1, hf⟩ := grd_some hf
  obtain ⟨kg_1, sg_1⟩ := okO_at g_1
  refine va_get (D := (dC, dI)) (ci := 3) (v := .int (z.1 h0 8)) (C := RX3) (T := TX3) (N := 22) hx hb hts iwd_X3_putReference_X3 hown hK hP h0 (Wd_ob kg_1 sg_1 (by decide)) rfl 8 (by decide) (hts _ md_X3_putReference_1) (fun _ h9 => h9) (fl_at (t := 0) rfl) dX3_putReference_1 ?_
  refine lv_bipush (v := 64) hx hb dX3_putReference_4 (by decide) ?_
  refine lv_icmp_lt (tgt := 15) hx hb dX3_putReference_6 (by decide) (fun c_2 => ?_) (fun c_2 => ?_)
  · skip
    rw [if_pos c_2] at hf
    refine lv_aload_n hx hb dX3_putReference_15 rfl (lv_at hl 0 rfl) ?_
    obtain ⟨k_3, ek_3, hf⟩ := lnk_some hf
    refine va_get (D := (dC, dI)) (ci := 3) (v := .ref (a k_3)) (C := RX3) (T := TX3) (N := 22) hx hb hts iwd_X3_putReference_X3 hown hK hP h0 (Wd_ob kg_1 sg_1 (by decide)) rfl 5 (by decide) (hts _ md_X3_putReference_2) (fun _ h9 => h9) (fl_q rfl ek_3) dX3_putReference_16 ?_
    refine lv_aload_n hx hb dX3_putReference_19 rfl (lv_at hl 0 rfl) ?_
    refine va_get (D := (dC, dI)) (ci := 3) (v := .int (z.1 h0 8)) (C := RX3) (T := TX3) (N := 22) hx hb hts iwd_X3_putReference_X3 hown hK hP h0 (Wd_ob kg_1 sg_1 (by decide)) rfl 8 (by decide) (hts _ md_X3_putReference_1) (fun _ h9 => h9) (fl_at (t := 0) rfl) dX3_putReference_20 ?_
    refine lv_lload_n hx hb dX3_putReference_23 rfl (lv_at hl 1 rfl) ?_
    obtain ⟨g_4, hf⟩ := grd_some hf
    obtain ⟨kg_4, sg_4, ig_4⟩ := okA_at g_4
    refine va_last hx hb hK hP hD hS k_3 2 (Wd_al kg_4 sg_4) rfl ig_4 dX3_putReference_24 (fun H_5 locs hP2 hD2 hS2 => ?_)
    rw [Wd_tl sg_4] at hP2 hD2
    obtain ⟨z_6, ez_6⟩ : ∃ w, w = sl z k_3 (z.1 h0 8).toNatClampNeg x0 := ⟨_, rfl⟩
    rw [← ez_6] at hP2 hD2
    replace hf := lt_at ez_6 hf
    clear ez_6
    replace hP := hP2
    replace hD := hD2
    replace hS := hS2
    clear hP2 hD2 hS2
    refine lv_aload_n hx hb dX3_putReference_25 rfl (lv_at hl 0 rfl) ?_
    obtain ⟨k_7, ek_7, hf⟩ := lnk_some hf
    refine va_get (D := (dC, dI)) (ci := 3) (v := .ref (a k_7)) (C := RX3) (T := TX3) (N := 22) hx hb hts iwd_X3_putReference_X3 hown hK hP h0 (Wd_ob kg_1 sg_1 (by decide)) rfl 6 (by decide) (hts _ md_X3_putReference_3) (fun _ h9 => h9) (fl_q rfl ek_7) dX3_putReference_26 ?_
    refine lv_aload_n hx hb dX3_putReference_29 rfl (lv_at hl 0 rfl) ?_
    refine va_get (D := (dC, dI)) (ci := 3) (v := .int (z_6.1 h0 8)) (C := RX3) (T := TX3) (N := 22) hx hb hts iwd_X3_putReference_X3 hown hK hP h0 (Wd_ob kg_1 sg_1 (by decide)) rfl 8 (by decide) (hts _ md_X3_putReference_1) (fun _ h9 => h9) (fl_at (t := 0) rfl) dX3_putReference_30 ?_
    refine lv_lload_n hx hb dX3_putReference_33 rfl (lv_at hl 2 rfl) ?_
    obtain ⟨g_8, hf⟩ := grd_some hf
    obtain ⟨kg_8, sg_8, ig_8⟩ := okA_at g_8
    refine va_last hx hb hK hP hD hS k_7 2 (Wd_al kg_8 sg_8) rfl ig_8 dX3_putReference_34 (fun H_9 locs hP2 hD2 hS2 => ?_)
    rw [Wd_tl sg_8] at hP2 hD2
    obtain ⟨z_10, ez_10⟩ : ∃ w, w = sl z_6 k_7 (z_6.1 h0 8).toNatClampNeg x1 := ⟨_, rfl⟩
    rw [← ez_10] at hP2 hD2
    replace hf := lt_at ez_10 hf
    clear ez_10
    replace hP := hP2
    replace hD := hD2
    replace hS := hS2
    clear hP2 hD2 hS2
    refine lv_aload_n hx hb dX3_putReference_35 rfl (lv_at hl 0 rfl) ?_
    obtain ⟨k_11, ek_11, hf⟩ := lnk_some hf
    refine va_get (D := (dC, dI)) (ci := 3) (v := .ref (a k_11)) (C := RX3) (T := TX3) (N := 22) hx hb hts iwd_X3_putReference_X3 hown hK hP h0 (Wd_ob kg_1 sg_1 (by decide)) rfl 7 (by decide) (hts _ md_X3_putReference_4) (fun _ h9 => h9) (fl_q rfl ek_11) dX3_putReference_36 ?_
    refine lv_aload_n hx hb dX3_putReference_39 rfl (lv_at hl 0 rfl) ?_
    refine va_get (D := (dC, dI)) (ci := 3) (v := .int (z_10.1 h0 8)) (C := RX3) (T := TX3) (N := 22) hx hb hts iwd_X3_putReference_X3 hown hK hP h0 (Wd_ob kg_1 sg_1 (by decide)) rfl 8 (by decide) (hts _ md_X3_putReference_1) (fun _ h9 => h9) (fl_at (t := 0) rfl) dX3_putReference_40 ?_
    refine lv_iload hx hb dX3_putReference_43 (lv_at hl 3 rfl) ?_
    obtain ⟨g_12, hf⟩ := grd_some hf
    obtain ⟨kg_12, sg_12, ig_12⟩ := okA_at g_12
    refine va_zast hx hb hK hP hD hS k_11 3 (Wd_az kg_12 sg_12) rfl ig_12 dX3_putReference_45 (fun H_13 locs hP2 hD2 hS2 => ?_)
    rw [Wd_tz sg_12] at hP2 hD2
    obtain ⟨z_14, ez_14⟩ : ∃ w, w = si z_10 k_11 (z_10.1 h0 8).toNatClampNeg (vp_nar .boolean x2) := ⟨_, rfl⟩
    rw [← ez_14] at hP2 hD2
    replace hf := lt_at ez_14 hf
    clear ez_14
    replace hP := hP2
    replace hD := hD2
    replace hS := hS2
    clear hP2 hD2 hS2
    refine lv_aload_n hx hb dX3_putReference_46 rfl (lv_at hl 0 rfl) ?_
    refine lv_dup hx hb dX3_putReference_47 rfl ?_
    refine va_get (D := (dC, dI)) (ci := 3) (v := .int (z_14.1 h0 8)) (C := RX3) (T := TX3) (N := 22) hx hb hts iwd_X3_putReference_X3 hown hK hP h0 (Wd_ob kg_1 sg_1 (by decide)) rfl 8 (by decide) (hts _ md_X3_putReference_1) (fun _ h9 => h9) (fl_at (t := 0) rfl) dX3_putReference_48 ?_
    refine lv_iconst (v := 1) hx hb dX3_putReference_51 (by decide) ?_
    refine lv_iadd hx hb dX3_putReference_52 ?_
    refine va_put (D := (dC, dI)) (ci := 3) (v := .int ((z_14.1 h0 8) + 1)) (ty := .int) (C := RX3) (T := TX3) (N := 22) hx hb hts iwd_X3_putReference_X3 tyX3 tyX3_ok nmX3 hown hK hP hD hS h0 (Wd_ob kg_1 sg_1 (by decide)) rfl 8 (by decide) (hts _ md_X3_putReference_1) (fun _ h9 => h9) rfl (by decide +kernel) rfl rfl (by rw [fl_len]; decide) dX3_putReference_53 (fun H_15 locs hP2 hD2 hS2 => ?_)
    rw [Wd_si sg_1 (by decide) rfl] at hP2 hD2
    obtain ⟨z_16, ez_16⟩ : ∃ w, w = si z_14 h0 8 ((z_14.1 h0 8) + 1) := ⟨_, rfl⟩
    rw [← ez_16] at hP2 hD2
    replace hf := lt_at ez_16 hf
    clear ez_16
    replace hP := hP2
    replace hD := hD2
    replace hS := hS2
    clear hP2 hD2 hS2
    obtain ⟨h8, h9⟩ := ret_some hf
    rw [h8]
    exact W.vret hx hb hr (fun t ht hW => ⟨⟨(), rfl, trivial, by rw [ht]; exact hP, va_K.moved hW.alike hK, hD⟩, hS.F ht⟩) hS.2.2 dX3_putReference_56
  · skip
    rw [if_neg c_2] at hf
    refine lv_aload_n hx hb dX3_putReference_9 rfl (lv_at hl 0 rfl) ?_
    refine lv_iconst (v := 2) hx hb dX3_putReference_10 (by decide) ?_
    obtain ⟨z_17, _u, hfc, hf⟩ := cal_some hf
    have hFc := de_free hD hS hA
    refine va_callv (va_runV (As := [.int 2]) (rest := []) ⟨hx, hb, hml, hown, hts⟩ (de_X3_fail l dC dI cy a sh n H.size F z h0 2 hfc) (cwV 1 hts gX3_putReference_X3_fail rfl rfl rfl (by decide +kernel) ⟨Nat.le_of_ble_eq_true rfl, Nat.le_of_ble_eq_true rfl⟩) ⟨fun a U g mk q => by obtain ⟨q0, q1, qP, qK, qD, qN⟩ := q; exact ⟨q0, q1, qP, va_K.moved (u := U) (U := U.calling g mk a) (Vm.Alike.refl U.vm) qK, qD, qN.same rfl⟩, va_recv hK hP (ci := 3) (q0 := h0) rfl (Wd_ob kg_1 sg_1 (by decide)), fun U hU hW => ⟨rfl, by rw [hU], by rw [hU]; exact hP, va_K.moved hW.alike hK, hD.weaken (fun _ _ _ _ => trivial), hN.warm hW⟩⟩ rfl rfl hl.1 rfl (lv_room (Nat.le_of_ble_eq_true rfl)) dX3_putReference_11 ⟨Nat.le_of_ble_eq_true rfl, Nat.le_of_ble_eq_true rfl⟩) hS (fun q _ h => hFc q h) hFc (fun u t H_18 locs ht hvm hw hB hz1 hk1 hS2 => ?_)
    obtain ⟨hP1, -, hD1⟩ := hB
    rw [ht] at hP1
    replace hD := hD1.weaken (fun _ _ _ h => hFc _ h)
    replace hP := hP1
    replace hS := hS2
    clear hP1 hD1 hS2 hFc hfc hz1 hk1 hvm ht
    obtain ⟨h8, h9⟩ := ret_some hf
    rw [h8]
    exact W.vret hx hb hr (fun t ht hW => ⟨⟨(), rfl, trivial, by rw [ht]; exact hP, va_K.moved hW.alike hK, hD⟩, hS.F ht⟩) hS.2.2 dX3_putReference_14

theorem md_X3_take_1 : (.fieldLink RX3 95 "ResourceLedger$Looker" "depth" "I" : Cond) ∈ wsX3_take := List.mem_of_getElem? (i := 1) rfl
theorem iwd_X3_take_X3 : ∀ w ∈ wsX30, w ∈ wsX3_take := fun _ h => List.mem_cons_of_mem _ (List.mem_append_right _ h)
theorem md_X3_take_2 : (.fieldLink RX3 15 "ResourceLedger$Looker" "stackOrigins" "[J" : Cond) ∈ wsX3_take := List.mem_of_getElem? (i := 2) rfl
theorem md_X3_take_3 : (.fieldLink RX3 194 "ResourceLedger$Looker" "takenOrigins" "J" : Cond) ∈ wsX3_take := List.mem_of_getElem? (i := 3) rfl
theorem md_X3_take_4 : (.fieldLink RX3 18 "ResourceLedger$Looker" "stackInside" "[Z" : Cond) ∈ wsX3_take := List.mem_of_getElem? (i := 4) rfl
theorem md_X3_take_5 : (.fieldLink RX3 197 "ResourceLedger$Looker" "takenInside" "Z" : Cond) ∈ wsX3_take := List.mem_of_getElem? (i := 5) rfl
theorem md_X3_take_6 : (.fieldLink RX3 11 "ResourceLedger$Looker" "stackType" "[J" : Cond) ∈ wsX3_take := List.mem_of_getElem? (i := 6) rfl
set_option maxHeartbeats 4000000 in
set_option maxRecDepth 100000 in
theorem de_X3_take (l : Launch) (dC : Nat → ClassId) (dI : Nat → Nat → Nat) (cy : Nat → ClassId) (a : Nat → Nat) (sh : Nat → Nat × Nat) (n sz : Nat) (F : Nat) (z : St) (h0 : Nat) {z8 : St} {r8 : Int64} (hf : fn_X3_take F sh n z h0 = some (z8, r8)) : Met l yX3_take wsX3_take ({ frames := 1, cells := 0, slots := 0, locals := 21 }) (va_Pc [.ref (a h0)] (fun U => U.heap.size = sz ∧ va_P (dC, dI) vwCl (Wd cy a sh n z) U.heap ∧ va_K (dC, dI) vwCl (TYS cy) U ∧ va_D (fun _ => True) (Wd cy a sh n z) ∧ NK U)) (va_Ql (fun (r9 : Int64) (u : Unit) => r9 = r8) (fun u t => va_P (dC, dI) vwCl (Wd cy a sh n z8) t.heap ∧ va_K (dC, dI) vwCl (TYS cy) t ∧ va_D (va_A (Wd cy a sh n z) sz) (Wd cy a sh n z8)) (va_A (Wd cy a sh n z) sz)) 0 0 (va_A (Wd cy a sh n z) sz) := by
  refine Met.ofW (cc := cX3_take) (maxL := 1) (ret := (some .long)) (by decide) rfl ?_
  intro p e s m args below meth c s₁ B hml hv
  obtain ⟨rfl, hsz, hP, hK, hD0, hN⟩ := hv
  have hx := B.exec
  have hb := B.bytes
  have hr := B.returns
  have hts := atoms_spec (ws := wsX3_take) B.pre
  have hown : s.vm.findClass RX3 = some m.cls := findClass_of_methodNamed B.named
  have hlocks := B.notSynchronized
  subst hsz
  have hD := hD0.self (sz := s.heap.size)
  clear hD0
  generalize hAe : va_A (Wd cy a sh n z) s.heap.size = A at hD ⊢
  have hA : ∀ q : Nat, s.heap.size ≤ q → A q := fun q h => by rw [← hAe]; exact Or.inr h
  clear hAe
  have hS : va_S A s.heap s.heap [] := va_S.rf
  have hl := lv_entry ([.ref (a h0)]) (n := 1) (Nat.le_of_ble_eq_true rfl)
  rw [lg_entry_eq]
  generalize (lg_sl ([.ref (a h0)]) ++ List.replicate (1 - (lg_sl ([.ref (a h0)])).length) Slot.unset).toArray = ls at hl ⊢
  replace hl : lv_has ls 1 [(0, .ref (a h0))] := hl
  unfold fn_X3_take at hf
  refine de_start hS hP (fun H locs hS hP => ?_)
  refine lv_aload_n hx hb dX3_take_0 rfl (lv_at hl 0 rfl) ?_
  obtain ⟨g_1, hf⟩ := grd_some hf
  obtain ⟨kg_1, sg_1⟩ := okO_at g_1
  refine va_get (D := (dC, dI)) (ci := 3) (v := .int (z.1 h0 8)) (C := RX3) (T := TX3) (N := 22) hx hb hts iwd_X3_take_X3 hown hK hP h0 (Wd_ob kg_1 sg_1 (by decide)) rfl 8 (by decide) (hts _ md_X3_take_1) (fun _ h9 => h9) (fl_at (t := 0) rfl) dX3_take_1 ?_
  refine lv_if_ne (tgt := 14) hx hb dX3_take_4 (by decide) (fun c_2 => ?_) (fun c_2 => ?_)
  · skip
    rw [if_neg c_2] at hf
    refine lv_aload_n hx hb dX3_take_14 rfl (lv_at hl 0 rfl) ?_
    refine lv_dup hx hb dX3_take_15 rfl ?_
    refine va_get (D := (dC, dI)) (ci := 3) (v := .int (z.1 h0 8)) (C := RX3) (T := TX3) (N := 22) hx hb hts iwd_X3_take_X3 hown hK hP h0 (Wd_ob kg_1 sg_1 (by decide)) rfl 8 (by decide) (hts _ md_X3_take_1) (fun _ h9 => h9) (fl_at (t := 0) rfl) dX3_take_16 ?_
    refine lv_iconst (v := 1) hx hb dX3_take_19 (by decide) ?_
    refine lv_isub hx hb dX3_take_20 ?_
    refine va_put (D := (dC, dI)) (ci := 3) (v := .int ((z.1 h0 8) - 1)) (ty := .int) (C := RX3) (T := TX3) (N := 22) hx hb hts iwd_X3_take_X3 tyX3 tyX3_ok nmX3 hown hK hP hD hS h0 (Wd_ob kg_1 sg_1 (by decide)) rfl 8 (by decide) (hts _ md_X3_take_1) (fun _ h9 => h9) rfl (by decide +kernel) rfl rfl (by rw [fl_len]; decide) dX3_take_21 (fun H_3 locs hP2 hD2 hS2 => ?_)
    rw [Wd_si sg_1 (by decide) rfl] at hP2 hD2
    obtain ⟨z_4, ez_4⟩ : ∃ w, w = si z h0 8 ((z.1 h0 8) - 1) := ⟨_, rfl⟩
    rw [← ez_4] at hP2 hD2
    replace hf := lt_at ez_4 hf
    clear ez_4
    replace hP := hP2
    replace hD := hD2
    replace hS := hS2
    clear hP2 hD2 hS2
    refine lv_aload_n hx hb dX3_take_24 rfl (lv_at hl 0 rfl) ?_
    refine lv_aload_n hx hb dX3_take_25 rfl (lv_at hl 0 rfl) ?_
    obtain ⟨k_5, ek_5, hf⟩ := lnk_some hf
    refine va_get (D := (dC, dI)) (ci := 3) (v := .ref (a k_5)) (C := RX3) (T := TX3) (N := 22) hx hb hts iwd_X3_take_X3 hown hK hP h0 (Wd_ob kg_1 sg_1 (by decide)) rfl 6 (by decide) (hts _ md_X3_take_2) (fun _ h9 => h9) (fl_q rfl ek_5) dX3_take_26 ?_
    refine lv_aload_n hx hb dX3_take_29 rfl (lv_at hl 0 rfl) ?_
    refine va_get (D := (dC, dI)) (ci := 3) (v := .int (z_4.1 h0 8)) (C := RX3) (T := TX3) (N := 22) hx hb hts iwd_X3_take_X3 hown hK hP h0 (Wd_ob kg_1 sg_1 (by decide)) rfl 8 (by decide) (hts _ md_X3_take_1) (fun _ h9 => h9) (fl_at (t := 0) rfl) dX3_take_30 ?_
    obtain ⟨g_6, hf⟩ := grd_some hf
    obtain ⟨kg_6, sg_6, ig_6⟩ := okA_at g_6
    refine va_lald hx hb hK hP k_5 2 (Wd_al kg_6 sg_6) rfl ig_6 dX3_take_33 ?_
    refine va_put (D := (dC, dI)) (ci := 3) (v := .long (z_4.2.1 k_5 (z_4.1 h0 8).toNatClampNeg)) (ty := .long) (C := RX3) (T := TX3) (N := 22) hx hb hts iwd_X3_take_X3 tyX3 tyX3_ok nmX3 hown hK hP hD hS h0 (Wd_ob kg_1 sg_1 (by decide)) rfl 14 (by decide) (hts _ md_X3_take_3) (fun _ h9 => h9) rfl (by decide +kernel) rfl rfl (by rw [fl_len]; decide) dX3_take_34 (fun H_7 locs hP2 hD2 hS2 => ?_)
    rw [Wd_sl sg_1 (by decide) rfl] at hP2 hD2
    obtain ⟨z_8, ez_8⟩ : ∃ w, w = sl z_4 h0 14 (z_4.2.1 k_5 (z_4.1 h0 8).toNatClampNeg) := ⟨_, rfl⟩
    rw [← ez_8] at hP2 hD2
    replace hf := lt_at ez_8 hf
    clear ez_8
    replace hP := hP2
    replace hD := hD2
    replace hS := hS2
    clear hP2 hD2 hS2
    refine lv_aload_n hx hb dX3_take_37 rfl (lv_at hl 0 rfl) ?_
    refine lv_aload_n hx hb dX3_take_38 rfl (lv_at hl 0 rfl) ?_
    obtain ⟨k_9, ek_9, hf⟩ := lnk_some hf
    refine va_get (D := (dC, dI)) (ci := 3) (v := .ref (a k_9)) (C := RX3) (T := TX3) (N := 22) hx hb hts iwd_X3_take_X3 hown hK hP h0 (Wd_ob kg_1 sg_1 (by decide)) rfl 7 (by decide) (hts _ md_X3_take_4) (fun _ h9 => h9) (fl_q rfl ek_9) dX3_take_39 ?_
    refine lv_aload_n hx hb dX3_take_42 rfl (lv_at hl 0 rfl) ?_
    refine va_get (D := (dC, dI)) (ci := 3) (v := .int (z_8.1 h0 8)) (C := RX3) (T := TX3) (N := 22) hx hb hts iwd_X3_take_X3 hown hK hP h0 (Wd_ob kg_1 sg_1 (by decide)) rfl 8 (by decide) (hts _ md_X3_take_1) (fun _ h9 => h9) (fl_at (t := 0) rfl) dX3_take_43 ?_
    obtain ⟨g_10, hf⟩ := grd_some hf
    obtain ⟨kg_10, sg_10, ig_10⟩ := okA_at g_10
    refine va_zald hx hb hK hP k_9 3 (Wd_az kg_10 sg_10) rfl ig_10 dX3_take_46 ?_
    obtain ⟨g_11, hf⟩ := grd_some hf
    refine va_put (D := (dC, dI)) (ci := 3) (v := .int (z_8.1 k_9 (z_8.1 h0 8).toNatClampNeg)) (ty := .boolean) (C := RX3) (T := TX3) (N := 22) hx hb hts iwd_X3_take_X3 tyX3 tyX3_ok nmX3 hown hK hP hD hS h0 (Wd_ob kg_1 sg_1 (by decide)) rfl 15 (by decide) (hts _ md_X3_take_5) (fun _ h9 => h9) rfl (by decide +kernel) (nar_z g_11) (fit_z g_11) (by rw [fl_len]; decide) dX3_take_47 (fun H_12 locs hP2 hD2 hS2 => ?_)
    rw [Wd_si sg_1 (by decide) rfl] at hP2 hD2
    obtain ⟨z_13, ez_13⟩ : ∃ w, w = si z_8 h0 15 (z_8.1 k_9 (z_8.1 h0 8).toNatClampNeg) := ⟨_, rfl⟩
    rw [← ez_13] at hP2 hD2
    replace hf := lt_at ez_13 hf
    clear ez_13
    replace hP := hP2
    replace hD := hD2
    replace hS := hS2
    clear hP2 hD2 hS2
    refine lv_aload_n hx hb dX3_take_50 rfl (lv_at hl 0 rfl) ?_
    obtain ⟨k_14, ek_14, hf⟩ := lnk_some hf
    refine va_get (D := (dC, dI)) (ci := 3) (v := .ref (a k_14)) (C := RX3) (T := TX3) (N := 22) hx hb hts iwd_X3_take_X3 hown hK hP h0 (Wd_ob kg_1 sg_1 (by decide)) rfl 5 (by decide) (hts _ md_X3_take_6) (fun _ h9 => h9) (fl_q rfl ek_14) dX3_take_51 ?_
    refine lv_aload_n hx hb dX3_take_54 rfl (lv_at hl 0 rfl) ?_
    refine va_get (D := (dC, dI)) (ci := 3) (v := .int (z_13.1 h0 8)) (C := RX3) (T := TX3) (N := 22) hx hb hts iwd_X3_take_X3 hown hK hP h0 (Wd_ob kg_1 sg_1 (by decide)) rfl 8 (by decide) (hts _ md_X3_take_1) (fun _ h9 => h9) (fl_at (t := 0) rfl) dX3_take_55 ?_
    obtain ⟨g_15, hf⟩ := grd_some hf
    obtain ⟨kg_15, sg_15, ig_15⟩ := okA_at g_15
    refine va_lald hx hb hK hP k_14 2 (Wd_al kg_15 sg_15) rfl ig_15 dX3_take_58 ?_
    obtain ⟨h8, h9⟩ := ret_some hf
    rw [h8, h9]
    exact W.lret (v := (z_13.2.1 k_14 (z_13.1 h0 8).toNatClampNeg)) hx hb hr (fun t ht hW => ⟨⟨(z_13.2.1 k_14 (z_13.1 h0 8).toNatClampNeg), (), rfl, rfl, by rw [ht]; exact hP, va_K.moved hW.alike hK, hD⟩, hS.F ht⟩) hS.2.2 dX3_take_59
  · skip
    rw [if_pos c_2] at hf
    refine lv_aload_n hx hb dX3_take_7 rfl (lv_at hl 0 rfl) ?_
    refine lv_iconst (v := 1) hx hb dX3_take_8 (by decide) ?_
    obtain ⟨z_16, _u, hfc, hf⟩ := cal_some hf
    have hFc := de_free hD hS hA
    refine va_callv (va_runV (As := [.int 1]) (rest := []) ⟨hx, hb, hml, hown, hts⟩ (de_X3_fail l dC dI cy a sh n H.size F z h0 1 hfc) (cwV 1 hts gX3_take_X3_fail rfl rfl rfl (by decide +kernel) ⟨Nat.le_of_ble_eq_true rfl, Nat.le_of_ble_eq_true rfl⟩) ⟨fun a U g mk q => by obtain ⟨q0, q1, qP, qK, qD, qN⟩ := q; exact ⟨q0, q1, qP, va_K.moved (u := U) (U := U.calling g mk a) (Vm.Alike.refl U.vm) qK, qD, qN.same rfl⟩, va_recv hK hP (ci := 3) (q0 := h0) rfl (Wd_ob kg_1 sg_1 (by decide)), fun U hU hW => ⟨rfl, by rw [hU], by rw [hU]; exact hP, va_K.moved hW.alike hK, hD.weaken (fun _ _ _ _ => trivial), hN.warm hW⟩⟩ rfl rfl hl.1 rfl (lv_room (Nat.le_of_ble_eq_true rfl)) dX3_take_9 ⟨Nat.le_of_ble_eq_true rfl, Nat.le_of_ble_eq_true rfl⟩) hS (fun q _ h => hFc q h) hFc (fun u t H_17 locs ht hvm hw hB hz1 hk1 hS2 => ?_)
    obtain ⟨hP1, -, hD1⟩ := hB
    rw [ht] at hP1
    replace hD := hD1.weaken (fun _ _ _ h => hFc _ h)
    replace hP := hP1
    replace hS := hS2
    clear hP1 hD1 hS2 hFc hfc hz1 hk1 hvm ht
    refine lv_lconst (v := 0) hx hb dX3_take_12 (by decide) ?_
    obtain ⟨h8, h9⟩ := ret_some hf
    rw [h8, h9]
    exact W.lret (v := 0) hx hb hr (fun t ht hW => ⟨⟨0, (), rfl, rfl, by rw [ht]; exact hP, va_K.moved hW.alike hK, hD⟩, hS.F ht⟩) hS.2.2 dX3_take_13

theorem md_X11_argument_1 : (.fieldLink RX11 112 "ResourceLedger" "blockLength" "I" : Cond) ∈ wsX11_argument := List.mem_of_getElem? (i := 1) rfl
theorem iwd_X11_argument_X11 : ∀ w ∈ wsX110, w ∈ wsX11_argument := fun _ h => List.mem_cons_of_mem _ (List.mem_append_left _ (List.mem_append_right _ h))
theorem md_X11_argument_2 : (.fieldLink RX11 115 "ResourceLedger" "doneLength" "I" : Cond) ∈ wsX11_argument := List.mem_of_getElem? (i := 2) rfl
theorem md_X11_argument_3 : (.fieldLink RX11 15 "ResourceLedger" "block" "[LResourceLedger$Transaction;" : Cond) ∈ wsX11_argument := List.mem_of_getElem? (i := 3) rfl
theorem md_X11_argument_4 : (.fieldLink RX11 131 "ResourceLedger$Transaction" "calls" "Z" : Cond) ∈ wsX11_argument := List.mem_of_getElem? (i := 4) rfl
theorem iwd_X11_argument_X8 : ∀ w ∈ wsX80, w ∈ wsX11_argument := fun _ h => List.mem_cons_of_mem _ (List.mem_append_right _ h)
set_option maxHeartbeats 4000000 in
set_option maxRecDepth 100000 in
theorem de_X11_argument (l : Launch) (dC : Nat → ClassId) (dI : Nat → Nat → Nat) (cy : Nat → ClassId) (a : Nat → Nat) (sh : Nat → Nat × Nat) (n sz : Nat) (F : Nat) (z : St) (h0 : Nat) (x0 : Int32) (x1 : Int64) (x2 : Int64) {z8 : St} {r8 : Int32} (hf : fn_X11_argument F sh n z h0 x0 x1 x2 = some (z8, r8)) : Met l yX11_argument wsX11_argument ({ frames := 1, cells := 0, slots := 0, locals := 25 }) (va_Pc [.ref (a h0), .int x0, .long x1, .long x2] (fun U => U.heap.size = sz ∧ va_P (dC, dI) vwCl (Wd cy a sh n z) U.heap ∧ va_K (dC, dI) vwCl (TYS cy) U ∧ va_D (fun _ => True) (Wd cy a sh n z) ∧ NK U)) (va_Qi (fun (r9 : Int32) (u : Unit) => r9 = r8) (fun u t => va_P (dC, dI) vwCl (Wd cy a sh n z8) t.heap ∧ va_K (dC, dI) vwCl (TYS cy) t ∧ va_D (va_A (Wd cy a sh n z) sz) (Wd cy a sh n z8)) (va_A (Wd cy a sh n z) sz)) 0 0 (va_A (Wd cy a sh n z) sz) := by
  refine Met.ofW (cc := cX11_argument) (maxL := 6) (ret := (some .int)) (by decide) rfl ?_
  intro p e s m args below meth c s₁ B hml hv
  obtain ⟨rfl, hsz, hP, hK, hD0, hN⟩ := hv
  have hx := B.exec
  have hb := B.bytes
  have hr := B.returns
  have hts := atoms_spec (ws := wsX11_argument) B.pre
  have hown : s.vm.findClass RX11 = some m.cls := findClass_of_methodNamed B.named
  have hlocks := B.notSynchronized
  subst hsz
  have hD := hD0.self (sz := s.heap.size)
  clear hD0
  generalize hAe : va_A (Wd cy a sh n z) s.heap.size = A at hD ⊢
  have hA : ∀ q : Nat, s.heap.size ≤ q → A q := fun q h => by rw [← hAe]; exact Or.inr h
  clear hAe
  have hS : va_S A s.heap s.heap [] := va_S.rf
  have hl := lv_entry ([.ref (a h0), .int x0, .long x1, .long x2]) (n := 6) (Nat.le_of_ble_eq_true rfl)
  rw [lg_entry_eq]
  generalize (lg_sl ([.ref (a h0), .int x0, .long x1, .long x2]) ++ List.replicate (6 - (lg_sl ([.ref (a h0), .int x0, .long x1, .long x2])).length) Slot.unset).toArray = ls at hl ⊢
  replace hl : lv_has ls 6 [(0, .ref (a h0)), (1, .int x0), (2, .long x1), (4, .long x2)] := hl
  unfold fn_X11_argument at hf
  refine de_start hS hP (fun H locs hS hP => ?_)
  refine lv_iload_n hx hb dX11_argument_0 rfl (lv_at hl 1 rfl) ?_
  refine lv_lload_n hx hb dX11_argument_1 rfl (lv_at hl 2 rfl) ?_
  refine lv_lload hx hb dX11_argument_2 (lv_at hl 3 rfl) ?_
  obtain ⟨z_1, r_2, hfc, hf⟩ := cal_some hf
  have hFc := de_free hD hS hA
  refine va_calli (va_runS (As := [.int x0, .long x1, .long x2]) (rest := []) ⟨hx, hb, hml, hown, hts⟩ (de_X11_isArgument l dC dI cy a sh n H.size F z x0 x1 x2 hfc) (va_cwS 3 hts gX11_argument_X11_isArgument rfl rfl rfl (by decide +kernel) ⟨Nat.le_of_ble_eq_true rfl, Nat.le_of_ble_eq_true rfl⟩) ⟨fun a U g mk q => by obtain ⟨q0, q1, qP, qK, qD, qN⟩ := q; exact ⟨q0, q1, qP, va_K.moved (u := U) (U := U.calling g mk a) (Vm.Alike.refl U.vm) qK, qD, qN.same rfl⟩, fun U hU hW => ⟨rfl, by rw [hU], by rw [hU]; exact hP, va_K.moved hW.alike hK, hD.weaken (fun _ _ _ _ => trivial), hN.warm hW⟩⟩ rfl rfl hl.1 rfl (lv_room (Nat.le_of_ble_eq_true rfl)) dX11_argument_4 ⟨Nat.le_of_ble_eq_true rfl, Nat.le_of_ble_eq_true rfl⟩) hS (fun q _ h => hFc q h) hFc (fun rr u t H_3 locs ht hvm hw hB hz1 hk1 hS2 => ?_)
  rw [hw]
  clear hw
  obtain ⟨hP1, -, hD1⟩ := hB
  rw [ht] at hP1
  replace hD := hD1.weaken (fun _ _ _ h => hFc _ h)
  replace hP := hP1
  replace hS := hS2
  clear hP1 hD1 hS2 hFc hfc hz1 hk1 hvm ht
  refine lv_if_ne (tgt := 12) hx hb dX11_argument_7 (by decide) (fun c_4 => ?_) (fun c_4 => ?_)
  · skip
    rw [if_neg c_4] at hf
    refine lv_aload_n hx hb dX11_argument_12 rfl (lv_at hl 0 rfl) ?_
    obtain ⟨g_5, hf⟩ := grd_some hf
    obtain ⟨kg_5, sg_5⟩ := okO_at g_5
    refine va_get (D := (dC, dI)) (ci := 11) (v := .int (z_1.1 h0 4)) (C := RX11) (T := TX11) (N := 13) hx hb hts iwd_X11_argument_X11 hown hK hP h0 (Wd_ob kg_5 sg_5 (by decide)) rfl 4 (by decide) (hts _ md_X11_argument_1) (fun _ h9 => h9) (fl_at (t := 0) rfl) dX11_argument_13 ?_
    refine lv_aload_n hx hb dX11_argument_16 rfl (lv_at hl 0 rfl) ?_
    refine va_get (D := (dC, dI)) (ci := 11) (v := .int (z_1.1 h0 5)) (C := RX11) (T := TX11) (N := 13) hx hb hts iwd_X11_argument_X11 hown hK hP h0 (Wd_ob kg_5 sg_5 (by decide)) rfl 5 (by decide) (hts _ md_X11_argument_2) (fun _ h9 => h9) (fl_at (t := 0) rfl) dX11_argument_17 ?_
    refine lv_icmp_eq (tgt := 40) hx hb dX11_argument_20 (by decide) (fun c_6 => ?_) (fun c_6 => ?_)
    · skip
      rw [if_pos c_6] at hf
      refine lv_bipush (v := (-2)) hx hb dX11_argument_40 (by decide) ?_
      obtain ⟨h8, h9⟩ := ret_some hf
      rw [h8, h9]
      exact W.iret (v := (-2)) hx hb hr (fun t ht hW => ⟨⟨(-2), (), rfl, rfl, by rw [ht]; exact hP, va_K.moved hW.alike hK, hD⟩, hS.F ht⟩) hS.2.2 dX11_argument_42
    · skip
      rw [if_neg c_6] at hf
      refine lv_aload_n hx hb dX11_argument_23 rfl (lv_at hl 0 rfl) ?_
      obtain ⟨k_7, ek_7, hf⟩ := lnk_some hf
      refine va_get (D := (dC, dI)) (ci := 11) (v := .ref (a k_7)) (C := RX11) (T := TX11) (N := 13) hx hb hts iwd_X11_argument_X11 hown hK hP h0 (Wd_ob kg_5 sg_5 (by decide)) rfl 3 (by decide) (hts _ md_X11_argument_3) (fun _ h9 => h9) (fl_q rfl ek_7) dX11_argument_24 ?_
      refine lv_aload_n hx hb dX11_argument_27 rfl (lv_at hl 0 rfl) ?_
      refine va_get (D := (dC, dI)) (ci := 11) (v := .int (z_1.1 h0 4)) (C := RX11) (T := TX11) (N := 13) hx hb hts iwd_X11_argument_X11 hown hK hP h0 (Wd_ob kg_5 sg_5 (by decide)) rfl 4 (by decide) (hts _ md_X11_argument_1) (fun _ h9 => h9) (fl_at (t := 0) rfl) dX11_argument_28 ?_
      refine lv_iconst (v := 1) hx hb dX11_argument_31 (by decide) ?_
      refine lv_isub hx hb dX11_argument_32 ?_
      obtain ⟨g_8, hf⟩ := grd_some hf
      obtain ⟨kg_8, sg_8, ig_8⟩ := okA_at g_8
      obtain ⟨k_9, ek_9, hf⟩ := lnk_some hf
      refine va_aldq (C := RX8) hx hb hK hP k_7 5 (Wd_aq kg_8 sg_8 (by decide)) rfl ig_8 dX11_argument_33 ?_
      refine W.eq (g2 := F0 m 34 ls [.ref (a k_9)]) (by rw [ek_9]; rfl) ?_
      obtain ⟨g_10, hf⟩ := grd_some hf
      obtain ⟨kg_10, sg_10⟩ := okO_at g_10
      refine va_get (D := (dC, dI)) (ci := 8) (v := .int (z_1.1 k_9 0)) (C := RX8) (T := TX8) (N := 19) hx hb hts iwd_X11_argument_X8 hown hK hP k_9 (Wd_ob kg_10 sg_10 (by decide)) rfl 0 (by decide) (hts _ md_X11_argument_4) (fun _ h9 => h9) (fl_at (t := 0) rfl) dX11_argument_34 ?_
      refine lv_if_ne (tgt := 43) hx hb dX11_argument_37 (by decide) (fun c_11 => ?_) (fun c_11 => ?_)
      · skip
        rw [if_neg c_11] at hf
        refine lv_aload_n hx hb dX11_argument_43 rfl (lv_at hl 0 rfl) ?_
        obtain ⟨k_12, ek_12, hf⟩ := lnk_some hf
        refine va_get (D := (dC, dI)) (ci := 11) (v := .ref (a k_12)) (C := RX11) (T := TX11) (N := 13) hx hb hts iwd_X11_argument_X11 hown hK hP h0 (Wd_ob kg_5 sg_5 (by decide)) rfl 3 (by decide) (hts _ md_X11_argument_3) (fun _ h9 => h9) (fl_q rfl ek_12) dX11_argument_44 ?_
        refine lv_aload_n hx hb dX11_argument_47 rfl (lv_at hl 0 rfl) ?_
        refine va_get (D := (dC, dI)) (ci := 11) (v := .int (z_1.1 h0 4)) (C := RX11) (T := TX11) (N := 13) hx hb hts iwd_X11_argument_X11 hown hK hP h0 (Wd_ob kg_5 sg_5 (by decide)) rfl 4 (by decide) (hts _ md_X11_argument_1) (fun _ h9 => h9) (fl_at (t := 0) rfl) dX11_argument_48 ?_
        refine lv_iconst (v := 1) hx hb dX11_argument_51 (by decide) ?_
        refine lv_isub hx hb dX11_argument_52 ?_
        obtain ⟨g_13, hf⟩ := grd_some hf
        obtain ⟨kg_13, sg_13, ig_13⟩ := okA_at g_13
        obtain ⟨k_14, ek_14, hf⟩ := lnk_some hf
        refine va_aldq (C := RX8) hx hb hK hP k_12 5 (Wd_aq kg_13 sg_13 (by decide)) rfl ig_13 dX11_argument_53 ?_
        refine W.eq (g2 := F0 m 54 ls [.ref (a k_14)]) (by rw [ek_14]; rfl) ?_
        refine lv_iload_n hx hb dX11_argument_54 rfl (lv_at hl 1 rfl) ?_
        refine lv_lload_n hx hb dX11_argument_55 rfl (lv_at hl 2 rfl) ?_
        refine lv_lload hx hb dX11_argument_56 (lv_at hl 3 rfl) ?_
        obtain ⟨g_17, hf⟩ := grd_some hf
        obtain ⟨kg_17, sg_17⟩ := okO_at g_17
        obtain ⟨z_15, r_16, hfc, hf⟩ := cal_some hf
        have hFc := de_free hD hS hA
        refine va_calli (va_runV (As := [.int x0, .long x1, .long x2]) (rest := []) ⟨hx, hb, hml, hown, hts⟩ (de_X8_addArgument l dC dI cy a sh n H_3.size F z_1 k_14 x0 x1 x2 hfc) (cwV 3 hts gX11_argument_X8_addArgument rfl rfl rfl (by decide +kernel) ⟨Nat.le_of_ble_eq_true rfl, Nat.le_of_ble_eq_true rfl⟩) ⟨fun a U g mk q => by obtain ⟨q0, q1, qP, qK, qD, qN⟩ := q; exact ⟨q0, q1, qP, va_K.moved (u := U) (U := U.calling g mk a) (Vm.Alike.refl U.vm) qK, qD, qN.same rfl⟩, va_recv hK hP (ci := 8) (q0 := k_14) rfl (Wd_ob kg_17 sg_17 (by decide)), fun U hU hW => ⟨rfl, by rw [hU], by rw [hU]; exact hP, va_K.moved hW.alike hK, hD.weaken (fun _ _ _ _ => trivial), hN.warm hW⟩⟩ rfl rfl hl.1 rfl (lv_room (Nat.le_of_ble_eq_true rfl)) dX11_argument_58 ⟨Nat.le_of_ble_eq_true rfl, Nat.le_of_ble_eq_true rfl⟩) hS (fun q _ h => hFc q h) hFc (fun rr u t H_18 locs ht hvm hw hB hz1 hk1 hS2 => ?_)
        rw [hw]
        clear hw
        obtain ⟨hP1, -, hD1⟩ := hB
        rw [ht] at hP1
        replace hD := hD1.weaken (fun _ _ _ h => hFc _ h)
        replace hP := hP1
        replace hS := hS2
        clear hP1 hD1 hS2 hFc hfc hz1 hk1 hvm ht
        obtain ⟨h8, h9⟩ := ret_some hf
        rw [h8, h9]
        exact W.iret (v := r_16) hx hb hr (fun t ht hW => ⟨⟨r_16, (), rfl, rfl, by rw [ht]; exact hP, va_K.moved hW.alike hK, hD⟩, hS.F ht⟩) hS.2.2 dX11_argument_61
      · skip
        rw [if_pos c_11] at hf
        refine lv_bipush (v := (-2)) hx hb dX11_argument_40 (by decide) ?_
        obtain ⟨h8, h9⟩ := ret_some hf
        rw [h8, h9]
        exact W.iret (v := (-2)) hx hb hr (fun t ht hW => ⟨⟨(-2), (), rfl, rfl, by rw [ht]; exact hP, va_K.moved hW.alike hK, hD⟩, hS.F ht⟩) hS.2.2 dX11_argument_42
  · skip
    rw [if_pos c_4] at hf
    refine lv_iconst (v := (-1)) hx hb dX11_argument_10 (by decide) ?_
    obtain ⟨h8, h9⟩ := ret_some hf
    rw [h8, h9]
    exact W.iret (v := (-1)) hx hb hr (fun t ht hW => ⟨⟨(-1), (), rfl, rfl, by rw [ht]; exact hP, va_K.moved hW.alike hK, hD⟩, hS.F ht⟩) hS.2.2 dX11_argument_11

theorem md_X9_isBelow_1 : (.fieldLink RX9 22 "ResourceLedger$Tree" "rows" "[J" : Cond) ∈ wsX9_isBelow := List.mem_of_getElem? (i := 1) rfl
theorem iwd_X9_isBelow_X9 : ∀ w ∈ wsX90, w ∈ wsX9_isBelow := fun _ h => List.mem_cons_of_mem _ (List.mem_append_right _ h)
set_option maxHeartbeats 4000000 in
set_option maxRecDepth 100000 in
theorem de_X9_isBelow (l : Launch) (dC : Nat → ClassId) (dI : Nat → Nat → Nat) (cy : Nat → ClassId) (a : Nat → Nat) (sh : Nat → Nat × Nat) (n sz : Nat) (F : Nat) (z : St) (h0 : Nat) (x0 : Int32) (x1 : Int32) {z8 : St} {r8 : Int32} (hf : fn_X9_isBelow F sh n z h0 x0 x1 = some (z8, r8)) : Met l yX9_isBelow wsX9_isBelow ({ frames := 1, cells := 0, slots := 0, locals := 23 }) (va_Pc [.ref (a h0), .int x0, .int x1] (fun U => U.heap.size = sz ∧ va_P (dC, dI) vwCl (Wd cy a sh n z) U.heap ∧ va_K (dC, dI) vwCl (TYS cy) U ∧ va_D (fun _ => True) (Wd cy a sh n z) ∧ NK U)) (va_Qi (fun (r9 : Int32) (u : Unit) => r9 = r8) (fun u t => va_P (dC, dI) vwCl (Wd cy a sh n z8) t.heap ∧ va_K (dC, dI) vwCl (TYS cy) t ∧ va_D (va_A (Wd cy a sh n z) sz) (Wd cy a sh n z8)) (va_A (Wd cy a sh n z) sz)) 0 0 (va_A (Wd cy a sh n z) sz) := by
  refine Met.ofW (cc := cX9_isBelow) (maxL := 8) (ret := (some .boolean)) (by decide) rfl ?_
  intro p e s m args below meth c s₁ B hml hv
  obtain ⟨rfl, hsz, hP, hK, hD0, hN⟩ := hv
  have hx := B.exec
  have hb := B.bytes
  have hr := B.returns
  have hts := atoms_spec (ws := wsX9_isBelow) B.pre
  have hown : s.vm.findClass RX9 = some m.cls := findClass_of_methodNamed B.named
  have hlocks := B.notSynchronized
  subst hsz
  have hD := hD0.self (sz := s.heap.size)
  clear hD0
  generalize hAe : va_A (Wd cy a sh n z) s.heap.size = A at hD ⊢
  have hA : ∀ q : Nat, s.heap.size ≤ q → A q := fun q h => by rw [← hAe]; exact Or.inr h
  clear hAe
  have hS : va_S A s.heap s.heap [] := va_S.rf
  have hl := lv_entry ([.ref (a h0), .int x0, .int x1]) (n := 8) (Nat.le_of_ble_eq_true rfl)
  rw [lg_entry_eq]
  generalize (lg_sl ([.ref (a h0), .int x0, .int x1]) ++ List.replicate (8 - (lg_sl ([.ref (a h0), .int x0, .int x1])).length) Slot.unset).toArray = ls at hl ⊢
  replace hl : lv_has ls 8 [(0, .ref (a h0)), (1, .int x0), (2, .int x1)] := hl
  unfold fn_X9_isBelow at hf
  refine de_start hS hP (fun H locs hS hP => ?_)
  refine lv_iconst (v := 0) hx hb dX9_isBelow_0 (by decide) ?_
  refine lv_istore_n (lv' := [(3, .int 0), (0, .ref (a h0)), (1, .int x0), (2, .int x1)]) hx hb dX9_isBelow_1 rfl hl (by decide) rfl (fun ls hl2 => ?_)
  replace hl := hl2
  clear hl2
  have hl0 : lv_has ls 8 [(3, .int 0), (0, .ref (a h0)), (1, .int x0), (2, .int x1)] := lv_sub hl [0, 1, 2, 3] rfl
  refine de_loop (h := 2) (fun (x : St × Int32) ls H locs => lv_has ls 8 [(3, .int x.2), (0, .ref (a h0)), (1, .int x0), (2, .int x1)] ∧ va_P (dC, dI) vwCl (Wd cy a sh n x.1) H ∧ va_D A (Wd cy a sh n x.1) ∧ va_S A s.heap H locs) (fun f x => fn_X9_isBelow_L2 F sh n h0 x0 x1 f x.1 x.2) (z8, r8) ?_ (fun _ => rfl) F (z, 0) ls H locs ⟨hl0, hP, hD, hS⟩ hf
  intro f_3 x ls H locs ih2 hI hf
  obtain ⟨z_2, p_1⟩ := x
  obtain ⟨hl2, hP2, hD2, hS2⟩ := hI
  replace hl : lv_has ls 8 [(3, .int p_1), (0, .ref (a h0)), (1, .int x0), (2, .int x1)] := hl2
  replace hP := hP2
  replace hD := hD2
  replace hS := hS2
  clear hl2 hP2 hD2 hS2 hl0
  replace hf := fn_X9_isBelow_L2_s hf
  refine lv_iload_n hx hb dX9_isBelow_2 rfl (lv_at hl 0 rfl) ?_
  refine lv_bipush (v := 7) hx hb dX9_isBelow_3 (by decide) ?_
  refine lv_icmp_ge (tgt := 56) hx hb dX9_isBelow_5 (by decide) (fun c_4 => ?_) (fun c_4 => ?_)
  · skip
    rw [if_pos c_4] at hf
    refine lv_iconst (v := 0) hx hb dX9_isBelow_56 (by decide) ?_
    obtain ⟨h8, h9⟩ := ret_some hf
    rw [h8, h9]
    exact W.zret (v := 0) hx hb hr rfl (fun t ht hW => ⟨⟨0, (), rfl, rfl, by rw [ht]; exact hP, va_K.moved hW.alike hK, hD⟩, hS.F ht⟩) hS.2.2 dX9_isBelow_57
  · skip
    rw [if_neg c_4] at hf
    refine lv_aload_n hx hb dX9_isBelow_8 rfl (lv_at hl 1 rfl) ?_
    obtain ⟨g_5, hf⟩ := grd_some hf
    obtain ⟨kg_5, sg_5⟩ := okO_at g_5
    obtain ⟨k_6, ek_6, hf⟩ := lnk_some hf
    refine va_get (D := (dC, dI)) (ci := 9) (v := .ref (a k_6)) (C := RX9) (T := TX9) (N := 13) hx hb hts iwd_X9_isBelow_X9 hown hK hP h0 (Wd_ob kg_5 sg_5 (by decide)) rfl 3 (by decide) (hts _ md_X9_isBelow_1) (fun _ h9 => h9) (fl_q rfl ek_6) dX9_isBelow_9 ?_
    refine lv_iload_n hx hb dX9_isBelow_12 rfl (lv_at hl 2 rfl) ?_
    refine lv_bipush (v := 7) hx hb dX9_isBelow_13 (by decide) ?_
    refine lv_imul hx hb dX9_isBelow_15 ?_
    refine lv_iload_n hx hb dX9_isBelow_16 rfl (lv_at hl 0 rfl) ?_
    refine lv_iadd hx hb dX9_isBelow_17 ?_
    obtain ⟨g_7, hf⟩ := grd_some hf
    obtain ⟨kg_7, sg_7, ig_7⟩ := okA_at g_7
    refine va_lald hx hb hK hP k_6 2 (Wd_al kg_7 sg_7) rfl ig_7 dX9_isBelow_18 ?_
    refine lv_topl (fun v_8 ev_8 => ?_)
    replace hf := lt_at ev_8 hf
    clear ev_8
    refine lv_lstore (lv' := [(4, .long v_8), (3, .int p_1), (0, .ref (a h0)), (1, .int x0), (2, .int x1)]) hx hb dX9_isBelow_19 hl (by decide) rfl (fun ls hl2 => ?_)
    replace hl := hl2
    clear hl2
    refine lv_aload_n hx hb dX9_isBelow_21 rfl (lv_at hl 2 rfl) ?_
    obtain ⟨k_9, ek_9, hf⟩ := lnk_some hf
    refine va_get (D := (dC, dI)) (ci := 9) (v := .ref (a k_9)) (C := RX9) (T := TX9) (N := 13) hx hb hts iwd_X9_isBelow_X9 hown hK hP h0 (Wd_ob kg_5 sg_5 (by decide)) rfl 3 (by decide) (hts _ md_X9_isBelow_1) (fun _ h9 => h9) (fl_q rfl ek_9) dX9_isBelow_22 ?_
    refine lv_iload_n hx hb dX9_isBelow_25 rfl (lv_at hl 4 rfl) ?_
    refine lv_bipush (v := 7) hx hb dX9_isBelow_26 (by decide) ?_
    refine lv_imul hx hb dX9_isBelow_28 ?_
    refine lv_iload_n hx hb dX9_isBelow_29 rfl (lv_at hl 1 rfl) ?_
    refine lv_iadd hx hb dX9_isBelow_30 ?_
    obtain ⟨g_10, hf⟩ := grd_some hf
    obtain ⟨kg_10, sg_10, ig_10⟩ := okA_at g_10
    refine va_lald hx hb hK hP k_9 2 (Wd_al kg_10 sg_10) rfl ig_10 dX9_isBelow_31 ?_
    refine lv_topl (fun v_11 ev_11 => ?_)
    replace hf := lt_at ev_11 hf
    clear ev_11
    refine lv_lstore (lv' := [(6, .long v_11), (4, .long v_8), (3, .int p_1), (0, .ref (a h0)), (1, .int x0), (2, .int x1)]) hx hb dX9_isBelow_32 hl (by decide) rfl (fun ls hl2 => ?_)
    replace hl := hl2
    clear hl2
    refine lv_lload hx hb dX9_isBelow_34 (lv_at hl 1 rfl) ?_
    refine lv_lload hx hb dX9_isBelow_36 (lv_at hl 0 rfl) ?_
    refine W.lcmp hx hb dX9_isBelow_38 ?_
    refine lv_if_eq (tgt := 50) hx hb dX9_isBelow_39 (by decide) (fun c_12 => ?_) (fun c_12 => ?_)
    · skip
      rw [lg_cmp_eq] at c_12
      rw [if_pos c_12] at hf
      refine lv_iinc (v := (p_1 + 1)) (lv' := [(3, .int (p_1 + 1)), (6, .long v_11), (4, .long v_8), (0, .ref (a h0)), (1, .int x0), (2, .int x1)]) hx hb dX9_isBelow_50 hl (k := 2) rfl rfl (by decide) rfl (fun ls hl2 => ?_)
      replace hl := hl2
      clear hl2
      refine lv_goto (tgt := 2) hx hb dX9_isBelow_53 (by decide) ?_
      exact ih2 (z_2, (p_1 + 1)) ls H locs ⟨lv_sub hl [0, 3, 4, 5] rfl, hP, hD, hS⟩ hf
    · skip
      rw [lg_cmp_eq] at c_12
      rw [if_neg c_12] at hf
      refine lv_lload hx hb dX9_isBelow_42 (lv_at hl 1 rfl) ?_
      refine lv_lload hx hb dX9_isBelow_44 (lv_at hl 0 rfl) ?_
      obtain ⟨z_13, r_14, hfc, hf⟩ := cal_some hf
      have hFc := de_free hD hS hA
      refine va_calli (va_runS (As := [.long v_8, .long v_11]) (rest := []) ⟨hx, hb, hml, hown, hts⟩ (de_X10_below l dC dI cy a sh n H.size F z_2 v_8 v_11 hfc) (va_cwS 2 hts gX9_isBelow_X10_below rfl rfl rfl (by decide +kernel) ⟨Nat.le_of_ble_eq_true rfl, Nat.le_of_ble_eq_true rfl⟩) ⟨fun a U g mk q => by obtain ⟨q0, q1, qP, qK, qD, qN⟩ := q; exact ⟨q0, q1, qP, va_K.moved (u := U) (U := U.calling g mk a) (Vm.Alike.refl U.vm) qK, qD, qN.same rfl⟩, fun U hU hW => ⟨rfl, by rw [hU], by rw [hU]; exact hP, va_K.moved hW.alike hK, hD.weaken (fun _ _ _ _ => trivial), hN.warm hW⟩⟩ rfl rfl hl.1 rfl (lv_room (Nat.le_of_ble_eq_true rfl)) dX9_isBelow_46 ⟨Nat.le_of_ble_eq_true rfl, Nat.le_of_ble_eq_true rfl⟩) hS (fun q _ h => hFc q h) hFc (fun rr u t H_15 locs ht hvm hw hB hz1 hk1 hS2 => ?_)
      rw [hw]
      clear hw
      obtain ⟨hP1, -, hD1⟩ := hB
      rw [ht] at hP1
      replace hD := hD1.weaken (fun _ _ _ h => hFc _ h)
      replace hP := hP1
      replace hS := hS2
      clear hP1 hD1 hS2 hFc hfc hz1 hk1 hvm ht
      obtain ⟨g_16, hf⟩ := grd_some hf
      obtain ⟨h8, h9⟩ := ret_some hf
      rw [h8, h9]
      exact W.zret (v := r_14) hx hb hr (nar_z g_16) (fun t ht hW => ⟨⟨r_14, (), rfl, rfl, by rw [ht]; exact hP, va_K.moved hW.alike hK, hD⟩, hS.F ht⟩) hS.2.2 dX9_isBelow_49

theorem md_X15_copy_1 : (.fieldLink RX15 7 "ResourceLedgerModel$Trees" "kinds" "[B" : Cond) ∈ wsX15_copy := List.mem_of_getElem? (i := 1) rfl
theorem iwd_X15_copy_X15 : ∀ w ∈ wsX150, w ∈ wsX15_copy := fun _ h => List.mem_cons_of_mem _ (List.mem_append_right _ h)
theorem md_X15_copy_2 : (.fieldLink RX15 13 "ResourceLedgerModel$Trees" "highs" "[J" : Cond) ∈ wsX15_copy := List.mem_of_getElem? (i := 2) rfl
theorem md_X15_copy_3 : (.fieldLink RX15 17 "ResourceLedgerModel$Trees" "lows" "[J" : Cond) ∈ wsX15_copy := List.mem_of_getElem? (i := 3) rfl
theorem md_X15_copy_4 : (.fieldLink RX15 20 "ResourceLedgerModel$Trees" "firsts" "[I" : Cond) ∈ wsX15_copy := List.mem_of_getElem? (i := 4) rfl
theorem md_X15_copy_5 : (.fieldLink RX15 24 "ResourceLedgerModel$Trees" "nexts" "[I" : Cond) ∈ wsX15_copy := List.mem_of_getElem? (i := 5) rfl
set_option maxHeartbeats 4000000 in
set_option maxRecDepth 100000 in
theorem de_X15_copy (l : Launch) (dC : Nat → ClassId) (dI : Nat → Nat → Nat) (cy : Nat → ClassId) (a : Nat → Nat) (sh : Nat → Nat × Nat) (n F : Nat) : ∀ (d sz : Nat) (z : St) (h0 : Nat) (x0 : Int32) {z8 : St} {r8 : Int32} (_ : fn_X15_copy F sh n d z h0 x0 = some (z8, r8)), Met l yX15_copy wsX15_copy ({ frames := d + 1, cells := 0, slots := 0, locals := d * 23 + 26 }) (va_Pc [.ref (a h0), .int x0] (fun U => U.heap.size = sz ∧ va_P (dC, dI) vwCl (Wd cy a sh n z) U.heap ∧ va_K (dC, dI) vwCl (TYS cy) U ∧ va_D (fun _ => True) (Wd cy a sh n z) ∧ NK U)) (va_Qi (fun (r9 : Int32) (u : Unit) => r9 = r8) (fun u t => va_P (dC, dI) vwCl (Wd cy a sh n z8) t.heap ∧ va_K (dC, dI) vwCl (TYS cy) t ∧ va_D (va_A (Wd cy a sh n z) sz) (Wd cy a sh n z8)) (va_A (Wd cy a sh n z) sz)) 0 0 (va_A (Wd cy a sh n z) sz) := by
  intro d
  induction d with
  | zero => intro sz z h0 x0 z8 r8 hf; exact absurd hf (by simp [fn_X15_copy])
  | succ d ihd =>
  intro sz z h0 x0 z8 r8 hf
  refine Met.ofW (cc := cX15_copy) (maxL := 4) (ret := (some .int)) (by decide) rfl ?_
  intro p e s m args below meth c s₁ B hml hv
  obtain ⟨rfl, hsz, hP, hK, hD0, hN⟩ := hv
  have hx := B.exec
  have hb := B.bytes
  have hr := B.returns
  have hts := atoms_spec (ws := wsX15_copy) B.pre
  have hown : s.vm.findClass RX15 = some m.cls := findClass_of_methodNamed B.named
  have hlocks := B.notSynchronized
  subst hsz
  have hD := hD0.self (sz := s.heap.size)
  clear hD0
  generalize hAe : va_A (Wd cy a sh n z) s.heap.size = A at hD ⊢
  have hA : ∀ q : Nat, s.heap.size ≤ q → A q := fun q h => by rw [← hAe]; exact Or.inr h
  clear hAe
  have hS : va_S A s.heap s.heap [] := va_S.rf
  have hl := lv_entry ([.ref (a h0), .int x0]) (n := 4) (Nat.le_of_ble_eq_true rfl)
  rw [lg_entry_eq]
  generalize (lg_sl ([.ref (a h0), .int x0]) ++ List.replicate (4 - (lg_sl ([.ref (a h0), .int x0])).length) Slot.unset).toArray = ls at hl ⊢
  replace hl : lv_has ls 4 [(0, .ref (a h0)), (1, .int x0)] := hl
  replace hf := fn_X15_copy_s hf
  refine de_start hS hP (fun H locs hS hP => ?_)
  refine lv_aload_n hx hb dX15_copy_0 rfl (lv_at hl 0 rfl) ?_
  refine lv_aload_n hx hb dX15_copy_1 rfl (lv_at hl 0 rfl) ?_
  obtain ⟨g_1, hf⟩ := grd_some hf
  obtain ⟨kg_1, sg_1⟩ := okO_at g_1
  obtain ⟨k_2, ek_2, hf⟩ := lnk_some hf
  refine va_get (D := (dC, dI)) (ci := 15) (v := .ref (a k_2)) (C := RX15) (T := TX15) (N := 6) hx hb hts iwd_X15_copy_X15 hown hK hP h0 (Wd_ob kg_1 sg_1 (by decide)) rfl 0 (by decide) (hts _ md_X15_copy_1) (fun _ h9 => h9) (fl_q rfl ek_2) dX15_copy_2 ?_
  refine lv_iload_n hx hb dX15_copy_5 rfl (lv_at hl 1 rfl) ?_
  obtain ⟨g_3, hf⟩ := grd_some hf
  obtain ⟨kg_3, sg_3, ig_3⟩ := okA_at g_3
  refine va_bald hx hb hK hP k_2 0 (Wd_ab kg_3 sg_3) rfl ig_3 dX15_copy_6 ?_
  refine lv_aload_n hx hb dX15_copy_7 rfl (lv_at hl 0 rfl) ?_
  obtain ⟨k_4, ek_4, hf⟩ := lnk_some hf
  refine va_get (D := (dC, dI)) (ci := 15) (v := .ref (a k_4)) (C := RX15) (T := TX15) (N := 6) hx hb hts iwd_X15_copy_X15 hown hK hP h0 (Wd_ob kg_1 sg_1 (by decide)) rfl 1 (by decide) (hts _ md_X15_copy_2) (fun _ h9 => h9) (fl_q rfl ek_4) dX15_copy_8 ?_
  refine lv_iload_n hx hb dX15_copy_11 rfl (lv_at hl 1 rfl) ?_
  obtain ⟨g_5, hf⟩ := grd_some hf
  obtain ⟨kg_5, sg_5, ig_5⟩ := okA_at g_5
  refine va_lald hx hb hK hP k_4 2 (Wd_al kg_5 sg_5) rfl ig_5 dX15_copy_12 ?_
  refine lv_aload_n hx hb dX15_copy_13 rfl (lv_at hl 0 rfl) ?_
  obtain ⟨k_6, ek_6, hf⟩ := lnk_some hf
  refine va_get (D := (dC, dI)) (ci := 15) (v := .ref (a k_6)) (C := RX15) (T := TX15) (N := 6) hx hb hts iwd_X15_copy_X15 hown hK hP h0 (Wd_ob kg_1 sg_1 (by decide)) rfl 2 (by decide) (hts _ md_X15_copy_3) (fun _ h9 => h9) (fl_q rfl ek_6) dX15_copy_14 ?_
  refine lv_iload_n hx hb dX15_copy_17 rfl (lv_at hl 1 rfl) ?_
  obtain ⟨g_7, hf⟩ := grd_some hf
  obtain ⟨kg_7, sg_7, ig_7⟩ := okA_at g_7
  refine va_lald hx hb hK hP k_6 2 (Wd_al kg_7 sg_7) rfl ig_7 dX15_copy_18 ?_
  obtain ⟨z_8, r_9, hfc, hf⟩ := cal_some hf
  have hFc := de_free hD hS hA
  refine va_calli (va_runV (As := [.int (z.1 k_2 x0.toNatClampNeg), .long (z.2.1 k_4 x0.toNatClampNeg), .long (z.2.1 k_6 x0.toNatClampNeg)]) (rest := []) ⟨hx, hb, hml, hown, hts⟩ (de_X15_make l dC dI cy a sh n H.size F z h0 (z.1 k_2 x0.toNatClampNeg) (z.2.1 k_4 x0.toNatClampNeg) (z.2.1 k_6 x0.toNatClampNeg) hfc) (cwV 3 hts gX15_copy_X15_make rfl rfl rfl (by decide +kernel) ⟨by show _ ≤ d + 1 + 1; (try dsimp only); omega, by show _ ≤ (d + 1) * 23 + 26; (try dsimp only); omega⟩) ⟨fun a U g mk q => by obtain ⟨q0, q1, qP, qK, qD, qN⟩ := q; exact ⟨q0, q1, qP, va_K.moved (u := U) (U := U.calling g mk a) (Vm.Alike.refl U.vm) qK, qD, qN.same rfl⟩, va_recv hK hP (ci := 15) (q0 := h0) rfl (Wd_ob kg_1 sg_1 (by decide)), fun U hU hW => ⟨rfl, by rw [hU], by rw [hU]; exact hP, va_K.moved hW.alike hK, hD.weaken (fun _ _ _ _ => trivial), hN.warm hW⟩⟩ rfl rfl hl.1 rfl (lv_room (Nat.le_of_ble_eq_true rfl)) dX15_copy_19 ⟨Nat.le_of_ble_eq_true rfl, Nat.le_of_ble_eq_true rfl⟩) hS (fun q _ h => hFc q h) hFc (fun rr u t H_10 locs ht hvm hw hB hz1 hk1 hS2 => ?_)
  rw [hw]
  clear hw
  obtain ⟨hP1, -, hD1⟩ := hB
  rw [ht] at hP1
  replace hD := hD1.weaken (fun _ _ _ h => hFc _ h)
  replace hP := hP1
  replace hS := hS2
  clear hP1 hD1 hS2 hFc hfc hz1 hk1 hvm ht
  refine lv_istore_n (lv' := [(2, .int r_9), (0, .ref (a h0)), (1, .int x0)]) hx hb dX15_copy_22 rfl hl (by decide) rfl (fun ls hl2 => ?_)
  replace hl := hl2
  clear hl2
  refine lv_aload_n hx hb dX15_copy_23 rfl (lv_at hl 1 rfl) ?_
  obtain ⟨k_11, ek_11, hf⟩ := lnk_some hf
  refine va_get (D := (dC, dI)) (ci := 15) (v := .ref (a k_11)) (C := RX15) (T := TX15) (N := 6) hx hb hts iwd_X15_copy_X15 hown hK hP h0 (Wd_ob kg_1 sg_1 (by decide)) rfl 3 (by decide) (hts _ md_X15_copy_4) (fun _ h9 => h9) (fl_q rfl ek_11) dX15_copy_24 ?_
  refine lv_iload_n hx hb dX15_copy_27 rfl (lv_at hl 2 rfl) ?_
  obtain ⟨g_12, hf⟩ := grd_some hf
  obtain ⟨kg_12, sg_12, ig_12⟩ := okA_at g_12
  refine va_iald hx hb hK hP k_11 1 (Wd_ai kg_12 sg_12) rfl ig_12 dX15_copy_28 ?_
  refine lv_topi (fun v_13 ev_13 => ?_)
  replace hf := lt_at ev_13 hf
  clear ev_13
  refine lv_istore_n (lv' := [(3, .int v_13), (2, .int r_9), (0, .ref (a h0)), (1, .int x0)]) hx hb dX15_copy_29 rfl hl (by decide) rfl (fun ls hl2 => ?_)
  replace hl := hl2
  clear hl2
  have hl0 : lv_has ls 4 [(3, .int v_13), (2, .int r_9), (0, .ref (a h0))] := lv_sub hl [0, 1, 2] rfl
  refine de_loop (h := 30) (fun (x : St × Int32) ls H locs => lv_has ls 4 [(3, .int x.2), (2, .int r_9), (0, .ref (a h0))] ∧ va_P (dC, dI) vwCl (Wd cy a sh n x.1) H ∧ va_D A (Wd cy a sh n x.1) ∧ va_S A s.heap H locs) (fun f x => fn_X15_copy_L30 F sh n r_9 (fn_X15_copy F sh n d) h0 f x.1 x.2) (z8, r8) ?_ (fun _ => rfl) F (z_8, v_13) ls H_10 locs ⟨hl0, hP, hD, hS⟩ hf
  intro f_16 x ls H locs ih30 hI hf
  obtain ⟨z_15, p_14⟩ := x
  obtain ⟨hl2, hP2, hD2, hS2⟩ := hI
  replace hl : lv_has ls 4 [(3, .int p_14), (2, .int r_9), (0, .ref (a h0))] := hl2
  replace hP := hP2
  replace hD := hD2
  replace hS := hS2
  clear hl2 hP2 hD2 hS2 hl0
  replace hf := fn_X15_copy_L30_s hf
  refine lv_iload_n hx hb dX15_copy_30 rfl (lv_at hl 0 rfl) ?_
  refine lv_iconst (v := (-1)) hx hb dX15_copy_31 (by decide) ?_
  refine lv_icmp_eq (tgt := 55) hx hb dX15_copy_32 (by decide) (fun c_17 => ?_) (fun c_17 => ?_)
  · skip
    rw [if_pos c_17] at hf
    refine lv_iload_n hx hb dX15_copy_55 rfl (lv_at hl 1 rfl) ?_
    obtain ⟨h8, h9⟩ := ret_some hf
    rw [h8, h9]
    exact W.iret (v := r_9) hx hb hr (fun t ht hW => ⟨⟨r_9, (), rfl, rfl, by rw [ht]; exact hP, va_K.moved hW.alike hK, hD⟩, hS.F ht⟩) hS.2.2 dX15_copy_56
  · skip
    rw [if_neg c_17] at hf
    refine lv_aload_n hx hb dX15_copy_35 rfl (lv_at hl 2 rfl) ?_
    refine lv_iload_n hx hb dX15_copy_36 rfl (lv_at hl 1 rfl) ?_
    refine lv_aload_n hx hb dX15_copy_37 rfl (lv_at hl 2 rfl) ?_
    refine lv_iload_n hx hb dX15_copy_38 rfl (lv_at hl 0 rfl) ?_
    obtain ⟨z_18, r_19, hfc, hf⟩ := cal_some hf
    have hFc := de_free hD hS hA
    refine va_calli (va_runV (As := [.int p_14]) (rest := [.int r_9, .ref (a h0)]) ⟨hx, hb, hml, hown, hts⟩ (ihd H.size z_15 h0 p_14 hfc) (cwV 1 hts gX15_copy_X15_copy rfl rfl rfl (by decide +kernel) ⟨by show _ ≤ d + 1 + 1; (try dsimp only); omega, by show _ ≤ (d + 1) * 23 + 26; (try dsimp only); omega⟩) ⟨fun a U g mk q => by obtain ⟨q0, q1, qP, qK, qD, qN⟩ := q; exact ⟨q0, q1, qP, va_K.moved (u := U) (U := U.calling g mk a) (Vm.Alike.refl U.vm) qK, qD, qN.same rfl⟩, va_recv hK hP (ci := 15) (q0 := h0) rfl (Wd_ob kg_1 sg_1 (by decide)), fun U hU hW => ⟨rfl, by rw [hU], by rw [hU]; exact hP, va_K.moved hW.alike hK, hD.weaken (fun _ _ _ _ => trivial), hN.warm hW⟩⟩ rfl rfl hl.1 rfl (lv_room (Nat.le_of_ble_eq_true rfl)) dX15_copy_39 ⟨Nat.le_of_ble_eq_true rfl, Nat.le_of_ble_eq_true rfl⟩) hS (fun q _ h => hFc q h) hFc (fun rr u t H_20 locs ht hvm hw hB hz1 hk1 hS2 => ?_)
    rw [hw]
    clear hw
    obtain ⟨hP1, -, hD1⟩ := hB
    rw [ht] at hP1
    replace hD := hD1.weaken (fun _ _ _ h => hFc _ h)
    replace hP := hP1
    replace hS := hS2
    clear hP1 hD1 hS2 hFc hfc hz1 hk1 hvm ht
    obtain ⟨z_21, _u, hfc, hf⟩ := cal_some hf
    have hFc := de_free hD hS hA
    refine va_callv (va_runV (As := [.int r_9, .int r_19]) (rest := []) ⟨hx, hb, hml, hown, hts⟩ (de_X15_add l dC dI cy a sh n H_20.size F z_18 h0 r_9 r_19 hfc) (cwV 2 hts gX15_copy_X15_add rfl rfl rfl (by decide +kernel) ⟨by show _ ≤ d + 1 + 1; (try dsimp only); omega, by show _ ≤ (d + 1) * 23 + 26; (try dsimp only); omega⟩) ⟨fun a U g mk q => by obtain ⟨q0, q1, qP, qK, qD, qN⟩ := q; exact ⟨q0, q1, qP, va_K.moved (u := U) (U := U.calling g mk a) (Vm.Alike.refl U.vm) qK, qD, qN.same rfl⟩, va_recv hK hP (ci := 15) (q0 := h0) rfl (Wd_ob kg_1 sg_1 (by decide)), fun U hU hW => ⟨rfl, by rw [hU], by rw [hU]; exact hP, va_K.moved hW.alike hK, hD.weaken (fun _ _ _ _ => trivial), hN.warm hW⟩⟩ rfl rfl hl.1 rfl (lv_room (Nat.le_of_ble_eq_true rfl)) dX15_copy_42 ⟨Nat.le_of_ble_eq_true rfl, Nat.le_of_ble_eq_true rfl⟩) hS (fun q _ h => hFc q h) hFc (fun u t H_22 locs ht hvm hw hB hz1 hk1 hS2 => ?_)
    obtain ⟨hP1, -, hD1⟩ := hB
    rw [ht] at hP1
    replace hD := hD1.weaken (fun _ _ _ h => hFc _ h)
    replace hP := hP1
    replace hS := hS2
    clear hP1 hD1 hS2 hFc hfc hz1 hk1 hvm ht
    refine lv_aload_n hx hb dX15_copy_45 rfl (lv_at hl 2 rfl) ?_
    obtain ⟨k_23, ek_23, hf⟩ := lnk_some hf
    refine va_get (D := (dC, dI)) (ci := 15) (v := .ref (a k_23)) (C := RX15) (T := TX15) (N := 6) hx hb hts iwd_X15_copy_X15 hown hK hP h0 (Wd_ob kg_1 sg_1 (by decide)) rfl 4 (by decide) (hts _ md_X15_copy_5) (fun _ h9 => h9) (fl_q rfl ek_23) dX15_copy_46 ?_
    refine lv_iload_n hx hb dX15_copy_49 rfl (lv_at hl 0 rfl) ?_
    obtain ⟨g_24, hf⟩ := grd_some hf
    obtain ⟨kg_24, sg_24, ig_24⟩ := okA_at g_24
    refine va_iald hx hb hK hP k_23 1 (Wd_ai kg_24 sg_24) rfl ig_24 dX15_copy_50 ?_
    refine lv_topi (fun v_25 ev_25 => ?_)
    replace hf := lt_at ev_25 hf
    clear ev_25
    refine lv_istore_n (lv' := [(3, .int v_25), (2, .int r_9), (0, .ref (a h0))]) hx hb dX15_copy_51 rfl hl (by decide) rfl (fun ls hl2 => ?_)
    replace hl := hl2
    clear hl2
    refine lv_goto (tgt := 30) hx hb dX15_copy_52 (by decide) ?_
    exact ih30 (z_21, v_25) ls H_22 locs ⟨lv_sub hl [0, 1, 2] rfl, hP, hD, hS⟩ hf

theorem md_X1_swap_1 : (.fieldLink RX1 11 "ResourceLedger$Heap" "kind" "[B" : Cond) ∈ wsX1_swap := List.mem_of_getElem? (i := 1) rfl
theorem iwd_X1_swap_X1 : ∀ w ∈ wsX10, w ∈ wsX1_swap := fun _ h => List.mem_cons_of_mem _ (List.mem_append_right _ h)
theorem md_X1_swap_2 : (.fieldLink RX1 15 "ResourceLedger$Heap" "low" "[J" : Cond) ∈ wsX1_swap := List.mem_of_getElem? (i := 2) rfl
theorem md_X1_swap_3 : (.fieldLink RX1 19 "ResourceLedger$Heap" "high" "[J" : Cond) ∈ wsX1_swap := List.mem_of_getElem? (i := 3) rfl
set_option maxHeartbeats 4000000 in
set_option maxRecDepth 100000 in
theorem de_X1_swap (l : Launch) (dC : Nat → ClassId) (dI : Nat → Nat → Nat) (cy : Nat → ClassId) (a : Nat → Nat) (sh : Nat → Nat × Nat) (n sz : Nat) (F : Nat) (z : St) (h0 : Nat) (x0 : Int32) (x1 : Int32) {z8 : St} {r8 : Unit} (hf : fn_X1_swap F sh n z h0 x0 x1 = some (z8, r8)) : Met l yX1_swap wsX1_swap ({ frames := 1, cells := 0, slots := 0, locals := 22 }) (va_Pc [.ref (a h0), .int x0, .int x1] (fun U => U.heap.size = sz ∧ va_P (dC, dI) vwCl (Wd cy a sh n z) U.heap ∧ va_K (dC, dI) vwCl (TYS cy) U ∧ va_D (fun _ => True) (Wd cy a sh n z) ∧ NK U)) (va_Qv (fun u : Unit => True) (fun u t => va_P (dC, dI) vwCl (Wd cy a sh n z8) t.heap ∧ va_K (dC, dI) vwCl (TYS cy) t ∧ va_D (va_A (Wd cy a sh n z) sz) (Wd cy a sh n z8)) (va_A (Wd cy a sh n z) sz)) 0 0 (va_A (Wd cy a sh n z) sz) := by
  refine Met.ofW (cc := cX1_swap) (maxL := 8) (ret := none) (by decide) rfl ?_
  intro p e s m args below meth c s₁ B hml hv
  obtain ⟨rfl, hsz, hP, hK, hD0, hN⟩ := hv
  have hx := B.exec
  have hb := B.bytes
  have hr := B.returns
  have hts := atoms_spec (ws := wsX1_swap) B.pre
  have hown : s.vm.findClass RX1 = some m.cls := findClass_of_methodNamed B.named
  have hlocks := B.notSynchronized
  subst hsz
  have hD := hD0.self (sz := s.heap.size)
  clear hD0
  generalize hAe : va_A (Wd cy a sh n z) s.heap.size = A at hD ⊢
  have hA : ∀ q : Nat, s.heap.size ≤ q → A q := fun q h => by rw [← hAe]; exact Or.inr h
  clear hAe
  have hS : va_S A s.heap s.heap [] := va_S.rf
  have hl := lv_entry ([.ref (a h0), .int x0, .int x1]) (n := 8) (Nat.le_of_ble_eq_true rfl)
  rw [lg_entry_eq]
  generalize (lg_sl ([.ref (a h0), .int x0, .int x1]) ++ List.replicate (8 - (lg_sl ([.ref (a h0), .int x0, .int x1])).length) Slot.unset).toArray = ls at hl ⊢
  replace hl : lv_has ls 8 [(0, .ref (a h0)), (1, .int x0), (2, .int x1)] := hl
  unfold fn_X1_swap at hf
  refine de_start hS hP (fun H locs hS hP => ?_)
  refine lv_iload_n hx hb dX1_swap_0 rfl (lv_at hl 2 rfl) ?_
  refine lv_if_ne (tgt := 5) hx hb dX1_swap_1 (by decide) (fun c_1 => ?_) (fun c_1 => ?_)
  · skip
    rw [if_neg c_1] at hf
    refine lv_aload_n hx hb dX1_swap_5 rfl (lv_at hl 0 rfl) ?_
    obtain ⟨g_2, hf⟩ := grd_some hf
    obtain ⟨kg_2, sg_2⟩ := okO_at g_2
    obtain ⟨k_3, ek_3, hf⟩ := lnk_some hf
    refine va_get (D := (dC, dI)) (ci := 1) (v := .ref (a k_3)) (C := RX1) (T := TX1) (N := 7) hx hb hts iwd_X1_swap_X1 hown hK hP h0 (Wd_ob kg_2 sg_2 (by decide)) rfl 0 (by decide) (hts _ md_X1_swap_1) (fun _ h9 => h9) (fl_q rfl ek_3) dX1_swap_6 ?_
    refine lv_iload_n hx hb dX1_swap_9 rfl (lv_at hl 1 rfl) ?_
    obtain ⟨g_4, hf⟩ := grd_some hf
    obtain ⟨kg_4, sg_4, ig_4⟩ := okA_at g_4
    refine va_bald hx hb hK hP k_3 0 (Wd_ab kg_4 sg_4) rfl ig_4 dX1_swap_10 ?_
    refine lv_topi (fun v_5 ev_5 => ?_)
    replace hf := lt_at ev_5 hf
    clear ev_5
    refine lv_istore_n (lv' := [(3, .int v_5), (0, .ref (a h0)), (1, .int x0), (2, .int x1)]) hx hb dX1_swap_11 rfl hl (by decide) rfl (fun ls hl2 => ?_)
    replace hl := hl2
    clear hl2
    refine lv_aload_n hx hb dX1_swap_12 rfl (lv_at hl 1 rfl) ?_
    obtain ⟨k_6, ek_6, hf⟩ := lnk_some hf
    refine va_get (D := (dC, dI)) (ci := 1) (v := .ref (a k_6)) (C := RX1) (T := TX1) (N := 7) hx hb hts iwd_X1_swap_X1 hown hK hP h0 (Wd_ob kg_2 sg_2 (by decide)) rfl 1 (by decide) (hts _ md_X1_swap_2) (fun _ h9 => h9) (fl_q rfl ek_6) dX1_swap_13 ?_
    refine lv_iload_n hx hb dX1_swap_16 rfl (lv_at hl 2 rfl) ?_
    obtain ⟨g_7, hf⟩ := grd_some hf
    obtain ⟨kg_7, sg_7, ig_7⟩ := okA_at g_7
    refine va_lald hx hb hK hP k_6 2 (Wd_al kg_7 sg_7) rfl ig_7 dX1_swap_17 ?_
    refine lv_topl (fun v_8 ev_8 => ?_)
    replace hf := lt_at ev_8 hf
    clear ev_8
    refine lv_lstore (lv' := [(4, .long v_8), (3, .int v_5), (0, .ref (a h0)), (1, .int x0), (2, .int x1)]) hx hb dX1_swap_18 hl (by decide) rfl (fun ls hl2 => ?_)
    replace hl := hl2
    clear hl2
    refine lv_aload_n hx hb dX1_swap_20 rfl (lv_at hl 2 rfl) ?_
    obtain ⟨k_9, ek_9, hf⟩ := lnk_some hf
    refine va_get (D := (dC, dI)) (ci := 1) (v := .ref (a k_9)) (C := RX1) (T := TX1) (N := 7) hx hb hts iwd_X1_swap_X1 hown hK hP h0 (Wd_ob kg_2 sg_2 (by decide)) rfl 2 (by decide) (hts _ md_X1_swap_3) (fun _ h9 => h9) (fl_q rfl ek_9) dX1_swap_21 ?_
    refine lv_iload_n hx hb dX1_swap_24 rfl (lv_at hl 3 rfl) ?_
    obtain ⟨g_10, hf⟩ := grd_some hf
    obtain ⟨kg_10, sg_10, ig_10⟩ := okA_at g_10
    refine va_lald hx hb hK hP k_9 2 (Wd_al kg_10 sg_10) rfl ig_10 dX1_swap_25 ?_
    refine lv_topl (fun v_11 ev_11 => ?_)
    replace hf := lt_at ev_11 hf
    clear ev_11
    refine lv_lstore (lv' := [(6, .long v_11), (4, .long v_8), (3, .int v_5), (0, .ref (a h0)), (1, .int x0), (2, .int x1)]) hx hb dX1_swap_26 hl (by decide) rfl (fun ls hl2 => ?_)
    replace hl := hl2
    clear hl2
    refine lv_aload_n hx hb dX1_swap_28 rfl (lv_at hl 3 rfl) ?_
    refine lv_iload_n hx hb dX1_swap_29 rfl (lv_at hl 4 rfl) ?_
    refine lv_iload_n hx hb dX1_swap_30 rfl (lv_at hl 5 rfl) ?_
    obtain ⟨z_12, _u, hfc, hf⟩ := cal_some hf
    have hFc := de_free hD hS hA
    refine va_callv (va_runV (As := [.int x0, .int x1]) (rest := []) ⟨hx, hb, hml, hown, hts⟩ (de_X1_assign l dC dI cy a sh n H.size F z h0 x0 x1 hfc) (cwV 2 hts gX1_swap_X1_assign rfl rfl rfl (by decide +kernel) ⟨Nat.le_of_ble_eq_true rfl, Nat.le_of_ble_eq_true rfl⟩) ⟨fun a U g mk q => by obtain ⟨q0, q1, qP, qK, qD, qN⟩ := q; exact ⟨q0, q1, qP, va_K.moved (u := U) (U := U.calling g mk a) (Vm.Alike.refl U.vm) qK, qD, qN.same rfl⟩, va_recv hK hP (ci := 1) (q0 := h0) rfl (Wd_ob kg_2 sg_2 (by decide)), fun U hU hW => ⟨rfl, by rw [hU], by rw [hU]; exact hP, va_K.moved hW.alike hK, hD.weaken (fun _ _ _ _ => trivial), hN.warm hW⟩⟩ rfl rfl hl.1 rfl (lv_room (Nat.le_of_ble_eq_true rfl)) dX1_swap_31 ⟨Nat.le_of_ble_eq_true rfl, Nat.le_of_ble_eq_true rfl⟩) hS (fun q _ h => hFc q h) hFc (fun u t H_13 locs ht hvm hw hB hz1 hk1 hS2 => ?_)
    obtain ⟨hP1, -, hD1⟩ := hB
    rw [ht] at hP1
    replace hD := hD1.weaken (fun _ _ _ h => hFc _ h)
    replace hP := hP1
    replace hS := hS2
    clear hP1 hD1 hS2 hFc hfc hz1 hk1 hvm ht
    refine lv_aload_n hx hb dX1_swap_34 rfl (lv_at hl 3 rfl) ?_
    obtain ⟨k_14, ek_14, hf⟩ := lnk_some hf
    refine va_get (D := (dC, dI)) (ci := 1) (v := .ref (a k_14)) (C := RX1) (T := TX1) (N := 7) hx hb hts iwd_X1_swap_X1 hown hK hP h0 (Wd_ob kg_2 sg_2 (by decide)) rfl 0 (by decide) (hts _ md_X1_swap_1) (fun _ h9 => h9) (fl_q rfl ek_14) dX1_swap_35 ?_
    refine lv_iload_n hx hb dX1_swap_38 rfl (lv_at hl 5 rfl) ?_
    refine lv_iload_n hx hb dX1_swap_39 rfl (lv_at hl 2 rfl) ?_
    obtain ⟨g_15, hf⟩ := grd_some hf
    obtain ⟨kg_15, sg_15, ig_15⟩ := okA_at g_15
    refine va_bast hx hb hK hP hD hS k_14 0 (Wd_ab kg_15 sg_15) rfl ig_15 dX1_swap_40 (fun H_16 locs hP2 hD2 hS2 => ?_)
    rw [Wd_tb sg_15] at hP2 hD2
    obtain ⟨z_17, ez_17⟩ : ∃ w, w = si z_12 k_14 x1.toNatClampNeg (vp_nar .byte v_5) := ⟨_, rfl⟩
    rw [← ez_17] at hP2 hD2
    replace hf := lt_at ez_17 hf
    clear ez_17
    replace hP := hP2
    replace hD := hD2
    replace hS := hS2
    clear hP2 hD2 hS2
    refine lv_aload_n hx hb dX1_swap_41 rfl (lv_at hl 3 rfl) ?_
    obtain ⟨k_18, ek_18, hf⟩ := lnk_some hf
    refine va_get (D := (dC, dI)) (ci := 1) (v := .ref (a k_18)) (C := RX1) (T := TX1) (N := 7) hx hb hts iwd_X1_swap_X1 hown hK hP h0 (Wd_ob kg_2 sg_2 (by decide)) rfl 1 (by decide) (hts _ md_X1_swap_2) (fun _ h9 => h9) (fl_q rfl ek_18) dX1_swap_42 ?_
    refine lv_iload_n hx hb dX1_swap_45 rfl (lv_at hl 5 rfl) ?_
    refine lv_lload hx hb dX1_swap_46 (lv_at hl 1 rfl) ?_
    obtain ⟨g_19, hf⟩ := grd_some hf
    obtain ⟨kg_19, sg_19, ig_19⟩ := okA_at g_19
    refine va_last hx hb hK hP hD hS k_18 2 (Wd_al kg_19 sg_19) rfl ig_19 dX1_swap_48 (fun H_20 locs hP2 hD2 hS2 => ?_)
    rw [Wd_tl sg_19] at hP2 hD2
    obtain ⟨z_21, ez_21⟩ : ∃ w, w = sl z_17 k_18 x1.toNatClampNeg v_8 := ⟨_, rfl⟩
    rw [← ez_21] at hP2 hD2
    replace hf := lt_at ez_21 hf
    clear ez_21
    replace hP := hP2
    replace hD := hD2
    replace hS := hS2
    clear hP2 hD2 hS2
    refine lv_aload_n hx hb dX1_swap_49 rfl (lv_at hl 3 rfl) ?_
    obtain ⟨k_22, ek_22, hf⟩ := lnk_some hf
    refine va_get (D := (dC, dI)) (ci := 1) (v := .ref (a k_22)) (C := RX1) (T := TX1) (N := 7) hx hb hts iwd_X1_swap_X1 hown hK hP h0 (Wd_ob kg_2 sg_2 (by decide)) rfl 2 (by decide) (hts _ md_X1_swap_3) (fun _ h9 => h9) (fl_q rfl ek_22) dX1_swap_50 ?_
    refine lv_iload_n hx hb dX1_swap_53 rfl (lv_at hl 5 rfl) ?_
    refine lv_lload hx hb dX1_swap_54 (lv_at hl 0 rfl) ?_
    obtain ⟨g_23, hf⟩ := grd_some hf
    obtain ⟨kg_23, sg_23, ig_23⟩ := okA_at g_23
    refine va_last hx hb hK hP hD hS k_22 2 (Wd_al kg_23 sg_23) rfl ig_23 dX1_swap_56 (fun H_24 locs hP2 hD2 hS2 => ?_)
    rw [Wd_tl sg_23] at hP2 hD2
    obtain ⟨z_25, ez_25⟩ : ∃ w, w = sl z_21 k_22 x1.toNatClampNeg v_11 := ⟨_, rfl⟩
    rw [← ez_25] at hP2 hD2
    replace hf := lt_at ez_25 hf
    clear ez_25
    replace hP := hP2
    replace hD := hD2
    replace hS := hS2
    clear hP2 hD2 hS2
    obtain ⟨h8, h9⟩ := ret_some hf
    rw [h8]
    exact W.vret hx hb hr (fun t ht hW => ⟨⟨(), rfl, trivial, by rw [ht]; exact hP, va_K.moved hW.alike hK, hD⟩, hS.F ht⟩) hS.2.2 dX1_swap_57
  · skip
    rw [if_pos c_1] at hf
    obtain ⟨h8, h9⟩ := ret_some hf
    rw [h8]
    exact W.vret hx hb hr (fun t ht hW => ⟨⟨(), rfl, trivial, by rw [ht]; exact hP, va_K.moved hW.alike hK, hD⟩, hS.F ht⟩) hS.2.2 dX1_swap_4

theorem md_X7_slotFor_1 : (.fieldLink RX7 27 "ResourceLedger$State" "resourceAddress" "[J" : Cond) ∈ wsX7_slotFor := List.mem_of_getElem? (i := 1) rfl
theorem iwd_X7_slotFor_X7 : ∀ w ∈ wsX70, w ∈ wsX7_slotFor := fun _ h => List.mem_cons_of_mem _ (List.mem_append_right _ h)
theorem md_X7_slotFor_2 : (.fieldLink RX7 30 "ResourceLedger$State" "resourceModule" "[I" : Cond) ∈ wsX7_slotFor := List.mem_of_getElem? (i := 2) rfl
theorem md_X7_slotFor_3 : (.fieldLink RX7 34 "ResourceLedger$State" "resourceStructure" "[I" : Cond) ∈ wsX7_slotFor := List.mem_of_getElem? (i := 3) rfl
theorem md_X7_slotFor_4 : (.fieldLink RX7 58 "ResourceLedger$State" "resourceCount" "I" : Cond) ∈ wsX7_slotFor := List.mem_of_getElem? (i := 4) rfl
set_option maxHeartbeats 4000000 in
set_option maxRecDepth 100000 in
theorem de_X7_slotFor (l : Launch) (dC : Nat → ClassId) (dI : Nat → Nat → Nat) (cy : Nat → ClassId) (a : Nat → Nat) (sh : Nat → Nat × Nat) (n sz : Nat) (F : Nat) (z : St) (h0 : Nat) (x0 : Int64) (x1 : Int32) (x2 : Int32) {z8 : St} {r8 : Int32} (hf : fn_X7_slotFor F sh n z h0 x0 x1 x2 = some (z8, r8)) : Met l yX7_slotFor wsX7_slotFor ({ frames := 1, cells := 0, slots := 0, locals := 25 }) (va_Pc [.ref (a h0), .long x0, .int x1, .int x2] (fun U => U.heap.size = sz ∧ va_P (dC, dI) vwCl (Wd cy a sh n z) U.heap ∧ va_K (dC, dI) vwCl (TYS cy) U ∧ va_D (fun _ => True) (Wd cy a sh n z) ∧ NK U)) (va_Qi (fun (r9 : Int32) (u : Unit) => r9 = r8) (fun u t => va_P (dC, dI) vwCl (Wd cy a sh n z8) t.heap ∧ va_K (dC, dI) vwCl (TYS cy) t ∧ va_D (va_A (Wd cy a sh n z) sz) (Wd cy a sh n z8)) (va_A (Wd cy a sh n z) sz)) 0 0 (va_A (Wd cy a sh n z) sz) := by
  refine Met.ofW (cc := cX7_slotFor) (maxL := 6) (ret := (some .int)) (by decide) rfl ?_
  intro p e s m args below meth c s₁ B hml hv
  obtain ⟨rfl, hsz, hP, hK, hD0, hN⟩ := hv
  have hx := B.exec
  have hb := B.bytes
  have hr := B.returns
  have hts := atoms_spec (ws := wsX7_slotFor) B.pre
  have hown : s.vm.findClass RX7 = some m.cls := findClass_of_methodNamed B.named
  have hlocks := B.notSynchronized
  subst hsz
  have hD := hD0.self (sz := s.heap.size)
  clear hD0
  generalize hAe : va_A (Wd cy a sh n z) s.heap.size = A at hD ⊢
  have hA : ∀ q : Nat, s.heap.size ≤ q → A q := fun q h => by rw [← hAe]; exact Or.inr h
  clear hAe
  have hS : va_S A s.heap s.heap [] := va_S.rf
  have hl := lv_entry ([.ref (a h0), .long x0, .int x1, .int x2]) (n := 6) (Nat.le_of_ble_eq_true rfl)
  rw [lg_entry_eq]
  generalize (lg_sl ([.ref (a h0), .long x0, .int x1, .int x2]) ++ List.replicate (6 - (lg_sl ([.ref (a h0), .long x0, .int x1, .int x2])).length) Slot.unset).toArray = ls at hl ⊢
  replace hl : lv_has ls 6 [(0, .ref (a h0)), (1, .long x0), (3, .int x1), (4, .int x2)] := hl
  unfold fn_X7_slotFor at hf
  refine de_start hS hP (fun H locs hS hP => ?_)
  refine lv_aload_n hx hb dX7_slotFor_0 rfl (lv_at hl 0 rfl) ?_
  refine lv_lload_n hx hb dX7_slotFor_1 rfl (lv_at hl 1 rfl) ?_
  refine lv_iload_n hx hb dX7_slotFor_2 rfl (lv_at hl 2 rfl) ?_
  refine lv_iload hx hb dX7_slotFor_3 (lv_at hl 3 rfl) ?_
  obtain ⟨g_3, hf⟩ := grd_some hf
  obtain ⟨kg_3, sg_3⟩ := okO_at g_3
  obtain ⟨z_1, r_2, hfc, hf⟩ := cal_some hf
  have hFc := de_free hD hS hA
  refine va_calli (va_runV (As := [.long x0, .int x1, .int x2]) (rest := []) ⟨hx, hb, hml, hown, hts⟩ (de_X7_findResource l dC dI cy a sh n H.size F z h0 x0 x1 x2 hfc) (cwV 3 hts gX7_slotFor_X7_findResource rfl rfl rfl (by decide +kernel) ⟨Nat.le_of_ble_eq_true rfl, Nat.le_of_ble_eq_true rfl⟩) ⟨fun a U g mk q => by obtain ⟨q0, q1, qP, qK, qD, qN⟩ := q; exact ⟨q0, q1, qP, va_K.moved (u := U) (U := U.calling g mk a) (Vm.Alike.refl U.vm) qK, qD, qN.same rfl⟩, va_recv hK hP (ci := 7) (q0 := h0) rfl (Wd_ob kg_3 sg_3 (by decide)), fun U hU hW => ⟨rfl, by rw [hU], by rw [hU]; exact hP, va_K.moved hW.alike hK, hD.weaken (fun _ _ _ _ => trivial), hN.warm hW⟩⟩ rfl rfl hl.1 rfl (lv_room (Nat.le_of_ble_eq_true rfl)) dX7_slotFor_5 ⟨Nat.le_of_ble_eq_true rfl, Nat.le_of_ble_eq_true rfl⟩) hS (fun q _ h => hFc q h) hFc (fun rr u t H_4 locs ht hvm hw hB hz1 hk1 hS2 => ?_)
  rw [hw]
  clear hw
  obtain ⟨hP1, -, hD1⟩ := hB
  rw [ht] at hP1
  replace hD := hD1.weaken (fun _ _ _ h => hFc _ h)
  replace hP := hP1
  replace hS := hS2
  clear hP1 hD1 hS2 hFc hfc hz1 hk1 hvm ht
  refine lv_istore (lv' := [(5, .int r_2), (0, .ref (a h0)), (1, .long x0), (3, .int x1), (4, .int x2)]) hx hb dX7_slotFor_8 hl (by decide) rfl (fun ls hl2 => ?_)
  replace hl := hl2
  clear hl2
  refine lv_iload hx hb dX7_slotFor_10 (lv_at hl 0 rfl) ?_
  refine lv_if_lt (tgt := 18) hx hb dX7_slotFor_12 (by decide) (fun c_5 => ?_) (fun c_5 => ?_)
  · skip
    rw [if_pos c_5] at hf
    refine lv_aload_n hx hb dX7_slotFor_18 rfl (lv_at hl 1 rfl) ?_
    obtain ⟨z_6, r_7, hfc, hf⟩ := cal_some hf
    have hFc := de_free hD hS hA
    refine va_calli (va_runV (As := []) (rest := []) ⟨hx, hb, hml, hown, hts⟩ (de_X7_freeSlot l dC dI cy a sh n H_4.size F z_1 h0 hfc) (cwV 0 hts gX7_slotFor_X7_freeSlot rfl rfl rfl (by decide +kernel) ⟨Nat.le_of_ble_eq_true rfl, Nat.le_of_ble_eq_true rfl⟩) ⟨fun a U g mk q => by obtain ⟨q0, q1, qP, qK, qD, qN⟩ := q; exact ⟨q0, q1, qP, va_K.moved (u := U) (U := U.calling g mk a) (Vm.Alike.refl U.vm) qK, qD, qN.same rfl⟩, va_recv hK hP (ci := 7) (q0 := h0) rfl (Wd_ob kg_3 sg_3 (by decide)), fun U hU hW => ⟨rfl, by rw [hU], by rw [hU]; exact hP, va_K.moved hW.alike hK, hD.weaken (fun _ _ _ _ => trivial), hN.warm hW⟩⟩ rfl rfl hl.1 rfl (lv_room (Nat.le_of_ble_eq_true rfl)) dX7_slotFor_19 ⟨Nat.le_of_ble_eq_true rfl, Nat.le_of_ble_eq_true rfl⟩) hS (fun q _ h => hFc q h) hFc (fun rr u t H_8 locs ht hvm hw hB hz1 hk1 hS2 => ?_)
    rw [hw]
    clear hw
    obtain ⟨hP1, -, hD1⟩ := hB
    rw [ht] at hP1
    replace hD := hD1.weaken (fun _ _ _ h => hFc _ h)
    replace hP := hP1
    replace hS := hS2
    clear hP1 hD1 hS2 hFc hfc hz1 hk1 hvm ht
    refine lv_istore (lv' := [(5, .int r_7), (0, .ref (a h0)), (1, .long x0), (3, .int x1), (4, .int x2)]) hx hb dX7_slotFor_22 hl (by decide) rfl (fun ls hl2 => ?_)
    replace hl := hl2
    clear hl2
    refine lv_iload hx hb dX7_slotFor_24 (lv_at hl 0 rfl) ?_
    refine lv_if_lt (tgt := 64) hx hb dX7_slotFor_26 (by decide) (fun c_9 => ?_) (fun c_9 => ?_)
    · skip
      rw [if_pos c_9] at hf
      refine lv_iload hx hb dX7_slotFor_64 (lv_at hl 0 rfl) ?_
      obtain ⟨h8, h9⟩ := ret_some hf
      rw [h8, h9]
      exact W.iret (v := r_7) hx hb hr (fun t ht hW => ⟨⟨r_7, (), rfl, rfl, by rw [ht]; exact hP, va_K.moved hW.alike hK, hD⟩, hS.F ht⟩) hS.2.2 dX7_slotFor_66
    · skip
      rw [if_neg c_9] at hf
      refine lv_aload_n hx hb dX7_slotFor_29 rfl (lv_at hl 1 rfl) ?_
      obtain ⟨k_10, ek_10, hf⟩ := lnk_some hf
      refine va_get (D := (dC, dI)) (ci := 7) (v := .ref (a k_10)) (C := RX7) (T := TX7) (N := 16) hx hb hts iwd_X7_slotFor_X7 hown hK hP h0 (Wd_ob kg_3 sg_3 (by decide)) rfl 6 (by decide) (hts _ md_X7_slotFor_1) (fun _ h9 => h9) (fl_q rfl ek_10) dX7_slotFor_30 ?_
      refine lv_iload hx hb dX7_slotFor_33 (lv_at hl 0 rfl) ?_
      refine lv_lload_n hx hb dX7_slotFor_35 rfl (lv_at hl 2 rfl) ?_
      obtain ⟨g_11, hf⟩ := grd_some hf
      obtain ⟨kg_11, sg_11, ig_11⟩ := okA_at g_11
      refine va_last hx hb hK hP hD hS k_10 2 (Wd_al kg_11 sg_11) rfl ig_11 dX7_slotFor_36 (fun H_12 locs hP2 hD2 hS2 => ?_)
      rw [Wd_tl sg_11] at hP2 hD2
      obtain ⟨z_13, ez_13⟩ : ∃ w, w = sl z_6 k_10 r_7.toNatClampNeg x0 := ⟨_, rfl⟩
      rw [← ez_13] at hP2 hD2
      replace hf := lt_at ez_13 hf
      clear ez_13
      replace hP := hP2
      replace hD := hD2
      replace hS := hS2
      clear hP2 hD2 hS2
      refine lv_aload_n hx hb dX7_slotFor_37 rfl (lv_at hl 1 rfl) ?_
      obtain ⟨k_14, ek_14, hf⟩ := lnk_some hf
      refine va_get (D := (dC, dI)) (ci := 7) (v := .ref (a k_14)) (C := RX7) (T := TX7) (N := 16) hx hb hts iwd_X7_slotFor_X7 hown hK hP h0 (Wd_ob kg_3 sg_3 (by decide)) rfl 7 (by decide) (hts _ md_X7_slotFor_2) (fun _ h9 => h9) (fl_q rfl ek_14) dX7_slotFor_38 ?_
      refine lv_iload hx hb dX7_slotFor_41 (lv_at hl 0 rfl) ?_
      refine lv_iload_n hx hb dX7_slotFor_43 rfl (lv_at hl 3 rfl) ?_
      obtain ⟨g_15, hf⟩ := grd_some hf
      obtain ⟨kg_15, sg_15, ig_15⟩ := okA_at g_15
      refine va_iast hx hb hK hP hD hS k_14 1 (Wd_ai kg_15 sg_15) rfl ig_15 dX7_slotFor_44 (fun H_16 locs hP2 hD2 hS2 => ?_)
      rw [Wd_ti sg_15] at hP2 hD2
      obtain ⟨z_17, ez_17⟩ : ∃ w, w = si z_13 k_14 r_7.toNatClampNeg x1 := ⟨_, rfl⟩
      rw [← ez_17] at hP2 hD2
      replace hf := lt_at ez_17 hf
      clear ez_17
      replace hP := hP2
      replace hD := hD2
      replace hS := hS2
      clear hP2 hD2 hS2
      refine lv_aload_n hx hb dX7_slotFor_45 rfl (lv_at hl 1 rfl) ?_
      obtain ⟨k_18, ek_18, hf⟩ := lnk_some hf
      refine va_get (D := (dC, dI)) (ci := 7) (v := .ref (a k_18)) (C := RX7) (T := TX7) (N := 16) hx hb hts iwd_X7_slotFor_X7 hown hK hP h0 (Wd_ob kg_3 sg_3 (by decide)) rfl 8 (by decide) (hts _ md_X7_slotFor_3) (fun _ h9 => h9) (fl_q rfl ek_18) dX7_slotFor_46 ?_
      refine lv_iload hx hb dX7_slotFor_49 (lv_at hl 0 rfl) ?_
      refine lv_iload hx hb dX7_slotFor_51 (lv_at hl 4 rfl) ?_
      obtain ⟨g_19, hf⟩ := grd_some hf
      obtain ⟨kg_19, sg_19, ig_19⟩ := okA_at g_19
      refine va_iast hx hb hK hP hD hS k_18 1 (Wd_ai kg_19 sg_19) rfl ig_19 dX7_slotFor_53 (fun H_20 locs hP2 hD2 hS2 => ?_)
      rw [Wd_ti sg_19] at hP2 hD2
      obtain ⟨z_21, ez_21⟩ : ∃ w, w = si z_17 k_18 r_7.toNatClampNeg x2 := ⟨_, rfl⟩
      rw [← ez_21] at hP2 hD2
      replace hf := lt_at ez_21 hf
      clear ez_21
      replace hP := hP2
      replace hD := hD2
      replace hS := hS2
      clear hP2 hD2 hS2
      refine lv_aload_n hx hb dX7_slotFor_54 rfl (lv_at hl 1 rfl) ?_
      refine lv_dup hx hb dX7_slotFor_55 rfl ?_
      refine va_get (D := (dC, dI)) (ci := 7) (v := .int (z_21.1 h0 10)) (C := RX7) (T := TX7) (N := 16) hx hb hts iwd_X7_slotFor_X7 hown hK hP h0 (Wd_ob kg_3 sg_3 (by decide)) rfl 10 (by decide) (hts _ md_X7_slotFor_4) (fun _ h9 => h9) (fl_at (t := 0) rfl) dX7_slotFor_56 ?_
      refine lv_iconst (v := 1) hx hb dX7_slotFor_59 (by decide) ?_
      refine lv_iadd hx hb dX7_slotFor_60 ?_
      refine va_put (D := (dC, dI)) (ci := 7) (v := .int ((z_21.1 h0 10) + 1)) (ty := .int) (C := RX7) (T := TX7) (N := 16) hx hb hts iwd_X7_slotFor_X7 tyX7 tyX7_ok nmX7 hown hK hP hD hS h0 (Wd_ob kg_3 sg_3 (by decide)) rfl 10 (by decide) (hts _ md_X7_slotFor_4) (fun _ h9 => h9) rfl (by decide +kernel) rfl rfl (by rw [fl_len]; decide) dX7_slotFor_61 (fun H_22 locs hP2 hD2 hS2 => ?_)
      rw [Wd_si sg_3 (by decide) rfl] at hP2 hD2
      obtain ⟨z_23, ez_23⟩ : ∃ w, w = si z_21 h0 10 ((z_21.1 h0 10) + 1) := ⟨_, rfl⟩
      rw [← ez_23] at hP2 hD2
      replace hf := lt_at ez_23 hf
      clear ez_23
      replace hP := hP2
      replace hD := hD2
      replace hS := hS2
      clear hP2 hD2 hS2
      refine lv_iload hx hb dX7_slotFor_64 (lv_at hl 0 rfl) ?_
      obtain ⟨h8, h9⟩ := ret_some hf
      rw [h8, h9]
      exact W.iret (v := r_7) hx hb hr (fun t ht hW => ⟨⟨r_7, (), rfl, rfl, by rw [ht]; exact hP, va_K.moved hW.alike hK, hD⟩, hS.F ht⟩) hS.2.2 dX7_slotFor_66
  · skip
    rw [if_neg c_5] at hf
    refine lv_iload hx hb dX7_slotFor_15 (lv_at hl 0 rfl) ?_
    obtain ⟨h8, h9⟩ := ret_some hf
    rw [h8, h9]
    exact W.iret (v := r_2) hx hb hr (fun t ht hW => ⟨⟨r_2, (), rfl, rfl, by rw [ht]; exact hP, va_K.moved hW.alike hK, hD⟩, hS.F ht⟩) hS.2.2 dX7_slotFor_17

theorem md_X13_take_1 : (.fieldLink RX13 48 "ResourceLedgerModel$Looker" "fault" "I" : Cond) ∈ wsX13_take := List.mem_of_getElem? (i := 1) rfl
theorem iwd_X13_take_X13 : ∀ w ∈ wsX130, w ∈ wsX13_take := fun _ h => List.mem_cons_of_mem _ (List.mem_append_right _ h)
theorem md_X13_take_2 : (.fieldLink RX13 92 "ResourceLedgerModel$Looker" "height" "I" : Cond) ∈ wsX13_take := List.mem_of_getElem? (i := 2) rfl
theorem md_X13_take_3 : (.fieldLink RX13 30 "ResourceLedgerModel$Looker" "types" "[J" : Cond) ∈ wsX13_take := List.mem_of_getElem? (i := 3) rfl
theorem md_X13_take_4 : (.fieldLink RX13 99 "ResourceLedgerModel$Looker" "taken" "J" : Cond) ∈ wsX13_take := List.mem_of_getElem? (i := 4) rfl
theorem md_X13_take_5 : (.fieldLink RX13 33 "ResourceLedgerModel$Looker" "origins" "[J" : Cond) ∈ wsX13_take := List.mem_of_getElem? (i := 5) rfl
theorem md_X13_take_6 : (.fieldLink RX13 103 "ResourceLedgerModel$Looker" "takenOrigins" "J" : Cond) ∈ wsX13_take := List.mem_of_getElem? (i := 6) rfl
theorem md_X13_take_7 : (.fieldLink RX13 36 "ResourceLedgerModel$Looker" "insides" "[Z" : Cond) ∈ wsX13_take := List.mem_of_getElem? (i := 7) rfl
theorem md_X13_take_8 : (.fieldLink RX13 106 "ResourceLedgerModel$Looker" "takenInside" "Z" : Cond) ∈ wsX13_take := List.mem_of_getElem? (i := 8) rfl
set_option maxHeartbeats 4000000 in
set_option maxRecDepth 100000 in
theorem de_X13_take (l : Launch) (dC : Nat → ClassId) (dI : Nat → Nat → Nat) (cy : Nat → ClassId) (a : Nat → Nat) (sh : Nat → Nat × Nat) (n sz : Nat) (F : Nat) (z : St) (h0 : Nat) {z8 : St} {r8 : Unit} (hf : fn_X13_take F sh n z h0 = some (z8, r8)) : Met l yX13_take wsX13_take ({ frames := 1, cells := 0, slots := 0, locals := 21 }) (va_Pc [.ref (a h0)] (fun U => U.heap.size = sz ∧ va_P (dC, dI) vwCl (Wd cy a sh n z) U.heap ∧ va_K (dC, dI) vwCl (TYS cy) U ∧ va_D (fun _ => True) (Wd cy a sh n z) ∧ NK U)) (va_Qv (fun u : Unit => True) (fun u t => va_P (dC, dI) vwCl (Wd cy a sh n z8) t.heap ∧ va_K (dC, dI) vwCl (TYS cy) t ∧ va_D (va_A (Wd cy a sh n z) sz) (Wd cy a sh n z8)) (va_A (Wd cy a sh n z) sz)) 0 0 (va_A (Wd cy a sh n z) sz) := by
  refine Met.ofW (cc := cX13_take) (maxL := 1) (ret := none) (by decide) rfl ?_
  intro p e s m args below meth c s₁ B hml hv
  obtain ⟨rfl, hsz, hP, hK, hD0, hN⟩ := hv
  have hx := B.exec
  have hb := B.bytes
  have hr := B.returns
  have hts := atoms_spec (ws := wsX13_take) B.pre
  have hown : s.vm.findClass RX13 = some m.cls := findClass_of_methodNamed B.named
  have hlocks := B.notSynchronized
  subst hsz
  have hD := hD0.self (sz := s.heap.size)
  clear hD0
  generalize hAe : va_A (Wd cy a sh n z) s.heap.size = A at hD ⊢
  have hA : ∀ q : Nat, s.heap.size ≤ q → A q := fun q h => by rw [← hAe]; exact Or.inr h
  clear hAe
  have hS : va_S A s.heap s.heap [] := va_S.rf
  have hl := lv_entry ([.ref (a h0)]) (n := 1) (Nat.le_of_ble_eq_true rfl)
  rw [lg_entry_eq]
  generalize (lg_sl ([.ref (a h0)]) ++ List.replicate (1 - (lg_sl ([.ref (a h0)])).length) Slot.unset).toArray = ls at hl ⊢
  replace hl : lv_has ls 1 [(0, .ref (a h0))] := hl
  unfold fn_X13_take at hf
  refine de_start hS hP (fun H locs hS hP => ?_)
  refine lv_aload_n hx hb dX13_take_0 rfl (lv_at hl 0 rfl) ?_
  obtain ⟨g_1, hf⟩ := grd_some hf
  obtain ⟨kg_1, sg_1⟩ := okO_at g_1
  refine va_get (D := (dC, dI)) (ci := 13) (v := .int (z.1 h0 18)) (C := RX13) (T := TX13) (N := 22) hx hb hts iwd_X13_take_X13 hown hK hP h0 (Wd_ob kg_1 sg_1 (by decide)) rfl 18 (by decide) (hts _ md_X13_take_1) (fun _ h9 => h9) (fl_at (t := 0) rfl) dX13_take_1 ?_
  refine lv_if_eq (tgt := 8) hx hb dX13_take_4 (by decide) (fun c_2 => ?_) (fun c_2 => ?_)
  · skip
    rw [if_pos c_2] at hf
    refine lv_aload_n hx hb dX13_take_8 rfl (lv_at hl 0 rfl) ?_
    refine va_get (D := (dC, dI)) (ci := 13) (v := .int (z.1 h0 14)) (C := RX13) (T := TX13) (N := 22) hx hb hts iwd_X13_take_X13 hown hK hP h0 (Wd_ob kg_1 sg_1 (by decide)) rfl 14 (by decide) (hts _ md_X13_take_2) (fun _ h9 => h9) (fl_at (t := 0) rfl) dX13_take_9 ?_
    refine lv_if_ne (tgt := 21) hx hb dX13_take_12 (by decide) (fun c_3 => ?_) (fun c_3 => ?_)
    · skip
      rw [if_neg c_3] at hf
      refine lv_aload_n hx hb dX13_take_21 rfl (lv_at hl 0 rfl) ?_
      refine lv_dup hx hb dX13_take_22 rfl ?_
      refine va_get (D := (dC, dI)) (ci := 13) (v := .int (z.1 h0 14)) (C := RX13) (T := TX13) (N := 22) hx hb hts iwd_X13_take_X13 hown hK hP h0 (Wd_ob kg_1 sg_1 (by decide)) rfl 14 (by decide) (hts _ md_X13_take_2) (fun _ h9 => h9) (fl_at (t := 0) rfl) dX13_take_23 ?_
      refine lv_iconst (v := 1) hx hb dX13_take_26 (by decide) ?_
      refine lv_isub hx hb dX13_take_27 ?_
      refine va_put (D := (dC, dI)) (ci := 13) (v := .int ((z.1 h0 14) - 1)) (ty := .int) (C := RX13) (T := TX13) (N := 22) hx hb hts iwd_X13_take_X13 tyX13 tyX13_ok nmX13 hown hK hP hD hS h0 (Wd_ob kg_1 sg_1 (by decide)) rfl 14 (by decide) (hts _ md_X13_take_2) (fun _ h9 => h9) rfl (by decide +kernel) rfl rfl (by rw [fl_len]; decide) dX13_take_28 (fun H_4 locs hP2 hD2 hS2 => ?_)
      rw [Wd_si sg_1 (by decide) rfl] at hP2 hD2
      obtain ⟨z_5, ez_5⟩ : ∃ w, w = si z h0 14 ((z.1 h0 14) - 1) := ⟨_, rfl⟩
      rw [← ez_5] at hP2 hD2
      replace hf := lt_at ez_5 hf
      clear ez_5
      replace hP := hP2
      replace hD := hD2
      replace hS := hS2
      clear hP2 hD2 hS2
      refine lv_aload_n hx hb dX13_take_31 rfl (lv_at hl 0 rfl) ?_
      refine lv_aload_n hx hb dX13_take_32 rfl (lv_at hl 0 rfl) ?_
      obtain ⟨k_6, ek_6, hf⟩ := lnk_some hf
      refine va_get (D := (dC, dI)) (ci := 13) (v := .ref (a k_6)) (C := RX13) (T := TX13) (N := 22) hx hb hts iwd_X13_take_X13 hown hK hP h0 (Wd_ob kg_1 sg_1 (by decide)) rfl 11 (by decide) (hts _ md_X13_take_3) (fun _ h9 => h9) (fl_q rfl ek_6) dX13_take_33 ?_
      refine lv_aload_n hx hb dX13_take_36 rfl (lv_at hl 0 rfl) ?_
      refine va_get (D := (dC, dI)) (ci := 13) (v := .int (z_5.1 h0 14)) (C := RX13) (T := TX13) (N := 22) hx hb hts iwd_X13_take_X13 hown hK hP h0 (Wd_ob kg_1 sg_1 (by decide)) rfl 14 (by decide) (hts _ md_X13_take_2) (fun _ h9 => h9) (fl_at (t := 0) rfl) dX13_take_37 ?_
      obtain ⟨g_7, hf⟩ := grd_some hf
      obtain ⟨kg_7, sg_7, ig_7⟩ := okA_at g_7
      refine va_lald hx hb hK hP k_6 2 (Wd_al kg_7 sg_7) rfl ig_7 dX13_take_40 ?_
      refine va_put (D := (dC, dI)) (ci := 13) (v := .long (z_5.2.1 k_6 (z_5.1 h0 14).toNatClampNeg)) (ty := .long) (C := RX13) (T := TX13) (N := 22) hx hb hts iwd_X13_take_X13 tyX13 tyX13_ok nmX13 hown hK hP hD hS h0 (Wd_ob kg_1 sg_1 (by decide)) rfl 19 (by decide) (hts _ md_X13_take_4) (fun _ h9 => h9) rfl (by decide +kernel) rfl rfl (by rw [fl_len]; decide) dX13_take_41 (fun H_8 locs hP2 hD2 hS2 => ?_)
      rw [Wd_sl sg_1 (by decide) rfl] at hP2 hD2
      obtain ⟨z_9, ez_9⟩ : ∃ w, w = sl z_5 h0 19 (z_5.2.1 k_6 (z_5.1 h0 14).toNatClampNeg) := ⟨_, rfl⟩
      rw [← ez_9] at hP2 hD2
      replace hf := lt_at ez_9 hf
      clear ez_9
      replace hP := hP2
      replace hD := hD2
      replace hS := hS2
      clear hP2 hD2 hS2
      refine lv_aload_n hx hb dX13_take_44 rfl (lv_at hl 0 rfl) ?_
      refine lv_aload_n hx hb dX13_take_45 rfl (lv_at hl 0 rfl) ?_
      obtain ⟨k_10, ek_10, hf⟩ := lnk_some hf
      refine va_get (D := (dC, dI)) (ci := 13) (v := .ref (a k_10)) (C := RX13) (T := TX13) (N := 22) hx hb hts iwd_X13_take_X13 hown hK hP h0 (Wd_ob kg_1 sg_1 (by decide)) rfl 12 (by decide) (hts _ md_X13_take_5) (fun _ h9 => h9) (fl_q rfl ek_10) dX13_take_46 ?_
      refine lv_aload_n hx hb dX13_take_49 rfl (lv_at hl 0 rfl) ?_
      refine va_get (D := (dC, dI)) (ci := 13) (v := .int (z_9.1 h0 14)) (C := RX13) (T := TX13) (N := 22) hx hb hts iwd_X13_take_X13 hown hK hP h0 (Wd_ob kg_1 sg_1 (by decide)) rfl 14 (by decide) (hts _ md_X13_take_2) (fun _ h9 => h9) (fl_at (t := 0) rfl) dX13_take_50 ?_
      obtain ⟨g_11, hf⟩ := grd_some hf
      obtain ⟨kg_11, sg_11, ig_11⟩ := okA_at g_11
      refine va_lald hx hb hK hP k_10 2 (Wd_al kg_11 sg_11) rfl ig_11 dX13_take_53 ?_
      refine va_put (D := (dC, dI)) (ci := 13) (v := .long (z_9.2.1 k_10 (z_9.1 h0 14).toNatClampNeg)) (ty := .long) (C := RX13) (T := TX13) (N := 22) hx hb hts iwd_X13_take_X13 tyX13 tyX13_ok nmX13 hown hK hP hD hS h0 (Wd_ob kg_1 sg_1 (by decide)) rfl 20 (by decide) (hts _ md_X13_take_6) (fun _ h9 => h9) rfl (by decide +kernel) rfl rfl (by rw [fl_len]; decide) dX13_take_54 (fun H_12 locs hP2 hD2 hS2 => ?_)
      rw [Wd_sl sg_1 (by decide) rfl] at hP2 hD2
      obtain ⟨z_13, ez_13⟩ : ∃ w, w = sl z_9 h0 20 (z_9.2.1 k_10 (z_9.1 h0 14).toNatClampNeg) := ⟨_, rfl⟩
      rw [← ez_13] at hP2 hD2
      replace hf := lt_at ez_13 hf
      clear ez_13
      replace hP := hP2
      replace hD := hD2
      replace hS := hS2
      clear hP2 hD2 hS2
      refine lv_aload_n hx hb dX13_take_57 rfl (lv_at hl 0 rfl) ?_
      refine lv_aload_n hx hb dX13_take_58 rfl (lv_at hl 0 rfl) ?_
      obtain ⟨k_14, ek_14, hf⟩ := lnk_some hf
      refine va_get (D := (dC, dI)) (ci := 13) (v := .ref (a k_14)) (C := RX13) (T := TX13) (N := 22) hx hb hts iwd_X13_take_X13 hown hK hP h0 (Wd_ob kg_1 sg_1 (by decide)) rfl 13 (by decide) (hts _ md_X13_take_7) (fun _ h9 => h9) (fl_q rfl ek_14) dX13_take_59 ?_
      refine lv_aload_n hx hb dX13_take_62 rfl (lv_at hl 0 rfl) ?_
      refine va_get (D := (dC, dI)) (ci := 13) (v := .int (z_13.1 h0 14)) (C := RX13) (T := TX13) (N := 22) hx hb hts iwd_X13_take_X13 hown hK hP h0 (Wd_ob kg_1 sg_1 (by decide)) rfl 14 (by decide) (hts _ md_X13_take_2) (fun _ h9 => h9) (fl_at (t := 0) rfl) dX13_take_63 ?_
      obtain ⟨g_15, hf⟩ := grd_some hf
      obtain ⟨kg_15, sg_15, ig_15⟩ := okA_at g_15
      refine va_zald hx hb hK hP k_14 3 (Wd_az kg_15 sg_15) rfl ig_15 dX13_take_66 ?_
      obtain ⟨g_16, hf⟩ := grd_some hf
      refine va_put (D := (dC, dI)) (ci := 13) (v := .int (z_13.1 k_14 (z_13.1 h0 14).toNatClampNeg)) (ty := .boolean) (C := RX13) (T := TX13) (N := 22) hx hb hts iwd_X13_take_X13 tyX13 tyX13_ok nmX13 hown hK hP hD hS h0 (Wd_ob kg_1 sg_1 (by decide)) rfl 21 (by decide) (hts _ md_X13_take_8) (fun _ h9 => h9) rfl (by decide +kernel) (nar_z g_16) (fit_z g_16) (by rw [fl_len]; decide) dX13_take_67 (fun H_17 locs hP2 hD2 hS2 => ?_)
      rw [Wd_si sg_1 (by decide) rfl] at hP2 hD2
      obtain ⟨z_18, ez_18⟩ : ∃ w, w = si z_13 h0 21 (z_13.1 k_14 (z_13.1 h0 14).toNatClampNeg) := ⟨_, rfl⟩
      rw [← ez_18] at hP2 hD2
      replace hf := lt_at ez_18 hf
      clear ez_18
      replace hP := hP2
      replace hD := hD2
      replace hS := hS2
      clear hP2 hD2 hS2
      obtain ⟨h8, h9⟩ := ret_some hf
      rw [h8]
      exact W.vret hx hb hr (fun t ht hW => ⟨⟨(), rfl, trivial, by rw [ht]; exact hP, va_K.moved hW.alike hK, hD⟩, hS.F ht⟩) hS.2.2 dX13_take_70
    · skip
      rw [if_pos c_3] at hf
      refine lv_aload_n hx hb dX13_take_15 rfl (lv_at hl 0 rfl) ?_
      refine lv_iconst (v := 1) hx hb dX13_take_16 (by decide) ?_
      obtain ⟨z_19, _u, hfc, hf⟩ := cal_some hf
      have hFc := de_free hD hS hA
      refine va_callv (va_runV (As := [.int 1]) (rest := []) ⟨hx, hb, hml, hown, hts⟩ (de_X13_fail l dC dI cy a sh n H.size F z h0 1 hfc) (cwV 1 hts gX13_take_X13_fail rfl rfl rfl (by decide +kernel) ⟨Nat.le_of_ble_eq_true rfl, Nat.le_of_ble_eq_true rfl⟩) ⟨fun a U g mk q => by obtain ⟨q0, q1, qP, qK, qD, qN⟩ := q; exact ⟨q0, q1, qP, va_K.moved (u := U) (U := U.calling g mk a) (Vm.Alike.refl U.vm) qK, qD, qN.same rfl⟩, va_recv hK hP (ci := 13) (q0 := h0) rfl (Wd_ob kg_1 sg_1 (by decide)), fun U hU hW => ⟨rfl, by rw [hU], by rw [hU]; exact hP, va_K.moved hW.alike hK, hD.weaken (fun _ _ _ _ => trivial), hN.warm hW⟩⟩ rfl rfl hl.1 rfl (lv_room (Nat.le_of_ble_eq_true rfl)) dX13_take_17 ⟨Nat.le_of_ble_eq_true rfl, Nat.le_of_ble_eq_true rfl⟩) hS (fun q _ h => hFc q h) hFc (fun u t H_20 locs ht hvm hw hB hz1 hk1 hS2 => ?_)
      obtain ⟨hP1, -, hD1⟩ := hB
      rw [ht] at hP1
      replace hD := hD1.weaken (fun _ _ _ h => hFc _ h)
      replace hP := hP1
      replace hS := hS2
      clear hP1 hD1 hS2 hFc hfc hz1 hk1 hvm ht
      obtain ⟨h8, h9⟩ := ret_some hf
      rw [h8]
      exact W.vret hx hb hr (fun t ht hW => ⟨⟨(), rfl, trivial, by rw [ht]; exact hP, va_K.moved hW.alike hK, hD⟩, hS.F ht⟩) hS.2.2 dX13_take_20
  · skip
    rw [if_neg c_2] at hf
    obtain ⟨h8, h9⟩ := ret_some hf
    rw [h8]
    exact W.vret hx hb hr (fun t ht hW => ⟨⟨(), rfl, trivial, by rw [ht]; exact hP, va_K.moved hW.alike hK, hD⟩, hS.F ht⟩) hS.2.2 dX13_take_7

theorem md_X9_leaveOutDoubles_1 : (.fieldLink RX9 52 "ResourceLedger$Tree" "count" "I" : Cond) ∈ wsX9_leaveOutDoubles := List.mem_of_getElem? (i := 1) rfl
theorem iwd_X9_leaveOutDoubles_X9 : ∀ w ∈ wsX90, w ∈ wsX9_leaveOutDoubles := fun _ h => List.mem_cons_of_mem _ (List.mem_append_right _ h)
theorem md_X9_leaveOutDoubles_2 : (.fieldLink RX9 31 "ResourceLedger$Tree" "order" "[I" : Cond) ∈ wsX9_leaveOutDoubles := List.mem_of_getElem? (i := 2) rfl
set_option maxHeartbeats 4000000 in
set_option maxRecDepth 100000 in
theorem de_X9_leaveOutDoubles (l : Launch) (dC : Nat → ClassId) (dI : Nat → Nat → Nat) (cy : Nat → ClassId) (a : Nat → Nat) (sh : Nat → Nat × Nat) (n sz : Nat) (F : Nat) (z : St) (h0 : Nat) {z8 : St} {r8 : Unit} (hf : fn_X9_leaveOutDoubles F sh n z h0 = some (z8, r8)) : Met l yX9_leaveOutDoubles wsX9_leaveOutDoubles ({ frames := 1, cells := 0, slots := 0, locals := 26 }) (va_Pc [.ref (a h0)] (fun U => U.heap.size = sz ∧ va_P (dC, dI) vwCl (Wd cy a sh n z) U.heap ∧ va_K (dC, dI) vwCl (TYS cy) U ∧ va_D (fun _ => True) (Wd cy a sh n z) ∧ NK U)) (va_Qv (fun u : Unit => True) (fun u t => va_P (dC, dI) vwCl (Wd cy a sh n z8) t.heap ∧ va_K (dC, dI) vwCl (TYS cy) t ∧ va_D (va_A (Wd cy a sh n z) sz) (Wd cy a sh n z8)) (va_A (Wd cy a sh n z) sz)) 0 0 (va_A (Wd cy a sh n z) sz) := by
  refine Met.ofW (cc := cX9_leaveOutDoubles) (maxL := 3) (ret := none) (by decide) rfl ?_
  intro p e s m args below meth c s₁ B hml hv
  obtain ⟨rfl, hsz, hP, hK, hD0, hN⟩ := hv
  have hx := B.exec
  have hb := B.bytes
  have hr := B.returns
  have hts := atoms_spec (ws := wsX9_leaveOutDoubles) B.pre
  have hown : s.vm.findClass RX9 = some m.cls := findClass_of_methodNamed B.named
  have hlocks := B.notSynchronized
  subst hsz
  have hD := hD0.self (sz := s.heap.size)
  clear hD0
  generalize hAe : va_A (Wd cy a sh n z) s.heap.size = A at hD ⊢
  have hA : ∀ q : Nat, s.heap.size ≤ q → A q := fun q h => by rw [← hAe]; exact Or.inr h
  clear hAe
  have hS : va_S A s.heap s.heap [] := va_S.rf
  have hl := lv_entry ([.ref (a h0)]) (n := 3) (Nat.le_of_ble_eq_true rfl)
  rw [lg_entry_eq]
  generalize (lg_sl ([.ref (a h0)]) ++ List.replicate (3 - (lg_sl ([.ref (a h0)])).length) Slot.unset).toArray = ls at hl ⊢
  replace hl : lv_has ls 3 [(0, .ref (a h0))] := hl
  unfold fn_X9_leaveOutDoubles at hf
  refine de_start hS hP (fun H locs hS hP => ?_)
  refine lv_iconst (v := 0) hx hb dX9_leaveOutDoubles_0 (by decide) ?_
  refine lv_istore_n (lv' := [(1, .int 0), (0, .ref (a h0))]) hx hb dX9_leaveOutDoubles_1 rfl hl (by decide) rfl (fun ls hl2 => ?_)
  replace hl := hl2
  clear hl2
  refine lv_iconst (v := 0) hx hb dX9_leaveOutDoubles_2 (by decide) ?_
  refine lv_istore_n (lv' := [(2, .int 0), (1, .int 0), (0, .ref (a h0))]) hx hb dX9_leaveOutDoubles_3 rfl hl (by decide) rfl (fun ls hl2 => ?_)
  replace hl := hl2
  clear hl2
  have hl0 : lv_has ls 3 [(2, .int 0), (1, .int 0), (0, .ref (a h0))] := lv_sub hl [0, 1, 2] rfl
  refine de_loop (h := 4) (fun (x : St × Int32 × Int32) ls H locs => lv_has ls 3 [(2, .int x.2.2), (1, .int x.2.1), (0, .ref (a h0))] ∧ va_P (dC, dI) vwCl (Wd cy a sh n x.1) H ∧ va_D A (Wd cy a sh n x.1) ∧ va_S A s.heap H locs) (fun f x => fn_X9_leaveOutDoubles_L4 F sh n h0 f x.1 x.2.1 x.2.2) (z8, r8) ?_ (fun _ => rfl) F (z, 0, 0) ls H locs ⟨hl0, hP, hD, hS⟩ hf
  intro f_4 x ls H locs ih4 hI hf
  obtain ⟨z_3, p_1, p_2⟩ := x
  obtain ⟨hl2, hP2, hD2, hS2⟩ := hI
  replace hl : lv_has ls 3 [(2, .int p_2), (1, .int p_1), (0, .ref (a h0))] := hl2
  replace hP := hP2
  replace hD := hD2
  replace hS := hS2
  clear hl2 hP2 hD2 hS2 hl0
  replace hf := fn_X9_leaveOutDoubles_L4_s hf
  refine lv_iload_n hx hb dX9_leaveOutDoubles_4 rfl (lv_at hl 0 rfl) ?_
  refine lv_aload_n hx hb dX9_leaveOutDoubles_5 rfl (lv_at hl 2 rfl) ?_
  obtain ⟨g_5, hf⟩ := grd_some hf
  obtain ⟨kg_5, sg_5⟩ := okO_at g_5
  refine va_get (D := (dC, dI)) (ci := 9) (v := .int (z_3.1 h0 7)) (C := RX9) (T := TX9) (N := 13) hx hb hts iwd_X9_leaveOutDoubles_X9 hown hK hP h0 (Wd_ob kg_5 sg_5 (by decide)) rfl 7 (by decide) (hts _ md_X9_leaveOutDoubles_1) (fun _ h9 => h9) (fl_at (t := 0) rfl) dX9_leaveOutDoubles_6 ?_
  refine lv_icmp_ge (tgt := 61) hx hb dX9_leaveOutDoubles_9 (by decide) (fun c_6 => ?_) (fun c_6 => ?_)
  · skip
    rw [if_pos c_6] at hf
    refine lv_aload_n hx hb dX9_leaveOutDoubles_61 rfl (lv_at hl 2 rfl) ?_
    refine lv_iload_n hx hb dX9_leaveOutDoubles_62 rfl (lv_at hl 1 rfl) ?_
    refine va_put (D := (dC, dI)) (ci := 9) (v := .int p_1) (ty := .int) (C := RX9) (T := TX9) (N := 13) hx hb hts iwd_X9_leaveOutDoubles_X9 tyX9 tyX9_ok nmX9 hown hK hP hD hS h0 (Wd_ob kg_5 sg_5 (by decide)) rfl 7 (by decide) (hts _ md_X9_leaveOutDoubles_1) (fun _ h9 => h9) rfl (by decide +kernel) rfl rfl (by rw [fl_len]; decide) dX9_leaveOutDoubles_63 (fun H_7 locs hP2 hD2 hS2 => ?_)
    rw [Wd_si sg_5 (by decide) rfl] at hP2 hD2
    obtain ⟨z_8, ez_8⟩ : ∃ w, w = si z_3 h0 7 p_1 := ⟨_, rfl⟩
    rw [← ez_8] at hP2 hD2
    replace hf := lt_at ez_8 hf
    clear ez_8
    replace hP := hP2
    replace hD := hD2
    replace hS := hS2
    clear hP2 hD2 hS2
    obtain ⟨h8, h9⟩ := ret_some hf
    rw [h8]
    exact W.vret hx hb hr (fun t ht hW => ⟨⟨(), rfl, trivial, by rw [ht]; exact hP, va_K.moved hW.alike hK, hD⟩, hS.F ht⟩) hS.2.2 dX9_leaveOutDoubles_66
  · skip
    rw [if_neg c_6] at hf
    refine lv_iload_n hx hb dX9_leaveOutDoubles_12 rfl (lv_at hl 1 rfl) ?_
    refine de_cut (h := 55) (fun (x : St × Int32) => []) (fun x ls H locs => lv_has ls 3 [(1, .int x.2), (2, .int p_2), (0, .ref (a h0))] ∧ va_P (dC, dI) vwCl (Wd cy a sh n x.1) H ∧ va_D A (Wd cy a sh n x.1) ∧ va_S A s.heap H locs) (fun x => fn_X9_leaveOutDoubles_B55 F sh n p_2 (fun z9 q1 q2 => fn_X9_leaveOutDoubles_L4 F sh n h0 f_4 z9 q1 q2) x.1 x.2) (z8, r8) ?_ (fun B55 => ?_)
    · intro x ls H locs hI hf
      obtain ⟨z_10, p_9⟩ := x
      obtain ⟨hl2, hP2, hD2, hS2⟩ := hI
      replace hl : lv_has ls 3 [(1, .int p_9), (2, .int p_2), (0, .ref (a h0))] := hl2
      replace hP := hP2
      replace hD := hD2
      replace hS := hS2
      clear hl2 hP2 hD2 hS2
      replace hf := fn_X9_leaveOutDoubles_B55_s hf
      refine W.eq (g2 := F0 m 55 ls []) rfl ?_
      refine lv_iinc (v := (p_2 + 1)) (lv' := [(2, .int (p_2 + 1)), (1, .int p_9), (0, .ref (a h0))]) hx hb dX9_leaveOutDoubles_55 hl (k := 1) rfl rfl (by decide) rfl (fun ls hl2 => ?_)
      replace hl := hl2
      clear hl2
      refine lv_goto (tgt := 4) hx hb dX9_leaveOutDoubles_58 (by decide) ?_
      exact ih4 (z_10, p_9, (p_2 + 1)) ls H locs ⟨lv_sub hl [0, 1, 2] rfl, hP, hD, hS⟩ hf
    refine de_cut (h := 40) (fun (x : St) => []) (fun x ls H locs => lv_has ls 3 [(2, .int p_2), (1, .int p_1), (0, .ref (a h0))] ∧ va_P (dC, dI) vwCl (Wd cy a sh n x) H ∧ va_D A (Wd cy a sh n x) ∧ va_S A s.heap H locs) (fun x => fn_X9_leaveOutDoubles_B40 F sh n h0 p_2 p_1 (fun z9 q1 q2 => fn_X9_leaveOutDoubles_L4 F sh n h0 f_4 z9 q1 q2) x) (z8, r8) ?_ (fun B40 => ?_)
    · intro x ls H locs hI hf
      obtain ⟨z_11, ez⟩ : ∃ w, w = x := ⟨_, rfl⟩
      subst ez
      obtain ⟨hl2, hP2, hD2, hS2⟩ := hI
      replace hl : lv_has ls 3 [(2, .int p_2), (1, .int p_1), (0, .ref (a h0))] := hl2
      replace hP := hP2
      replace hD := hD2
      replace hS := hS2
      clear hl2 hP2 hD2 hS2
      replace hf := fn_X9_leaveOutDoubles_B40_s hf
      refine W.eq (g2 := F0 m 40 ls []) rfl ?_
      refine lv_aload_n hx hb dX9_leaveOutDoubles_40 rfl (lv_at hl 2 rfl) ?_
      obtain ⟨k_12, ek_12, hf⟩ := lnk_some hf
      refine va_get (D := (dC, dI)) (ci := 9) (v := .ref (a k_12)) (C := RX9) (T := TX9) (N := 13) hx hb hts iwd_X9_leaveOutDoubles_X9 hown hK hP h0 (Wd_ob kg_5 sg_5 (by decide)) rfl 6 (by decide) (hts _ md_X9_leaveOutDoubles_2) (fun _ h9 => h9) (fl_q rfl ek_12) dX9_leaveOutDoubles_41 ?_
      refine lv_iload_n hx hb dX9_leaveOutDoubles_44 rfl (lv_at hl 1 rfl) ?_
      refine lv_aload_n hx hb dX9_leaveOutDoubles_45 rfl (lv_at hl 2 rfl) ?_
      obtain ⟨k_13, ek_13, hf⟩ := lnk_some hf
      refine va_get (D := (dC, dI)) (ci := 9) (v := .ref (a k_13)) (C := RX9) (T := TX9) (N := 13) hx hb hts iwd_X9_leaveOutDoubles_X9 hown hK hP h0 (Wd_ob kg_5 sg_5 (by decide)) rfl 6 (by decide) (hts _ md_X9_leaveOutDoubles_2) (fun _ h9 => h9) (fl_q rfl ek_13) dX9_leaveOutDoubles_46 ?_
      refine lv_iload_n hx hb dX9_leaveOutDoubles_49 rfl (lv_at hl 0 rfl) ?_
      obtain ⟨g_14, hf⟩ := grd_some hf
      obtain ⟨kg_14, sg_14, ig_14⟩ := okA_at g_14
      refine va_iald hx hb hK hP k_13 1 (Wd_ai kg_14 sg_14) rfl ig_14 dX9_leaveOutDoubles_50 ?_
      obtain ⟨g_15, hf⟩ := grd_some hf
      obtain ⟨kg_15, sg_15, ig_15⟩ := okA_at g_15
      refine va_iast hx hb hK hP hD hS k_12 1 (Wd_ai kg_15 sg_15) rfl ig_15 dX9_leaveOutDoubles_51 (fun H_16 locs hP2 hD2 hS2 => ?_)
      rw [Wd_ti sg_15] at hP2 hD2
      obtain ⟨z_17, ez_17⟩ : ∃ w, w = si z_11 k_12 p_1.toNatClampNeg (z_11.1 k_13 p_2.toNatClampNeg) := ⟨_, rfl⟩
      rw [← ez_17] at hP2 hD2
      replace hf := lt_at ez_17 hf
      clear ez_17
      replace hP := hP2
      replace hD := hD2
      replace hS := hS2
      clear hP2 hD2 hS2
      refine lv_iinc (v := (p_1 + 1)) (lv' := [(1, .int (p_1 + 1)), (2, .int p_2), (0, .ref (a h0))]) hx hb dX9_leaveOutDoubles_52 hl (k := 1) rfl rfl (by decide) rfl (fun ls hl2 => ?_)
      replace hl := hl2
      clear hl2
      exact B55 (z_17, (p_1 + 1)) ls H_16 locs ⟨lv_sub hl [0, 1, 2] rfl, hP, hD, hS⟩ hf
    refine lv_if_eq (tgt := 40) hx hb dX9_leaveOutDoubles_13 (by decide) (fun c_18 => ?_) (fun c_18 => ?_)
    · skip
      rw [if_pos c_18] at hf
      exact B40 (z_3) ls H locs ⟨lv_sub hl [0, 1, 2] rfl, hP, hD, hS⟩ hf
    · skip
      rw [if_neg c_18] at hf
      refine lv_aload_n hx hb dX9_leaveOutDoubles_16 rfl (lv_at hl 2 rfl) ?_
      refine lv_aload_n hx hb dX9_leaveOutDoubles_17 rfl (lv_at hl 2 rfl) ?_
      obtain ⟨k_19, ek_19, hf⟩ := lnk_some hf
      refine va_get (D := (dC, dI)) (ci := 9) (v := .ref (a k_19)) (C := RX9) (T := TX9) (N := 13) hx hb hts iwd_X9_leaveOutDoubles_X9 hown hK hP h0 (Wd_ob kg_5 sg_5 (by decide)) rfl 6 (by decide) (hts _ md_X9_leaveOutDoubles_2) (fun _ h9 => h9) (fl_q rfl ek_19) dX9_leaveOutDoubles_18 ?_
      refine lv_iload_n hx hb dX9_leaveOutDoubles_21 rfl (lv_at hl 1 rfl) ?_
      refine lv_iconst (v := 1) hx hb dX9_leaveOutDoubles_22 (by decide) ?_
      refine lv_isub hx hb dX9_leaveOutDoubles_23 ?_
      obtain ⟨g_20, hf⟩ := grd_some hf
      obtain ⟨kg_20, sg_20, ig_20⟩ := okA_at g_20
      refine va_iald hx hb hK hP k_19 1 (Wd_ai kg_20 sg_20) rfl ig_20 dX9_leaveOutDoubles_24 ?_
      refine lv_aload_n hx hb dX9_leaveOutDoubles_25 rfl (lv_at hl 2 rfl) ?_
      obtain ⟨k_21, ek_21, hf⟩ := lnk_some hf
      refine va_get (D := (dC, dI)) (ci := 9) (v := .ref (a k_21)) (C := RX9) (T := TX9) (N := 13) hx hb hts iwd_X9_leaveOutDoubles_X9 hown hK hP h0 (Wd_ob kg_5 sg_5 (by decide)) rfl 6 (by decide) (hts _ md_X9_leaveOutDoubles_2) (fun _ h9 => h9) (fl_q rfl ek_21) dX9_leaveOutDoubles_26 ?_
      refine lv_iload_n hx hb dX9_leaveOutDoubles_29 rfl (lv_at hl 0 rfl) ?_
      obtain ⟨g_22, hf⟩ := grd_some hf
      obtain ⟨kg_22, sg_22, ig_22⟩ := okA_at g_22
      refine va_iald hx hb hK hP k_21 1 (Wd_ai kg_22 sg_22) rfl ig_22 dX9_leaveOutDoubles_30 ?_
      obtain ⟨z_23, r_24, hfc, hf⟩ := cal_some hf
      have hFc := de_free hD hS hA
      refine va_calli (va_runV (As := [.int (z_3.1 k_19 (p_1 - 1).toNatClampNeg), .int (z_3.1 k_21 p_2.toNatClampNeg)]) (rest := []) ⟨hx, hb, hml, hown, hts⟩ (de_X9_firstDifference l dC dI cy a sh n H.size F z_3 h0 (z_3.1 k_19 (p_1 - 1).toNatClampNeg) (z_3.1 k_21 p_2.toNatClampNeg) hfc) (cwV 2 hts gX9_leaveOutDoubles_X9_firstDifference rfl rfl rfl (by decide +kernel) ⟨Nat.le_of_ble_eq_true rfl, Nat.le_of_ble_eq_true rfl⟩) ⟨fun a U g mk q => by obtain ⟨q0, q1, qP, qK, qD, qN⟩ := q; exact ⟨q0, q1, qP, va_K.moved (u := U) (U := U.calling g mk a) (Vm.Alike.refl U.vm) qK, qD, qN.same rfl⟩, va_recv hK hP (ci := 9) (q0 := h0) rfl (Wd_ob kg_5 sg_5 (by decide)), fun U hU hW => ⟨rfl, by rw [hU], by rw [hU]; exact hP, va_K.moved hW.alike hK, hD.weaken (fun _ _ _ _ => trivial), hN.warm hW⟩⟩ rfl rfl hl.1 rfl (lv_room (Nat.le_of_ble_eq_true rfl)) dX9_leaveOutDoubles_31 ⟨Nat.le_of_ble_eq_true rfl, Nat.le_of_ble_eq_true rfl⟩) hS (fun q _ h => hFc q h) hFc (fun rr u t H_25 locs ht hvm hw hB hz1 hk1 hS2 => ?_)
      rw [hw]
      clear hw
      obtain ⟨hP1, -, hD1⟩ := hB
      rw [ht] at hP1
      replace hD := hD1.weaken (fun _ _ _ h => hFc _ h)
      replace hP := hP1
      replace hS := hS2
      clear hP1 hD1 hS2 hFc hfc hz1 hk1 hvm ht
      refine lv_sipush (v := 256) hx hb dX9_leaveOutDoubles_34 (by decide) ?_
      refine lv_icmp_ge (tgt := 55) hx hb dX9_leaveOutDoubles_37 (by decide) (fun c_26 => ?_) (fun c_26 => ?_)
      · skip
        rw [if_pos c_26] at hf
        exact B55 (z_23, p_1) ls H_25 locs ⟨lv_sub hl [1, 0, 2] rfl, hP, hD, hS⟩ hf
      · skip
        rw [if_neg c_26] at hf
        exact B40 (z_23) ls H_25 locs ⟨lv_sub hl [0, 1, 2] rfl, hP, hD, hS⟩ hf

theorem md_X18_call_1 : (.constant RX18 637 (65535) : Cond) ∈ wsX18_call := List.mem_of_getElem? (i := 1) rfl
theorem md_X18_call_2 : (.fieldLink RX18 626 "ResourceLedgerModel" "count" "I" : Cond) ∈ wsX18_call := List.mem_of_getElem? (i := 2) rfl
theorem iwd_X18_call_X18 : ∀ w ∈ wsX180, w ∈ wsX18_call := fun _ h => List.mem_cons_of_mem _ (List.mem_append_right _ h)
theorem md_X18_call_3 : (.fieldLink RX18 550 "ResourceLedgerModel" "modulesCalled" "[I" : Cond) ∈ wsX18_call := List.mem_of_getElem? (i := 3) rfl
theorem md_X18_call_4 : (.fieldLink RX18 553 "ResourceLedgerModel" "functionsCalled" "[I" : Cond) ∈ wsX18_call := List.mem_of_getElem? (i := 4) rfl
set_option maxHeartbeats 4000000 in
set_option maxRecDepth 100000 in
theorem de_X18_call (l : Launch) (dC : Nat → ClassId) (dI : Nat → Nat → Nat) (cy : Nat → ClassId) (a : Nat → Nat) (sh : Nat → Nat × Nat) (n sz : Nat) (F : Nat) (z : St) (h0 : Nat) (x0 : Int64) (x1 : Int64) (x2 : Int32) (x3 : Int32) (x4 : Int32) {z8 : St} {r8 : Int32} (hf : fn_X18_call F sh n z h0 x0 x1 x2 x3 x4 = some (z8, r8)) : Met l yX18_call wsX18_call ({ frames := 1, cells := 0, slots := 0, locals := 27 }) (va_Pc [.ref (a h0), .long x0, .long x1, .int x2, .int x3, .int x4] (fun U => U.heap.size = sz ∧ va_P (dC, dI) vwCl (Wd cy a sh n z) U.heap ∧ va_K (dC, dI) vwCl (TYS cy) U ∧ va_D (fun _ => True) (Wd cy a sh n z) ∧ NK U)) (va_Qi (fun (r9 : Int32) (u : Unit) => r9 = r8) (fun u t => va_P (dC, dI) vwCl (Wd cy a sh n z8) t.heap ∧ va_K (dC, dI) vwCl (TYS cy) t ∧ va_D (va_A (Wd cy a sh n z) sz) (Wd cy a sh n z8)) (va_A (Wd cy a sh n z) sz)) 0 0 (va_A (Wd cy a sh n z) sz) := by
  refine Met.ofW (cc := cX18_call) (maxL := 9) (ret := (some .int)) (by decide) rfl ?_
  intro p e s m args below meth c s₁ B hml hv
  obtain ⟨rfl, hsz, hP, hK, hD0, hN⟩ := hv
  have hx := B.exec
  have hb := B.bytes
  have hr := B.returns
  have hts := atoms_spec (ws := wsX18_call) B.pre
  have hown : s.vm.findClass RX18 = some m.cls := findClass_of_methodNamed B.named
  have hlocks := B.notSynchronized
  subst hsz
  have hD := hD0.self (sz := s.heap.size)
  clear hD0
  generalize hAe : va_A (Wd cy a sh n z) s.heap.size = A at hD ⊢
  have hA : ∀ q : Nat, s.heap.size ≤ q → A q := fun q h => by rw [← hAe]; exact Or.inr h
  clear hAe
  have hS : va_S A s.heap s.heap [] := va_S.rf
  have hl := lv_entry ([.ref (a h0), .long x0, .long x1, .int x2, .int x3, .int x4]) (n := 9) (Nat.le_of_ble_eq_true rfl)
  rw [lg_entry_eq]
  generalize (lg_sl ([.ref (a h0), .long x0, .long x1, .int x2, .int x3, .int x4]) ++ List.replicate (9 - (lg_sl ([.ref (a h0), .long x0, .long x1, .int x2, .int x3, .int x4])).length) Slot.unset).toArray = ls at hl ⊢
  replace hl : lv_has ls 9 [(0, .ref (a h0)), (1, .long x0), (3, .long x1), (5, .int x2), (6, .int x3), (7, .int x4)] := hl
  unfold fn_X18_call at hf
  refine de_start hS hP (fun H locs hS hP => ?_)
  refine lv_iload hx hb dX18_call_0 (lv_at hl 3 rfl) ?_
  obtain ⟨z_1, r_2, hfc, hf⟩ := cal_some hf
  have hFc := de_free hD hS hA
  refine va_calli (va_runS (As := [.int x2]) (rest := []) ⟨hx, hb, hml, hown, hts⟩ (de_X18_isLimit l dC dI cy a sh n H.size F z x2 hfc) (va_cwS 1 hts gX18_call_X18_isLimit rfl rfl rfl (by decide +kernel) ⟨Nat.le_of_ble_eq_true rfl, Nat.le_of_ble_eq_true rfl⟩) ⟨fun a U g mk q => by obtain ⟨q0, q1, qP, qK, qD, qN⟩ := q; exact ⟨q0, q1, qP, va_K.moved (u := U) (U := U.calling g mk a) (Vm.Alike.refl U.vm) qK, qD, qN.same rfl⟩, fun U hU hW => ⟨rfl, by rw [hU], by rw [hU]; exact hP, va_K.moved hW.alike hK, hD.weaken (fun _ _ _ _ => trivial), hN.warm hW⟩⟩ rfl rfl hl.1 rfl (lv_room (Nat.le_of_ble_eq_true rfl)) dX18_call_2 ⟨Nat.le_of_ble_eq_true rfl, Nat.le_of_ble_eq_true rfl⟩) hS (fun q _ h => hFc q h) hFc (fun rr u t H_3 locs ht hvm hw hB hz1 hk1 hS2 => ?_)
  rw [hw]
  clear hw
  obtain ⟨hP1, -, hD1⟩ := hB
  rw [ht] at hP1
  replace hD := hD1.weaken (fun _ _ _ h => hFc _ h)
  replace hP := hP1
  replace hS := hS2
  clear hP1 hD1 hS2 hFc hfc hz1 hk1 hvm ht
  refine lv_if_eq (tgt := 33) hx hb dX18_call_5 (by decide) (fun c_4 => ?_) (fun c_4 => ?_)
  · skip
    rw [if_pos c_4] at hf
    refine lv_iconst (v := (-1)) hx hb dX18_call_33 (by decide) ?_
    obtain ⟨h8, h9⟩ := ret_some hf
    rw [h8, h9]
    exact W.iret (v := (-1)) hx hb hr (fun t ht hW => ⟨⟨(-1), (), rfl, rfl, by rw [ht]; exact hP, va_K.moved hW.alike hK, hD⟩, hS.F ht⟩) hS.2.2 dX18_call_34
  · skip
    rw [if_neg c_4] at hf
    refine lv_iload hx hb dX18_call_8 (lv_at hl 4 rfl) ?_
    refine lv_if_lt (tgt := 33) hx hb dX18_call_10 (by decide) (fun c_5 => ?_) (fun c_5 => ?_)
    · skip
      rw [if_pos c_5] at hf
      refine lv_iconst (v := (-1)) hx hb dX18_call_33 (by decide) ?_
      obtain ⟨h8, h9⟩ := ret_some hf
      rw [h8, h9]
      exact W.iret (v := (-1)) hx hb hr (fun t ht hW => ⟨⟨(-1), (), rfl, rfl, by rw [ht]; exact hP, va_K.moved hW.alike hK, hD⟩, hS.F ht⟩) hS.2.2 dX18_call_34
    · skip
      rw [if_neg c_5] at hf
      refine lv_iload hx hb dX18_call_13 (lv_at hl 4 rfl) ?_
      refine lv_ldcw hx hb hown (hts _ md_X18_call_1) dX18_call_15 ?_
      refine lv_icmp_gt (tgt := 33) hx hb dX18_call_18 (by decide) (fun c_6 => ?_) (fun c_6 => ?_)
      · skip
        rw [if_pos c_6] at hf
        refine lv_iconst (v := (-1)) hx hb dX18_call_33 (by decide) ?_
        obtain ⟨h8, h9⟩ := ret_some hf
        rw [h8, h9]
        exact W.iret (v := (-1)) hx hb hr (fun t ht hW => ⟨⟨(-1), (), rfl, rfl, by rw [ht]; exact hP, va_K.moved hW.alike hK, hD⟩, hS.F ht⟩) hS.2.2 dX18_call_34
      · skip
        rw [if_neg c_6] at hf
        refine lv_iload hx hb dX18_call_21 (lv_at hl 5 rfl) ?_
        refine lv_if_lt (tgt := 33) hx hb dX18_call_23 (by decide) (fun c_7 => ?_) (fun c_7 => ?_)
        · skip
          rw [if_pos c_7] at hf
          refine lv_iconst (v := (-1)) hx hb dX18_call_33 (by decide) ?_
          obtain ⟨h8, h9⟩ := ret_some hf
          rw [h8, h9]
          exact W.iret (v := (-1)) hx hb hr (fun t ht hW => ⟨⟨(-1), (), rfl, rfl, by rw [ht]; exact hP, va_K.moved hW.alike hK, hD⟩, hS.F ht⟩) hS.2.2 dX18_call_34
        · skip
          rw [if_neg c_7] at hf
          refine lv_iload hx hb dX18_call_26 (lv_at hl 5 rfl) ?_
          refine lv_bipush (v := 63) hx hb dX18_call_28 (by decide) ?_
          refine lv_icmp_le (tgt := 35) hx hb dX18_call_30 (by decide) (fun c_8 => ?_) (fun c_8 => ?_)
          · skip
            rw [if_pos c_8] at hf
            refine lv_aload_n hx hb dX18_call_35 rfl (lv_at hl 0 rfl) ?_
            obtain ⟨g_9, hf⟩ := grd_some hf
            obtain ⟨kg_9, sg_9⟩ := okO_at g_9
            refine va_get (D := (dC, dI)) (ci := 18) (v := .int (z_1.1 h0 52)) (C := RX18) (T := TX18) (N := 78) hx hb hts iwd_X18_call_X18 hown hK hP h0 (Wd_ob kg_9 sg_9 (by decide)) rfl 52 (by decide) (hts _ md_X18_call_2) (fun _ h9 => h9) (fl_at (t := 0) rfl) dX18_call_36 ?_
            refine lv_bipush (v := 32) hx hb dX18_call_39 (by decide) ?_
            refine lv_icmp_ne (tgt := 47) hx hb dX18_call_41 (by decide) (fun c_10 => ?_) (fun c_10 => ?_)
            · skip
              rw [if_neg c_10] at hf
              refine lv_aload_n hx hb dX18_call_47 rfl (lv_at hl 0 rfl) ?_
              refine lv_iconst (v := 2) hx hb dX18_call_48 (by decide) ?_
              refine lv_lload_n hx hb dX18_call_49 rfl (lv_at hl 1 rfl) ?_
              refine lv_lload_n hx hb dX18_call_50 rfl (lv_at hl 2 rfl) ?_
              refine lv_iload hx hb dX18_call_51 (lv_at hl 3 rfl) ?_
              obtain ⟨z_11, r_12, hfc, hf⟩ := cal_some hf
              have hFc := de_free hD hS hA
              refine va_calli (va_runV (As := [.int 2, .long x0, .long x1, .int x2]) (rest := []) ⟨hx, hb, hml, hown, hts⟩ (de_X18_add l dC dI cy a sh n H_3.size F z_1 h0 2 x0 x1 x2 hfc) (cwV 4 hts gX18_call_X18_add rfl rfl rfl (by decide +kernel) ⟨Nat.le_of_ble_eq_true rfl, Nat.le_of_ble_eq_true rfl⟩) ⟨fun a U g mk q => by obtain ⟨q0, q1, qP, qK, qD, qN⟩ := q; exact ⟨q0, q1, qP, va_K.moved (u := U) (U := U.calling g mk a) (Vm.Alike.refl U.vm) qK, qD, qN.same rfl⟩, va_recv hK hP (ci := 18) (q0 := h0) rfl (Wd_ob kg_9 sg_9 (by decide)), fun U hU hW => ⟨rfl, by rw [hU], by rw [hU]; exact hP, va_K.moved hW.alike hK, hD.weaken (fun _ _ _ _ => trivial), hN.warm hW⟩⟩ rfl rfl hl.1 rfl (lv_room (Nat.le_of_ble_eq_true rfl)) dX18_call_53 ⟨Nat.le_of_ble_eq_true rfl, Nat.le_of_ble_eq_true rfl⟩) hS (fun q _ h => hFc q h) hFc (fun rr u t H_13 locs ht hvm hw hB hz1 hk1 hS2 => ?_)
              rw [hw]
              clear hw
              obtain ⟨hP1, -, hD1⟩ := hB
              rw [ht] at hP1
              replace hD := hD1.weaken (fun _ _ _ h => hFc _ h)
              replace hP := hP1
              replace hS := hS2
              clear hP1 hD1 hS2 hFc hfc hz1 hk1 hvm ht
              refine lv_istore (lv' := [(8, .int r_12), (0, .ref (a h0)), (1, .long x0), (3, .long x1), (5, .int x2), (6, .int x3), (7, .int x4)]) hx hb dX18_call_56 hl (by decide) rfl (fun ls hl2 => ?_)
              replace hl := hl2
              clear hl2
              refine lv_aload_n hx hb dX18_call_58 rfl (lv_at hl 1 rfl) ?_
              obtain ⟨k_14, ek_14, hf⟩ := lnk_some hf
              refine va_get (D := (dC, dI)) (ci := 18) (v := .ref (a k_14)) (C := RX18) (T := TX18) (N := 78) hx hb hts iwd_X18_call_X18 hown hK hP h0 (Wd_ob kg_9 sg_9 (by decide)) rfl 58 (by decide) (hts _ md_X18_call_3) (fun _ h9 => h9) (fl_q rfl ek_14) dX18_call_59 ?_
              refine lv_iload hx hb dX18_call_62 (lv_at hl 0 rfl) ?_
              refine lv_iload hx hb dX18_call_64 (lv_at hl 5 rfl) ?_
              obtain ⟨g_15, hf⟩ := grd_some hf
              obtain ⟨kg_15, sg_15, ig_15⟩ := okA_at g_15
              refine va_iast hx hb hK hP hD hS k_14 1 (Wd_ai kg_15 sg_15) rfl ig_15 dX18_call_66 (fun H_16 locs hP2 hD2 hS2 => ?_)
              rw [Wd_ti sg_15] at hP2 hD2
              obtain ⟨z_17, ez_17⟩ : ∃ w, w = si z_11 k_14 r_12.toNatClampNeg x3 := ⟨_, rfl⟩
              rw [← ez_17] at hP2 hD2
              replace hf := lt_at ez_17 hf
              clear ez_17
              replace hP := hP2
              replace hD := hD2
              replace hS := hS2
              clear hP2 hD2 hS2
              refine lv_aload_n hx hb dX18_call_67 rfl (lv_at hl 1 rfl) ?_
              obtain ⟨k_18, ek_18, hf⟩ := lnk_some hf
              refine va_get (D := (dC, dI)) (ci := 18) (v := .ref (a k_18)) (C := RX18) (T := TX18) (N := 78) hx hb hts iwd_X18_call_X18 hown hK hP h0 (Wd_ob kg_9 sg_9 (by decide)) rfl 59 (by decide) (hts _ md_X18_call_4) (fun _ h9 => h9) (fl_q rfl ek_18) dX18_call_68 ?_
              refine lv_iload hx hb dX18_call_71 (lv_at hl 0 rfl) ?_
              refine lv_iload hx hb dX18_call_73 (lv_at hl 6 rfl) ?_
              obtain ⟨g_19, hf⟩ := grd_some hf
              obtain ⟨kg_19, sg_19, ig_19⟩ := okA_at g_19
              refine va_iast hx hb hK hP hD hS k_18 1 (Wd_ai kg_19 sg_19) rfl ig_19 dX18_call_75 (fun H_20 locs hP2 hD2 hS2 => ?_)
              rw [Wd_ti sg_19] at hP2 hD2
              obtain ⟨z_21, ez_21⟩ : ∃ w, w = si z_17 k_18 r_12.toNatClampNeg x4 := ⟨_, rfl⟩
              rw [← ez_21] at hP2 hD2
              replace hf := lt_at ez_21 hf
              clear ez_21
              replace hP := hP2
              replace hD := hD2
              replace hS := hS2
              clear hP2 hD2 hS2
              refine lv_iload hx hb dX18_call_76 (lv_at hl 0 rfl) ?_
              obtain ⟨h8, h9⟩ := ret_some hf
              rw [h8, h9]
              exact W.iret (v := r_12) hx hb hr (fun t ht hW => ⟨⟨r_12, (), rfl, rfl, by rw [ht]; exact hP, va_K.moved hW.alike hK, hD⟩, hS.F ht⟩) hS.2.2 dX18_call_78
            · skip
              rw [if_pos c_10] at hf
              refine lv_bipush (v := (-3)) hx hb dX18_call_44 (by decide) ?_
              obtain ⟨h8, h9⟩ := ret_some hf
              rw [h8, h9]
              exact W.iret (v := (-3)) hx hb hr (fun t ht hW => ⟨⟨(-3), (), rfl, rfl, by rw [ht]; exact hP, va_K.moved hW.alike hK, hD⟩, hS.F ht⟩) hS.2.2 dX18_call_46
          · skip
            rw [if_neg c_8] at hf
            refine lv_iconst (v := (-1)) hx hb dX18_call_33 (by decide) ?_
            obtain ⟨h8, h9⟩ := ret_some hf
            rw [h8, h9]
            exact W.iret (v := (-1)) hx hb hr (fun t ht hW => ⟨⟨(-1), (), rfl, rfl, by rw [ht]; exact hP, va_K.moved hW.alike hK, hD⟩, hS.F ht⟩) hS.2.2 dX18_call_34

theorem md_X0_put_1 : (.fieldLink RX0 25 "ResourceLedger$Digest" "filled" "I" : Cond) ∈ wsX0_put := List.mem_of_getElem? (i := 1) rfl
theorem iwd_X0_put_X0 : ∀ w ∈ wsX00, w ∈ wsX0_put := fun _ h => List.mem_cons_of_mem _ (List.mem_append_right _ h)
theorem md_X0_put_2 : (.fieldLink RX0 13 "ResourceLedger$Digest" "w" "[I" : Cond) ∈ wsX0_put := List.mem_of_getElem? (i := 2) rfl
theorem md_X0_put_3 : (.fieldLink RX0 29 "ResourceLedger$Digest" "total" "J" : Cond) ∈ wsX0_put := List.mem_of_getElem? (i := 3) rfl
set_option maxHeartbeats 4000000 in
set_option maxRecDepth 100000 in
theorem de_X0_put (l : Launch) (dC : Nat → ClassId) (dI : Nat → Nat → Nat) (cy : Nat → ClassId) (a : Nat → Nat) (sh : Nat → Nat × Nat) (n sz : Nat) (F : Nat) (sk : Nat → Nat) (z : St) (h0 : Nat) (x0 : Int32) {z8 : St} {r8 : Unit} (hf : fn_X0_put F sh n z h0 x0 = some (z8, r8)) : Met l yX0_put wsX0_put ({ frames := 1, cells := 0, slots := 0, locals := 31 }) (va_Pc [.ref (a h0), .int x0] (fun U => U.heap.size = sz ∧ va_P (dC, dI) vwCl (Wd cy a sh n z) U.heap ∧ va_K (dC, dI) vwCl (TYS cy) U ∧ va_D (fun _ => True) (Wd cy a sh n z) ∧ NK U ∧ SKs sk (a CBK) (va_A (Wd cy a sh n z) sz) U U.heap)) (va_Qv (fun u : Unit => True) (fun u t => va_P (dC, dI) vwCl (Wd cy a sh n z8) t.heap ∧ va_K (dC, dI) vwCl (TYS cy) t ∧ va_D (va_A (Wd cy a sh n z) sz) (Wd cy a sh n z8)) (va_A (Wd cy a sh n z) sz)) 0 0 (va_A (Wd cy a sh n z) sz) := by
  refine Met.ofW (cc := cX0_put) (maxL := 3) (ret := none) (by decide) rfl ?_
  intro p e s m args below meth c s₁ B hml hv
  obtain ⟨rfl, hsz, hP, hK, hD0, hN, hSK⟩ := hv
  have hx := B.exec
  have hb := B.bytes
  have hr := B.returns
  have hts := atoms_spec (ws := wsX0_put) B.pre
  have hown : s.vm.findClass RX0 = some m.cls := findClass_of_methodNamed B.named
  have hlocks := B.notSynchronized
  subst hsz
  have hD := hD0.self (sz := s.heap.size)
  clear hD0
  generalize hAe : va_A (Wd cy a sh n z) s.heap.size = A at hD hSK ⊢
  have hA : ∀ q : Nat, s.heap.size ≤ q → A q := fun q h => by rw [← hAe]; exact Or.inr h
  clear hAe
  have hS : va_S A s.heap s.heap [] := va_S.rf
  have hl := lv_entry ([.ref (a h0), .int x0]) (n := 3) (Nat.le_of_ble_eq_true rfl)
  rw [lg_entry_eq]
  generalize (lg_sl ([.ref (a h0), .int x0]) ++ List.replicate (3 - (lg_sl ([.ref (a h0), .int x0])).length) Slot.unset).toArray = ls at hl ⊢
  replace hl : lv_has ls 3 [(0, .ref (a h0)), (1, .int x0)] := hl
  unfold fn_X0_put at hf
  refine de_start hS hP (fun H locs hS hP => ?_)
  refine lv_aload_n hx hb dX0_put_0 rfl (lv_at hl 0 rfl) ?_
  obtain ⟨g_1, hf⟩ := grd_some hf
  obtain ⟨kg_1, sg_1⟩ := okO_at g_1
  refine va_get (D := (dC, dI)) (ci := 0) (v := .int (z.1 h0 2)) (C := RX0) (T := TX0) (N := 4) hx hb hts iwd_X0_put_X0 hown hK hP h0 (Wd_ob kg_1 sg_1 (by decide)) rfl 2 (by decide) (hts _ md_X0_put_1) (fun _ h9 => h9) (fl_at (t := 0) rfl) dX0_put_1 ?_
  refine lv_iconst (v := 2) hx hb dX0_put_4 (by decide) ?_
  refine lv_ishr hx hb dX0_put_5 ?_
  refine lv_topi (fun v_2 ev_2 => ?_)
  replace hf := lt_at ev_2 hf
  clear ev_2
  refine lv_istore_n (lv' := [(2, .int v_2), (0, .ref (a h0)), (1, .int x0)]) hx hb dX0_put_6 rfl hl (by decide) rfl (fun ls hl2 => ?_)
  replace hl := hl2
  clear hl2
  refine lv_aload_n hx hb dX0_put_7 rfl (lv_at hl 1 rfl) ?_
  obtain ⟨k_3, ek_3, hf⟩ := lnk_some hf
  refine va_get (D := (dC, dI)) (ci := 0) (v := .ref (a k_3)) (C := RX0) (T := TX0) (N := 4) hx hb hts iwd_X0_put_X0 hown hK hP h0 (Wd_ob kg_1 sg_1 (by decide)) rfl 1 (by decide) (hts _ md_X0_put_2) (fun _ h9 => h9) (fl_q rfl ek_3) dX0_put_8 ?_
  refine lv_iload_n hx hb dX0_put_11 rfl (lv_at hl 0 rfl) ?_
  refine lv_aload_n hx hb dX0_put_12 rfl (lv_at hl 1 rfl) ?_
  obtain ⟨k_4, ek_4, hf⟩ := lnk_some hf
  refine va_get (D := (dC, dI)) (ci := 0) (v := .ref (a k_4)) (C := RX0) (T := TX0) (N := 4) hx hb hts iwd_X0_put_X0 hown hK hP h0 (Wd_ob kg_1 sg_1 (by decide)) rfl 1 (by decide) (hts _ md_X0_put_2) (fun _ h9 => h9) (fl_q rfl ek_4) dX0_put_13 ?_
  refine lv_iload_n hx hb dX0_put_16 rfl (lv_at hl 0 rfl) ?_
  obtain ⟨g_5, hf⟩ := grd_some hf
  obtain ⟨kg_5, sg_5, ig_5⟩ := okA_at g_5
  refine va_iald hx hb hK hP k_4 1 (Wd_ai kg_5 sg_5) rfl ig_5 dX0_put_17 ?_
  refine lv_bipush (v := 8) hx hb dX0_put_18 (by decide) ?_
  refine lv_ishl hx hb dX0_put_20 ?_
  refine lv_iload_n hx hb dX0_put_21 rfl (lv_at hl 2 rfl) ?_
  refine lv_sipush (v := 255) hx hb dX0_put_22 (by decide) ?_
  refine lv_iand hx hb dX0_put_25 ?_
  refine lv_ior hx hb dX0_put_26 ?_
  obtain ⟨g_6, hf⟩ := grd_some hf
  obtain ⟨kg_6, sg_6, ig_6⟩ := okA_at g_6
  refine va_iast hx hb hK hP hD hS k_3 1 (Wd_ai kg_6 sg_6) rfl ig_6 dX0_put_27 (fun H_7 locs hP2 hD2 hS2 => ?_)
  rw [Wd_ti sg_6] at hP2 hD2
  obtain ⟨z_8, ez_8⟩ : ∃ w, w = si z k_3 v_2.toNatClampNeg (((z.1 k_4 v_2.toNatClampNeg) <<< (8 &&& 31)) ||| (x0 &&& 255)) := ⟨_, rfl⟩
  rw [← ez_8] at hP2 hD2
  replace hf := lt_at ez_8 hf
  clear ez_8
  replace hP := hP2
  replace hD := hD2
  replace hS := hS2
  clear hP2 hD2 hS2
  refine lv_aload_n hx hb dX0_put_28 rfl (lv_at hl 1 rfl) ?_
  refine lv_dup hx hb dX0_put_29 rfl ?_
  refine va_get (D := (dC, dI)) (ci := 0) (v := .int (z_8.1 h0 2)) (C := RX0) (T := TX0) (N := 4) hx hb hts iwd_X0_put_X0 hown hK hP h0 (Wd_ob kg_1 sg_1 (by decide)) rfl 2 (by decide) (hts _ md_X0_put_1) (fun _ h9 => h9) (fl_at (t := 0) rfl) dX0_put_30 ?_
  refine lv_iconst (v := 1) hx hb dX0_put_33 (by decide) ?_
  refine lv_iadd hx hb dX0_put_34 ?_
  refine va_put (D := (dC, dI)) (ci := 0) (v := .int ((z_8.1 h0 2) + 1)) (ty := .int) (C := RX0) (T := TX0) (N := 4) hx hb hts iwd_X0_put_X0 tyX0 tyX0_ok nmX0 hown hK hP hD hS h0 (Wd_ob kg_1 sg_1 (by decide)) rfl 2 (by decide) (hts _ md_X0_put_1) (fun _ h9 => h9) rfl (by decide +kernel) rfl rfl (by rw [fl_len]; decide) dX0_put_35 (fun H_9 locs hP2 hD2 hS2 => ?_)
  rw [Wd_si sg_1 (by decide) rfl] at hP2 hD2
  obtain ⟨z_10, ez_10⟩ : ∃ w, w = si z_8 h0 2 ((z_8.1 h0 2) + 1) := ⟨_, rfl⟩
  rw [← ez_10] at hP2 hD2
  replace hf := lt_at ez_10 hf
  clear ez_10
  replace hP := hP2
  replace hD := hD2
  replace hS := hS2
  clear hP2 hD2 hS2
  refine lv_aload_n hx hb dX0_put_38 rfl (lv_at hl 1 rfl) ?_
  refine lv_dup hx hb dX0_put_39 rfl ?_
  refine va_get (D := (dC, dI)) (ci := 0) (v := .long (z_10.2.1 h0 3)) (C := RX0) (T := TX0) (N := 4) hx hb hts iwd_X0_put_X0 hown hK hP h0 (Wd_ob kg_1 sg_1 (by decide)) rfl 3 (by decide) (hts _ md_X0_put_3) (fun _ h9 => h9) (fl_at (t := 1) rfl) dX0_put_40 ?_
  refine lv_lconst (v := 1) hx hb dX0_put_43 (by decide) ?_
  refine lv_ladd hx hb dX0_put_44 ?_
  refine va_put (D := (dC, dI)) (ci := 0) (v := .long ((z_10.2.1 h0 3) + 1)) (ty := .long) (C := RX0) (T := TX0) (N := 4) hx hb hts iwd_X0_put_X0 tyX0 tyX0_ok nmX0 hown hK hP hD hS h0 (Wd_ob kg_1 sg_1 (by decide)) rfl 3 (by decide) (hts _ md_X0_put_3) (fun _ h9 => h9) rfl (by decide +kernel) rfl rfl (by rw [fl_len]; decide) dX0_put_45 (fun H_11 locs hP2 hD2 hS2 => ?_)
  rw [Wd_sl sg_1 (by decide) rfl] at hP2 hD2
  obtain ⟨z_12, ez_12⟩ : ∃ w, w = sl z_10 h0 3 ((z_10.2.1 h0 3) + 1) := ⟨_, rfl⟩
  rw [← ez_12] at hP2 hD2
  replace hf := lt_at ez_12 hf
  clear ez_12
  replace hP := hP2
  replace hD := hD2
  replace hS := hS2
  clear hP2 hD2 hS2
  refine lv_aload_n hx hb dX0_put_48 rfl (lv_at hl 1 rfl) ?_
  refine va_get (D := (dC, dI)) (ci := 0) (v := .int (z_12.1 h0 2)) (C := RX0) (T := TX0) (N := 4) hx hb hts iwd_X0_put_X0 hown hK hP h0 (Wd_ob kg_1 sg_1 (by decide)) rfl 2 (by decide) (hts _ md_X0_put_1) (fun _ h9 => h9) (fl_at (t := 0) rfl) dX0_put_49 ?_
  refine lv_bipush (v := 64) hx hb dX0_put_52 (by decide) ?_
  refine lv_icmp_ne (tgt := 66) hx hb dX0_put_54 (by decide) (fun c_13 => ?_) (fun c_13 => ?_)
  · skip
    rw [if_neg c_13] at hf
    obtain ⟨h8, h9⟩ := ret_some hf
    rw [h8]
    exact W.vret hx hb hr (fun t ht hW => ⟨⟨(), rfl, trivial, by rw [ht]; exact hP, va_K.moved hW.alike hK, hD⟩, hS.F ht⟩) hS.2.2 dX0_put_66
  · skip
    rw [if_pos c_13] at hf
    refine lv_aload_n hx hb dX0_put_57 rfl (lv_at hl 1 rfl) ?_
    refine lv_iconst (v := 0) hx hb dX0_put_58 (by decide) ?_
    refine va_put (D := (dC, dI)) (ci := 0) (v := .int 0) (ty := .int) (C := RX0) (T := TX0) (N := 4) hx hb hts iwd_X0_put_X0 tyX0 tyX0_ok nmX0 hown hK hP hD hS h0 (Wd_ob kg_1 sg_1 (by decide)) rfl 2 (by decide) (hts _ md_X0_put_1) (fun _ h9 => h9) rfl (by decide +kernel) rfl rfl (by rw [fl_len]; decide) dX0_put_59 (fun H_14 locs hP2 hD2 hS2 => ?_)
    rw [Wd_si sg_1 (by decide) rfl] at hP2 hD2
    obtain ⟨z_15, ez_15⟩ : ∃ w, w = si z_12 h0 2 0 := ⟨_, rfl⟩
    rw [← ez_15] at hP2 hD2
    replace hf := lt_at ez_15 hf
    clear ez_15
    replace hP := hP2
    replace hD := hD2
    replace hS := hS2
    clear hP2 hD2 hS2
    refine lv_aload_n hx hb dX0_put_62 rfl (lv_at hl 1 rfl) ?_
    obtain ⟨z_16, _u, hfc, hf⟩ := cal_some hf
    have hFc := de_free hD hS hA
    refine va_callv (va_runV (As := []) (rest := []) ⟨hx, hb, hml, hown, hts⟩ (de_X0_mix l dC dI cy a sh n H_14.size F sk z_15 h0 hfc) (cwV 0 hts gX0_put_X0_mix rfl rfl rfl (by decide +kernel) ⟨Nat.le_of_ble_eq_true rfl, Nat.le_of_ble_eq_true rfl⟩) ⟨fun a U g mk q => by obtain ⟨q0, q1, qP, qK, qD, qN, qS⟩ := q; exact ⟨q0, q1, qP, va_K.moved (u := U) (U := U.calling g mk a) (Vm.Alike.refl U.vm) qK, qD, qN.same rfl, SKs.moved (u := U) (U := U.calling g mk a) (Vm.Alike.refl U.vm) qS⟩, va_recv hK hP (ci := 0) (q0 := h0) rfl (Wd_ob kg_1 sg_1 (by decide)), fun U hU hW => ⟨rfl, by rw [hU], by rw [hU]; exact hP, va_K.moved hW.alike hK, hD.weaken (fun _ _ _ _ => trivial), hN.warm hW, by rw [hU]; exact ((hSK.kept hS.2.1).narrow hFc).moved hW.alike⟩⟩ rfl rfl hl.1 rfl (lv_room (Nat.le_of_ble_eq_true rfl)) dX0_put_63 ⟨Nat.le_of_ble_eq_true rfl, Nat.le_of_ble_eq_true rfl⟩) hS (fun q _ h => hFc q h) hFc (fun u t H_17 locs ht hvm hw hB hz1 hk1 hS2 => ?_)
    obtain ⟨hP1, -, hD1⟩ := hB
    rw [ht] at hP1
    replace hD := hD1.weaken (fun _ _ _ h => hFc _ h)
    replace hP := hP1
    replace hS := hS2
    clear hP1 hD1 hS2 hFc hfc hz1 hk1 hvm ht
    obtain ⟨h8, h9⟩ := ret_some hf
    rw [h8]
    exact W.vret hx hb hr (fun t ht hW => ⟨⟨(), rfl, trivial, by rw [ht]; exact hP, va_K.moved hW.alike hK, hD⟩, hS.F ht⟩) hS.2.2 dX0_put_66

theorem md_X10_add_1 : (.fieldLink RX10 21 "ResourceLedger$Wide" "low" "J" : Cond) ∈ wsX10_add := List.mem_of_getElem? (i := 1) rfl
theorem iwd_X10_add_X10 : ∀ w ∈ wsX100, w ∈ wsX10_add := fun _ h => List.mem_cons_of_mem _ (List.mem_append_right _ h)
theorem md_X10_add_2 : (.fieldLink RX10 17 "ResourceLedger$Wide" "high" "J" : Cond) ∈ wsX10_add := List.mem_of_getElem? (i := 2) rfl
theorem md_X10_add_3 : (.fieldLink RX10 24 "ResourceLedger$Wide" "beyond" "Z" : Cond) ∈ wsX10_add := List.mem_of_getElem? (i := 3) rfl
set_option maxHeartbeats 4000000 in
set_option maxRecDepth 100000 in
theorem de_X10_add (l : Launch) (dC : Nat → ClassId) (dI : Nat → Nat → Nat) (cy : Nat → ClassId) (a : Nat → Nat) (sh : Nat → Nat × Nat) (n sz : Nat) (F : Nat) (z : St) (h0 : Nat) (x0 : Int64) (x1 : Int64) {z8 : St} {r8 : Unit} (hf : fn_X10_add F sh n z h0 x0 x1 = some (z8, r8)) : Met l yX10_add wsX10_add ({ frames := 1, cells := 0, slots := 0, locals := 23 }) (va_Pc [.ref (a h0), .long x0, .long x1] (fun U => U.heap.size = sz ∧ va_P (dC, dI) vwCl (Wd cy a sh n z) U.heap ∧ va_K (dC, dI) vwCl (TYS cy) U ∧ va_D (fun _ => True) (Wd cy a sh n z) ∧ NK U)) (va_Qv (fun u : Unit => True) (fun u t => va_P (dC, dI) vwCl (Wd cy a sh n z8) t.heap ∧ va_K (dC, dI) vwCl (TYS cy) t ∧ va_D (va_A (Wd cy a sh n z) sz) (Wd cy a sh n z8)) (va_A (Wd cy a sh n z) sz)) 0 0 (va_A (Wd cy a sh n z) sz) := by
  refine Met.ofW (cc := cX10_add) (maxL := 13) (ret := none) (by decide) rfl ?_
  intro p e s m args below meth c s₁ B hml hv
  obtain ⟨rfl, hsz, hP, hK, hD0, hN⟩ := hv
  have hx := B.exec
  have hb := B.bytes
  have hr := B.returns
  have hts := atoms_spec (ws := wsX10_add) B.pre
  have hown : s.vm.findClass RX10 = some m.cls := findClass_of_methodNamed B.named
  have hlocks := B.notSynchronized
  subst hsz
  have hD := hD0.self (sz := s.heap.size)
  clear hD0
  generalize hAe : va_A (Wd cy a sh n z) s.heap.size = A at hD ⊢
  have hA : ∀ q : Nat, s.heap.size ≤ q → A q := fun q h => by rw [← hAe]; exact Or.inr h
  clear hAe
  have hS : va_S A s.heap s.heap [] := va_S.rf
  have hl := lv_entry ([.ref (a h0), .long x0, .long x1]) (n := 13) (Nat.le_of_ble_eq_true rfl)
  rw [lg_entry_eq]
  generalize (lg_sl ([.ref (a h0), .long x0, .long x1]) ++ List.replicate (13 - (lg_sl ([.ref (a h0), .long x0, .long x1])).length) Slot.unset).toArray = ls at hl ⊢
  replace hl : lv_has ls 13 [(0, .ref (a h0)), (1, .long x0), (3, .long x1)] := hl
  unfold fn_X10_add at hf
  refine de_start hS hP (fun H locs hS hP => ?_)
  refine lv_aload_n hx hb dX10_add_0 rfl (lv_at hl 0 rfl) ?_
  obtain ⟨g_1, hf⟩ := grd_some hf
  obtain ⟨kg_1, sg_1⟩ := okO_at g_1
  refine va_get (D := (dC, dI)) (ci := 10) (v := .long (z.2.1 h0 1)) (C := RX10) (T := TX10) (N := 5) hx hb hts iwd_X10_add_X10 hown hK hP h0 (Wd_ob kg_1 sg_1 (by decide)) rfl 1 (by decide) (hts _ md_X10_add_1) (fun _ h9 => h9) (fl_at (t := 1) rfl) dX10_add_1 ?_
  refine lv_lload_n hx hb dX10_add_4 rfl (lv_at hl 2 rfl) ?_
  refine lv_ladd hx hb dX10_add_5 ?_
  refine lv_topl (fun v_2 ev_2 => ?_)
  replace hf := lt_at ev_2 hf
  clear ev_2
  refine lv_lstore (lv' := [(5, .long v_2), (0, .ref (a h0)), (1, .long x0), (3, .long x1)]) hx hb dX10_add_6 hl (by decide) rfl (fun ls hl2 => ?_)
  replace hl := hl2
  clear hl2
  refine lv_lload hx hb dX10_add_8 (lv_at hl 0 rfl) ?_
  refine lv_lload_n hx hb dX10_add_10 rfl (lv_at hl 3 rfl) ?_
  obtain ⟨z_3, r_4, hfc, hf⟩ := cal_some hf
  have hFc := de_free hD hS hA
  refine va_calli (va_runS (As := [.long v_2, .long x1]) (rest := []) ⟨hx, hb, hml, hown, hts⟩ (de_X10_below l dC dI cy a sh n H.size F z v_2 x1 hfc) (va_cwS 2 hts gX10_add_X10_below rfl rfl rfl (by decide +kernel) ⟨Nat.le_of_ble_eq_true rfl, Nat.le_of_ble_eq_true rfl⟩) ⟨fun a U g mk q => by obtain ⟨q0, q1, qP, qK, qD, qN⟩ := q; exact ⟨q0, q1, qP, va_K.moved (u := U) (U := U.calling g mk a) (Vm.Alike.refl U.vm) qK, qD, qN.same rfl⟩, fun U hU hW => ⟨rfl, by rw [hU], by rw [hU]; exact hP, va_K.moved hW.alike hK, hD.weaken (fun _ _ _ _ => trivial), hN.warm hW⟩⟩ rfl rfl hl.1 rfl (lv_room (Nat.le_of_ble_eq_true rfl)) dX10_add_11 ⟨Nat.le_of_ble_eq_true rfl, Nat.le_of_ble_eq_true rfl⟩) hS (fun q _ h => hFc q h) hFc (fun rr u t H_5 locs ht hvm hw hB hz1 hk1 hS2 => ?_)
  rw [hw]
  clear hw
  obtain ⟨hP1, -, hD1⟩ := hB
  rw [ht] at hP1
  replace hD := hD1.weaken (fun _ _ _ h => hFc _ h)
  replace hP := hP1
  replace hS := hS2
  clear hP1 hD1 hS2 hFc hfc hz1 hk1 hvm ht
  refine de_cut (h := 22) (fun (x : St × Int64) => [.long x.2]) (fun x ls H locs => lv_has ls 13 [(5, .long v_2), (0, .ref (a h0)), (1, .long x0)] ∧ va_P (dC, dI) vwCl (Wd cy a sh n x.1) H ∧ va_D A (Wd cy a sh n x.1) ∧ va_S A s.heap H locs) (fun x => fn_X10_add_B22 F sh n h0 x0 v_2 x.1 x.2) (z8, r8) ?_ (fun B22 => ?_)
  · intro x ls H locs hI hf
    obtain ⟨z_7, p_6⟩ := x
    obtain ⟨hl2, hP2, hD2, hS2⟩ := hI
    replace hl : lv_has ls 13 [(5, .long v_2), (0, .ref (a h0)), (1, .long x0)] := hl2
    replace hP := hP2
    replace hD := hD2
    replace hS := hS2
    clear hl2 hP2 hD2 hS2
    replace hf := fn_X10_add_B22_s hf
    refine W.eq (g2 := F0 m 22 ls [.long p_6]) rfl ?_
    refine lv_lstore (lv' := [(7, .long p_6), (5, .long v_2), (0, .ref (a h0)), (1, .long x0)]) hx hb dX10_add_22 hl (by decide) rfl (fun ls hl2 => ?_)
    replace hl := hl2
    clear hl2
    refine lv_aload_n hx hb dX10_add_24 rfl (lv_at hl 2 rfl) ?_
    refine va_get (D := (dC, dI)) (ci := 10) (v := .long (z_7.2.1 h0 0)) (C := RX10) (T := TX10) (N := 5) hx hb hts iwd_X10_add_X10 hown hK hP h0 (Wd_ob kg_1 sg_1 (by decide)) rfl 0 (by decide) (hts _ md_X10_add_2) (fun _ h9 => h9) (fl_at (t := 1) rfl) dX10_add_25 ?_
    refine lv_lload_n hx hb dX10_add_28 rfl (lv_at hl 3 rfl) ?_
    refine lv_ladd hx hb dX10_add_29 ?_
    refine lv_topl (fun v_8 ev_8 => ?_)
    replace hf := lt_at ev_8 hf
    clear ev_8
    refine lv_lstore (lv' := [(9, .long v_8), (7, .long p_6), (5, .long v_2), (0, .ref (a h0)), (1, .long x0)]) hx hb dX10_add_30 hl (by decide) rfl (fun ls hl2 => ?_)
    replace hl := hl2
    clear hl2
    refine lv_lload hx hb dX10_add_32 (lv_at hl 0 rfl) ?_
    refine lv_lload hx hb dX10_add_34 (lv_at hl 1 rfl) ?_
    refine lv_ladd hx hb dX10_add_36 ?_
    refine lv_topl (fun v_9 ev_9 => ?_)
    replace hf := lt_at ev_9 hf
    clear ev_9
    refine lv_lstore (lv' := [(11, .long v_9), (9, .long v_8), (7, .long p_6), (5, .long v_2), (0, .ref (a h0)), (1, .long x0)]) hx hb dX10_add_37 hl (by decide) rfl (fun ls hl2 => ?_)
    replace hl := hl2
    clear hl2
    refine lv_aload_n hx hb dX10_add_39 rfl (lv_at hl 4 rfl) ?_
    refine lv_lload hx hb dX10_add_40 (lv_at hl 1 rfl) ?_
    refine lv_lload_n hx hb dX10_add_42 rfl (lv_at hl 5 rfl) ?_
    obtain ⟨z_10, r_11, hfc, hf⟩ := cal_some hf
    have hFc := de_free hD hS hA
    refine va_calli (va_runS (As := [.long v_8, .long x0]) (rest := [.ref (a h0)]) ⟨hx, hb, hml, hown, hts⟩ (de_X10_below l dC dI cy a sh n H.size F z_7 v_8 x0 hfc) (va_cwS 2 hts gX10_add_X10_below rfl rfl rfl (by decide +kernel) ⟨Nat.le_of_ble_eq_true rfl, Nat.le_of_ble_eq_true rfl⟩) ⟨fun a U g mk q => by obtain ⟨q0, q1, qP, qK, qD, qN⟩ := q; exact ⟨q0, q1, qP, va_K.moved (u := U) (U := U.calling g mk a) (Vm.Alike.refl U.vm) qK, qD, qN.same rfl⟩, fun U hU hW => ⟨rfl, by rw [hU], by rw [hU]; exact hP, va_K.moved hW.alike hK, hD.weaken (fun _ _ _ _ => trivial), hN.warm hW⟩⟩ rfl rfl hl.1 rfl (lv_room (Nat.le_of_ble_eq_true rfl)) dX10_add_43 ⟨Nat.le_of_ble_eq_true rfl, Nat.le_of_ble_eq_true rfl⟩) hS (fun q _ h => hFc q h) hFc (fun rr u t H_12 locs ht hvm hw hB hz1 hk1 hS2 => ?_)
    rw [hw]
    clear hw
    obtain ⟨hP1, -, hD1⟩ := hB
    rw [ht] at hP1
    replace hD := hD1.weaken (fun _ _ _ h => hFc _ h)
    replace hP := hP1
    replace hS := hS2
    clear hP1 hD1 hS2 hFc hfc hz1 hk1 hvm ht
    refine de_cut (h := 64) (fun (x : St × Int32) => [.int x.2, .ref (a h0)]) (fun x ls H locs => lv_has ls 13 [(11, .long v_9), (5, .long v_2), (0, .ref (a h0))] ∧ va_P (dC, dI) vwCl (Wd cy a sh n x.1) H ∧ va_D A (Wd cy a sh n x.1) ∧ va_S A s.heap H locs) (fun x => fn_X10_add_B64 F sh n h0 v_9 v_2 x.1 x.2) (z8, r8) ?_ (fun B64 => ?_)
    · intro x ls H locs hI hf
      obtain ⟨z_14, p_13⟩ := x
      obtain ⟨hl2, hP2, hD2, hS2⟩ := hI
      replace hl : lv_has ls 13 [(11, .long v_9), (5, .long v_2), (0, .ref (a h0))] := hl2
      replace hP := hP2
      replace hD := hD2
      replace hS := hS2
      clear hl2 hP2 hD2 hS2
      replace hf := fn_X10_add_B64_s hf
      refine W.eq (g2 := F0 m 64 ls [.int p_13, .ref (a h0)]) rfl ?_
      obtain ⟨g_15, hf⟩ := grd_some hf
      refine va_put (D := (dC, dI)) (ci := 10) (v := .int p_13) (ty := .boolean) (C := RX10) (T := TX10) (N := 5) hx hb hts iwd_X10_add_X10 tyX10 tyX10_ok nmX10 hown hK hP hD hS h0 (Wd_ob kg_1 sg_1 (by decide)) rfl 2 (by decide) (hts _ md_X10_add_3) (fun _ h9 => h9) rfl (by decide +kernel) (nar_z g_15) (fit_z g_15) (by rw [fl_len]; decide) dX10_add_64 (fun H_16 locs hP2 hD2 hS2 => ?_)
      rw [Wd_si sg_1 (by decide) rfl] at hP2 hD2
      obtain ⟨z_17, ez_17⟩ : ∃ w, w = si z_14 h0 2 p_13 := ⟨_, rfl⟩
      rw [← ez_17] at hP2 hD2
      replace hf := lt_at ez_17 hf
      clear ez_17
      replace hP := hP2
      replace hD := hD2
      replace hS := hS2
      clear hP2 hD2 hS2
      refine lv_aload_n hx hb dX10_add_67 rfl (lv_at hl 2 rfl) ?_
      refine lv_lload hx hb dX10_add_68 (lv_at hl 0 rfl) ?_
      refine va_put (D := (dC, dI)) (ci := 10) (v := .long v_9) (ty := .long) (C := RX10) (T := TX10) (N := 5) hx hb hts iwd_X10_add_X10 tyX10 tyX10_ok nmX10 hown hK hP hD hS h0 (Wd_ob kg_1 sg_1 (by decide)) rfl 0 (by decide) (hts _ md_X10_add_2) (fun _ h9 => h9) rfl (by decide +kernel) rfl rfl (by rw [fl_len]; decide) dX10_add_70 (fun H_18 locs hP2 hD2 hS2 => ?_)
      rw [Wd_sl sg_1 (by decide) rfl] at hP2 hD2
      obtain ⟨z_19, ez_19⟩ : ∃ w, w = sl z_17 h0 0 v_9 := ⟨_, rfl⟩
      rw [← ez_19] at hP2 hD2
      replace hf := lt_at ez_19 hf
      clear ez_19
      replace hP := hP2
      replace hD := hD2
      replace hS := hS2
      clear hP2 hD2 hS2
      refine lv_aload_n hx hb dX10_add_73 rfl (lv_at hl 2 rfl) ?_
      refine lv_lload hx hb dX10_add_74 (lv_at hl 1 rfl) ?_
      refine va_put (D := (dC, dI)) (ci := 10) (v := .long v_2) (ty := .long) (C := RX10) (T := TX10) (N := 5) hx hb hts iwd_X10_add_X10 tyX10 tyX10_ok nmX10 hown hK hP hD hS h0 (Wd_ob kg_1 sg_1 (by decide)) rfl 1 (by decide) (hts _ md_X10_add_1) (fun _ h9 => h9) rfl (by decide +kernel) rfl rfl (by rw [fl_len]; decide) dX10_add_76 (fun H_20 locs hP2 hD2 hS2 => ?_)
      rw [Wd_sl sg_1 (by decide) rfl] at hP2 hD2
      obtain ⟨z_21, ez_21⟩ : ∃ w, w = sl z_19 h0 1 v_2 := ⟨_, rfl⟩
      rw [← ez_21] at hP2 hD2
      replace hf := lt_at ez_21 hf
      clear ez_21
      replace hP := hP2
      replace hD := hD2
      replace hS := hS2
      clear hP2 hD2 hS2
      obtain ⟨h8, h9⟩ := ret_some hf
      rw [h8]
      exact W.vret hx hb hr (fun t ht hW => ⟨⟨(), rfl, trivial, by rw [ht]; exact hP, va_K.moved hW.alike hK, hD⟩, hS.F ht⟩) hS.2.2 dX10_add_79
    refine de_cut (h := 59) (fun (x : St) => [.ref (a h0)]) (fun x ls H locs => lv_has ls 13 [(11, .long v_9), (5, .long v_2), (0, .ref (a h0))] ∧ va_P (dC, dI) vwCl (Wd cy a sh n x) H ∧ va_D A (Wd cy a sh n x) ∧ va_S A s.heap H locs) (fun x => fn_X10_add_B59 F sh n h0 v_9 v_2 x) (z8, r8) ?_ (fun B59 => ?_)
    · intro x ls H locs hI hf
      obtain ⟨z_22, ez⟩ : ∃ w, w = x := ⟨_, rfl⟩
      subst ez
      obtain ⟨hl2, hP2, hD2, hS2⟩ := hI
      replace hl : lv_has ls 13 [(11, .long v_9), (5, .long v_2), (0, .ref (a h0))] := hl2
      replace hP := hP2
      replace hD := hD2
      replace hS := hS2
      clear hl2 hP2 hD2 hS2
      replace hf := fn_X10_add_B59_s hf
      refine W.eq (g2 := F0 m 59 ls [.ref (a h0)]) rfl ?_
      refine lv_iconst (v := 1) hx hb dX10_add_59 (by decide) ?_
      refine lv_goto (tgt := 64) hx hb dX10_add_60 (by decide) ?_
      exact B64 (z_22, 1) ls H locs ⟨lv_sub hl [0, 1, 2] rfl, hP, hD, hS⟩ hf
    refine lv_if_ne (tgt := 59) hx hb dX10_add_46 (by decide) (fun c_23 => ?_) (fun c_23 => ?_)
    · skip
      rw [if_neg c_23] at hf
      exact B59 (z_10) ls H_12 locs ⟨lv_sub hl [0, 3, 4] rfl, hP, hD, hS⟩ hf
    · skip
      rw [if_pos c_23] at hf
      refine lv_lload hx hb dX10_add_49 (lv_at hl 0 rfl) ?_
      refine lv_lload hx hb dX10_add_51 (lv_at hl 2 rfl) ?_
      obtain ⟨z_24, r_25, hfc, hf⟩ := cal_some hf
      have hFc := de_free hD hS hA
      refine va_calli (va_runS (As := [.long v_9, .long p_6]) (rest := [.ref (a h0)]) ⟨hx, hb, hml, hown, hts⟩ (de_X10_below l dC dI cy a sh n H_12.size F z_10 v_9 p_6 hfc) (va_cwS 2 hts gX10_add_X10_below rfl rfl rfl (by decide +kernel) ⟨Nat.le_of_ble_eq_true rfl, Nat.le_of_ble_eq_true rfl⟩) ⟨fun a U g mk q => by obtain ⟨q0, q1, qP, qK, qD, qN⟩ := q; exact ⟨q0, q1, qP, va_K.moved (u := U) (U := U.calling g mk a) (Vm.Alike.refl U.vm) qK, qD, qN.same rfl⟩, fun U hU hW => ⟨rfl, by rw [hU], by rw [hU]; exact hP, va_K.moved hW.alike hK, hD.weaken (fun _ _ _ _ => trivial), hN.warm hW⟩⟩ rfl rfl hl.1 rfl (lv_room (Nat.le_of_ble_eq_true rfl)) dX10_add_53 ⟨Nat.le_of_ble_eq_true rfl, Nat.le_of_ble_eq_true rfl⟩) hS (fun q _ h => hFc q h) hFc (fun rr u t H_26 locs ht hvm hw hB hz1 hk1 hS2 => ?_)
      rw [hw]
      clear hw
      obtain ⟨hP1, -, hD1⟩ := hB
      rw [ht] at hP1
      replace hD := hD1.weaken (fun _ _ _ h => hFc _ h)
      replace hP := hP1
      replace hS := hS2
      clear hP1 hD1 hS2 hFc hfc hz1 hk1 hvm ht
      refine lv_if_eq (tgt := 63) hx hb dX10_add_56 (by decide) (fun c_27 => ?_) (fun c_27 => ?_)
      · skip
        rw [if_pos c_27] at hf
        refine lv_iconst (v := 0) hx hb dX10_add_63 (by decide) ?_
        exact B64 (z_24, 0) ls H_26 locs ⟨lv_sub hl [0, 3, 4] rfl, hP, hD, hS⟩ hf
      · skip
        rw [if_neg c_27] at hf
        exact B59 (z_24) ls H_26 locs ⟨lv_sub hl [0, 3, 4] rfl, hP, hD, hS⟩ hf
  refine lv_if_eq (tgt := 21) hx hb dX10_add_14 (by decide) (fun c_28 => ?_) (fun c_28 => ?_)
  · skip
    rw [if_pos c_28] at hf
    refine lv_lconst (v := 0) hx hb dX10_add_21 (by decide) ?_
    exact B22 (z_3, 0) ls H_5 locs ⟨lv_sub hl [0, 1, 2] rfl, hP, hD, hS⟩ hf
  · skip
    rw [if_neg c_28] at hf
    refine lv_lconst (v := 1) hx hb dX10_add_17 (by decide) ?_
    refine lv_goto (tgt := 22) hx hb dX10_add_18 (by decide) ?_
    exact B22 (z_3, 1) ls H_5 locs ⟨lv_sub hl [0, 1, 2] rfl, hP, hD, hS⟩ hf

theorem md_X18_loadOne_1 : (.fieldLink RX18 34 "ResourceLedgerModel" "rowAt" "I" : Cond) ∈ wsX18_loadOne := List.mem_of_getElem? (i := 1) rfl
theorem iwd_X18_loadOne_X18 : ∀ w ∈ wsX180, w ∈ wsX18_loadOne := fun _ h => List.mem_cons_of_mem _ (List.mem_append_left _ (List.mem_append_right _ h))
theorem md_X18_loadOne_2 : (.fieldLink RX18 40 "ResourceLedgerModel" "trees" "LResourceLedgerModel$Trees;" : Cond) ∈ wsX18_loadOne := List.mem_of_getElem? (i := 2) rfl
theorem md_X18_loadOne_3 : (.fieldLink RX18 44 "ResourceLedgerModel" "rowKinds" "[B" : Cond) ∈ wsX18_loadOne := List.mem_of_getElem? (i := 3) rfl
theorem md_X18_loadOne_4 : (.fieldLink RX18 48 "ResourceLedgerModel" "rowHighs" "[J" : Cond) ∈ wsX18_loadOne := List.mem_of_getElem? (i := 4) rfl
theorem md_X18_loadOne_5 : (.fieldLink RX18 51 "ResourceLedgerModel" "rowLows" "[J" : Cond) ∈ wsX18_loadOne := List.mem_of_getElem? (i := 5) rfl
theorem md_X18_loadOne_6 : (.fieldLink RX18 60 "ResourceLedgerModel" "rowParts" "[I" : Cond) ∈ wsX18_loadOne := List.mem_of_getElem? (i := 6) rfl
set_option maxHeartbeats 4000000 in
set_option maxRecDepth 100000 in
theorem de_X18_loadOne (l : Launch) (dC : Nat → ClassId) (dI : Nat → Nat → Nat) (cy : Nat → ClassId) (a : Nat → Nat) (sh : Nat → Nat × Nat) (n F : Nat) : ∀ (d sz : Nat) (z : St) (h0 : Nat) {z8 : St} {r8 : Int32} (_ : fn_X18_loadOne F sh n d z h0 = some (z8, r8)), Met l yX18_loadOne wsX18_loadOne ({ frames := d + 1, cells := 0, slots := 0, locals := d * 23 + 26 }) (va_Pc [.ref (a h0)] (fun U => U.heap.size = sz ∧ va_P (dC, dI) vwCl (Wd cy a sh n z) U.heap ∧ va_K (dC, dI) vwCl (TYS cy) U ∧ va_D (fun _ => True) (Wd cy a sh n z) ∧ NK U)) (va_Qi (fun (r9 : Int32) (u : Unit) => r9 = r8) (fun u t => va_P (dC, dI) vwCl (Wd cy a sh n z8) t.heap ∧ va_K (dC, dI) vwCl (TYS cy) t ∧ va_D (va_A (Wd cy a sh n z) sz) (Wd cy a sh n z8)) (va_A (Wd cy a sh n z) sz)) 0 0 (va_A (Wd cy a sh n z) sz) := by
  intro d
  induction d with
  | zero => intro sz z h0 z8 r8 hf; exact absurd hf (by simp [fn_X18_loadOne])
  | succ d ihd =>
  intro sz z h0 z8 r8 hf
  refine Met.ofW (cc := cX18_loadOne) (maxL := 4) (ret := (some .int)) (by decide) rfl ?_
  intro p e s m args below meth c s₁ B hml hv
  obtain ⟨rfl, hsz, hP, hK, hD0, hN⟩ := hv
  have hx := B.exec
  have hb := B.bytes
  have hr := B.returns
  have hts := atoms_spec (ws := wsX18_loadOne) B.pre
  have hown : s.vm.findClass RX18 = some m.cls := findClass_of_methodNamed B.named
  have hlocks := B.notSynchronized
  subst hsz
  have hD := hD0.self (sz := s.heap.size)
  clear hD0
  generalize hAe : va_A (Wd cy a sh n z) s.heap.size = A at hD ⊢
  have hA : ∀ q : Nat, s.heap.size ≤ q → A q := fun q h => by rw [← hAe]; exact Or.inr h
  clear hAe
  have hS : va_S A s.heap s.heap [] := va_S.rf
  have hl := lv_entry ([.ref (a h0)]) (n := 4) (Nat.le_of_ble_eq_true rfl)
  rw [lg_entry_eq]
  generalize (lg_sl ([.ref (a h0)]) ++ List.replicate (4 - (lg_sl ([.ref (a h0)])).length) Slot.unset).toArray = ls at hl ⊢
  replace hl : lv_has ls 4 [(0, .ref (a h0))] := hl
  replace hf := fn_X18_loadOne_s hf
  refine de_start hS hP (fun H locs hS hP => ?_)
  refine lv_aload_n hx hb dX18_loadOne_0 rfl (lv_at hl 0 rfl) ?_
  obtain ⟨g_1, hf⟩ := grd_some hf
  obtain ⟨kg_1, sg_1⟩ := okO_at g_1
  refine va_get (D := (dC, dI)) (ci := 18) (v := .int (z.1 h0 14)) (C := RX18) (T := TX18) (N := 78) hx hb hts iwd_X18_loadOne_X18 hown hK hP h0 (Wd_ob kg_1 sg_1 (by decide)) rfl 14 (by decide) (hts _ md_X18_loadOne_1) (fun _ h9 => h9) (fl_at (t := 0) rfl) dX18_loadOne_1 ?_
  refine lv_topi (fun v_2 ev_2 => ?_)
  replace hf := lt_at ev_2 hf
  clear ev_2
  refine lv_istore_n (lv' := [(1, .int v_2), (0, .ref (a h0))]) hx hb dX18_loadOne_4 rfl hl (by decide) rfl (fun ls hl2 => ?_)
  replace hl := hl2
  clear hl2
  refine lv_aload_n hx hb dX18_loadOne_5 rfl (lv_at hl 1 rfl) ?_
  refine lv_dup hx hb dX18_loadOne_6 rfl ?_
  refine va_get (D := (dC, dI)) (ci := 18) (v := .int (z.1 h0 14)) (C := RX18) (T := TX18) (N := 78) hx hb hts iwd_X18_loadOne_X18 hown hK hP h0 (Wd_ob kg_1 sg_1 (by decide)) rfl 14 (by decide) (hts _ md_X18_loadOne_1) (fun _ h9 => h9) (fl_at (t := 0) rfl) dX18_loadOne_7 ?_
  refine lv_iconst (v := 1) hx hb dX18_loadOne_10 (by decide) ?_
  refine lv_iadd hx hb dX18_loadOne_11 ?_
  refine va_put (D := (dC, dI)) (ci := 18) (v := .int ((z.1 h0 14) + 1)) (ty := .int) (C := RX18) (T := TX18) (N := 78) hx hb hts iwd_X18_loadOne_X18 tyX18 tyX18_ok nmX18 hown hK hP hD hS h0 (Wd_ob kg_1 sg_1 (by decide)) rfl 14 (by decide) (hts _ md_X18_loadOne_1) (fun _ h9 => h9) rfl (by decide +kernel) rfl rfl (by rw [fl_len]; decide) dX18_loadOne_12 (fun H_3 locs hP2 hD2 hS2 => ?_)
  rw [Wd_si sg_1 (by decide) rfl] at hP2 hD2
  obtain ⟨z_4, ez_4⟩ : ∃ w, w = si z h0 14 ((z.1 h0 14) + 1) := ⟨_, rfl⟩
  rw [← ez_4] at hP2 hD2
  replace hf := lt_at ez_4 hf
  clear ez_4
  replace hP := hP2
  replace hD := hD2
  replace hS := hS2
  clear hP2 hD2 hS2
  refine lv_aload_n hx hb dX18_loadOne_15 rfl (lv_at hl 1 rfl) ?_
  obtain ⟨k_5, ek_5, hf⟩ := lnk_some hf
  refine va_get (D := (dC, dI)) (ci := 18) (v := .ref (a k_5)) (C := RX18) (T := TX18) (N := 78) hx hb hts iwd_X18_loadOne_X18 hown hK hP h0 (Wd_ob kg_1 sg_1 (by decide)) rfl 15 (by decide) (hts _ md_X18_loadOne_2) (fun _ h9 => h9) (fl_q rfl ek_5) dX18_loadOne_16 ?_
  refine lv_aload_n hx hb dX18_loadOne_19 rfl (lv_at hl 1 rfl) ?_
  obtain ⟨k_6, ek_6, hf⟩ := lnk_some hf
  refine va_get (D := (dC, dI)) (ci := 18) (v := .ref (a k_6)) (C := RX18) (T := TX18) (N := 78) hx hb hts iwd_X18_loadOne_X18 hown hK hP h0 (Wd_ob kg_1 sg_1 (by decide)) rfl 10 (by decide) (hts _ md_X18_loadOne_3) (fun _ h9 => h9) (fl_q rfl ek_6) dX18_loadOne_20 ?_
  refine lv_iload_n hx hb dX18_loadOne_23 rfl (lv_at hl 0 rfl) ?_
  obtain ⟨g_7, hf⟩ := grd_some hf
  obtain ⟨kg_7, sg_7, ig_7⟩ := okA_at g_7
  refine va_bald hx hb hK hP k_6 0 (Wd_ab kg_7 sg_7) rfl ig_7 dX18_loadOne_24 ?_
  refine lv_aload_n hx hb dX18_loadOne_25 rfl (lv_at hl 1 rfl) ?_
  obtain ⟨k_8, ek_8, hf⟩ := lnk_some hf
  refine va_get (D := (dC, dI)) (ci := 18) (v := .ref (a k_8)) (C := RX18) (T := TX18) (N := 78) hx hb hts iwd_X18_loadOne_X18 hown hK hP h0 (Wd_ob kg_1 sg_1 (by decide)) rfl 11 (by decide) (hts _ md_X18_loadOne_4) (fun _ h9 => h9) (fl_q rfl ek_8) dX18_loadOne_26 ?_
  refine lv_iload_n hx hb dX18_loadOne_29 rfl (lv_at hl 0 rfl) ?_
  obtain ⟨g_9, hf⟩ := grd_some hf
  obtain ⟨kg_9, sg_9, ig_9⟩ := okA_at g_9
  refine va_lald hx hb hK hP k_8 2 (Wd_al kg_9 sg_9) rfl ig_9 dX18_loadOne_30 ?_
  refine lv_aload_n hx hb dX18_loadOne_31 rfl (lv_at hl 1 rfl) ?_
  obtain ⟨k_10, ek_10, hf⟩ := lnk_some hf
  refine va_get (D := (dC, dI)) (ci := 18) (v := .ref (a k_10)) (C := RX18) (T := TX18) (N := 78) hx hb hts iwd_X18_loadOne_X18 hown hK hP h0 (Wd_ob kg_1 sg_1 (by decide)) rfl 12 (by decide) (hts _ md_X18_loadOne_5) (fun _ h9 => h9) (fl_q rfl ek_10) dX18_loadOne_32 ?_
  refine lv_iload_n hx hb dX18_loadOne_35 rfl (lv_at hl 0 rfl) ?_
  obtain ⟨g_11, hf⟩ := grd_some hf
  obtain ⟨kg_11, sg_11, ig_11⟩ := okA_at g_11
  refine va_lald hx hb hK hP k_10 2 (Wd_al kg_11 sg_11) rfl ig_11 dX18_loadOne_36 ?_
  obtain ⟨g_14, hf⟩ := grd_some hf
  obtain ⟨kg_14, sg_14⟩ := okO_at g_14
  obtain ⟨z_12, r_13, hfc, hf⟩ := cal_some hf
  have hFc := de_free hD hS hA
  refine va_calli (va_runV (As := [.int (z_4.1 k_6 v_2.toNatClampNeg), .long (z_4.2.1 k_8 v_2.toNatClampNeg), .long (z_4.2.1 k_10 v_2.toNatClampNeg)]) (rest := []) ⟨hx, hb, hml, hown, hts⟩ (de_X15_make l dC dI cy a sh n H_3.size F z_4 k_5 (z_4.1 k_6 v_2.toNatClampNeg) (z_4.2.1 k_8 v_2.toNatClampNeg) (z_4.2.1 k_10 v_2.toNatClampNeg) hfc) (cwV 3 hts gX18_loadOne_X15_make rfl rfl rfl (by decide +kernel) ⟨by show _ ≤ d + 1 + 1; (try dsimp only); omega, by show _ ≤ (d + 1) * 23 + 26; (try dsimp only); omega⟩) ⟨fun a U g mk q => by obtain ⟨q0, q1, qP, qK, qD, qN⟩ := q; exact ⟨q0, q1, qP, va_K.moved (u := U) (U := U.calling g mk a) (Vm.Alike.refl U.vm) qK, qD, qN.same rfl⟩, va_recv hK hP (ci := 15) (q0 := k_5) rfl (Wd_ob kg_14 sg_14 (by decide)), fun U hU hW => ⟨rfl, by rw [hU], by rw [hU]; exact hP, va_K.moved hW.alike hK, hD.weaken (fun _ _ _ _ => trivial), hN.warm hW⟩⟩ rfl rfl hl.1 rfl (lv_room (Nat.le_of_ble_eq_true rfl)) dX18_loadOne_37 ⟨Nat.le_of_ble_eq_true rfl, Nat.le_of_ble_eq_true rfl⟩) hS (fun q _ h => hFc q h) hFc (fun rr u t H_15 locs ht hvm hw hB hz1 hk1 hS2 => ?_)
  rw [hw]
  clear hw
  obtain ⟨hP1, -, hD1⟩ := hB
  rw [ht] at hP1
  replace hD := hD1.weaken (fun _ _ _ h => hFc _ h)
  replace hP := hP1
  replace hS := hS2
  clear hP1 hD1 hS2 hFc hfc hz1 hk1 hvm ht
  refine lv_istore_n (lv' := [(2, .int r_13), (1, .int v_2), (0, .ref (a h0))]) hx hb dX18_loadOne_40 rfl hl (by decide) rfl (fun ls hl2 => ?_)
  replace hl := hl2
  clear hl2
  refine lv_iconst (v := 0) hx hb dX18_loadOne_41 (by decide) ?_
  refine lv_istore_n (lv' := [(3, .int 0), (2, .int r_13), (1, .int v_2), (0, .ref (a h0))]) hx hb dX18_loadOne_42 rfl hl (by decide) rfl (fun ls hl2 => ?_)
  replace hl := hl2
  clear hl2
  have hl0 : lv_has ls 4 [(3, .int 0), (2, .int r_13), (1, .int v_2), (0, .ref (a h0))] := lv_sub hl [0, 1, 2, 3] rfl
  refine de_loop (h := 43) (fun (x : St × Int32) ls H locs => lv_has ls 4 [(3, .int x.2), (2, .int r_13), (1, .int v_2), (0, .ref (a h0))] ∧ va_P (dC, dI) vwCl (Wd cy a sh n x.1) H ∧ va_D A (Wd cy a sh n x.1) ∧ va_S A s.heap H locs) (fun f x => fn_X18_loadOne_L43 F sh n h0 v_2 r_13 (fn_X18_loadOne F sh n d) f x.1 x.2) (z8, r8) ?_ (fun _ => rfl) F (z_12, 0) ls H_15 locs ⟨hl0, hP, hD, hS⟩ hf
  intro f_18 x ls H locs ih43 hI hf
  obtain ⟨z_17, p_16⟩ := x
  obtain ⟨hl2, hP2, hD2, hS2⟩ := hI
  replace hl : lv_has ls 4 [(3, .int p_16), (2, .int r_13), (1, .int v_2), (0, .ref (a h0))] := hl2
  replace hP := hP2
  replace hD := hD2
  replace hS := hS2
  clear hl2 hP2 hD2 hS2 hl0
  replace hf := fn_X18_loadOne_L43_s hf
  refine lv_iload_n hx hb dX18_loadOne_43 rfl (lv_at hl 0 rfl) ?_
  refine lv_aload_n hx hb dX18_loadOne_44 rfl (lv_at hl 3 rfl) ?_
  obtain ⟨k_19, ek_19, hf⟩ := lnk_some hf
  refine va_get (D := (dC, dI)) (ci := 18) (v := .ref (a k_19)) (C := RX18) (T := TX18) (N := 78) hx hb hts iwd_X18_loadOne_X18 hown hK hP h0 (Wd_ob kg_1 sg_1 (by decide)) rfl 13 (by decide) (hts _ md_X18_loadOne_6) (fun _ h9 => h9) (fl_q rfl ek_19) dX18_loadOne_45 ?_
  refine lv_iload_n hx hb dX18_loadOne_48 rfl (lv_at hl 2 rfl) ?_
  obtain ⟨g_20, hf⟩ := grd_some hf
  obtain ⟨kg_20, sg_20, ig_20⟩ := okA_at g_20
  refine va_iald hx hb hK hP k_19 1 (Wd_ai kg_20 sg_20) rfl ig_20 dX18_loadOne_49 ?_
  refine lv_icmp_ge (tgt := 71) hx hb dX18_loadOne_50 (by decide) (fun c_21 => ?_) (fun c_21 => ?_)
  · skip
    rw [if_pos c_21] at hf
    refine lv_iload_n hx hb dX18_loadOne_71 rfl (lv_at hl 1 rfl) ?_
    obtain ⟨h8, h9⟩ := ret_some hf
    rw [h8, h9]
    exact W.iret (v := r_13) hx hb hr (fun t ht hW => ⟨⟨r_13, (), rfl, rfl, by rw [ht]; exact hP, va_K.moved hW.alike hK, hD⟩, hS.F ht⟩) hS.2.2 dX18_loadOne_72
  · skip
    rw [if_neg c_21] at hf
    refine lv_aload_n hx hb dX18_loadOne_53 rfl (lv_at hl 3 rfl) ?_
    obtain ⟨k_22, ek_22, hf⟩ := lnk_some hf
    refine va_get (D := (dC, dI)) (ci := 18) (v := .ref (a k_22)) (C := RX18) (T := TX18) (N := 78) hx hb hts iwd_X18_loadOne_X18 hown hK hP h0 (Wd_ob kg_1 sg_1 (by decide)) rfl 15 (by decide) (hts _ md_X18_loadOne_2) (fun _ h9 => h9) (fl_q rfl ek_22) dX18_loadOne_54 ?_
    refine lv_iload_n hx hb dX18_loadOne_57 rfl (lv_at hl 1 rfl) ?_
    refine lv_aload_n hx hb dX18_loadOne_58 rfl (lv_at hl 3 rfl) ?_
    obtain ⟨z_23, r_24, hfc, hf⟩ := cal_some hf
    have hFc := de_free hD hS hA
    refine va_calli (va_runV (As := []) (rest := [.int r_13, .ref (a k_22)]) ⟨hx, hb, hml, hown, hts⟩ (ihd H.size z_17 h0 hfc) (cwV 0 hts gX18_loadOne_X18_loadOne rfl rfl rfl (by decide +kernel) ⟨by show _ ≤ d + 1 + 1; (try dsimp only); omega, by show _ ≤ (d + 1) * 23 + 26; (try dsimp only); omega⟩) ⟨fun a U g mk q => by obtain ⟨q0, q1, qP, qK, qD, qN⟩ := q; exact ⟨q0, q1, qP, va_K.moved (u := U) (U := U.calling g mk a) (Vm.Alike.refl U.vm) qK, qD, qN.same rfl⟩, va_recv hK hP (ci := 18) (q0 := h0) rfl (Wd_ob kg_1 sg_1 (by decide)), fun U hU hW => ⟨rfl, by rw [hU], by rw [hU]; exact hP, va_K.moved hW.alike hK, hD.weaken (fun _ _ _ _ => trivial), hN.warm hW⟩⟩ rfl rfl hl.1 rfl (lv_room (Nat.le_of_ble_eq_true rfl)) dX18_loadOne_59 ⟨Nat.le_of_ble_eq_true rfl, Nat.le_of_ble_eq_true rfl⟩) hS (fun q _ h => hFc q h) hFc (fun rr u t H_25 locs ht hvm hw hB hz1 hk1 hS2 => ?_)
    rw [hw]
    clear hw
    obtain ⟨hP1, -, hD1⟩ := hB
    rw [ht] at hP1
    replace hD := hD1.weaken (fun _ _ _ h => hFc _ h)
    replace hP := hP1
    replace hS := hS2
    clear hP1 hD1 hS2 hFc hfc hz1 hk1 hvm ht
    obtain ⟨g_27, hf⟩ := grd_some hf
    obtain ⟨kg_27, sg_27⟩ := okO_at g_27
    obtain ⟨z_26, _u, hfc, hf⟩ := cal_some hf
    have hFc := de_free hD hS hA
    refine va_callv (va_runV (As := [.int r_13, .int r_24]) (rest := []) ⟨hx, hb, hml, hown, hts⟩ (de_X15_add l dC dI cy a sh n H_25.size F z_23 k_22 r_13 r_24 hfc) (cwV 2 hts gX18_loadOne_X15_add rfl rfl rfl (by decide +kernel) ⟨by show _ ≤ d + 1 + 1; (try dsimp only); omega, by show _ ≤ (d + 1) * 23 + 26; (try dsimp only); omega⟩) ⟨fun a U g mk q => by obtain ⟨q0, q1, qP, qK, qD, qN⟩ := q; exact ⟨q0, q1, qP, va_K.moved (u := U) (U := U.calling g mk a) (Vm.Alike.refl U.vm) qK, qD, qN.same rfl⟩, va_recv hK hP (ci := 15) (q0 := k_22) rfl (Wd_ob kg_27 sg_27 (by decide)), fun U hU hW => ⟨rfl, by rw [hU], by rw [hU]; exact hP, va_K.moved hW.alike hK, hD.weaken (fun _ _ _ _ => trivial), hN.warm hW⟩⟩ rfl rfl hl.1 rfl (lv_room (Nat.le_of_ble_eq_true rfl)) dX18_loadOne_62 ⟨Nat.le_of_ble_eq_true rfl, Nat.le_of_ble_eq_true rfl⟩) hS (fun q _ h => hFc q h) hFc (fun u t H_28 locs ht hvm hw hB hz1 hk1 hS2 => ?_)
    obtain ⟨hP1, -, hD1⟩ := hB
    rw [ht] at hP1
    replace hD := hD1.weaken (fun _ _ _ h => hFc _ h)
    replace hP := hP1
    replace hS := hS2
    clear hP1 hD1 hS2 hFc hfc hz1 hk1 hvm ht
    refine lv_iinc (v := (p_16 + 1)) (lv' := [(3, .int (p_16 + 1)), (2, .int r_13), (1, .int v_2), (0, .ref (a h0))]) hx hb dX18_loadOne_65 hl (k := 0) rfl rfl (by decide) rfl (fun ls hl2 => ?_)
    replace hl := hl2
    clear hl2
    refine lv_goto (tgt := 43) hx hb dX18_loadOne_68 (by decide) ?_
    exact ih43 (z_26, (p_16 + 1)) ls H_28 locs ⟨lv_sub hl [0, 1, 2, 3] rfl, hP, hD, hS⟩ hf

theorem md_X5_strangeStructure_1 : (.fieldLink RX5 99 "ResourceLedger$Program" "ownStructures" "I" : Cond) ∈ wsX5_strangeStructure := List.mem_of_getElem? (i := 1) rfl
theorem iwd_X5_strangeStructure_X5 : ∀ w ∈ wsX50, w ∈ wsX5_strangeStructure := fun _ h => List.mem_cons_of_mem _ (List.mem_append_left _ (List.mem_append_right _ h))
theorem md_X5_strangeStructure_2 : (.fieldLink RX5 52 "ResourceLedger$Program" "allStructures" "I" : Cond) ∈ wsX5_strangeStructure := List.mem_of_getElem? (i := 2) rfl
set_option maxHeartbeats 4000000 in
set_option maxRecDepth 100000 in
theorem de_X5_strangeStructure (l : Launch) (dC : Nat → ClassId) (dI : Nat → Nat → Nat) (cy : Nat → ClassId) (a : Nat → Nat) (sh : Nat → Nat × Nat) (n sz : Nat) (F : Nat) (z : St) (h0 : Nat) (x0 : Nat) {z8 : St} {r8 : Int32} (hf : fn_X5_strangeStructure F sh n z h0 x0 = some (z8, r8)) : Met l yX5_strangeStructure wsX5_strangeStructure ({ frames := 1, cells := 0, slots := 0, locals := 22 }) (va_Pc [.ref (a h0), .ref (a x0)] (fun U => U.heap.size = sz ∧ va_P (dC, dI) vwCl (Wd cy a sh n z) U.heap ∧ va_K (dC, dI) vwCl (TYS cy) U ∧ va_D (fun _ => True) (Wd cy a sh n z) ∧ NK U)) (va_Qi (fun (r9 : Int32) (u : Unit) => r9 = r8) (fun u t => va_P (dC, dI) vwCl (Wd cy a sh n z8) t.heap ∧ va_K (dC, dI) vwCl (TYS cy) t ∧ va_D (va_A (Wd cy a sh n z) sz) (Wd cy a sh n z8)) (va_A (Wd cy a sh n z) sz)) 0 0 (va_A (Wd cy a sh n z) sz) := by
  refine Met.ofW (cc := cX5_strangeStructure) (maxL := 5) (ret := (some .int)) (by decide) rfl ?_
  intro p e s m args below meth c s₁ B hml hv
  obtain ⟨rfl, hsz, hP, hK, hD0, hN⟩ := hv
  have hx := B.exec
  have hb := B.bytes
  have hr := B.returns
  have hts := atoms_spec (ws := wsX5_strangeStructure) B.pre
  have hown : s.vm.findClass RX5 = some m.cls := findClass_of_methodNamed B.named
  have hlocks := B.notSynchronized
  subst hsz
  have hD := hD0.self (sz := s.heap.size)
  clear hD0
  generalize hAe : va_A (Wd cy a sh n z) s.heap.size = A at hD ⊢
  have hA : ∀ q : Nat, s.heap.size ≤ q → A q := fun q h => by rw [← hAe]; exact Or.inr h
  clear hAe
  have hS : va_S A s.heap s.heap [] := va_S.rf
  have hl := lv_entry ([.ref (a h0), .ref (a x0)]) (n := 5) (Nat.le_of_ble_eq_true rfl)
  rw [lg_entry_eq]
  generalize (lg_sl ([.ref (a h0), .ref (a x0)]) ++ List.replicate (5 - (lg_sl ([.ref (a h0), .ref (a x0)])).length) Slot.unset).toArray = ls at hl ⊢
  replace hl : lv_has ls 5 [(0, .ref (a h0)), (1, .ref (a x0))] := hl
  unfold fn_X5_strangeStructure at hf
  refine de_start hS hP (fun H locs hS hP => ?_)
  refine lv_aload_n hx hb dX5_strangeStructure_0 rfl (lv_at hl 0 rfl) ?_
  obtain ⟨g_1, hf⟩ := grd_some hf
  obtain ⟨kg_1, sg_1⟩ := okO_at g_1
  refine va_get (D := (dC, dI)) (ci := 5) (v := .int (z.1 h0 8)) (C := RX5) (T := TX5) (N := 15) hx hb hts iwd_X5_strangeStructure_X5 hown hK hP h0 (Wd_ob kg_1 sg_1 (by decide)) rfl 8 (by decide) (hts _ md_X5_strangeStructure_1) (fun _ h9 => h9) (fl_at (t := 0) rfl) dX5_strangeStructure_1 ?_
  refine lv_topi (fun v_2 ev_2 => ?_)
  replace hf := lt_at ev_2 hf
  clear ev_2
  refine lv_istore_n (lv' := [(2, .int v_2), (0, .ref (a h0)), (1, .ref (a x0))]) hx hb dX5_strangeStructure_4 rfl hl (by decide) rfl (fun ls hl2 => ?_)
  replace hl := hl2
  clear hl2
  have hl0 : lv_has ls 5 [(2, .int v_2), (0, .ref (a h0)), (1, .ref (a x0))] := lv_sub hl [0, 1, 2] rfl
  refine de_loop (h := 5) (fun (x : St × Int32) ls H locs => lv_has ls 5 [(2, .int x.2), (0, .ref (a h0)), (1, .ref (a x0))] ∧ va_P (dC, dI) vwCl (Wd cy a sh n x.1) H ∧ va_D A (Wd cy a sh n x.1) ∧ va_S A s.heap H locs) (fun f x => fn_X5_strangeStructure_L5 F sh n h0 x0 f x.1 x.2) (z8, r8) ?_ (fun _ => rfl) F (z, v_2) ls H locs ⟨hl0, hP, hD, hS⟩ hf
  intro f_5 x ls H locs ih5 hI hf
  obtain ⟨z_4, p_3⟩ := x
  obtain ⟨hl2, hP2, hD2, hS2⟩ := hI
  replace hl : lv_has ls 5 [(2, .int p_3), (0, .ref (a h0)), (1, .ref (a x0))] := hl2
  replace hP := hP2
  replace hD := hD2
  replace hS := hS2
  clear hl2 hP2 hD2 hS2 hl0
  replace hf := fn_X5_strangeStructure_L5_s hf
  refine lv_iload_n hx hb dX5_strangeStructure_5 rfl (lv_at hl 0 rfl) ?_
  refine lv_aload_n hx hb dX5_strangeStructure_6 rfl (lv_at hl 1 rfl) ?_
  refine va_get (D := (dC, dI)) (ci := 5) (v := .int (z_4.1 h0 9)) (C := RX5) (T := TX5) (N := 15) hx hb hts iwd_X5_strangeStructure_X5 hown hK hP h0 (Wd_ob kg_1 sg_1 (by decide)) rfl 9 (by decide) (hts _ md_X5_strangeStructure_2) (fun _ h9 => h9) (fl_at (t := 0) rfl) dX5_strangeStructure_7 ?_
  refine lv_icmp_ge (tgt := 74) hx hb dX5_strangeStructure_10 (by decide) (fun c_6 => ?_) (fun c_6 => ?_)
  · skip
    rw [if_pos c_6] at hf
    refine lv_iconst (v := (-1)) hx hb dX5_strangeStructure_74 (by decide) ?_
    obtain ⟨h8, h9⟩ := ret_some hf
    rw [h8, h9]
    exact W.iret (v := (-1)) hx hb hr (fun t ht hW => ⟨⟨(-1), (), rfl, rfl, by rw [ht]; exact hP, va_K.moved hW.alike hK, hD⟩, hS.F ht⟩) hS.2.2 dX5_strangeStructure_75
  · skip
    rw [if_neg c_6] at hf
    refine lv_aload_n hx hb dX5_strangeStructure_13 rfl (lv_at hl 2 rfl) ?_
    refine lv_aload_n hx hb dX5_strangeStructure_14 rfl (lv_at hl 1 rfl) ?_
    refine lv_iload_n hx hb dX5_strangeStructure_15 rfl (lv_at hl 0 rfl) ?_
    refine lv_iconst (v := 4) hx hb dX5_strangeStructure_16 (by decide) ?_
    obtain ⟨z_7, r_8, hfc, hf⟩ := cal_some hf
    have hFc := de_free hD hS hA
    refine va_calli (va_runV (As := [.int p_3, .int 4]) (rest := [.ref (a x0)]) ⟨hx, hb, hml, hown, hts⟩ (de_X5_structureColumn l dC dI cy a sh n H.size F z_4 h0 p_3 4 hfc) (cwV 2 hts gX5_strangeStructure_X5_structureColumn rfl rfl rfl (by decide +kernel) ⟨Nat.le_of_ble_eq_true rfl, Nat.le_of_ble_eq_true rfl⟩) ⟨fun a U g mk q => by obtain ⟨q0, q1, qP, qK, qD, qN⟩ := q; exact ⟨q0, q1, qP, va_K.moved (u := U) (U := U.calling g mk a) (Vm.Alike.refl U.vm) qK, qD, qN.same rfl⟩, va_recv hK hP (ci := 5) (q0 := h0) rfl (Wd_ob kg_1 sg_1 (by decide)), fun U hU hW => ⟨rfl, by rw [hU], by rw [hU]; exact hP, va_K.moved hW.alike hK, hD.weaken (fun _ _ _ _ => trivial), hN.warm hW⟩⟩ rfl rfl hl.1 rfl (lv_room (Nat.le_of_ble_eq_true rfl)) dX5_strangeStructure_17 ⟨Nat.le_of_ble_eq_true rfl, Nat.le_of_ble_eq_true rfl⟩) hS (fun q _ h => hFc q h) hFc (fun rr u t H_9 locs ht hvm hw hB hz1 hk1 hS2 => ?_)
    rw [hw]
    clear hw
    obtain ⟨hP1, -, hD1⟩ := hB
    rw [ht] at hP1
    replace hD := hD1.weaken (fun _ _ _ h => hFc _ h)
    replace hP := hP1
    replace hS := hS2
    clear hP1 hD1 hS2 hFc hfc hz1 hk1 hvm ht
    obtain ⟨g_12, hf⟩ := grd_some hf
    obtain ⟨kg_12, sg_12⟩ := okO_at g_12
    obtain ⟨z_10, r_11, hfc, hf⟩ := cal_some hf
    have hFc := de_free hD hS hA
    refine va_callq (va_runV (As := [.int r_8]) (rest := []) ⟨hx, hb, hml, hown, hts⟩ (de_X7_findProgram l dC dI cy a sh n H_9.size F z_7 x0 r_8 hfc) (cwV 1 hts gX5_strangeStructure_X7_findProgram rfl rfl rfl (by decide +kernel) ⟨Nat.le_of_ble_eq_true rfl, Nat.le_of_ble_eq_true rfl⟩) ⟨fun a U g mk q => by obtain ⟨q0, q1, qP, qK, qD, qN⟩ := q; exact ⟨q0, q1, qP, va_K.moved (u := U) (U := U.calling g mk a) (Vm.Alike.refl U.vm) qK, qD, qN.same rfl⟩, va_recv hK hP (ci := 7) (q0 := x0) rfl (Wd_ob kg_12 sg_12 (by decide)), fun U hU hW => ⟨rfl, by rw [hU], by rw [hU]; exact hP, va_K.moved hW.alike hK, hD.weaken (fun _ _ _ _ => trivial), hN.warm hW⟩⟩ rfl rfl hl.1 rfl (lv_room (Nat.le_of_ble_eq_true rfl)) dX5_strangeStructure_20 ⟨Nat.le_of_ble_eq_true rfl, Nat.le_of_ble_eq_true rfl⟩) hS (fun q _ h => hFc q h) hFc (fun rr u t H_13 locs ht hvm hw hB hz1 hk1 hS2 => ?_)
    rw [hw]
    clear hw
    obtain ⟨hP1, -, hD1⟩ := hB
    rw [ht] at hP1
    replace hD := hD1.weaken (fun _ _ _ h => hFc _ h)
    replace hP := hP1
    replace hS := hS2
    clear hP1 hD1 hS2 hFc hfc hz1 hk1 hvm ht
    rcases r_11 with _ | k_14
    · skip
      replace hf := nul_none hf
      refine W.eq (g2 := F0 m 23 ls [.null]) rfl ?_
      refine lv_astore_nN (lv' := [(3, .null), (2, .int p_3), (0, .ref (a h0)), (1, .ref (a x0))]) hx hb dX5_strangeStructure_23 rfl hl (by decide) rfl (fun ls hl2 => ?_)
      replace hl := hl2
      clear hl2
      refine lv_aload_n hx hb dX5_strangeStructure_24 rfl (lv_at hl 2 rfl) ?_
      refine lv_iload_n hx hb dX5_strangeStructure_25 rfl (lv_at hl 1 rfl) ?_
      refine lv_iconst (v := 5) hx hb dX5_strangeStructure_26 (by decide) ?_
      obtain ⟨z_15, r_16, hfc, hf⟩ := cal_some hf
      have hFc := de_free hD hS hA
      refine va_calli (va_runV (As := [.int p_3, .int 5]) (rest := []) ⟨hx, hb, hml, hown, hts⟩ (de_X5_structureColumn l dC dI cy a sh n H_13.size F z_10 h0 p_3 5 hfc) (cwV 2 hts gX5_strangeStructure_X5_structureColumn rfl rfl rfl (by decide +kernel) ⟨Nat.le_of_ble_eq_true rfl, Nat.le_of_ble_eq_true rfl⟩) ⟨fun a U g mk q => by obtain ⟨q0, q1, qP, qK, qD, qN⟩ := q; exact ⟨q0, q1, qP, va_K.moved (u := U) (U := U.calling g mk a) (Vm.Alike.refl U.vm) qK, qD, qN.same rfl⟩, va_recv hK hP (ci := 5) (q0 := h0) rfl (Wd_ob kg_1 sg_1 (by decide)), fun U hU hW => ⟨rfl, by rw [hU], by rw [hU]; exact hP, va_K.moved hW.alike hK, hD.weaken (fun _ _ _ _ => trivial), hN.warm hW⟩⟩ rfl rfl hl.1 rfl (lv_room (Nat.le_of_ble_eq_true rfl)) dX5_strangeStructure_27 ⟨Nat.le_of_ble_eq_true rfl, Nat.le_of_ble_eq_true rfl⟩) hS (fun q _ h => hFc q h) hFc (fun rr u t H_17 locs ht hvm hw hB hz1 hk1 hS2 => ?_)
      rw [hw]
      clear hw
      obtain ⟨hP1, -, hD1⟩ := hB
      rw [ht] at hP1
      replace hD := hD1.weaken (fun _ _ _ h => hFc _ h)
      replace hP := hP1
      replace hS := hS2
      clear hP1 hD1 hS2 hFc hfc hz1 hk1 hvm ht
      refine lv_istore (lv' := [(4, .int r_16), (3, .null), (2, .int p_3), (0, .ref (a h0)), (1, .ref (a x0))]) hx hb dX5_strangeStructure_30 hl (by decide) rfl (fun ls hl2 => ?_)
      replace hl := hl2
      clear hl2
      refine lv_aload_nN hx hb dX5_strangeStructure_32 rfl (lv_at hl 1 rfl) ?_
      refine lv_ifnullN (tgt := 61) hx hb dX5_strangeStructure_33 (by decide) ?_
      refine lv_iload_n hx hb dX5_strangeStructure_61 rfl (lv_at hl 2 rfl) ?_
      refine lv_aload_n hx hb dX5_strangeStructure_62 rfl (lv_at hl 3 rfl) ?_
      refine va_get (D := (dC, dI)) (ci := 5) (v := .int (z_15.1 h0 8)) (C := RX5) (T := TX5) (N := 15) hx hb hts iwd_X5_strangeStructure_X5 hown hK hP h0 (Wd_ob kg_1 sg_1 (by decide)) rfl 8 (by decide) (hts _ md_X5_strangeStructure_1) (fun _ h9 => h9) (fl_at (t := 0) rfl) dX5_strangeStructure_63 ?_
      refine lv_isub hx hb dX5_strangeStructure_66 ?_
      obtain ⟨h8, h9⟩ := ret_some hf
      rw [h8, h9]
      exact W.iret (v := (p_3 - (z_15.1 h0 8))) hx hb hr (fun t ht hW => ⟨⟨(p_3 - (z_15.1 h0 8)), (), rfl, rfl, by rw [ht]; exact hP, va_K.moved hW.alike hK, hD⟩, hS.F ht⟩) hS.2.2 dX5_strangeStructure_67
    · skip
      replace hf := nul_some hf
      refine W.eq (g2 := F0 m 23 ls [.ref (a k_14)]) rfl ?_
      refine lv_astore_n (lv' := [(3, .ref (a k_14)), (2, .int p_3), (0, .ref (a h0)), (1, .ref (a x0))]) hx hb dX5_strangeStructure_23 rfl hl (by decide) rfl (fun ls hl2 => ?_)
      replace hl := hl2
      clear hl2
      refine lv_aload_n hx hb dX5_strangeStructure_24 rfl (lv_at hl 2 rfl) ?_
      refine lv_iload_n hx hb dX5_strangeStructure_25 rfl (lv_at hl 1 rfl) ?_
      refine lv_iconst (v := 5) hx hb dX5_strangeStructure_26 (by decide) ?_
      obtain ⟨z_18, r_19, hfc, hf⟩ := cal_some hf
      have hFc := de_free hD hS hA
      refine va_calli (va_runV (As := [.int p_3, .int 5]) (rest := []) ⟨hx, hb, hml, hown, hts⟩ (de_X5_structureColumn l dC dI cy a sh n H_13.size F z_10 h0 p_3 5 hfc) (cwV 2 hts gX5_strangeStructure_X5_structureColumn rfl rfl rfl (by decide +kernel) ⟨Nat.le_of_ble_eq_true rfl, Nat.le_of_ble_eq_true rfl⟩) ⟨fun a U g mk q => by obtain ⟨q0, q1, qP, qK, qD, qN⟩ := q; exact ⟨q0, q1, qP, va_K.moved (u := U) (U := U.calling g mk a) (Vm.Alike.refl U.vm) qK, qD, qN.same rfl⟩, va_recv hK hP (ci := 5) (q0 := h0) rfl (Wd_ob kg_1 sg_1 (by decide)), fun U hU hW => ⟨rfl, by rw [hU], by rw [hU]; exact hP, va_K.moved hW.alike hK, hD.weaken (fun _ _ _ _ => trivial), hN.warm hW⟩⟩ rfl rfl hl.1 rfl (lv_room (Nat.le_of_ble_eq_true rfl)) dX5_strangeStructure_27 ⟨Nat.le_of_ble_eq_true rfl, Nat.le_of_ble_eq_true rfl⟩) hS (fun q _ h => hFc q h) hFc (fun rr u t H_20 locs ht hvm hw hB hz1 hk1 hS2 => ?_)
      rw [hw]
      clear hw
      obtain ⟨hP1, -, hD1⟩ := hB
      rw [ht] at hP1
      replace hD := hD1.weaken (fun _ _ _ h => hFc _ h)
      replace hP := hP1
      replace hS := hS2
      clear hP1 hD1 hS2 hFc hfc hz1 hk1 hvm ht
      refine lv_istore (lv' := [(4, .int r_19), (3, .ref (a k_14)), (2, .int p_3), (0, .ref (a h0)), (1, .ref (a x0))]) hx hb dX5_strangeStructure_30 hl (by decide) rfl (fun ls hl2 => ?_)
      replace hl := hl2
      clear hl2
      refine lv_aload_n hx hb dX5_strangeStructure_32 rfl (lv_at hl 1 rfl) ?_
      refine lv_ifnull hx hb dX5_strangeStructure_33 ?_
      refine lv_iload hx hb dX5_strangeStructure_36 (lv_at hl 0 rfl) ?_
      refine lv_aload_n hx hb dX5_strangeStructure_38 rfl (lv_at hl 1 rfl) ?_
      obtain ⟨g_21, hf⟩ := grd_some hf
      obtain ⟨kg_21, sg_21⟩ := okO_at g_21
      refine va_get (D := (dC, dI)) (ci := 5) (v := .int (z_18.1 k_14 8)) (C := RX5) (T := TX5) (N := 15) hx hb hts iwd_X5_strangeStructure_X5 hown hK hP k_14 (Wd_ob kg_21 sg_21 (by decide)) rfl 8 (by decide) (hts _ md_X5_strangeStructure_1) (fun _ h9 => h9) (fl_at (t := 0) rfl) dX5_strangeStructure_39 ?_
      refine lv_icmp_ge (tgt := 61) hx hb dX5_strangeStructure_42 (by decide) (fun c_22 => ?_) (fun c_22 => ?_)
      · skip
        rw [if_pos c_22] at hf
        refine lv_iload_n hx hb dX5_strangeStructure_61 rfl (lv_at hl 2 rfl) ?_
        refine lv_aload_n hx hb dX5_strangeStructure_62 rfl (lv_at hl 3 rfl) ?_
        refine va_get (D := (dC, dI)) (ci := 5) (v := .int (z_18.1 h0 8)) (C := RX5) (T := TX5) (N := 15) hx hb hts iwd_X5_strangeStructure_X5 hown hK hP h0 (Wd_ob kg_1 sg_1 (by decide)) rfl 8 (by decide) (hts _ md_X5_strangeStructure_1) (fun _ h9 => h9) (fl_at (t := 0) rfl) dX5_strangeStructure_63 ?_
        refine lv_isub hx hb dX5_strangeStructure_66 ?_
        obtain ⟨h8, h9⟩ := ret_some hf
        rw [h8, h9]
        exact W.iret (v := (p_3 - (z_18.1 h0 8))) hx hb hr (fun t ht hW => ⟨⟨(p_3 - (z_18.1 h0 8)), (), rfl, rfl, by rw [ht]; exact hP, va_K.moved hW.alike hK, hD⟩, hS.F ht⟩) hS.2.2 dX5_strangeStructure_67
      · skip
        rw [if_neg c_22] at hf
        refine lv_aload_n hx hb dX5_strangeStructure_45 rfl (lv_at hl 1 rfl) ?_
        refine lv_iload hx hb dX5_strangeStructure_46 (lv_at hl 0 rfl) ?_
        refine lv_iconst (v := 0) hx hb dX5_strangeStructure_48 (by decide) ?_
        obtain ⟨z_23, r_24, hfc, hf⟩ := cal_some hf
        have hFc := de_free hD hS hA
        refine va_calli (va_runV (As := [.int r_19, .int 0]) (rest := []) ⟨hx, hb, hml, hown, hts⟩ (de_X5_structureColumn l dC dI cy a sh n H_20.size F z_18 k_14 r_19 0 hfc) (cwV 2 hts gX5_strangeStructure_X5_structureColumn rfl rfl rfl (by decide +kernel) ⟨Nat.le_of_ble_eq_true rfl, Nat.le_of_ble_eq_true rfl⟩) ⟨fun a U g mk q => by obtain ⟨q0, q1, qP, qK, qD, qN⟩ := q; exact ⟨q0, q1, qP, va_K.moved (u := U) (U := U.calling g mk a) (Vm.Alike.refl U.vm) qK, qD, qN.same rfl⟩, va_recv hK hP (ci := 5) (q0 := k_14) rfl (Wd_ob kg_21 sg_21 (by decide)), fun U hU hW => ⟨rfl, by rw [hU], by rw [hU]; exact hP, va_K.moved hW.alike hK, hD.weaken (fun _ _ _ _ => trivial), hN.warm hW⟩⟩ rfl rfl hl.1 rfl (lv_room (Nat.le_of_ble_eq_true rfl)) dX5_strangeStructure_49 ⟨Nat.le_of_ble_eq_true rfl, Nat.le_of_ble_eq_true rfl⟩) hS (fun q _ h => hFc q h) hFc (fun rr u t H_25 locs ht hvm hw hB hz1 hk1 hS2 => ?_)
        rw [hw]
        clear hw
        obtain ⟨hP1, -, hD1⟩ := hB
        rw [ht] at hP1
        replace hD := hD1.weaken (fun _ _ _ h => hFc _ h)
        replace hP := hP1
        replace hS := hS2
        clear hP1 hD1 hS2 hFc hfc hz1 hk1 hvm ht
        refine lv_aload_n hx hb dX5_strangeStructure_52 rfl (lv_at hl 3 rfl) ?_
        refine lv_iload_n hx hb dX5_strangeStructure_53 rfl (lv_at hl 2 rfl) ?_
        refine lv_iconst (v := 0) hx hb dX5_strangeStructure_54 (by decide) ?_
        obtain ⟨z_26, r_27, hfc, hf⟩ := cal_some hf
        have hFc := de_free hD hS hA
        refine va_calli (va_runV (As := [.int p_3, .int 0]) (rest := [.int r_24]) ⟨hx, hb, hml, hown, hts⟩ (de_X5_structureColumn l dC dI cy a sh n H_25.size F z_23 h0 p_3 0 hfc) (cwV 2 hts gX5_strangeStructure_X5_structureColumn rfl rfl rfl (by decide +kernel) ⟨Nat.le_of_ble_eq_true rfl, Nat.le_of_ble_eq_true rfl⟩) ⟨fun a U g mk q => by obtain ⟨q0, q1, qP, qK, qD, qN⟩ := q; exact ⟨q0, q1, qP, va_K.moved (u := U) (U := U.calling g mk a) (Vm.Alike.refl U.vm) qK, qD, qN.same rfl⟩, va_recv hK hP (ci := 5) (q0 := h0) rfl (Wd_ob kg_1 sg_1 (by decide)), fun U hU hW => ⟨rfl, by rw [hU], by rw [hU]; exact hP, va_K.moved hW.alike hK, hD.weaken (fun _ _ _ _ => trivial), hN.warm hW⟩⟩ rfl rfl hl.1 rfl (lv_room (Nat.le_of_ble_eq_true rfl)) dX5_strangeStructure_55 ⟨Nat.le_of_ble_eq_true rfl, Nat.le_of_ble_eq_true rfl⟩) hS (fun q _ h => hFc q h) hFc (fun rr u t H_28 locs ht hvm hw hB hz1 hk1 hS2 => ?_)
        rw [hw]
        clear hw
        obtain ⟨hP1, -, hD1⟩ := hB
        rw [ht] at hP1
        replace hD := hD1.weaken (fun _ _ _ h => hFc _ h)
        replace hP := hP1
        replace hS := hS2
        clear hP1 hD1 hS2 hFc hfc hz1 hk1 hvm ht
        refine lv_icmp_eq (tgt := 68) hx hb dX5_strangeStructure_58 (by decide) (fun c_29 => ?_) (fun c_29 => ?_)
        · skip
          rw [if_pos c_29] at hf
          refine lv_iinc (v := (p_3 + 1)) (lv' := [(2, .int (p_3 + 1)), (4, .int r_19), (3, .ref (a k_14)), (0, .ref (a h0)), (1, .ref (a x0))]) hx hb dX5_strangeStructure_68 hl (k := 2) rfl rfl (by decide) rfl (fun ls hl2 => ?_)
          replace hl := hl2
          clear hl2
          refine lv_goto (tgt := 5) hx hb dX5_strangeStructure_71 (by decide) ?_
          exact ih5 (z_26, (p_3 + 1)) ls H_28 locs ⟨lv_sub hl [0, 3, 4] rfl, hP, hD, hS⟩ hf
        · skip
          rw [if_neg c_29] at hf
          refine lv_iload_n hx hb dX5_strangeStructure_61 rfl (lv_at hl 2 rfl) ?_
          refine lv_aload_n hx hb dX5_strangeStructure_62 rfl (lv_at hl 3 rfl) ?_
          refine va_get (D := (dC, dI)) (ci := 5) (v := .int (z_26.1 h0 8)) (C := RX5) (T := TX5) (N := 15) hx hb hts iwd_X5_strangeStructure_X5 hown hK hP h0 (Wd_ob kg_1 sg_1 (by decide)) rfl 8 (by decide) (hts _ md_X5_strangeStructure_1) (fun _ h9 => h9) (fl_at (t := 0) rfl) dX5_strangeStructure_63 ?_
          refine lv_isub hx hb dX5_strangeStructure_66 ?_
          obtain ⟨h8, h9⟩ := ret_some hf
          rw [h8, h9]
          exact W.iret (v := (p_3 - (z_26.1 h0 8))) hx hb hr (fun t ht hW => ⟨⟨(p_3 - (z_26.1 h0 8)), (), rfl, rfl, by rw [ht]; exact hP, va_K.moved hW.alike hK, hD⟩, hS.F ht⟩) hS.2.2 dX5_strangeStructure_67

theorem md_X14_isLess_1 : (.fieldLink RX14 16 "ResourceLedgerModel$Roots" "sorts" "[I" : Cond) ∈ wsX14_isLess := List.mem_of_getElem? (i := 1) rfl
theorem iwd_X14_isLess_X14 : ∀ w ∈ wsX140, w ∈ wsX14_isLess := fun _ h => List.mem_cons_of_mem _ (List.mem_append_right _ h)
theorem md_X14_isLess_2 : (.fieldLink RX14 20 "ResourceLedgerModel$Roots" "addresses" "[J" : Cond) ∈ wsX14_isLess := List.mem_of_getElem? (i := 2) rfl
theorem md_X14_isLess_3 : (.fieldLink RX14 23 "ResourceLedgerModel$Roots" "kinds" "[I" : Cond) ∈ wsX14_isLess := List.mem_of_getElem? (i := 3) rfl
set_option maxHeartbeats 4000000 in
set_option maxRecDepth 100000 in
theorem de_X14_isLess (l : Launch) (dC : Nat → ClassId) (dI : Nat → Nat → Nat) (cy : Nat → ClassId) (a : Nat → Nat) (sh : Nat → Nat × Nat) (n sz : Nat) (F : Nat) (z : St) (h0 : Nat) (x0 : Int32) (x1 : Int32) (x2 : Int64) (x3 : Int32) {z8 : St} {r8 : Int32} (hf : fn_X14_isLess F sh n z h0 x0 x1 x2 x3 = some (z8, r8)) : Met l yX14_isLess wsX14_isLess ({ frames := 1, cells := 0, slots := 0, locals := 23 }) (va_Pc [.ref (a h0), .int x0, .int x1, .long x2, .int x3] (fun U => U.heap.size = sz ∧ va_P (dC, dI) vwCl (Wd cy a sh n z) U.heap ∧ va_K (dC, dI) vwCl (TYS cy) U ∧ va_D (fun _ => True) (Wd cy a sh n z) ∧ NK U)) (va_Qi (fun (r9 : Int32) (u : Unit) => r9 = r8) (fun u t => va_P (dC, dI) vwCl (Wd cy a sh n z8) t.heap ∧ va_K (dC, dI) vwCl (TYS cy) t ∧ va_D (va_A (Wd cy a sh n z) sz) (Wd cy a sh n z8)) (va_A (Wd cy a sh n z) sz)) 0 0 (va_A (Wd cy a sh n z) sz) := by
  refine Met.ofW (cc := cX14_isLess) (maxL := 6) (ret := (some .boolean)) (by decide) rfl ?_
  intro p e s m args below meth c s₁ B hml hv
  obtain ⟨rfl, hsz, hP, hK, hD0, hN⟩ := hv
  have hx := B.exec
  have hb := B.bytes
  have hr := B.returns
  have hts := atoms_spec (ws := wsX14_isLess) B.pre
  have hown : s.vm.findClass RX14 = some m.cls := findClass_of_methodNamed B.named
  have hlocks := B.notSynchronized
  subst hsz
  have hD := hD0.self (sz := s.heap.size)
  clear hD0
  generalize hAe : va_A (Wd cy a sh n z) s.heap.size = A at hD ⊢
  have hA : ∀ q : Nat, s.heap.size ≤ q → A q := fun q h => by rw [← hAe]; exact Or.inr h
  clear hAe
  have hS : va_S A s.heap s.heap [] := va_S.rf
  have hl := lv_entry ([.ref (a h0), .int x0, .int x1, .long x2, .int x3]) (n := 6) (Nat.le_of_ble_eq_true rfl)
  rw [lg_entry_eq]
  generalize (lg_sl ([.ref (a h0), .int x0, .int x1, .long x2, .int x3]) ++ List.replicate (6 - (lg_sl ([.ref (a h0), .int x0, .int x1, .long x2, .int x3])).length) Slot.unset).toArray = ls at hl ⊢
  replace hl : lv_has ls 6 [(0, .ref (a h0)), (1, .int x0), (2, .int x1), (3, .long x2), (5, .int x3)] := hl
  unfold fn_X14_isLess at hf
  refine de_start hS hP (fun H locs hS hP => ?_)
  refine lv_aload_n hx hb dX14_isLess_0 rfl (lv_at hl 0 rfl) ?_
  obtain ⟨g_1, hf⟩ := grd_some hf
  obtain ⟨kg_1, sg_1⟩ := okO_at g_1
  obtain ⟨k_2, ek_2, hf⟩ := lnk_some hf
  refine va_get (D := (dC, dI)) (ci := 14) (v := .ref (a k_2)) (C := RX14) (T := TX14) (N := 11) hx hb hts iwd_X14_isLess_X14 hown hK hP h0 (Wd_ob kg_1 sg_1 (by decide)) rfl 2 (by decide) (hts _ md_X14_isLess_1) (fun _ h9 => h9) (fl_q rfl ek_2) dX14_isLess_1 ?_
  refine lv_iload_n hx hb dX14_isLess_4 rfl (lv_at hl 1 rfl) ?_
  obtain ⟨g_3, hf⟩ := grd_some hf
  obtain ⟨kg_3, sg_3, ig_3⟩ := okA_at g_3
  refine va_iald hx hb hK hP k_2 1 (Wd_ai kg_3 sg_3) rfl ig_3 dX14_isLess_5 ?_
  refine lv_iload_n hx hb dX14_isLess_6 rfl (lv_at hl 2 rfl) ?_
  refine lv_icmp_eq (tgt := 26) hx hb dX14_isLess_7 (by decide) (fun c_4 => ?_) (fun c_4 => ?_)
  · skip
    rw [if_pos c_4] at hf
    refine lv_aload_n hx hb dX14_isLess_26 rfl (lv_at hl 0 rfl) ?_
    obtain ⟨k_5, ek_5, hf⟩ := lnk_some hf
    refine va_get (D := (dC, dI)) (ci := 14) (v := .ref (a k_5)) (C := RX14) (T := TX14) (N := 11) hx hb hts iwd_X14_isLess_X14 hown hK hP h0 (Wd_ob kg_1 sg_1 (by decide)) rfl 3 (by decide) (hts _ md_X14_isLess_2) (fun _ h9 => h9) (fl_q rfl ek_5) dX14_isLess_27 ?_
    refine lv_iload_n hx hb dX14_isLess_30 rfl (lv_at hl 1 rfl) ?_
    obtain ⟨g_6, hf⟩ := grd_some hf
    obtain ⟨kg_6, sg_6, ig_6⟩ := okA_at g_6
    refine va_lald hx hb hK hP k_5 2 (Wd_al kg_6 sg_6) rfl ig_6 dX14_isLess_31 ?_
    refine lv_lload_n hx hb dX14_isLess_32 rfl (lv_at hl 3 rfl) ?_
    refine W.lcmp hx hb dX14_isLess_33 ?_
    refine lv_if_eq (tgt := 58) hx hb dX14_isLess_34 (by decide) (fun c_7 => ?_) (fun c_7 => ?_)
    · skip
      rw [lg_cmp_eq] at c_7
      rw [if_pos c_7] at hf
      refine lv_aload_n hx hb dX14_isLess_58 rfl (lv_at hl 0 rfl) ?_
      obtain ⟨k_8, ek_8, hf⟩ := lnk_some hf
      refine va_get (D := (dC, dI)) (ci := 14) (v := .ref (a k_8)) (C := RX14) (T := TX14) (N := 11) hx hb hts iwd_X14_isLess_X14 hown hK hP h0 (Wd_ob kg_1 sg_1 (by decide)) rfl 4 (by decide) (hts _ md_X14_isLess_3) (fun _ h9 => h9) (fl_q rfl ek_8) dX14_isLess_59 ?_
      refine lv_iload_n hx hb dX14_isLess_62 rfl (lv_at hl 1 rfl) ?_
      obtain ⟨g_9, hf⟩ := grd_some hf
      obtain ⟨kg_9, sg_9, ig_9⟩ := okA_at g_9
      refine va_iald hx hb hK hP k_8 1 (Wd_ai kg_9 sg_9) rfl ig_9 dX14_isLess_63 ?_
      refine lv_iload hx hb dX14_isLess_64 (lv_at hl 4 rfl) ?_
      refine lv_icmp_gt (tgt := 73) hx hb dX14_isLess_66 (by decide) (fun c_10 => ?_) (fun c_10 => ?_)
      · skip
        rw [if_pos c_10] at hf
        refine lv_iconst (v := 0) hx hb dX14_isLess_73 (by decide) ?_
        obtain ⟨h8, h9⟩ := ret_some hf
        rw [h8, h9]
        exact W.zret (v := 0) hx hb hr rfl (fun t ht hW => ⟨⟨0, (), rfl, rfl, by rw [ht]; exact hP, va_K.moved hW.alike hK, hD⟩, hS.F ht⟩) hS.2.2 dX14_isLess_74
      · skip
        rw [if_neg c_10] at hf
        refine lv_iconst (v := 1) hx hb dX14_isLess_69 (by decide) ?_
        refine lv_goto (tgt := 74) hx hb dX14_isLess_70 (by decide) ?_
        obtain ⟨h8, h9⟩ := ret_some hf
        rw [h8, h9]
        exact W.zret (v := 1) hx hb hr rfl (fun t ht hW => ⟨⟨1, (), rfl, rfl, by rw [ht]; exact hP, va_K.moved hW.alike hK, hD⟩, hS.F ht⟩) hS.2.2 dX14_isLess_74
    · skip
      rw [lg_cmp_eq] at c_7
      rw [if_neg c_7] at hf
      refine lv_aload_n hx hb dX14_isLess_37 rfl (lv_at hl 0 rfl) ?_
      obtain ⟨k_11, ek_11, hf⟩ := lnk_some hf
      refine va_get (D := (dC, dI)) (ci := 14) (v := .ref (a k_11)) (C := RX14) (T := TX14) (N := 11) hx hb hts iwd_X14_isLess_X14 hown hK hP h0 (Wd_ob kg_1 sg_1 (by decide)) rfl 3 (by decide) (hts _ md_X14_isLess_2) (fun _ h9 => h9) (fl_q rfl ek_11) dX14_isLess_38 ?_
      refine lv_iload_n hx hb dX14_isLess_41 rfl (lv_at hl 1 rfl) ?_
      obtain ⟨g_12, hf⟩ := grd_some hf
      obtain ⟨kg_12, sg_12, ig_12⟩ := okA_at g_12
      refine va_lald hx hb hK hP k_11 2 (Wd_al kg_12 sg_12) rfl ig_12 dX14_isLess_42 ?_
      refine lv_lload_n hx hb dX14_isLess_43 rfl (lv_at hl 3 rfl) ?_
      obtain ⟨z_13, r_14, hfc, hf⟩ := cal_some hf
      have hFc := de_free hD hS hA
      refine va_calli (va_runS (As := [.long (z.2.1 k_11 x0.toNatClampNeg), .long x2]) (rest := []) ⟨hx, hb, hml, hown, hts⟩ (de_X14_order l dC dI cy a sh n H.size F z (z.2.1 k_11 x0.toNatClampNeg) x2 hfc) (va_cwS 2 hts gX14_isLess_X14_order rfl rfl rfl (by decide +kernel) ⟨Nat.le_of_ble_eq_true rfl, Nat.le_of_ble_eq_true rfl⟩) ⟨fun a U g mk q => by obtain ⟨q0, q1, qP, qK, qD, qN⟩ := q; exact ⟨q0, q1, qP, va_K.moved (u := U) (U := U.calling g mk a) (Vm.Alike.refl U.vm) qK, qD, qN.same rfl⟩, fun U hU hW => ⟨rfl, by rw [hU], by rw [hU]; exact hP, va_K.moved hW.alike hK, hD.weaken (fun _ _ _ _ => trivial), hN.warm hW⟩⟩ rfl rfl hl.1 rfl (lv_room (Nat.le_of_ble_eq_true rfl)) dX14_isLess_44 ⟨Nat.le_of_ble_eq_true rfl, Nat.le_of_ble_eq_true rfl⟩) hS (fun q _ h => hFc q h) hFc (fun rr u t H_15 locs ht hvm hw hB hz1 hk1 hS2 => ?_)
      rw [hw]
      clear hw
      obtain ⟨hP1, -, hD1⟩ := hB
      rw [ht] at hP1
      replace hD := hD1.weaken (fun _ _ _ h => hFc _ h)
      replace hP := hP1
      replace hS := hS2
      clear hP1 hD1 hS2 hFc hfc hz1 hk1 hvm ht
      refine lv_if_ge (tgt := 54) hx hb dX14_isLess_47 (by decide) (fun c_16 => ?_) (fun c_16 => ?_)
      · skip
        rw [if_pos c_16] at hf
        refine lv_iconst (v := 0) hx hb dX14_isLess_54 (by decide) ?_
        refine lv_goto (tgt := 74) hx hb dX14_isLess_55 (by decide) ?_
        obtain ⟨h8, h9⟩ := ret_some hf
        rw [h8, h9]
        exact W.zret (v := 0) hx hb hr rfl (fun t ht hW => ⟨⟨0, (), rfl, rfl, by rw [ht]; exact hP, va_K.moved hW.alike hK, hD⟩, hS.F ht⟩) hS.2.2 dX14_isLess_74
      · skip
        rw [if_neg c_16] at hf
        refine lv_iconst (v := 1) hx hb dX14_isLess_50 (by decide) ?_
        refine lv_goto (tgt := 74) hx hb dX14_isLess_51 (by decide) ?_
        obtain ⟨h8, h9⟩ := ret_some hf
        rw [h8, h9]
        exact W.zret (v := 1) hx hb hr rfl (fun t ht hW => ⟨⟨1, (), rfl, rfl, by rw [ht]; exact hP, va_K.moved hW.alike hK, hD⟩, hS.F ht⟩) hS.2.2 dX14_isLess_74
  · skip
    rw [if_neg c_4] at hf
    refine lv_aload_n hx hb dX14_isLess_10 rfl (lv_at hl 0 rfl) ?_
    obtain ⟨k_17, ek_17, hf⟩ := lnk_some hf
    refine va_get (D := (dC, dI)) (ci := 14) (v := .ref (a k_17)) (C := RX14) (T := TX14) (N := 11) hx hb hts iwd_X14_isLess_X14 hown hK hP h0 (Wd_ob kg_1 sg_1 (by decide)) rfl 2 (by decide) (hts _ md_X14_isLess_1) (fun _ h9 => h9) (fl_q rfl ek_17) dX14_isLess_11 ?_
    refine lv_iload_n hx hb dX14_isLess_14 rfl (lv_at hl 1 rfl) ?_
    obtain ⟨g_18, hf⟩ := grd_some hf
    obtain ⟨kg_18, sg_18, ig_18⟩ := okA_at g_18
    refine va_iald hx hb hK hP k_17 1 (Wd_ai kg_18 sg_18) rfl ig_18 dX14_isLess_15 ?_
    refine lv_iload_n hx hb dX14_isLess_16 rfl (lv_at hl 2 rfl) ?_
    refine lv_icmp_ge (tgt := 24) hx hb dX14_isLess_17 (by decide) (fun c_19 => ?_) (fun c_19 => ?_)
    · skip
      rw [if_pos c_19] at hf
      refine lv_iconst (v := 0) hx hb dX14_isLess_24 (by decide) ?_
      obtain ⟨h8, h9⟩ := ret_some hf
      rw [h8, h9]
      exact W.zret (v := 0) hx hb hr rfl (fun t ht hW => ⟨⟨0, (), rfl, rfl, by rw [ht]; exact hP, va_K.moved hW.alike hK, hD⟩, hS.F ht⟩) hS.2.2 dX14_isLess_25
    · skip
      rw [if_neg c_19] at hf
      refine lv_iconst (v := 1) hx hb dX14_isLess_20 (by decide) ?_
      refine lv_goto (tgt := 25) hx hb dX14_isLess_21 (by decide) ?_
      obtain ⟨h8, h9⟩ := ret_some hf
      rw [h8, h9]
      exact W.zret (v := 1) hx hb hr rfl (fun t ht hW => ⟨⟨1, (), rfl, rfl, by rw [ht]; exact hP, va_K.moved hW.alike hK, hD⟩, hS.F ht⟩) hS.2.2 dX14_isLess_25

theorem md_X15_swap_1 : (.fieldLink RX15 7 "ResourceLedgerModel$Trees" "kinds" "[B" : Cond) ∈ wsX15_swap := List.mem_of_getElem? (i := 1) rfl
theorem iwd_X15_swap_X15 : ∀ w ∈ wsX150, w ∈ wsX15_swap := fun _ h => List.mem_cons_of_mem _ (List.mem_append_right _ h)
theorem md_X15_swap_2 : (.fieldLink RX15 13 "ResourceLedgerModel$Trees" "highs" "[J" : Cond) ∈ wsX15_swap := List.mem_of_getElem? (i := 2) rfl
theorem md_X15_swap_3 : (.fieldLink RX15 17 "ResourceLedgerModel$Trees" "lows" "[J" : Cond) ∈ wsX15_swap := List.mem_of_getElem? (i := 3) rfl
theorem md_X15_swap_4 : (.fieldLink RX15 20 "ResourceLedgerModel$Trees" "firsts" "[I" : Cond) ∈ wsX15_swap := List.mem_of_getElem? (i := 4) rfl
set_option maxHeartbeats 4000000 in
set_option maxRecDepth 100000 in
theorem de_X15_swap (l : Launch) (dC : Nat → ClassId) (dI : Nat → Nat → Nat) (cy : Nat → ClassId) (a : Nat → Nat) (sh : Nat → Nat × Nat) (n sz : Nat) (F : Nat) (z : St) (h0 : Nat) (x0 : Int32) (x1 : Int32) {z8 : St} {r8 : Unit} (hf : fn_X15_swap F sh n z h0 x0 x1 = some (z8, r8)) : Met l yX15_swap wsX15_swap ({ frames := 1, cells := 0, slots := 0, locals := 22 }) (va_Pc [.ref (a h0), .int x0, .int x1] (fun U => U.heap.size = sz ∧ va_P (dC, dI) vwCl (Wd cy a sh n z) U.heap ∧ va_K (dC, dI) vwCl (TYS cy) U ∧ va_D (fun _ => True) (Wd cy a sh n z) ∧ NK U)) (va_Qv (fun u : Unit => True) (fun u t => va_P (dC, dI) vwCl (Wd cy a sh n z8) t.heap ∧ va_K (dC, dI) vwCl (TYS cy) t ∧ va_D (va_A (Wd cy a sh n z) sz) (Wd cy a sh n z8)) (va_A (Wd cy a sh n z) sz)) 0 0 (va_A (Wd cy a sh n z) sz) := by
  refine Met.ofW (cc := cX15_swap) (maxL := 9) (ret := none) (by decide) rfl ?_
  intro p e s m args below meth c s₁ B hml hv
  obtain ⟨rfl, hsz, hP, hK, hD0, hN⟩ := hv
  have hx := B.exec
  have hb := B.bytes
  have hr := B.returns
  have hts := atoms_spec (ws := wsX15_swap) B.pre
  have hown : s.vm.findClass RX15 = some m.cls := findClass_of_methodNamed B.named
  have hlocks := B.notSynchronized
  subst hsz
  have hD := hD0.self (sz := s.heap.size)
  clear hD0
  generalize hAe : va_A (Wd cy a sh n z) s.heap.size = A at hD ⊢
  have hA : ∀ q : Nat, s.heap.size ≤ q → A q := fun q h => by rw [← hAe]; exact Or.inr h
  clear hAe
  have hS : va_S A s.heap s.heap [] := va_S.rf
  have hl := lv_entry ([.ref (a h0), .int x0, .int x1]) (n := 9) (Nat.le_of_ble_eq_true rfl)
  rw [lg_entry_eq]
  generalize (lg_sl ([.ref (a h0), .int x0, .int x1]) ++ List.replicate (9 - (lg_sl ([.ref (a h0), .int x0, .int x1])).length) Slot.unset).toArray = ls at hl ⊢
  replace hl : lv_has ls 9 [(0, .ref (a h0)), (1, .int x0), (2, .int x1)] := hl
  unfold fn_X15_swap at hf
  refine de_start hS hP (fun H locs hS hP => ?_)
  refine lv_aload_n hx hb dX15_swap_0 rfl (lv_at hl 0 rfl) ?_
  obtain ⟨g_1, hf⟩ := grd_some hf
  obtain ⟨kg_1, sg_1⟩ := okO_at g_1
  obtain ⟨k_2, ek_2, hf⟩ := lnk_some hf
  refine va_get (D := (dC, dI)) (ci := 15) (v := .ref (a k_2)) (C := RX15) (T := TX15) (N := 6) hx hb hts iwd_X15_swap_X15 hown hK hP h0 (Wd_ob kg_1 sg_1 (by decide)) rfl 0 (by decide) (hts _ md_X15_swap_1) (fun _ h9 => h9) (fl_q rfl ek_2) dX15_swap_1 ?_
  refine lv_iload_n hx hb dX15_swap_4 rfl (lv_at hl 1 rfl) ?_
  obtain ⟨g_3, hf⟩ := grd_some hf
  obtain ⟨kg_3, sg_3, ig_3⟩ := okA_at g_3
  refine va_bald hx hb hK hP k_2 0 (Wd_ab kg_3 sg_3) rfl ig_3 dX15_swap_5 ?_
  refine lv_topi (fun v_4 ev_4 => ?_)
  replace hf := lt_at ev_4 hf
  clear ev_4
  refine lv_istore_n (lv' := [(3, .int v_4), (0, .ref (a h0)), (1, .int x0), (2, .int x1)]) hx hb dX15_swap_6 rfl hl (by decide) rfl (fun ls hl2 => ?_)
  replace hl := hl2
  clear hl2
  refine lv_aload_n hx hb dX15_swap_7 rfl (lv_at hl 1 rfl) ?_
  obtain ⟨k_5, ek_5, hf⟩ := lnk_some hf
  refine va_get (D := (dC, dI)) (ci := 15) (v := .ref (a k_5)) (C := RX15) (T := TX15) (N := 6) hx hb hts iwd_X15_swap_X15 hown hK hP h0 (Wd_ob kg_1 sg_1 (by decide)) rfl 1 (by decide) (hts _ md_X15_swap_2) (fun _ h9 => h9) (fl_q rfl ek_5) dX15_swap_8 ?_
  refine lv_iload_n hx hb dX15_swap_11 rfl (lv_at hl 2 rfl) ?_
  obtain ⟨g_6, hf⟩ := grd_some hf
  obtain ⟨kg_6, sg_6, ig_6⟩ := okA_at g_6
  refine va_lald hx hb hK hP k_5 2 (Wd_al kg_6 sg_6) rfl ig_6 dX15_swap_12 ?_
  refine lv_topl (fun v_7 ev_7 => ?_)
  replace hf := lt_at ev_7 hf
  clear ev_7
  refine lv_lstore (lv' := [(4, .long v_7), (3, .int v_4), (0, .ref (a h0)), (1, .int x0), (2, .int x1)]) hx hb dX15_swap_13 hl (by decide) rfl (fun ls hl2 => ?_)
  replace hl := hl2
  clear hl2
  refine lv_aload_n hx hb dX15_swap_15 rfl (lv_at hl 2 rfl) ?_
  obtain ⟨k_8, ek_8, hf⟩ := lnk_some hf
  refine va_get (D := (dC, dI)) (ci := 15) (v := .ref (a k_8)) (C := RX15) (T := TX15) (N := 6) hx hb hts iwd_X15_swap_X15 hown hK hP h0 (Wd_ob kg_1 sg_1 (by decide)) rfl 2 (by decide) (hts _ md_X15_swap_3) (fun _ h9 => h9) (fl_q rfl ek_8) dX15_swap_16 ?_
  refine lv_iload_n hx hb dX15_swap_19 rfl (lv_at hl 3 rfl) ?_
  obtain ⟨g_9, hf⟩ := grd_some hf
  obtain ⟨kg_9, sg_9, ig_9⟩ := okA_at g_9
  refine va_lald hx hb hK hP k_8 2 (Wd_al kg_9 sg_9) rfl ig_9 dX15_swap_20 ?_
  refine lv_topl (fun v_10 ev_10 => ?_)
  replace hf := lt_at ev_10 hf
  clear ev_10
  refine lv_lstore (lv' := [(6, .long v_10), (4, .long v_7), (3, .int v_4), (0, .ref (a h0)), (1, .int x0), (2, .int x1)]) hx hb dX15_swap_21 hl (by decide) rfl (fun ls hl2 => ?_)
  replace hl := hl2
  clear hl2
  refine lv_aload_n hx hb dX15_swap_23 rfl (lv_at hl 3 rfl) ?_
  obtain ⟨k_11, ek_11, hf⟩ := lnk_some hf
  refine va_get (D := (dC, dI)) (ci := 15) (v := .ref (a k_11)) (C := RX15) (T := TX15) (N := 6) hx hb hts iwd_X15_swap_X15 hown hK hP h0 (Wd_ob kg_1 sg_1 (by decide)) rfl 3 (by decide) (hts _ md_X15_swap_4) (fun _ h9 => h9) (fl_q rfl ek_11) dX15_swap_24 ?_
  refine lv_iload_n hx hb dX15_swap_27 rfl (lv_at hl 4 rfl) ?_
  obtain ⟨g_12, hf⟩ := grd_some hf
  obtain ⟨kg_12, sg_12, ig_12⟩ := okA_at g_12
  refine va_iald hx hb hK hP k_11 1 (Wd_ai kg_12 sg_12) rfl ig_12 dX15_swap_28 ?_
  refine lv_topi (fun v_13 ev_13 => ?_)
  replace hf := lt_at ev_13 hf
  clear ev_13
  refine lv_istore (lv' := [(8, .int v_13), (6, .long v_10), (4, .long v_7), (3, .int v_4), (0, .ref (a h0)), (1, .int x0), (2, .int x1)]) hx hb dX15_swap_29 hl (by decide) rfl (fun ls hl2 => ?_)
  replace hl := hl2
  clear hl2
  refine lv_aload_n hx hb dX15_swap_31 rfl (lv_at hl 4 rfl) ?_
  refine lv_iload_n hx hb dX15_swap_32 rfl (lv_at hl 5 rfl) ?_
  refine lv_iload_n hx hb dX15_swap_33 rfl (lv_at hl 6 rfl) ?_
  obtain ⟨z_14, _u, hfc, hf⟩ := cal_some hf
  have hFc := de_free hD hS hA
  refine va_callv (va_runV (As := [.int x0, .int x1]) (rest := []) ⟨hx, hb, hml, hown, hts⟩ (de_X15_become l dC dI cy a sh n H.size F z h0 x0 x1 hfc) (cwV 2 hts gX15_swap_X15_become rfl rfl rfl (by decide +kernel) ⟨Nat.le_of_ble_eq_true rfl, Nat.le_of_ble_eq_true rfl⟩) ⟨fun a U g mk q => by obtain ⟨q0, q1, qP, qK, qD, qN⟩ := q; exact ⟨q0, q1, qP, va_K.moved (u := U) (U := U.calling g mk a) (Vm.Alike.refl U.vm) qK, qD, qN.same rfl⟩, va_recv hK hP (ci := 15) (q0 := h0) rfl (Wd_ob kg_1 sg_1 (by decide)), fun U hU hW => ⟨rfl, by rw [hU], by rw [hU]; exact hP, va_K.moved hW.alike hK, hD.weaken (fun _ _ _ _ => trivial), hN.warm hW⟩⟩ rfl rfl hl.1 rfl (lv_room (Nat.le_of_ble_eq_true rfl)) dX15_swap_34 ⟨Nat.le_of_ble_eq_true rfl, Nat.le_of_ble_eq_true rfl⟩) hS (fun q _ h => hFc q h) hFc (fun u t H_15 locs ht hvm hw hB hz1 hk1 hS2 => ?_)
  obtain ⟨hP1, -, hD1⟩ := hB
  rw [ht] at hP1
  replace hD := hD1.weaken (fun _ _ _ h => hFc _ h)
  replace hP := hP1
  replace hS := hS2
  clear hP1 hD1 hS2 hFc hfc hz1 hk1 hvm ht
  refine lv_aload_n hx hb dX15_swap_37 rfl (lv_at hl 4 rfl) ?_
  obtain ⟨k_16, ek_16, hf⟩ := lnk_some hf
  refine va_get (D := (dC, dI)) (ci := 15) (v := .ref (a k_16)) (C := RX15) (T := TX15) (N := 6) hx hb hts iwd_X15_swap_X15 hown hK hP h0 (Wd_ob kg_1 sg_1 (by decide)) rfl 0 (by decide) (hts _ md_X15_swap_1) (fun _ h9 => h9) (fl_q rfl ek_16) dX15_swap_38 ?_
  refine lv_iload_n hx hb dX15_swap_41 rfl (lv_at hl 6 rfl) ?_
  refine lv_iload_n hx hb dX15_swap_42 rfl (lv_at hl 3 rfl) ?_
  obtain ⟨g_17, hf⟩ := grd_some hf
  obtain ⟨kg_17, sg_17, ig_17⟩ := okA_at g_17
  refine va_bast hx hb hK hP hD hS k_16 0 (Wd_ab kg_17 sg_17) rfl ig_17 dX15_swap_43 (fun H_18 locs hP2 hD2 hS2 => ?_)
  rw [Wd_tb sg_17] at hP2 hD2
  obtain ⟨z_19, ez_19⟩ : ∃ w, w = si z_14 k_16 x1.toNatClampNeg (vp_nar .byte v_4) := ⟨_, rfl⟩
  rw [← ez_19] at hP2 hD2
  replace hf := lt_at ez_19 hf
  clear ez_19
  replace hP := hP2
  replace hD := hD2
  replace hS := hS2
  clear hP2 hD2 hS2
  refine lv_aload_n hx hb dX15_swap_44 rfl (lv_at hl 4 rfl) ?_
  obtain ⟨k_20, ek_20, hf⟩ := lnk_some hf
  refine va_get (D := (dC, dI)) (ci := 15) (v := .ref (a k_20)) (C := RX15) (T := TX15) (N := 6) hx hb hts iwd_X15_swap_X15 hown hK hP h0 (Wd_ob kg_1 sg_1 (by decide)) rfl 1 (by decide) (hts _ md_X15_swap_2) (fun _ h9 => h9) (fl_q rfl ek_20) dX15_swap_45 ?_
  refine lv_iload_n hx hb dX15_swap_48 rfl (lv_at hl 6 rfl) ?_
  refine lv_lload hx hb dX15_swap_49 (lv_at hl 2 rfl) ?_
  obtain ⟨g_21, hf⟩ := grd_some hf
  obtain ⟨kg_21, sg_21, ig_21⟩ := okA_at g_21
  refine va_last hx hb hK hP hD hS k_20 2 (Wd_al kg_21 sg_21) rfl ig_21 dX15_swap_51 (fun H_22 locs hP2 hD2 hS2 => ?_)
  rw [Wd_tl sg_21] at hP2 hD2
  obtain ⟨z_23, ez_23⟩ : ∃ w, w = sl z_19 k_20 x1.toNatClampNeg v_7 := ⟨_, rfl⟩
  rw [← ez_23] at hP2 hD2
  replace hf := lt_at ez_23 hf
  clear ez_23
  replace hP := hP2
  replace hD := hD2
  replace hS := hS2
  clear hP2 hD2 hS2
  refine lv_aload_n hx hb dX15_swap_52 rfl (lv_at hl 4 rfl) ?_
  obtain ⟨k_24, ek_24, hf⟩ := lnk_some hf
  refine va_get (D := (dC, dI)) (ci := 15) (v := .ref (a k_24)) (C := RX15) (T := TX15) (N := 6) hx hb hts iwd_X15_swap_X15 hown hK hP h0 (Wd_ob kg_1 sg_1 (by decide)) rfl 2 (by decide) (hts _ md_X15_swap_3) (fun _ h9 => h9) (fl_q rfl ek_24) dX15_swap_53 ?_
  refine lv_iload_n hx hb dX15_swap_56 rfl (lv_at hl 6 rfl) ?_
  refine lv_lload hx hb dX15_swap_57 (lv_at hl 1 rfl) ?_
  obtain ⟨g_25, hf⟩ := grd_some hf
  obtain ⟨kg_25, sg_25, ig_25⟩ := okA_at g_25
  refine va_last hx hb hK hP hD hS k_24 2 (Wd_al kg_25 sg_25) rfl ig_25 dX15_swap_59 (fun H_26 locs hP2 hD2 hS2 => ?_)
  rw [Wd_tl sg_25] at hP2 hD2
  obtain ⟨z_27, ez_27⟩ : ∃ w, w = sl z_23 k_24 x1.toNatClampNeg v_10 := ⟨_, rfl⟩
  rw [← ez_27] at hP2 hD2
  replace hf := lt_at ez_27 hf
  clear ez_27
  replace hP := hP2
  replace hD := hD2
  replace hS := hS2
  clear hP2 hD2 hS2
  refine lv_aload_n hx hb dX15_swap_60 rfl (lv_at hl 4 rfl) ?_
  obtain ⟨k_28, ek_28, hf⟩ := lnk_some hf
  refine va_get (D := (dC, dI)) (ci := 15) (v := .ref (a k_28)) (C := RX15) (T := TX15) (N := 6) hx hb hts iwd_X15_swap_X15 hown hK hP h0 (Wd_ob kg_1 sg_1 (by decide)) rfl 3 (by decide) (hts _ md_X15_swap_4) (fun _ h9 => h9) (fl_q rfl ek_28) dX15_swap_61 ?_
  refine lv_iload_n hx hb dX15_swap_64 rfl (lv_at hl 6 rfl) ?_
  refine lv_iload hx hb dX15_swap_65 (lv_at hl 0 rfl) ?_
  obtain ⟨g_29, hf⟩ := grd_some hf
  obtain ⟨kg_29, sg_29, ig_29⟩ := okA_at g_29
  refine va_iast hx hb hK hP hD hS k_28 1 (Wd_ai kg_29 sg_29) rfl ig_29 dX15_swap_67 (fun H_30 locs hP2 hD2 hS2 => ?_)
  rw [Wd_ti sg_29] at hP2 hD2
  obtain ⟨z_31, ez_31⟩ : ∃ w, w = si z_27 k_28 x1.toNatClampNeg v_13 := ⟨_, rfl⟩
  rw [← ez_31] at hP2 hD2
  replace hf := lt_at ez_31 hf
  clear ez_31
  replace hP := hP2
  replace hD := hD2
  replace hS := hS2
  clear hP2 hD2 hS2
  obtain ⟨h8, h9⟩ := ret_some hf
  rw [h8]
  exact W.vret hx hb hr (fun t ht hW => ⟨⟨(), rfl, trivial, by rw [ht]; exact hP, va_K.moved hW.alike hK, hD⟩, hS.F ht⟩) hS.2.2 dX15_swap_68

theorem md_X18_depthOf_1 : (.fieldLink RX18 189 "ResourceLedgerModel" "depths" "[I" : Cond) ∈ wsX18_depthOf := List.mem_of_getElem? (i := 1) rfl
theorem iwd_X18_depthOf_X18 : ∀ w ∈ wsX180, w ∈ wsX18_depthOf := fun _ h => List.mem_cons_of_mem _ (List.mem_append_right _ h)
theorem md_X18_depthOf_2 : (.constantLong RX18 146 (255) : Cond) ∈ wsX18_depthOf := List.mem_of_getElem? (i := 2) rfl
set_option maxHeartbeats 4000000 in
set_option maxRecDepth 100000 in
theorem de_X18_depthOf (l : Launch) (dC : Nat → ClassId) (dI : Nat → Nat → Nat) (cy : Nat → ClassId) (a : Nat → Nat) (sh : Nat → Nat × Nat) (n sz : Nat) (F : Nat) (z : St) (h0 : Nat) (x0 : Int32) (x1 : Int64) {z8 : St} {r8 : Int32} (hf : fn_X18_depthOf F sh n z h0 x0 x1 = some (z8, r8)) : Met l yX18_depthOf wsX18_depthOf ({ frames := 1, cells := 0, slots := 0, locals := 21 }) (va_Pc [.ref (a h0), .int x0, .long x1] (fun U => U.heap.size = sz ∧ va_P (dC, dI) vwCl (Wd cy a sh n z) U.heap ∧ va_K (dC, dI) vwCl (TYS cy) U ∧ va_D (fun _ => True) (Wd cy a sh n z) ∧ NK U)) (va_Qi (fun (r9 : Int32) (u : Unit) => r9 = r8) (fun u t => va_P (dC, dI) vwCl (Wd cy a sh n z8) t.heap ∧ va_K (dC, dI) vwCl (TYS cy) t ∧ va_D (va_A (Wd cy a sh n z) sz) (Wd cy a sh n z8)) (va_A (Wd cy a sh n z) sz)) 0 0 (va_A (Wd cy a sh n z) sz) := by
  refine Met.ofW (cc := cX18_depthOf) (maxL := 6) (ret := (some .int)) (by decide) rfl ?_
  intro p e s m args below meth c s₁ B hml hv
  obtain ⟨rfl, hsz, hP, hK, hD0, hN⟩ := hv
  have hx := B.exec
  have hb := B.bytes
  have hr := B.returns
  have hts := atoms_spec (ws := wsX18_depthOf) B.pre
  have hown : s.vm.findClass RX18 = some m.cls := findClass_of_methodNamed B.named
  have hlocks := B.notSynchronized
  subst hsz
  have hD := hD0.self (sz := s.heap.size)
  clear hD0
  generalize hAe : va_A (Wd cy a sh n z) s.heap.size = A at hD ⊢
  have hA : ∀ q : Nat, s.heap.size ≤ q → A q := fun q h => by rw [← hAe]; exact Or.inr h
  clear hAe
  have hS : va_S A s.heap s.heap [] := va_S.rf
  have hl := lv_entry ([.ref (a h0), .int x0, .long x1]) (n := 6) (Nat.le_of_ble_eq_true rfl)
  rw [lg_entry_eq]
  generalize (lg_sl ([.ref (a h0), .int x0, .long x1]) ++ List.replicate (6 - (lg_sl ([.ref (a h0), .int x0, .long x1])).length) Slot.unset).toArray = ls at hl ⊢
  replace hl : lv_has ls 6 [(0, .ref (a h0)), (1, .int x0), (2, .long x1)] := hl
  unfold fn_X18_depthOf at hf
  refine de_start hS hP (fun H locs hS hP => ?_)
  refine lv_lload_n hx hb dX18_depthOf_0 rfl (lv_at hl 2 rfl) ?_
  obtain ⟨z_1, r_2, hfc, hf⟩ := cal_some hf
  have hFc := de_free hD hS hA
  refine va_calli (va_runS (As := [.long x1]) (rest := []) ⟨hx, hb, hml, hown, hts⟩ (de_X18_endsInStructure l dC dI cy a sh n H.size F z x1 hfc) (va_cwS 1 hts gX18_depthOf_X18_endsInStructure rfl rfl rfl (by decide +kernel) ⟨Nat.le_of_ble_eq_true rfl, Nat.le_of_ble_eq_true rfl⟩) ⟨fun a U g mk q => by obtain ⟨q0, q1, qP, qK, qD, qN⟩ := q; exact ⟨q0, q1, qP, va_K.moved (u := U) (U := U.calling g mk a) (Vm.Alike.refl U.vm) qK, qD, qN.same rfl⟩, fun U hU hW => ⟨rfl, by rw [hU], by rw [hU]; exact hP, va_K.moved hW.alike hK, hD.weaken (fun _ _ _ _ => trivial), hN.warm hW⟩⟩ rfl rfl hl.1 rfl (lv_room (Nat.le_of_ble_eq_true rfl)) dX18_depthOf_1 ⟨Nat.le_of_ble_eq_true rfl, Nat.le_of_ble_eq_true rfl⟩) hS (fun q _ h => hFc q h) hFc (fun rr u t H_3 locs ht hvm hw hB hz1 hk1 hS2 => ?_)
  rw [hw]
  clear hw
  obtain ⟨hP1, -, hD1⟩ := hB
  rw [ht] at hP1
  replace hD := hD1.weaken (fun _ _ _ h => hFc _ h)
  replace hP := hP1
  replace hS := hS2
  clear hP1 hD1 hS2 hFc hfc hz1 hk1 hvm ht
  refine de_cut (h := 27) (fun (x : St × Int32) => [.int x.2]) (fun x ls H locs => lv_has ls 6 [(2, .long x1)] ∧ va_P (dC, dI) vwCl (Wd cy a sh n x.1) H ∧ va_D A (Wd cy a sh n x.1) ∧ va_S A s.heap H locs) (fun x => fn_X18_depthOf_B27 F sh n x1 x.1 x.2) (z8, r8) ?_ (fun B27 => ?_)
  · intro x ls H locs hI hf
    obtain ⟨z_5, p_4⟩ := x
    obtain ⟨hl2, hP2, hD2, hS2⟩ := hI
    replace hl : lv_has ls 6 [(2, .long x1)] := hl2
    replace hP := hP2
    replace hD := hD2
    replace hS := hS2
    clear hl2 hP2 hD2 hS2
    replace hf := fn_X18_depthOf_B27_s hf
    refine W.eq (g2 := F0 m 27 ls [.int p_4]) rfl ?_
    refine lv_istore (lv' := [(4, .int p_4), (2, .long x1)]) hx hb dX18_depthOf_27 hl (by decide) rfl (fun ls hl2 => ?_)
    replace hl := hl2
    clear hl2
    refine lv_iconst (v := 0) hx hb dX18_depthOf_29 (by decide) ?_
    refine lv_istore (lv' := [(5, .int 0), (4, .int p_4), (2, .long x1)]) hx hb dX18_depthOf_30 hl (by decide) rfl (fun ls hl2 => ?_)
    replace hl := hl2
    clear hl2
    have hl0 : lv_has ls 6 [(5, .int 0), (4, .int p_4), (2, .long x1)] := lv_sub hl [0, 1, 2] rfl
    refine de_loop (h := 32) (fun (x : St × Int32) ls H locs => lv_has ls 6 [(5, .int x.2), (4, .int p_4), (2, .long x1)] ∧ va_P (dC, dI) vwCl (Wd cy a sh n x.1) H ∧ va_D A (Wd cy a sh n x.1) ∧ va_S A s.heap H locs) (fun f x => fn_X18_depthOf_L32 F sh n x1 p_4 f x.1 x.2) (z8, r8) ?_ (fun _ => rfl) F (z_5, 0) ls H locs ⟨hl0, hP, hD, hS⟩ hf
    intro f_8 x ls H locs ih32 hI hf
    obtain ⟨z_7, p_6⟩ := x
    obtain ⟨hl2, hP2, hD2, hS2⟩ := hI
    replace hl : lv_has ls 6 [(5, .int p_6), (4, .int p_4), (2, .long x1)] := hl2
    replace hP := hP2
    replace hD := hD2
    replace hS := hS2
    clear hl2 hP2 hD2 hS2 hl0
    replace hf := fn_X18_depthOf_L32_s hf
    refine lv_iload hx hb dX18_depthOf_32 (lv_at hl 0 rfl) ?_
    refine lv_bipush (v := 8) hx hb dX18_depthOf_34 (by decide) ?_
    refine de_cut (h := 57) (fun (x : St × Int32) => []) (fun x ls H locs => lv_has ls 6 [(5, .int x.2), (4, .int p_4), (2, .long x1)] ∧ va_P (dC, dI) vwCl (Wd cy a sh n x.1) H ∧ va_D A (Wd cy a sh n x.1) ∧ va_S A s.heap H locs) (fun x => fn_X18_depthOf_B57 F sh n x1 p_4 x.1 x.2) (z8, r8) ?_ (fun B57 => ?_)
    · intro x ls H locs hI hf
      obtain ⟨z_10, p_9⟩ := x
      obtain ⟨hl2, hP2, hD2, hS2⟩ := hI
      replace hl : lv_has ls 6 [(5, .int p_9), (4, .int p_4), (2, .long x1)] := hl2
      replace hP := hP2
      replace hD := hD2
      replace hS := hS2
      clear hl2 hP2 hD2 hS2
      replace hf := fn_X18_depthOf_B57_s hf
      refine W.eq (g2 := F0 m 57 ls []) rfl ?_
      refine lv_iload hx hb dX18_depthOf_57 (lv_at hl 1 rfl) ?_
      refine lv_lload_n hx hb dX18_depthOf_59 rfl (lv_at hl 2 rfl) ?_
      obtain ⟨z_11, r_12, hfc, hf⟩ := cal_some hf
      have hFc := de_free hD hS hA
      refine va_calli (va_runS (As := [.long x1]) (rest := [.int p_4]) ⟨hx, hb, hml, hown, hts⟩ (de_X18_endsInStructure l dC dI cy a sh n H.size F z_10 x1 hfc) (va_cwS 1 hts gX18_depthOf_X18_endsInStructure rfl rfl rfl (by decide +kernel) ⟨Nat.le_of_ble_eq_true rfl, Nat.le_of_ble_eq_true rfl⟩) ⟨fun a U g mk q => by obtain ⟨q0, q1, qP, qK, qD, qN⟩ := q; exact ⟨q0, q1, qP, va_K.moved (u := U) (U := U.calling g mk a) (Vm.Alike.refl U.vm) qK, qD, qN.same rfl⟩, fun U hU hW => ⟨rfl, by rw [hU], by rw [hU]; exact hP, va_K.moved hW.alike hK, hD.weaken (fun _ _ _ _ => trivial), hN.warm hW⟩⟩ rfl rfl hl.1 rfl (lv_room (Nat.le_of_ble_eq_true rfl)) dX18_depthOf_60 ⟨Nat.le_of_ble_eq_true rfl, Nat.le_of_ble_eq_true rfl⟩) hS (fun q _ h => hFc q h) hFc (fun rr u t H_13 locs ht hvm hw hB hz1 hk1 hS2 => ?_)
      rw [hw]
      clear hw
      obtain ⟨hP1, -, hD1⟩ := hB
      rw [ht] at hP1
      replace hD := hD1.weaken (fun _ _ _ h => hFc _ h)
      replace hP := hP1
      replace hS := hS2
      clear hP1 hD1 hS2 hFc hfc hz1 hk1 hvm ht
      refine lv_if_eq (tgt := 73) hx hb dX18_depthOf_63 (by decide) (fun c_14 => ?_) (fun c_14 => ?_)
      · skip
        rw [if_pos c_14] at hf
        refine lv_iload hx hb dX18_depthOf_73 (lv_at hl 0 rfl) ?_
        refine lv_iconst (v := 1) hx hb dX18_depthOf_75 (by decide) ?_
        refine lv_isub hx hb dX18_depthOf_76 ?_
        refine lv_iadd hx hb dX18_depthOf_77 ?_
        obtain ⟨h8, h9⟩ := ret_some hf
        rw [h8, h9]
        exact W.iret (v := (p_4 + (p_9 - 1))) hx hb hr (fun t ht hW => ⟨⟨(p_4 + (p_9 - 1)), (), rfl, rfl, by rw [ht]; exact hP, va_K.moved hW.alike hK, hD⟩, hS.F ht⟩) hS.2.2 dX18_depthOf_78
      · skip
        rw [if_neg c_14] at hf
        refine lv_iload hx hb dX18_depthOf_66 (lv_at hl 0 rfl) ?_
        refine lv_iconst (v := 2) hx hb dX18_depthOf_68 (by decide) ?_
        refine lv_isub hx hb dX18_depthOf_69 ?_
        refine lv_goto (tgt := 77) hx hb dX18_depthOf_70 (by decide) ?_
        refine lv_iadd hx hb dX18_depthOf_77 ?_
        obtain ⟨h8, h9⟩ := ret_some hf
        rw [h8, h9]
        exact W.iret (v := (p_4 + (p_9 - 2))) hx hb hr (fun t ht hW => ⟨⟨(p_4 + (p_9 - 2)), (), rfl, rfl, by rw [ht]; exact hP, va_K.moved hW.alike hK, hD⟩, hS.F ht⟩) hS.2.2 dX18_depthOf_78
    refine lv_icmp_ge (tgt := 57) hx hb dX18_depthOf_36 (by decide) (fun c_15 => ?_) (fun c_15 => ?_)
    · skip
      rw [if_pos c_15] at hf
      exact B57 (z_7, p_6) ls H locs ⟨lv_sub hl [0, 1, 2] rfl, hP, hD, hS⟩ hf
    · skip
      rw [if_neg c_15] at hf
      refine lv_lload_n hx hb dX18_depthOf_39 rfl (lv_at hl 2 rfl) ?_
      refine lv_bipush (v := 8) hx hb dX18_depthOf_40 (by decide) ?_
      refine lv_iload hx hb dX18_depthOf_42 (lv_at hl 0 rfl) ?_
      refine lv_imul hx hb dX18_depthOf_44 ?_
      refine lv_lshr (v := (x1 >>> (((8 * p_6) : Int32).toInt64 &&& 63))) hx hb dX18_depthOf_45 rfl ?_
      refine lv_lconst (v := 0) hx hb dX18_depthOf_46 (by decide) ?_
      refine W.lcmp hx hb dX18_depthOf_47 ?_
      refine lv_if_le (tgt := 57) hx hb dX18_depthOf_48 (by decide) (fun c_16 => ?_) (fun c_16 => ?_)
      · skip
        rw [lg_cmp_le] at c_16
        rw [if_pos c_16] at hf
        exact B57 (z_7, p_6) ls H locs ⟨lv_sub hl [0, 1, 2] rfl, hP, hD, hS⟩ hf
      · skip
        rw [lg_cmp_le] at c_16
        rw [if_neg c_16] at hf
        refine lv_iinc (v := (p_6 + 1)) (lv' := [(5, .int (p_6 + 1)), (4, .int p_4), (2, .long x1)]) hx hb dX18_depthOf_51 hl (k := 0) rfl rfl (by decide) rfl (fun ls hl2 => ?_)
        replace hl := hl2
        clear hl2
        refine lv_goto (tgt := 32) hx hb dX18_depthOf_54 (by decide) ?_
        exact ih32 (z_7, (p_6 + 1)) ls H locs ⟨lv_sub hl [0, 1, 2] rfl, hP, hD, hS⟩ hf
  refine lv_if_eq (tgt := 26) hx hb dX18_depthOf_4 (by decide) (fun c_17 => ?_) (fun c_17 => ?_)
  · skip
    rw [if_pos c_17] at hf
    refine lv_iconst (v := 1) hx hb dX18_depthOf_26 (by decide) ?_
    exact B27 (z_1, 1) ls H_3 locs ⟨lv_sub hl [2] rfl, hP, hD, hS⟩ hf
  · skip
    rw [if_neg c_17] at hf
    refine lv_aload_n hx hb dX18_depthOf_7 rfl (lv_at hl 0 rfl) ?_
    obtain ⟨g_18, hf⟩ := grd_some hf
    obtain ⟨kg_18, sg_18⟩ := okO_at g_18
    obtain ⟨k_19, ek_19, hf⟩ := lnk_some hf
    refine va_get (D := (dC, dI)) (ci := 18) (v := .ref (a k_19)) (C := RX18) (T := TX18) (N := 78) hx hb hts iwd_X18_depthOf_X18 hown hK hP h0 (Wd_ob kg_18 sg_18 (by decide)) rfl 6 (by decide) (hts _ md_X18_depthOf_1) (fun _ h9 => h9) (fl_q rfl ek_19) dX18_depthOf_8 ?_
    refine lv_bipush (v := 64) hx hb dX18_depthOf_11 (by decide) ?_
    refine lv_iload_n hx hb dX18_depthOf_13 rfl (lv_at hl 1 rfl) ?_
    refine lv_imul hx hb dX18_depthOf_14 ?_
    refine lv_lload_n hx hb dX18_depthOf_15 rfl (lv_at hl 2 rfl) ?_
    refine lv_ldc2 hx hb hown (hts _ md_X18_depthOf_2) dX18_depthOf_16 ?_
    refine lv_land hx hb dX18_depthOf_19 ?_
    refine lv_l2i (v := ((x1 &&& 255) : Int64).toInt32) hx hb dX18_depthOf_20 rfl ?_
    refine lv_iadd hx hb dX18_depthOf_21 ?_
    obtain ⟨g_20, hf⟩ := grd_some hf
    obtain ⟨kg_20, sg_20, ig_20⟩ := okA_at g_20
    refine va_iald hx hb hK hP k_19 1 (Wd_ai kg_20 sg_20) rfl ig_20 dX18_depthOf_22 ?_
    refine lv_goto (tgt := 27) hx hb dX18_depthOf_23 (by decide) ?_
    exact B27 (z_1, (z_1.1 k_19 ((64 * x0) + (((x1 &&& 255) : Int64).toInt32)).toNatClampNeg)) ls H_3 locs ⟨lv_sub hl [2] rfl, hP, hD, hS⟩ hf

theorem md_X18_result_1 : (.fieldLink RX18 587 "ResourceLedgerModel" "resultCounts" "[I" : Cond) ∈ wsX18_result := List.mem_of_getElem? (i := 1) rfl
theorem iwd_X18_result_X18 : ∀ w ∈ wsX180, w ∈ wsX18_result := fun _ h => List.mem_cons_of_mem _ (List.mem_append_right _ h)
theorem md_X18_result_4 : (.fieldLink RX18 590 "ResourceLedgerModel" "resultTypes" "[B" : Cond) ∈ wsX18_result := List.mem_of_getElem? (i := 4) rfl
theorem md_X18_result_3 : (.fieldLink RX18 593 "ResourceLedgerModel" "resultHighs" "[J" : Cond) ∈ wsX18_result := List.mem_of_getElem? (i := 3) rfl
theorem md_X18_result_2 : (.fieldLink RX18 596 "ResourceLedgerModel" "resultLows" "[J" : Cond) ∈ wsX18_result := List.mem_of_getElem? (i := 2) rfl
set_option maxHeartbeats 4000000 in
set_option maxRecDepth 100000 in
theorem de_X18_result (l : Launch) (dC : Nat → ClassId) (dI : Nat → Nat → Nat) (cy : Nat → ClassId) (a : Nat → Nat) (sh : Nat → Nat × Nat) (n sz : Nat) (F : Nat) (z : St) (h0 : Nat) (x0 : Int32) (x1 : Int32) (x2 : Int32) {z8 : St} {r8 : Int64} (hf : fn_X18_result F sh n z h0 x0 x1 x2 = some (z8, r8)) : Met l yX18_result wsX18_result ({ frames := 1, cells := 0, slots := 0, locals := 21 }) (va_Pc [.ref (a h0), .int x0, .int x1, .int x2] (fun U => U.heap.size = sz ∧ va_P (dC, dI) vwCl (Wd cy a sh n z) U.heap ∧ va_K (dC, dI) vwCl (TYS cy) U ∧ va_D (fun _ => True) (Wd cy a sh n z) ∧ NK U)) (va_Ql (fun (r9 : Int64) (u : Unit) => r9 = r8) (fun u t => va_P (dC, dI) vwCl (Wd cy a sh n z8) t.heap ∧ va_K (dC, dI) vwCl (TYS cy) t ∧ va_D (va_A (Wd cy a sh n z) sz) (Wd cy a sh n z8)) (va_A (Wd cy a sh n z) sz)) 0 0 (va_A (Wd cy a sh n z) sz) := by
  refine Met.ofW (cc := cX18_result) (maxL := 5) (ret := (some .long)) (by decide) rfl ?_
  intro p e s m args below meth c s₁ B hml hv
  obtain ⟨rfl, hsz, hP, hK, hD0, hN⟩ := hv
  have hx := B.exec
  have hb := B.bytes
  have hr := B.returns
  have hts := atoms_spec (ws := wsX18_result) B.pre
  have hown : s.vm.findClass RX18 = some m.cls := findClass_of_methodNamed B.named
  have hlocks := B.notSynchronized
  subst hsz
  have hD := hD0.self (sz := s.heap.size)
  clear hD0
  generalize hAe : va_A (Wd cy a sh n z) s.heap.size = A at hD ⊢
  have hA : ∀ q : Nat, s.heap.size ≤ q → A q := fun q h => by rw [← hAe]; exact Or.inr h
  clear hAe
  have hS : va_S A s.heap s.heap [] := va_S.rf
  have hl := lv_entry ([.ref (a h0), .int x0, .int x1, .int x2]) (n := 5) (Nat.le_of_ble_eq_true rfl)
  rw [lg_entry_eq]
  generalize (lg_sl ([.ref (a h0), .int x0, .int x1, .int x2]) ++ List.replicate (5 - (lg_sl ([.ref (a h0), .int x0, .int x1, .int x2])).length) Slot.unset).toArray = ls at hl ⊢
  replace hl : lv_has ls 5 [(0, .ref (a h0)), (1, .int x0), (2, .int x1), (3, .int x2)] := hl
  unfold fn_X18_result at hf
  refine de_start hS hP (fun H locs hS hP => ?_)
  refine lv_aload_n hx hb dX18_result_0 rfl (lv_at hl 0 rfl) ?_
  refine lv_iload_n hx hb dX18_result_1 rfl (lv_at hl 1 rfl) ?_
  obtain ⟨g_3, hf⟩ := grd_some hf
  obtain ⟨kg_3, sg_3⟩ := okO_at g_3
  obtain ⟨z_1, r_2, hfc, hf⟩ := cal_some hf
  have hFc := de_free hD hS hA
  refine va_calli (va_runV (As := [.int x0]) (rest := []) ⟨hx, hb, hml, hown, hts⟩ (de_X18_isDone l dC dI cy a sh n H.size F z h0 x0 hfc) (cwV 1 hts gX18_result_X18_isDone rfl rfl rfl (by decide +kernel) ⟨Nat.le_of_ble_eq_true rfl, Nat.le_of_ble_eq_true rfl⟩) ⟨fun a U g mk q => by obtain ⟨q0, q1, qP, qK, qD, qN⟩ := q; exact ⟨q0, q1, qP, va_K.moved (u := U) (U := U.calling g mk a) (Vm.Alike.refl U.vm) qK, qD, qN.same rfl⟩, va_recv hK hP (ci := 18) (q0 := h0) rfl (Wd_ob kg_3 sg_3 (by decide)), fun U hU hW => ⟨rfl, by rw [hU], by rw [hU]; exact hP, va_K.moved hW.alike hK, hD.weaken (fun _ _ _ _ => trivial), hN.warm hW⟩⟩ rfl rfl hl.1 rfl (lv_room (Nat.le_of_ble_eq_true rfl)) dX18_result_2 ⟨Nat.le_of_ble_eq_true rfl, Nat.le_of_ble_eq_true rfl⟩) hS (fun q _ h => hFc q h) hFc (fun rr u t H_4 locs ht hvm hw hB hz1 hk1 hS2 => ?_)
  rw [hw]
  clear hw
  obtain ⟨hP1, -, hD1⟩ := hB
  rw [ht] at hP1
  replace hD := hD1.weaken (fun _ _ _ h => hFc _ h)
  replace hP := hP1
  replace hS := hS2
  clear hP1 hD1 hS2 hFc hfc hz1 hk1 hvm ht
  refine lv_if_eq (tgt := 31) hx hb dX18_result_5 (by decide) (fun c_5 => ?_) (fun c_5 => ?_)
  · skip
    rw [if_pos c_5] at hf
    refine lv_lconst (v := 0) hx hb dX18_result_31 (by decide) ?_
    obtain ⟨h8, h9⟩ := ret_some hf
    rw [h8, h9]
    exact W.lret (v := 0) hx hb hr (fun t ht hW => ⟨⟨0, (), rfl, rfl, by rw [ht]; exact hP, va_K.moved hW.alike hK, hD⟩, hS.F ht⟩) hS.2.2 dX18_result_32
  · skip
    rw [if_neg c_5] at hf
    refine lv_iload_n hx hb dX18_result_8 rfl (lv_at hl 2 rfl) ?_
    refine lv_if_lt (tgt := 31) hx hb dX18_result_9 (by decide) (fun c_6 => ?_) (fun c_6 => ?_)
    · skip
      rw [if_pos c_6] at hf
      refine lv_lconst (v := 0) hx hb dX18_result_31 (by decide) ?_
      obtain ⟨h8, h9⟩ := ret_some hf
      rw [h8, h9]
      exact W.lret (v := 0) hx hb hr (fun t ht hW => ⟨⟨0, (), rfl, rfl, by rw [ht]; exact hP, va_K.moved hW.alike hK, hD⟩, hS.F ht⟩) hS.2.2 dX18_result_32
    · skip
      rw [if_neg c_6] at hf
      refine lv_iload_n hx hb dX18_result_12 rfl (lv_at hl 2 rfl) ?_
      refine lv_aload_n hx hb dX18_result_13 rfl (lv_at hl 0 rfl) ?_
      obtain ⟨k_7, ek_7, hf⟩ := lnk_some hf
      refine va_get (D := (dC, dI)) (ci := 18) (v := .ref (a k_7)) (C := RX18) (T := TX18) (N := 78) hx hb hts iwd_X18_result_X18 hown hK hP h0 (Wd_ob kg_3 sg_3 (by decide)) rfl 70 (by decide) (hts _ md_X18_result_1) (fun _ h9 => h9) (fl_q rfl ek_7) dX18_result_14 ?_
      refine lv_iload_n hx hb dX18_result_17 rfl (lv_at hl 1 rfl) ?_
      obtain ⟨g_8, hf⟩ := grd_some hf
      obtain ⟨kg_8, sg_8, ig_8⟩ := okA_at g_8
      refine va_iald hx hb hK hP k_7 1 (Wd_ai kg_8 sg_8) rfl ig_8 dX18_result_18 ?_
      refine lv_icmp_ge (tgt := 31) hx hb dX18_result_19 (by decide) (fun c_9 => ?_) (fun c_9 => ?_)
      · skip
        rw [if_pos c_9] at hf
        refine lv_lconst (v := 0) hx hb dX18_result_31 (by decide) ?_
        obtain ⟨h8, h9⟩ := ret_some hf
        rw [h8, h9]
        exact W.lret (v := 0) hx hb hr (fun t ht hW => ⟨⟨0, (), rfl, rfl, by rw [ht]; exact hP, va_K.moved hW.alike hK, hD⟩, hS.F ht⟩) hS.2.2 dX18_result_32
      · skip
        rw [if_neg c_9] at hf
        refine lv_iload_n hx hb dX18_result_22 rfl (lv_at hl 3 rfl) ?_
        refine lv_if_lt (tgt := 31) hx hb dX18_result_23 (by decide) (fun c_10 => ?_) (fun c_10 => ?_)
        · skip
          rw [if_pos c_10] at hf
          refine lv_lconst (v := 0) hx hb dX18_result_31 (by decide) ?_
          obtain ⟨h8, h9⟩ := ret_some hf
          rw [h8, h9]
          exact W.lret (v := 0) hx hb hr (fun t ht hW => ⟨⟨0, (), rfl, rfl, by rw [ht]; exact hP, va_K.moved hW.alike hK, hD⟩, hS.F ht⟩) hS.2.2 dX18_result_32
        · skip
          rw [if_neg c_10] at hf
          refine lv_iload_n hx hb dX18_result_26 rfl (lv_at hl 3 rfl) ?_
          refine lv_iconst (v := 2) hx hb dX18_result_27 (by decide) ?_
          refine lv_icmp_le (tgt := 33) hx hb dX18_result_28 (by decide) (fun c_11 => ?_) (fun c_11 => ?_)
          · skip
            rw [if_pos c_11] at hf
            refine lv_bipush (v := 8) hx hb dX18_result_33 (by decide) ?_
            refine lv_iload_n hx hb dX18_result_35 rfl (lv_at hl 1 rfl) ?_
            refine lv_imul hx hb dX18_result_36 ?_
            refine lv_iload_n hx hb dX18_result_37 rfl (lv_at hl 2 rfl) ?_
            refine lv_iadd hx hb dX18_result_38 ?_
            refine lv_topi (fun v_12 ev_12 => ?_)
            replace hf := lt_at ev_12 hf
            clear ev_12
            refine lv_istore (lv' := [(4, .int v_12), (0, .ref (a h0)), (1, .int x0), (2, .int x1), (3, .int x2)]) hx hb dX18_result_39 hl (by decide) rfl (fun ls hl2 => ?_)
            replace hl := hl2
            clear hl2
            refine lv_iload_n hx hb dX18_result_41 rfl (lv_at hl 4 rfl) ?_
            refine lv_if_ne (tgt := 55) hx hb dX18_result_42 (by decide) (fun c_13 => ?_) (fun c_13 => ?_)
            · skip
              rw [if_neg c_13] at hf
              refine lv_iload_n hx hb dX18_result_55 rfl (lv_at hl 4 rfl) ?_
              refine lv_iconst (v := 1) hx hb dX18_result_56 (by decide) ?_
              refine lv_icmp_ne (tgt := 70) hx hb dX18_result_57 (by decide) (fun c_14 => ?_) (fun c_14 => ?_)
              · skip
                rw [if_neg c_14] at hf
                refine lv_aload_n hx hb dX18_result_70 rfl (lv_at hl 1 rfl) ?_
                obtain ⟨k_15, ek_15, hf⟩ := lnk_some hf
                refine va_get (D := (dC, dI)) (ci := 18) (v := .ref (a k_15)) (C := RX18) (T := TX18) (N := 78) hx hb hts iwd_X18_result_X18 hown hK hP h0 (Wd_ob kg_3 sg_3 (by decide)) rfl 71 (by decide) (hts _ md_X18_result_4) (fun _ h9 => h9) (fl_q rfl ek_15) dX18_result_71 ?_
                refine lv_iload hx hb dX18_result_74 (lv_at hl 0 rfl) ?_
                obtain ⟨g_16, hf⟩ := grd_some hf
                obtain ⟨kg_16, sg_16, ig_16⟩ := okA_at g_16
                refine va_bald hx hb hK hP k_15 0 (Wd_ab kg_16 sg_16) rfl ig_16 dX18_result_76 ?_
                refine lv_i2l (v := ((z_1.1 k_15 v_12.toNatClampNeg) : Int32).toInt64) hx hb dX18_result_77 rfl ?_
                obtain ⟨h8, h9⟩ := ret_some hf
                rw [h8, h9]
                exact W.lret (v := (((z_1.1 k_15 v_12.toNatClampNeg) : Int32).toInt64)) hx hb hr (fun t ht hW => ⟨⟨(((z_1.1 k_15 v_12.toNatClampNeg) : Int32).toInt64), (), rfl, rfl, by rw [ht]; exact hP, va_K.moved hW.alike hK, hD⟩, hS.F ht⟩) hS.2.2 dX18_result_78
              · skip
                rw [if_pos c_14] at hf
                refine lv_aload_n hx hb dX18_result_60 rfl (lv_at hl 1 rfl) ?_
                obtain ⟨k_17, ek_17, hf⟩ := lnk_some hf
                refine va_get (D := (dC, dI)) (ci := 18) (v := .ref (a k_17)) (C := RX18) (T := TX18) (N := 78) hx hb hts iwd_X18_result_X18 hown hK hP h0 (Wd_ob kg_3 sg_3 (by decide)) rfl 72 (by decide) (hts _ md_X18_result_3) (fun _ h9 => h9) (fl_q rfl ek_17) dX18_result_61 ?_
                refine lv_iload hx hb dX18_result_64 (lv_at hl 0 rfl) ?_
                obtain ⟨g_18, hf⟩ := grd_some hf
                obtain ⟨kg_18, sg_18, ig_18⟩ := okA_at g_18
                refine va_lald hx hb hK hP k_17 2 (Wd_al kg_18 sg_18) rfl ig_18 dX18_result_66 ?_
                refine lv_goto (tgt := 78) hx hb dX18_result_67 (by decide) ?_
                obtain ⟨h8, h9⟩ := ret_some hf
                rw [h8, h9]
                exact W.lret (v := (z_1.2.1 k_17 v_12.toNatClampNeg)) hx hb hr (fun t ht hW => ⟨⟨(z_1.2.1 k_17 v_12.toNatClampNeg), (), rfl, rfl, by rw [ht]; exact hP, va_K.moved hW.alike hK, hD⟩, hS.F ht⟩) hS.2.2 dX18_result_78
            · skip
              rw [if_pos c_13] at hf
              refine lv_aload_n hx hb dX18_result_45 rfl (lv_at hl 1 rfl) ?_
              obtain ⟨k_19, ek_19, hf⟩ := lnk_some hf
              refine va_get (D := (dC, dI)) (ci := 18) (v := .ref (a k_19)) (C := RX18) (T := TX18) (N := 78) hx hb hts iwd_X18_result_X18 hown hK hP h0 (Wd_ob kg_3 sg_3 (by decide)) rfl 73 (by decide) (hts _ md_X18_result_2) (fun _ h9 => h9) (fl_q rfl ek_19) dX18_result_46 ?_
              refine lv_iload hx hb dX18_result_49 (lv_at hl 0 rfl) ?_
              obtain ⟨g_20, hf⟩ := grd_some hf
              obtain ⟨kg_20, sg_20, ig_20⟩ := okA_at g_20
              refine va_lald hx hb hK hP k_19 2 (Wd_al kg_20 sg_20) rfl ig_20 dX18_result_51 ?_
              refine lv_goto (tgt := 78) hx hb dX18_result_52 (by decide) ?_
              obtain ⟨h8, h9⟩ := ret_some hf
              rw [h8, h9]
              exact W.lret (v := (z_1.2.1 k_19 v_12.toNatClampNeg)) hx hb hr (fun t ht hW => ⟨⟨(z_1.2.1 k_19 v_12.toNatClampNeg), (), rfl, rfl, by rw [ht]; exact hP, va_K.moved hW.alike hK, hD⟩, hS.F ht⟩) hS.2.2 dX18_result_78
          · skip
            rw [if_neg c_11] at hf
            refine lv_lconst (v := 0) hx hb dX18_result_31 (by decide) ?_
            obtain ⟨h8, h9⟩ := ret_some hf
            rw [h8, h9]
            exact W.lret (v := 0) hx hb hr (fun t ht hW => ⟨⟨0, (), rfl, rfl, by rw [ht]; exact hP, va_K.moved hW.alike hK, hD⟩, hS.F ht⟩) hS.2.2 dX18_result_32

theorem md_X18_told_1 : (.fieldLink RX18 626 "ResourceLedgerModel" "count" "I" : Cond) ∈ wsX18_told := List.mem_of_getElem? (i := 1) rfl
theorem iwd_X18_told_X18 : ∀ w ∈ wsX180, w ∈ wsX18_told := fun _ h => List.mem_cons_of_mem _ (List.mem_append_right _ h)
theorem md_X18_told_5 : (.fieldLink RX18 581 "ResourceLedgerModel" "faultPlaces" "[I" : Cond) ∈ wsX18_told := List.mem_of_getElem? (i := 5) rfl
theorem md_X18_told_4 : (.fieldLink RX18 587 "ResourceLedgerModel" "resultCounts" "[I" : Cond) ∈ wsX18_told := List.mem_of_getElem? (i := 4) rfl
theorem md_X18_told_3 : (.fieldLink RX18 578 "ResourceLedgerModel" "gases" "[I" : Cond) ∈ wsX18_told := List.mem_of_getElem? (i := 3) rfl
theorem md_X18_told_2 : (.fieldLink RX18 575 "ResourceLedgerModel" "outcomes" "[I" : Cond) ∈ wsX18_told := List.mem_of_getElem? (i := 2) rfl
set_option maxHeartbeats 4000000 in
set_option maxRecDepth 100000 in
theorem de_X18_told (l : Launch) (dC : Nat → ClassId) (dI : Nat → Nat → Nat) (cy : Nat → ClassId) (a : Nat → Nat) (sh : Nat → Nat × Nat) (n sz : Nat) (F : Nat) (z : St) (h0 : Nat) (x0 : Int32) (x1 : Int32) {z8 : St} {r8 : Int32} (hf : fn_X18_told F sh n z h0 x0 x1 = some (z8, r8)) : Met l yX18_told wsX18_told ({ frames := 1, cells := 0, slots := 0, locals := 21 }) (va_Pc [.ref (a h0), .int x0, .int x1] (fun U => U.heap.size = sz ∧ va_P (dC, dI) vwCl (Wd cy a sh n z) U.heap ∧ va_K (dC, dI) vwCl (TYS cy) U ∧ va_D (fun _ => True) (Wd cy a sh n z) ∧ NK U)) (va_Qi (fun (r9 : Int32) (u : Unit) => r9 = r8) (fun u t => va_P (dC, dI) vwCl (Wd cy a sh n z8) t.heap ∧ va_K (dC, dI) vwCl (TYS cy) t ∧ va_D (va_A (Wd cy a sh n z) sz) (Wd cy a sh n z8)) (va_A (Wd cy a sh n z) sz)) 0 0 (va_A (Wd cy a sh n z) sz) := by
  refine Met.ofW (cc := cX18_told) (maxL := 3) (ret := (some .int)) (by decide) rfl ?_
  intro p e s m args below meth c s₁ B hml hv
  obtain ⟨rfl, hsz, hP, hK, hD0, hN⟩ := hv
  have hx := B.exec
  have hb := B.bytes
  have hr := B.returns
  have hts := atoms_spec (ws := wsX18_told) B.pre
  have hown : s.vm.findClass RX18 = some m.cls := findClass_of_methodNamed B.named
  have hlocks := B.notSynchronized
  subst hsz
  have hD := hD0.self (sz := s.heap.size)
  clear hD0
  generalize hAe : va_A (Wd cy a sh n z) s.heap.size = A at hD ⊢
  have hA : ∀ q : Nat, s.heap.size ≤ q → A q := fun q h => by rw [← hAe]; exact Or.inr h
  clear hAe
  have hS : va_S A s.heap s.heap [] := va_S.rf
  have hl := lv_entry ([.ref (a h0), .int x0, .int x1]) (n := 3) (Nat.le_of_ble_eq_true rfl)
  rw [lg_entry_eq]
  generalize (lg_sl ([.ref (a h0), .int x0, .int x1]) ++ List.replicate (3 - (lg_sl ([.ref (a h0), .int x0, .int x1])).length) Slot.unset).toArray = ls at hl ⊢
  replace hl : lv_has ls 3 [(0, .ref (a h0)), (1, .int x0), (2, .int x1)] := hl
  unfold fn_X18_told at hf
  refine de_start hS hP (fun H locs hS hP => ?_)
  refine lv_iload_n hx hb dX18_told_0 rfl (lv_at hl 1 rfl) ?_
  refine lv_if_lt (tgt := 21) hx hb dX18_told_1 (by decide) (fun c_1 => ?_) (fun c_1 => ?_)
  · skip
    rw [if_pos c_1] at hf
    refine lv_iconst (v := (-1)) hx hb dX18_told_21 (by decide) ?_
    obtain ⟨h8, h9⟩ := ret_some hf
    rw [h8, h9]
    exact W.iret (v := (-1)) hx hb hr (fun t ht hW => ⟨⟨(-1), (), rfl, rfl, by rw [ht]; exact hP, va_K.moved hW.alike hK, hD⟩, hS.F ht⟩) hS.2.2 dX18_told_22
  · skip
    rw [if_neg c_1] at hf
    refine lv_iload_n hx hb dX18_told_4 rfl (lv_at hl 1 rfl) ?_
    refine lv_aload_n hx hb dX18_told_5 rfl (lv_at hl 0 rfl) ?_
    obtain ⟨g_2, hf⟩ := grd_some hf
    obtain ⟨kg_2, sg_2⟩ := okO_at g_2
    refine va_get (D := (dC, dI)) (ci := 18) (v := .int (z.1 h0 52)) (C := RX18) (T := TX18) (N := 78) hx hb hts iwd_X18_told_X18 hown hK hP h0 (Wd_ob kg_2 sg_2 (by decide)) rfl 52 (by decide) (hts _ md_X18_told_1) (fun _ h9 => h9) (fl_at (t := 0) rfl) dX18_told_6 ?_
    refine lv_icmp_ge (tgt := 21) hx hb dX18_told_9 (by decide) (fun c_3 => ?_) (fun c_3 => ?_)
    · skip
      rw [if_pos c_3] at hf
      refine lv_iconst (v := (-1)) hx hb dX18_told_21 (by decide) ?_
      obtain ⟨h8, h9⟩ := ret_some hf
      rw [h8, h9]
      exact W.iret (v := (-1)) hx hb hr (fun t ht hW => ⟨⟨(-1), (), rfl, rfl, by rw [ht]; exact hP, va_K.moved hW.alike hK, hD⟩, hS.F ht⟩) hS.2.2 dX18_told_22
    · skip
      rw [if_neg c_3] at hf
      refine lv_iload_n hx hb dX18_told_12 rfl (lv_at hl 2 rfl) ?_
      refine lv_if_lt (tgt := 21) hx hb dX18_told_13 (by decide) (fun c_4 => ?_) (fun c_4 => ?_)
      · skip
        rw [if_pos c_4] at hf
        refine lv_iconst (v := (-1)) hx hb dX18_told_21 (by decide) ?_
        obtain ⟨h8, h9⟩ := ret_some hf
        rw [h8, h9]
        exact W.iret (v := (-1)) hx hb hr (fun t ht hW => ⟨⟨(-1), (), rfl, rfl, by rw [ht]; exact hP, va_K.moved hW.alike hK, hD⟩, hS.F ht⟩) hS.2.2 dX18_told_22
      · skip
        rw [if_neg c_4] at hf
        refine lv_iload_n hx hb dX18_told_16 rfl (lv_at hl 2 rfl) ?_
        refine lv_iconst (v := 3) hx hb dX18_told_17 (by decide) ?_
        refine lv_icmp_le (tgt := 23) hx hb dX18_told_18 (by decide) (fun c_5 => ?_) (fun c_5 => ?_)
        · skip
          rw [if_pos c_5] at hf
          refine lv_aload_n hx hb dX18_told_23 rfl (lv_at hl 0 rfl) ?_
          refine lv_iload_n hx hb dX18_told_24 rfl (lv_at hl 1 rfl) ?_
          obtain ⟨z_6, r_7, hfc, hf⟩ := cal_some hf
          have hFc := de_free hD hS hA
          refine va_calli (va_runV (As := [.int x0]) (rest := []) ⟨hx, hb, hml, hown, hts⟩ (de_X18_isDone l dC dI cy a sh n H.size F z h0 x0 hfc) (cwV 1 hts gX18_told_X18_isDone rfl rfl rfl (by decide +kernel) ⟨Nat.le_of_ble_eq_true rfl, Nat.le_of_ble_eq_true rfl⟩) ⟨fun a U g mk q => by obtain ⟨q0, q1, qP, qK, qD, qN⟩ := q; exact ⟨q0, q1, qP, va_K.moved (u := U) (U := U.calling g mk a) (Vm.Alike.refl U.vm) qK, qD, qN.same rfl⟩, va_recv hK hP (ci := 18) (q0 := h0) rfl (Wd_ob kg_2 sg_2 (by decide)), fun U hU hW => ⟨rfl, by rw [hU], by rw [hU]; exact hP, va_K.moved hW.alike hK, hD.weaken (fun _ _ _ _ => trivial), hN.warm hW⟩⟩ rfl rfl hl.1 rfl (lv_room (Nat.le_of_ble_eq_true rfl)) dX18_told_25 ⟨Nat.le_of_ble_eq_true rfl, Nat.le_of_ble_eq_true rfl⟩) hS (fun q _ h => hFc q h) hFc (fun rr u t H_8 locs ht hvm hw hB hz1 hk1 hS2 => ?_)
          rw [hw]
          clear hw
          obtain ⟨hP1, -, hD1⟩ := hB
          rw [ht] at hP1
          replace hD := hD1.weaken (fun _ _ _ h => hFc _ h)
          replace hP := hP1
          replace hS := hS2
          clear hP1 hD1 hS2 hFc hfc hz1 hk1 hvm ht
          refine lv_if_ne (tgt := 34) hx hb dX18_told_28 (by decide) (fun c_9 => ?_) (fun c_9 => ?_)
          · skip
            rw [if_neg c_9] at hf
            refine lv_iload_n hx hb dX18_told_34 rfl (lv_at hl 2 rfl) ?_
            refine lv_if_ne (tgt := 47) hx hb dX18_told_35 (by decide) (fun c_10 => ?_) (fun c_10 => ?_)
            · skip
              rw [if_neg c_10] at hf
              refine lv_iload_n hx hb dX18_told_47 rfl (lv_at hl 2 rfl) ?_
              refine lv_iconst (v := 1) hx hb dX18_told_48 (by decide) ?_
              refine lv_icmp_ne (tgt := 61) hx hb dX18_told_49 (by decide) (fun c_11 => ?_) (fun c_11 => ?_)
              · skip
                rw [if_neg c_11] at hf
                refine lv_iload_n hx hb dX18_told_61 rfl (lv_at hl 2 rfl) ?_
                refine lv_iconst (v := 2) hx hb dX18_told_62 (by decide) ?_
                refine lv_icmp_ne (tgt := 75) hx hb dX18_told_63 (by decide) (fun c_12 => ?_) (fun c_12 => ?_)
                · skip
                  rw [if_neg c_12] at hf
                  refine lv_aload_n hx hb dX18_told_75 rfl (lv_at hl 0 rfl) ?_
                  obtain ⟨k_13, ek_13, hf⟩ := lnk_some hf
                  refine va_get (D := (dC, dI)) (ci := 18) (v := .ref (a k_13)) (C := RX18) (T := TX18) (N := 78) hx hb hts iwd_X18_told_X18 hown hK hP h0 (Wd_ob kg_2 sg_2 (by decide)) rfl 68 (by decide) (hts _ md_X18_told_5) (fun _ h9 => h9) (fl_q rfl ek_13) dX18_told_76 ?_
                  refine lv_iload_n hx hb dX18_told_79 rfl (lv_at hl 1 rfl) ?_
                  obtain ⟨g_14, hf⟩ := grd_some hf
                  obtain ⟨kg_14, sg_14, ig_14⟩ := okA_at g_14
                  refine va_iald hx hb hK hP k_13 1 (Wd_ai kg_14 sg_14) rfl ig_14 dX18_told_80 ?_
                  obtain ⟨h8, h9⟩ := ret_some hf
                  rw [h8, h9]
                  exact W.iret (v := (z_6.1 k_13 x0.toNatClampNeg)) hx hb hr (fun t ht hW => ⟨⟨(z_6.1 k_13 x0.toNatClampNeg), (), rfl, rfl, by rw [ht]; exact hP, va_K.moved hW.alike hK, hD⟩, hS.F ht⟩) hS.2.2 dX18_told_81
                · skip
                  rw [if_pos c_12] at hf
                  refine lv_aload_n hx hb dX18_told_66 rfl (lv_at hl 0 rfl) ?_
                  obtain ⟨k_15, ek_15, hf⟩ := lnk_some hf
                  refine va_get (D := (dC, dI)) (ci := 18) (v := .ref (a k_15)) (C := RX18) (T := TX18) (N := 78) hx hb hts iwd_X18_told_X18 hown hK hP h0 (Wd_ob kg_2 sg_2 (by decide)) rfl 70 (by decide) (hts _ md_X18_told_4) (fun _ h9 => h9) (fl_q rfl ek_15) dX18_told_67 ?_
                  refine lv_iload_n hx hb dX18_told_70 rfl (lv_at hl 1 rfl) ?_
                  obtain ⟨g_16, hf⟩ := grd_some hf
                  obtain ⟨kg_16, sg_16, ig_16⟩ := okA_at g_16
                  refine va_iald hx hb hK hP k_15 1 (Wd_ai kg_16 sg_16) rfl ig_16 dX18_told_71 ?_
                  refine lv_goto (tgt := 81) hx hb dX18_told_72 (by decide) ?_
                  obtain ⟨h8, h9⟩ := ret_some hf
                  rw [h8, h9]
                  exact W.iret (v := (z_6.1 k_15 x0.toNatClampNeg)) hx hb hr (fun t ht hW => ⟨⟨(z_6.1 k_15 x0.toNatClampNeg), (), rfl, rfl, by rw [ht]; exact hP, va_K.moved hW.alike hK, hD⟩, hS.F ht⟩) hS.2.2 dX18_told_81
              · skip
                rw [if_pos c_11] at hf
                refine lv_aload_n hx hb dX18_told_52 rfl (lv_at hl 0 rfl) ?_
                obtain ⟨k_17, ek_17, hf⟩ := lnk_some hf
                refine va_get (D := (dC, dI)) (ci := 18) (v := .ref (a k_17)) (C := RX18) (T := TX18) (N := 78) hx hb hts iwd_X18_told_X18 hown hK hP h0 (Wd_ob kg_2 sg_2 (by decide)) rfl 67 (by decide) (hts _ md_X18_told_3) (fun _ h9 => h9) (fl_q rfl ek_17) dX18_told_53 ?_
                refine lv_iload_n hx hb dX18_told_56 rfl (lv_at hl 1 rfl) ?_
                obtain ⟨g_18, hf⟩ := grd_some hf
                obtain ⟨kg_18, sg_18, ig_18⟩ := okA_at g_18
                refine va_iald hx hb hK hP k_17 1 (Wd_ai kg_18 sg_18) rfl ig_18 dX18_told_57 ?_
                refine lv_goto (tgt := 81) hx hb dX18_told_58 (by decide) ?_
                obtain ⟨h8, h9⟩ := ret_some hf
                rw [h8, h9]
                exact W.iret (v := (z_6.1 k_17 x0.toNatClampNeg)) hx hb hr (fun t ht hW => ⟨⟨(z_6.1 k_17 x0.toNatClampNeg), (), rfl, rfl, by rw [ht]; exact hP, va_K.moved hW.alike hK, hD⟩, hS.F ht⟩) hS.2.2 dX18_told_81
            · skip
              rw [if_pos c_10] at hf
              refine lv_aload_n hx hb dX18_told_38 rfl (lv_at hl 0 rfl) ?_
              obtain ⟨k_19, ek_19, hf⟩ := lnk_some hf
              refine va_get (D := (dC, dI)) (ci := 18) (v := .ref (a k_19)) (C := RX18) (T := TX18) (N := 78) hx hb hts iwd_X18_told_X18 hown hK hP h0 (Wd_ob kg_2 sg_2 (by decide)) rfl 66 (by decide) (hts _ md_X18_told_2) (fun _ h9 => h9) (fl_q rfl ek_19) dX18_told_39 ?_
              refine lv_iload_n hx hb dX18_told_42 rfl (lv_at hl 1 rfl) ?_
              obtain ⟨g_20, hf⟩ := grd_some hf
              obtain ⟨kg_20, sg_20, ig_20⟩ := okA_at g_20
              refine va_iald hx hb hK hP k_19 1 (Wd_ai kg_20 sg_20) rfl ig_20 dX18_told_43 ?_
              refine lv_goto (tgt := 81) hx hb dX18_told_44 (by decide) ?_
              obtain ⟨h8, h9⟩ := ret_some hf
              rw [h8, h9]
              exact W.iret (v := (z_6.1 k_19 x0.toNatClampNeg)) hx hb hr (fun t ht hW => ⟨⟨(z_6.1 k_19 x0.toNatClampNeg), (), rfl, rfl, by rw [ht]; exact hP, va_K.moved hW.alike hK, hD⟩, hS.F ht⟩) hS.2.2 dX18_told_81
          · skip
            rw [if_pos c_9] at hf
            refine lv_bipush (v := (-2)) hx hb dX18_told_31 (by decide) ?_
            obtain ⟨h8, h9⟩ := ret_some hf
            rw [h8, h9]
            exact W.iret (v := (-2)) hx hb hr (fun t ht hW => ⟨⟨(-2), (), rfl, rfl, by rw [ht]; exact hP, va_K.moved hW.alike hK, hD⟩, hS.F ht⟩) hS.2.2 dX18_told_33
        · skip
          rw [if_neg c_5] at hf
          refine lv_iconst (v := (-1)) hx hb dX18_told_21 (by decide) ?_
          obtain ⟨h8, h9⟩ := ret_some hf
          rw [h8, h9]
          exact W.iret (v := (-1)) hx hb hr (fun t ht hW => ⟨⟨(-1), (), rfl, rfl, by rw [ht]; exact hP, va_K.moved hW.alike hK, hD⟩, hS.F ht⟩) hS.2.2 dX18_told_22

theorem md_X18_publish_1 : (.fieldLink RX18 626 "ResourceLedgerModel" "count" "I" : Cond) ∈ wsX18_publish := List.mem_of_getElem? (i := 1) rfl
theorem iwd_X18_publish_X18 : ∀ w ∈ wsX180, w ∈ wsX18_publish := fun _ h => List.mem_cons_of_mem _ (List.mem_append_right _ h)
theorem md_X18_publish_2 : (.fieldLink RX18 609 "ResourceLedgerModel" "tapeSize" "I" : Cond) ∈ wsX18_publish := List.mem_of_getElem? (i := 2) rfl
theorem md_X18_publish_5 : (.fieldLink RX18 572 "ResourceLedgerModel" "publishedSizes" "[I" : Cond) ∈ wsX18_publish := List.mem_of_getElem? (i := 5) rfl
theorem md_X18_publish_3 : (.fieldLink RX18 569 "ResourceLedgerModel" "published" "[B" : Cond) ∈ wsX18_publish := List.mem_of_getElem? (i := 3) rfl
theorem md_X18_publish_4 : (.fieldLink RX18 535 "ResourceLedgerModel" "tape" "[B" : Cond) ∈ wsX18_publish := List.mem_of_getElem? (i := 4) rfl
set_option maxHeartbeats 4000000 in
set_option maxRecDepth 100000 in
theorem de_X18_publish (l : Launch) (dC : Nat → ClassId) (dI : Nat → Nat → Nat) (cy : Nat → ClassId) (a : Nat → Nat) (sh : Nat → Nat × Nat) (n sz : Nat) (F : Nat) (z : St) (h0 : Nat) (x0 : Int64) (x1 : Int64) (x2 : Int32) {z8 : St} {r8 : Int32} (hf : fn_X18_publish F sh n z h0 x0 x1 x2 = some (z8, r8)) : Met l yX18_publish wsX18_publish ({ frames := 1, cells := 0, slots := 0, locals := 27 }) (va_Pc [.ref (a h0), .long x0, .long x1, .int x2] (fun U => U.heap.size = sz ∧ va_P (dC, dI) vwCl (Wd cy a sh n z) U.heap ∧ va_K (dC, dI) vwCl (TYS cy) U ∧ va_D (fun _ => True) (Wd cy a sh n z) ∧ NK U)) (va_Qi (fun (r9 : Int32) (u : Unit) => r9 = r8) (fun u t => va_P (dC, dI) vwCl (Wd cy a sh n z8) t.heap ∧ va_K (dC, dI) vwCl (TYS cy) t ∧ va_D (va_A (Wd cy a sh n z) sz) (Wd cy a sh n z8)) (va_A (Wd cy a sh n z) sz)) 0 0 (va_A (Wd cy a sh n z) sz) := by
  refine Met.ofW (cc := cX18_publish) (maxL := 8) (ret := (some .int)) (by decide) rfl ?_
  intro p e s m args below meth c s₁ B hml hv
  obtain ⟨rfl, hsz, hP, hK, hD0, hN⟩ := hv
  have hx := B.exec
  have hb := B.bytes
  have hr := B.returns
  have hts := atoms_spec (ws := wsX18_publish) B.pre
  have hown : s.vm.findClass RX18 = some m.cls := findClass_of_methodNamed B.named
  have hlocks := B.notSynchronized
  subst hsz
  have hD := hD0.self (sz := s.heap.size)
  clear hD0
  generalize hAe : va_A (Wd cy a sh n z) s.heap.size = A at hD ⊢
  have hA : ∀ q : Nat, s.heap.size ≤ q → A q := fun q h => by rw [← hAe]; exact Or.inr h
  clear hAe
  have hS : va_S A s.heap s.heap [] := va_S.rf
  have hl := lv_entry ([.ref (a h0), .long x0, .long x1, .int x2]) (n := 8) (Nat.le_of_ble_eq_true rfl)
  rw [lg_entry_eq]
  generalize (lg_sl ([.ref (a h0), .long x0, .long x1, .int x2]) ++ List.replicate (8 - (lg_sl ([.ref (a h0), .long x0, .long x1, .int x2])).length) Slot.unset).toArray = ls at hl ⊢
  replace hl : lv_has ls 8 [(0, .ref (a h0)), (1, .long x0), (3, .long x1), (5, .int x2)] := hl
  unfold fn_X18_publish at hf
  refine de_start hS hP (fun H locs hS hP => ?_)
  refine lv_iload hx hb dX18_publish_0 (lv_at hl 3 rfl) ?_
  obtain ⟨z_1, r_2, hfc, hf⟩ := cal_some hf
  have hFc := de_free hD hS hA
  refine va_calli (va_runS (As := [.int x2]) (rest := []) ⟨hx, hb, hml, hown, hts⟩ (de_X18_isLimit l dC dI cy a sh n H.size F z x2 hfc) (va_cwS 1 hts gX18_publish_X18_isLimit rfl rfl rfl (by decide +kernel) ⟨Nat.le_of_ble_eq_true rfl, Nat.le_of_ble_eq_true rfl⟩) ⟨fun a U g mk q => by obtain ⟨q0, q1, qP, qK, qD, qN⟩ := q; exact ⟨q0, q1, qP, va_K.moved (u := U) (U := U.calling g mk a) (Vm.Alike.refl U.vm) qK, qD, qN.same rfl⟩, fun U hU hW => ⟨rfl, by rw [hU], by rw [hU]; exact hP, va_K.moved hW.alike hK, hD.weaken (fun _ _ _ _ => trivial), hN.warm hW⟩⟩ rfl rfl hl.1 rfl (lv_room (Nat.le_of_ble_eq_true rfl)) dX18_publish_2 ⟨Nat.le_of_ble_eq_true rfl, Nat.le_of_ble_eq_true rfl⟩) hS (fun q _ h => hFc q h) hFc (fun rr u t H_3 locs ht hvm hw hB hz1 hk1 hS2 => ?_)
  rw [hw]
  clear hw
  obtain ⟨hP1, -, hD1⟩ := hB
  rw [ht] at hP1
  replace hD := hD1.weaken (fun _ _ _ h => hFc _ h)
  replace hP := hP1
  replace hS := hS2
  clear hP1 hD1 hS2 hFc hfc hz1 hk1 hvm ht
  refine lv_if_ne (tgt := 10) hx hb dX18_publish_5 (by decide) (fun c_4 => ?_) (fun c_4 => ?_)
  · skip
    rw [if_neg c_4] at hf
    refine lv_aload_n hx hb dX18_publish_10 rfl (lv_at hl 0 rfl) ?_
    obtain ⟨g_5, hf⟩ := grd_some hf
    obtain ⟨kg_5, sg_5⟩ := okO_at g_5
    refine va_get (D := (dC, dI)) (ci := 18) (v := .int (z_1.1 h0 52)) (C := RX18) (T := TX18) (N := 78) hx hb hts iwd_X18_publish_X18 hown hK hP h0 (Wd_ob kg_5 sg_5 (by decide)) rfl 52 (by decide) (hts _ md_X18_publish_1) (fun _ h9 => h9) (fl_at (t := 0) rfl) dX18_publish_11 ?_
    refine lv_bipush (v := 32) hx hb dX18_publish_14 (by decide) ?_
    refine lv_icmp_ne (tgt := 22) hx hb dX18_publish_16 (by decide) (fun c_6 => ?_) (fun c_6 => ?_)
    · skip
      rw [if_neg c_6] at hf
      refine lv_aload_n hx hb dX18_publish_22 rfl (lv_at hl 0 rfl) ?_
      refine lv_iconst (v := 1) hx hb dX18_publish_23 (by decide) ?_
      refine lv_lload_n hx hb dX18_publish_24 rfl (lv_at hl 1 rfl) ?_
      refine lv_lload_n hx hb dX18_publish_25 rfl (lv_at hl 2 rfl) ?_
      refine lv_iload hx hb dX18_publish_26 (lv_at hl 3 rfl) ?_
      obtain ⟨z_7, r_8, hfc, hf⟩ := cal_some hf
      have hFc := de_free hD hS hA
      refine va_calli (va_runV (As := [.int 1, .long x0, .long x1, .int x2]) (rest := []) ⟨hx, hb, hml, hown, hts⟩ (de_X18_add l dC dI cy a sh n H_3.size F z_1 h0 1 x0 x1 x2 hfc) (cwV 4 hts gX18_publish_X18_add rfl rfl rfl (by decide +kernel) ⟨Nat.le_of_ble_eq_true rfl, Nat.le_of_ble_eq_true rfl⟩) ⟨fun a U g mk q => by obtain ⟨q0, q1, qP, qK, qD, qN⟩ := q; exact ⟨q0, q1, qP, va_K.moved (u := U) (U := U.calling g mk a) (Vm.Alike.refl U.vm) qK, qD, qN.same rfl⟩, va_recv hK hP (ci := 18) (q0 := h0) rfl (Wd_ob kg_5 sg_5 (by decide)), fun U hU hW => ⟨rfl, by rw [hU], by rw [hU]; exact hP, va_K.moved hW.alike hK, hD.weaken (fun _ _ _ _ => trivial), hN.warm hW⟩⟩ rfl rfl hl.1 rfl (lv_room (Nat.le_of_ble_eq_true rfl)) dX18_publish_28 ⟨Nat.le_of_ble_eq_true rfl, Nat.le_of_ble_eq_true rfl⟩) hS (fun q _ h => hFc q h) hFc (fun rr u t H_9 locs ht hvm hw hB hz1 hk1 hS2 => ?_)
      rw [hw]
      clear hw
      obtain ⟨hP1, -, hD1⟩ := hB
      rw [ht] at hP1
      replace hD := hD1.weaken (fun _ _ _ h => hFc _ h)
      replace hP := hP1
      replace hS := hS2
      clear hP1 hD1 hS2 hFc hfc hz1 hk1 hvm ht
      refine lv_istore (lv' := [(6, .int r_8), (0, .ref (a h0)), (1, .long x0), (3, .long x1), (5, .int x2)]) hx hb dX18_publish_31 hl (by decide) rfl (fun ls hl2 => ?_)
      replace hl := hl2
      clear hl2
      refine lv_iconst (v := 0) hx hb dX18_publish_33 (by decide) ?_
      refine lv_istore (lv' := [(7, .int 0), (6, .int r_8), (0, .ref (a h0)), (1, .long x0), (3, .long x1), (5, .int x2)]) hx hb dX18_publish_34 hl (by decide) rfl (fun ls hl2 => ?_)
      replace hl := hl2
      clear hl2
      have hl0 : lv_has ls 8 [(7, .int 0), (6, .int r_8), (0, .ref (a h0))] := lv_sub hl [0, 1, 2] rfl
      refine de_loop (h := 36) (fun (x : St × Int32) ls H locs => lv_has ls 8 [(7, .int x.2), (6, .int r_8), (0, .ref (a h0))] ∧ va_P (dC, dI) vwCl (Wd cy a sh n x.1) H ∧ va_D A (Wd cy a sh n x.1) ∧ va_S A s.heap H locs) (fun f x => fn_X18_publish_L36 F sh n h0 r_8 f x.1 x.2) (z8, r8) ?_ (fun _ => rfl) F (z_7, 0) ls H_9 locs ⟨hl0, hP, hD, hS⟩ hf
      intro f_12 x ls H locs ih36 hI hf
      obtain ⟨z_11, p_10⟩ := x
      obtain ⟨hl2, hP2, hD2, hS2⟩ := hI
      replace hl : lv_has ls 8 [(7, .int p_10), (6, .int r_8), (0, .ref (a h0))] := hl2
      replace hP := hP2
      replace hD := hD2
      replace hS := hS2
      clear hl2 hP2 hD2 hS2 hl0
      replace hf := fn_X18_publish_L36_s hf
      refine lv_iload hx hb dX18_publish_36 (lv_at hl 0 rfl) ?_
      refine lv_aload_n hx hb dX18_publish_38 rfl (lv_at hl 2 rfl) ?_
      refine va_get (D := (dC, dI)) (ci := 18) (v := .int (z_11.1 h0 50)) (C := RX18) (T := TX18) (N := 78) hx hb hts iwd_X18_publish_X18 hown hK hP h0 (Wd_ob kg_5 sg_5 (by decide)) rfl 50 (by decide) (hts _ md_X18_publish_2) (fun _ h9 => h9) (fl_at (t := 0) rfl) dX18_publish_39 ?_
      refine lv_icmp_ge (tgt := 72) hx hb dX18_publish_42 (by decide) (fun c_13 => ?_) (fun c_13 => ?_)
      · skip
        rw [if_pos c_13] at hf
        refine lv_aload_n hx hb dX18_publish_72 rfl (lv_at hl 2 rfl) ?_
        obtain ⟨k_14, ek_14, hf⟩ := lnk_some hf
        refine va_get (D := (dC, dI)) (ci := 18) (v := .ref (a k_14)) (C := RX18) (T := TX18) (N := 78) hx hb hts iwd_X18_publish_X18 hown hK hP h0 (Wd_ob kg_5 sg_5 (by decide)) rfl 65 (by decide) (hts _ md_X18_publish_5) (fun _ h9 => h9) (fl_q rfl ek_14) dX18_publish_73 ?_
        refine lv_iload hx hb dX18_publish_76 (lv_at hl 1 rfl) ?_
        refine lv_aload_n hx hb dX18_publish_78 rfl (lv_at hl 2 rfl) ?_
        refine va_get (D := (dC, dI)) (ci := 18) (v := .int (z_11.1 h0 50)) (C := RX18) (T := TX18) (N := 78) hx hb hts iwd_X18_publish_X18 hown hK hP h0 (Wd_ob kg_5 sg_5 (by decide)) rfl 50 (by decide) (hts _ md_X18_publish_2) (fun _ h9 => h9) (fl_at (t := 0) rfl) dX18_publish_79 ?_
        obtain ⟨g_15, hf⟩ := grd_some hf
        obtain ⟨kg_15, sg_15, ig_15⟩ := okA_at g_15
        refine va_iast hx hb hK hP hD hS k_14 1 (Wd_ai kg_15 sg_15) rfl ig_15 dX18_publish_82 (fun H_16 locs hP2 hD2 hS2 => ?_)
        rw [Wd_ti sg_15] at hP2 hD2
        obtain ⟨z_17, ez_17⟩ : ∃ w, w = si z_11 k_14 r_8.toNatClampNeg (z_11.1 h0 50) := ⟨_, rfl⟩
        rw [← ez_17] at hP2 hD2
        replace hf := lt_at ez_17 hf
        clear ez_17
        replace hP := hP2
        replace hD := hD2
        replace hS := hS2
        clear hP2 hD2 hS2
        refine lv_aload_n hx hb dX18_publish_83 rfl (lv_at hl 2 rfl) ?_
        refine lv_iconst (v := 0) hx hb dX18_publish_84 (by decide) ?_
        refine va_put (D := (dC, dI)) (ci := 18) (v := .int 0) (ty := .int) (C := RX18) (T := TX18) (N := 78) hx hb hts iwd_X18_publish_X18 tyX18 tyX18_ok nmX18 hown hK hP hD hS h0 (Wd_ob kg_5 sg_5 (by decide)) rfl 50 (by decide) (hts _ md_X18_publish_2) (fun _ h9 => h9) rfl (by decide +kernel) rfl rfl (by rw [fl_len]; decide) dX18_publish_85 (fun H_18 locs hP2 hD2 hS2 => ?_)
        rw [Wd_si sg_5 (by decide) rfl] at hP2 hD2
        obtain ⟨z_19, ez_19⟩ : ∃ w, w = si z_17 h0 50 0 := ⟨_, rfl⟩
        rw [← ez_19] at hP2 hD2
        replace hf := lt_at ez_19 hf
        clear ez_19
        replace hP := hP2
        replace hD := hD2
        replace hS := hS2
        clear hP2 hD2 hS2
        refine lv_iload hx hb dX18_publish_88 (lv_at hl 1 rfl) ?_
        obtain ⟨h8, h9⟩ := ret_some hf
        rw [h8, h9]
        exact W.iret (v := r_8) hx hb hr (fun t ht hW => ⟨⟨r_8, (), rfl, rfl, by rw [ht]; exact hP, va_K.moved hW.alike hK, hD⟩, hS.F ht⟩) hS.2.2 dX18_publish_90
      · skip
        rw [if_neg c_13] at hf
        refine lv_aload_n hx hb dX18_publish_45 rfl (lv_at hl 2 rfl) ?_
        obtain ⟨k_20, ek_20, hf⟩ := lnk_some hf
        refine va_get (D := (dC, dI)) (ci := 18) (v := .ref (a k_20)) (C := RX18) (T := TX18) (N := 78) hx hb hts iwd_X18_publish_X18 hown hK hP h0 (Wd_ob kg_5 sg_5 (by decide)) rfl 64 (by decide) (hts _ md_X18_publish_3) (fun _ h9 => h9) (fl_q rfl ek_20) dX18_publish_46 ?_
        refine lv_sipush (v := 2048) hx hb dX18_publish_49 (by decide) ?_
        refine lv_iload hx hb dX18_publish_52 (lv_at hl 1 rfl) ?_
        refine lv_imul hx hb dX18_publish_54 ?_
        refine lv_iload hx hb dX18_publish_55 (lv_at hl 0 rfl) ?_
        refine lv_iadd hx hb dX18_publish_57 ?_
        refine lv_aload_n hx hb dX18_publish_58 rfl (lv_at hl 2 rfl) ?_
        obtain ⟨k_21, ek_21, hf⟩ := lnk_some hf
        refine va_get (D := (dC, dI)) (ci := 18) (v := .ref (a k_21)) (C := RX18) (T := TX18) (N := 78) hx hb hts iwd_X18_publish_X18 hown hK hP h0 (Wd_ob kg_5 sg_5 (by decide)) rfl 49 (by decide) (hts _ md_X18_publish_4) (fun _ h9 => h9) (fl_q rfl ek_21) dX18_publish_59 ?_
        refine lv_iload hx hb dX18_publish_62 (lv_at hl 0 rfl) ?_
        obtain ⟨g_22, hf⟩ := grd_some hf
        obtain ⟨kg_22, sg_22, ig_22⟩ := okA_at g_22
        refine va_bald hx hb hK hP k_21 0 (Wd_ab kg_22 sg_22) rfl ig_22 dX18_publish_64 ?_
        obtain ⟨g_23, hf⟩ := grd_some hf
        obtain ⟨kg_23, sg_23, ig_23⟩ := okA_at g_23
        refine va_bast hx hb hK hP hD hS k_20 0 (Wd_ab kg_23 sg_23) rfl ig_23 dX18_publish_65 (fun H_24 locs hP2 hD2 hS2 => ?_)
        rw [Wd_tb sg_23] at hP2 hD2
        obtain ⟨z_25, ez_25⟩ : ∃ w, w = si z_11 k_20 ((2048 * r_8) + p_10).toNatClampNeg (vp_nar .byte (z_11.1 k_21 p_10.toNatClampNeg)) := ⟨_, rfl⟩
        rw [← ez_25] at hP2 hD2
        replace hf := lt_at ez_25 hf
        clear ez_25
        replace hP := hP2
        replace hD := hD2
        replace hS := hS2
        clear hP2 hD2 hS2
        refine lv_iinc (v := (p_10 + 1)) (lv' := [(7, .int (p_10 + 1)), (6, .int r_8), (0, .ref (a h0))]) hx hb dX18_publish_66 hl (k := 0) rfl rfl (by decide) rfl (fun ls hl2 => ?_)
        replace hl := hl2
        clear hl2
        refine lv_goto (tgt := 36) hx hb dX18_publish_69 (by decide) ?_
        exact ih36 (z_25, (p_10 + 1)) ls H_24 locs ⟨lv_sub hl [0, 1, 2] rfl, hP, hD, hS⟩ hf
    · skip
      rw [if_pos c_6] at hf
      refine lv_bipush (v := (-3)) hx hb dX18_publish_19 (by decide) ?_
      obtain ⟨h8, h9⟩ := ret_some hf
      rw [h8, h9]
      exact W.iret (v := (-3)) hx hb hr (fun t ht hW => ⟨⟨(-3), (), rfl, rfl, by rw [ht]; exact hP, va_K.moved hW.alike hK, hD⟩, hS.F ht⟩) hS.2.2 dX18_publish_21
  · skip
    rw [if_pos c_4] at hf
    refine lv_iconst (v := (-1)) hx hb dX18_publish_8 (by decide) ?_
    obtain ⟨h8, h9⟩ := ret_some hf
    rw [h8, h9]
    exact W.iret (v := (-1)) hx hb hr (fun t ht hW => ⟨⟨(-1), (), rfl, rfl, by rw [ht]; exact hP, va_K.moved hW.alike hK, hD⟩, hS.F ht⟩) hS.2.2 dX18_publish_9

theorem md_X18_coins_3 : (.fieldLink RX18 1 "ResourceLedgerModel" "accounts" "I" : Cond) ∈ wsX18_coins := List.mem_of_getElem? (i := 3) rfl
theorem iwd_X18_coins_X18 : ∀ w ∈ wsX180, w ∈ wsX18_coins := fun _ h => List.mem_cons_of_mem _ (List.mem_append_right _ h)
theorem md_X18_coins_5 : (.fieldLink RX18 10 "ResourceLedgerModel" "resources" "I" : Cond) ∈ wsX18_coins := List.mem_of_getElem? (i := 5) rfl
theorem md_X18_coins_4 : (.fieldLink RX18 303 "ResourceLedgerModel" "balances" "[J" : Cond) ∈ wsX18_coins := List.mem_of_getElem? (i := 4) rfl
theorem md_X18_coins_2 : (.fieldLink RX18 615 "ResourceLedgerModel" "burned" "J" : Cond) ∈ wsX18_coins := List.mem_of_getElem? (i := 2) rfl
theorem md_X18_coins_1 : (.fieldLink RX18 612 "ResourceLedgerModel" "minted" "J" : Cond) ∈ wsX18_coins := List.mem_of_getElem? (i := 1) rfl
set_option maxHeartbeats 4000000 in
set_option maxRecDepth 100000 in
theorem de_X18_coins (l : Launch) (dC : Nat → ClassId) (dI : Nat → Nat → Nat) (cy : Nat → ClassId) (a : Nat → Nat) (sh : Nat → Nat × Nat) (n sz : Nat) (F : Nat) (z : St) (h0 : Nat) (x0 : Int32) {z8 : St} {r8 : Int64} (hf : fn_X18_coins F sh n z h0 x0 = some (z8, r8)) : Met l yX18_coins wsX18_coins ({ frames := 1, cells := 0, slots := 0, locals := 25 }) (va_Pc [.ref (a h0), .int x0] (fun U => U.heap.size = sz ∧ va_P (dC, dI) vwCl (Wd cy a sh n z) U.heap ∧ va_K (dC, dI) vwCl (TYS cy) U ∧ va_D (fun _ => True) (Wd cy a sh n z) ∧ NK U)) (va_Ql (fun (r9 : Int64) (u : Unit) => r9 = r8) (fun u t => va_P (dC, dI) vwCl (Wd cy a sh n z8) t.heap ∧ va_K (dC, dI) vwCl (TYS cy) t ∧ va_D (va_A (Wd cy a sh n z) sz) (Wd cy a sh n z8)) (va_A (Wd cy a sh n z) sz)) 0 0 (va_A (Wd cy a sh n z) sz) := by
  refine Met.ofW (cc := cX18_coins) (maxL := 5) (ret := (some .long)) (by decide) rfl ?_
  intro p e s m args below meth c s₁ B hml hv
  obtain ⟨rfl, hsz, hP, hK, hD0, hN⟩ := hv
  have hx := B.exec
  have hb := B.bytes
  have hr := B.returns
  have hts := atoms_spec (ws := wsX18_coins) B.pre
  have hown : s.vm.findClass RX18 = some m.cls := findClass_of_methodNamed B.named
  have hlocks := B.notSynchronized
  subst hsz
  have hD := hD0.self (sz := s.heap.size)
  clear hD0
  generalize hAe : va_A (Wd cy a sh n z) s.heap.size = A at hD ⊢
  have hA : ∀ q : Nat, s.heap.size ≤ q → A q := fun q h => by rw [← hAe]; exact Or.inr h
  clear hAe
  have hS : va_S A s.heap s.heap [] := va_S.rf
  have hl := lv_entry ([.ref (a h0), .int x0]) (n := 5) (Nat.le_of_ble_eq_true rfl)
  rw [lg_entry_eq]
  generalize (lg_sl ([.ref (a h0), .int x0]) ++ List.replicate (5 - (lg_sl ([.ref (a h0), .int x0])).length) Slot.unset).toArray = ls at hl ⊢
  replace hl : lv_has ls 5 [(0, .ref (a h0)), (1, .int x0)] := hl
  unfold fn_X18_coins at hf
  refine de_start hS hP (fun H locs hS hP => ?_)
  refine lv_lconst (v := 0) hx hb dX18_coins_0 (by decide) ?_
  refine lv_lstore_n (lv' := [(2, .long 0), (0, .ref (a h0)), (1, .int x0)]) hx hb dX18_coins_1 rfl hl (by decide) rfl (fun ls hl2 => ?_)
  replace hl := hl2
  clear hl2
  refine lv_iload_n hx hb dX18_coins_2 rfl (lv_at hl 2 rfl) ?_
  refine lv_if_ne (tgt := 11) hx hb dX18_coins_3 (by decide) (fun c_1 => ?_) (fun c_1 => ?_)
  · skip
    rw [if_neg c_1] at hf
    refine lv_iload_n hx hb dX18_coins_11 rfl (lv_at hl 2 rfl) ?_
    refine lv_iconst (v := 1) hx hb dX18_coins_12 (by decide) ?_
    refine lv_icmp_ne (tgt := 21) hx hb dX18_coins_13 (by decide) (fun c_2 => ?_) (fun c_2 => ?_)
    · skip
      rw [if_neg c_2] at hf
      refine lv_iconst (v := 0) hx hb dX18_coins_21 (by decide) ?_
      refine lv_istore (lv' := [(4, .int 0), (2, .long 0), (0, .ref (a h0)), (1, .int x0)]) hx hb dX18_coins_22 hl (by decide) rfl (fun ls hl2 => ?_)
      replace hl := hl2
      clear hl2
      have hl0 : lv_has ls 5 [(4, .int 0), (2, .long 0), (0, .ref (a h0)), (1, .int x0)] := lv_sub hl [0, 1, 2, 3] rfl
      refine de_loop (h := 24) (fun (x : St × Int64 × Int32) ls H locs => lv_has ls 5 [(4, .int x.2.2), (2, .long x.2.1), (0, .ref (a h0)), (1, .int x0)] ∧ va_P (dC, dI) vwCl (Wd cy a sh n x.1) H ∧ va_D A (Wd cy a sh n x.1) ∧ va_S A s.heap H locs) (fun f x => fn_X18_coins_L24 F sh n h0 x0 f x.1 x.2.1 x.2.2) (z8, r8) ?_ (fun _ => rfl) F (z, 0, 0) ls H locs ⟨hl0, hP, hD, hS⟩ hf
      intro f_6 x ls H locs ih24 hI hf
      obtain ⟨z_5, p_3, p_4⟩ := x
      obtain ⟨hl2, hP2, hD2, hS2⟩ := hI
      replace hl : lv_has ls 5 [(4, .int p_4), (2, .long p_3), (0, .ref (a h0)), (1, .int x0)] := hl2
      replace hP := hP2
      replace hD := hD2
      replace hS := hS2
      clear hl2 hP2 hD2 hS2 hl0
      replace hf := fn_X18_coins_L24_s hf
      refine lv_iload hx hb dX18_coins_24 (lv_at hl 0 rfl) ?_
      refine lv_aload_n hx hb dX18_coins_26 rfl (lv_at hl 2 rfl) ?_
      obtain ⟨g_7, hf⟩ := grd_some hf
      obtain ⟨kg_7, sg_7⟩ := okO_at g_7
      refine va_get (D := (dC, dI)) (ci := 18) (v := .int (z_5.1 h0 3)) (C := RX18) (T := TX18) (N := 78) hx hb hts iwd_X18_coins_X18 hown hK hP h0 (Wd_ob kg_7 sg_7 (by decide)) rfl 3 (by decide) (hts _ md_X18_coins_3) (fun _ h9 => h9) (fl_at (t := 0) rfl) dX18_coins_27 ?_
      refine de_cut (h := 54) (fun (x : St × Int64) => []) (fun x ls H locs => lv_has ls 5 [(2, .long x.2), (0, .ref (a h0)), (1, .int x0)] ∧ va_P (dC, dI) vwCl (Wd cy a sh n x.1) H ∧ va_D A (Wd cy a sh n x.1) ∧ va_S A s.heap H locs) (fun x => fn_X18_coins_B54 F sh n h0 x0 x.1 x.2) (z8, r8) ?_ (fun B54 => ?_)
      · intro x ls H locs hI hf
        obtain ⟨z_9, p_8⟩ := x
        obtain ⟨hl2, hP2, hD2, hS2⟩ := hI
        replace hl : lv_has ls 5 [(2, .long p_8), (0, .ref (a h0)), (1, .int x0)] := hl2
        replace hP := hP2
        replace hD := hD2
        replace hS := hS2
        clear hl2 hP2 hD2 hS2
        replace hf := fn_X18_coins_B54_s hf
        refine W.eq (g2 := F0 m 54 ls []) rfl ?_
        refine lv_iconst (v := 0) hx hb dX18_coins_54 (by decide) ?_
        refine lv_istore (lv' := [(4, .int 0), (2, .long p_8), (0, .ref (a h0)), (1, .int x0)]) hx hb dX18_coins_55 hl (by decide) rfl (fun ls hl2 => ?_)
        replace hl := hl2
        clear hl2
        have hl0 : lv_has ls 5 [(4, .int 0), (2, .long p_8), (0, .ref (a h0)), (1, .int x0)] := lv_sub hl [0, 1, 2, 3] rfl
        refine de_loop (h := 57) (fun (x : St × Int64 × Int32) ls H locs => lv_has ls 5 [(4, .int x.2.2), (2, .long x.2.1), (0, .ref (a h0)), (1, .int x0)] ∧ va_P (dC, dI) vwCl (Wd cy a sh n x.1) H ∧ va_D A (Wd cy a sh n x.1) ∧ va_S A s.heap H locs) (fun f x => fn_X18_coins_L57 F sh n h0 x0 f x.1 x.2.1 x.2.2) (z8, r8) ?_ (fun _ => rfl) F (z_9, p_8, 0) ls H locs ⟨hl0, hP, hD, hS⟩ hf
        intro f_13 x ls H locs ih57 hI hf
        obtain ⟨z_12, p_10, p_11⟩ := x
        obtain ⟨hl2, hP2, hD2, hS2⟩ := hI
        replace hl : lv_has ls 5 [(4, .int p_11), (2, .long p_10), (0, .ref (a h0)), (1, .int x0)] := hl2
        replace hP := hP2
        replace hD := hD2
        replace hS := hS2
        clear hl2 hP2 hD2 hS2 hl0
        replace hf := fn_X18_coins_L57_s hf
        refine lv_iload hx hb dX18_coins_57 (lv_at hl 0 rfl) ?_
        refine lv_aload_n hx hb dX18_coins_59 rfl (lv_at hl 2 rfl) ?_
        refine va_get (D := (dC, dI)) (ci := 18) (v := .int (z_12.1 h0 9)) (C := RX18) (T := TX18) (N := 78) hx hb hts iwd_X18_coins_X18 hown hK hP h0 (Wd_ob kg_7 sg_7 (by decide)) rfl 9 (by decide) (hts _ md_X18_coins_5) (fun _ h9 => h9) (fl_at (t := 0) rfl) dX18_coins_60 ?_
        refine lv_icmp_ge (tgt := 86) hx hb dX18_coins_63 (by decide) (fun c_14 => ?_) (fun c_14 => ?_)
        · skip
          rw [if_pos c_14] at hf
          refine lv_lload_n hx hb dX18_coins_86 rfl (lv_at hl 1 rfl) ?_
          obtain ⟨h8, h9⟩ := ret_some hf
          rw [h8, h9]
          exact W.lret (v := p_10) hx hb hr (fun t ht hW => ⟨⟨p_10, (), rfl, rfl, by rw [ht]; exact hP, va_K.moved hW.alike hK, hD⟩, hS.F ht⟩) hS.2.2 dX18_coins_87
        · skip
          rw [if_neg c_14] at hf
          refine lv_iload_n hx hb dX18_coins_66 rfl (lv_at hl 3 rfl) ?_
          refine lv_iconst (v := 3) hx hb dX18_coins_67 (by decide) ?_
          refine lv_icmp_ne (tgt := 86) hx hb dX18_coins_68 (by decide) (fun c_15 => ?_) (fun c_15 => ?_)
          · skip
            rw [if_neg c_15] at hf
            refine lv_lload_n hx hb dX18_coins_86 rfl (lv_at hl 1 rfl) ?_
            obtain ⟨h8, h9⟩ := ret_some hf
            rw [h8, h9]
            exact W.lret (v := p_10) hx hb hr (fun t ht hW => ⟨⟨p_10, (), rfl, rfl, by rw [ht]; exact hP, va_K.moved hW.alike hK, hD⟩, hS.F ht⟩) hS.2.2 dX18_coins_87
          · skip
            rw [if_pos c_15] at hf
            refine lv_lload_n hx hb dX18_coins_71 rfl (lv_at hl 1 rfl) ?_
            refine lv_aload_n hx hb dX18_coins_72 rfl (lv_at hl 2 rfl) ?_
            refine lv_iload hx hb dX18_coins_73 (lv_at hl 0 rfl) ?_
            obtain ⟨z_16, r_17, hfc, hf⟩ := cal_some hf
            have hFc := de_free hD hS hA
            refine va_calll (va_runV (As := [.int p_11]) (rest := [.long p_10]) ⟨hx, hb, hml, hown, hts⟩ (de_X18_coinsIn l dC dI cy a sh n H.size F z_12 h0 p_11 hfc) (cwV 1 hts gX18_coins_X18_coinsIn rfl rfl rfl (by decide +kernel) ⟨Nat.le_of_ble_eq_true rfl, Nat.le_of_ble_eq_true rfl⟩) ⟨fun a U g mk q => by obtain ⟨q0, q1, qP, qK, qD, qN⟩ := q; exact ⟨q0, q1, qP, va_K.moved (u := U) (U := U.calling g mk a) (Vm.Alike.refl U.vm) qK, qD, qN.same rfl⟩, va_recv hK hP (ci := 18) (q0 := h0) rfl (Wd_ob kg_7 sg_7 (by decide)), fun U hU hW => ⟨rfl, by rw [hU], by rw [hU]; exact hP, va_K.moved hW.alike hK, hD.weaken (fun _ _ _ _ => trivial), hN.warm hW⟩⟩ rfl rfl hl.1 rfl (lv_room (Nat.le_of_ble_eq_true rfl)) dX18_coins_75 ⟨Nat.le_of_ble_eq_true rfl, Nat.le_of_ble_eq_true rfl⟩) hS (fun q _ h => hFc q h) hFc (fun rr u t H_18 locs ht hvm hw hB hz1 hk1 hS2 => ?_)
            rw [hw]
            clear hw
            obtain ⟨hP1, -, hD1⟩ := hB
            rw [ht] at hP1
            replace hD := hD1.weaken (fun _ _ _ h => hFc _ h)
            replace hP := hP1
            replace hS := hS2
            clear hP1 hD1 hS2 hFc hfc hz1 hk1 hvm ht
            refine lv_ladd hx hb dX18_coins_78 ?_
            refine lv_topl (fun v_19 ev_19 => ?_)
            replace hf := lt_at ev_19 hf
            clear ev_19
            refine lv_lstore_n (lv' := [(2, .long v_19), (4, .int p_11), (0, .ref (a h0)), (1, .int x0)]) hx hb dX18_coins_79 rfl hl (by decide) rfl (fun ls hl2 => ?_)
            replace hl := hl2
            clear hl2
            refine lv_iinc (v := (p_11 + 1)) (lv' := [(4, .int (p_11 + 1)), (2, .long v_19), (0, .ref (a h0)), (1, .int x0)]) hx hb dX18_coins_80 hl (k := 1) rfl rfl (by decide) rfl (fun ls hl2 => ?_)
            replace hl := hl2
            clear hl2
            refine lv_goto (tgt := 57) hx hb dX18_coins_83 (by decide) ?_
            exact ih57 (z_16, v_19, (p_11 + 1)) ls H_18 locs ⟨lv_sub hl [0, 1, 2, 3] rfl, hP, hD, hS⟩ hf
      refine lv_icmp_ge (tgt := 54) hx hb dX18_coins_30 (by decide) (fun c_20 => ?_) (fun c_20 => ?_)
      · skip
        rw [if_pos c_20] at hf
        exact B54 (z_5, p_3) ls H locs ⟨lv_sub hl [1, 2, 3] rfl, hP, hD, hS⟩ hf
      · skip
        rw [if_neg c_20] at hf
        refine lv_iload_n hx hb dX18_coins_33 rfl (lv_at hl 3 rfl) ?_
        refine lv_iconst (v := 2) hx hb dX18_coins_34 (by decide) ?_
        refine lv_icmp_ne (tgt := 54) hx hb dX18_coins_35 (by decide) (fun c_21 => ?_) (fun c_21 => ?_)
        · skip
          rw [if_neg c_21] at hf
          exact B54 (z_5, p_3) ls H locs ⟨lv_sub hl [1, 2, 3] rfl, hP, hD, hS⟩ hf
        · skip
          rw [if_pos c_21] at hf
          refine lv_lload_n hx hb dX18_coins_38 rfl (lv_at hl 1 rfl) ?_
          refine lv_aload_n hx hb dX18_coins_39 rfl (lv_at hl 2 rfl) ?_
          obtain ⟨k_22, ek_22, hf⟩ := lnk_some hf
          refine va_get (D := (dC, dI)) (ci := 18) (v := .ref (a k_22)) (C := RX18) (T := TX18) (N := 78) hx hb hts iwd_X18_coins_X18 hown hK hP h0 (Wd_ob kg_7 sg_7 (by decide)) rfl 1 (by decide) (hts _ md_X18_coins_4) (fun _ h9 => h9) (fl_q rfl ek_22) dX18_coins_40 ?_
          refine lv_iload hx hb dX18_coins_43 (lv_at hl 0 rfl) ?_
          obtain ⟨g_23, hf⟩ := grd_some hf
          obtain ⟨kg_23, sg_23, ig_23⟩ := okA_at g_23
          refine va_lald hx hb hK hP k_22 2 (Wd_al kg_23 sg_23) rfl ig_23 dX18_coins_45 ?_
          refine lv_ladd hx hb dX18_coins_46 ?_
          refine lv_topl (fun v_24 ev_24 => ?_)
          replace hf := lt_at ev_24 hf
          clear ev_24
          refine lv_lstore_n (lv' := [(2, .long v_24), (4, .int p_4), (0, .ref (a h0)), (1, .int x0)]) hx hb dX18_coins_47 rfl hl (by decide) rfl (fun ls hl2 => ?_)
          replace hl := hl2
          clear hl2
          refine lv_iinc (v := (p_4 + 1)) (lv' := [(4, .int (p_4 + 1)), (2, .long v_24), (0, .ref (a h0)), (1, .int x0)]) hx hb dX18_coins_48 hl (k := 1) rfl rfl (by decide) rfl (fun ls hl2 => ?_)
          replace hl := hl2
          clear hl2
          refine lv_goto (tgt := 24) hx hb dX18_coins_51 (by decide) ?_
          exact ih24 (z_5, v_24, (p_4 + 1)) ls H locs ⟨lv_sub hl [0, 1, 2, 3] rfl, hP, hD, hS⟩ hf
    · skip
      rw [if_pos c_2] at hf
      refine lv_aload_n hx hb dX18_coins_16 rfl (lv_at hl 1 rfl) ?_
      obtain ⟨g_25, hf⟩ := grd_some hf
      obtain ⟨kg_25, sg_25⟩ := okO_at g_25
      refine va_get (D := (dC, dI)) (ci := 18) (v := .long (z.2.1 h0 21)) (C := RX18) (T := TX18) (N := 78) hx hb hts iwd_X18_coins_X18 hown hK hP h0 (Wd_ob kg_25 sg_25 (by decide)) rfl 21 (by decide) (hts _ md_X18_coins_2) (fun _ h9 => h9) (fl_at (t := 1) rfl) dX18_coins_17 ?_
      obtain ⟨h8, h9⟩ := ret_some hf
      rw [h8, h9]
      exact W.lret (v := (z.2.1 h0 21)) hx hb hr (fun t ht hW => ⟨⟨(z.2.1 h0 21), (), rfl, rfl, by rw [ht]; exact hP, va_K.moved hW.alike hK, hD⟩, hS.F ht⟩) hS.2.2 dX18_coins_20
  · skip
    rw [if_pos c_1] at hf
    refine lv_aload_n hx hb dX18_coins_6 rfl (lv_at hl 1 rfl) ?_
    obtain ⟨g_26, hf⟩ := grd_some hf
    obtain ⟨kg_26, sg_26⟩ := okO_at g_26
    refine va_get (D := (dC, dI)) (ci := 18) (v := .long (z.2.1 h0 20)) (C := RX18) (T := TX18) (N := 78) hx hb hts iwd_X18_coins_X18 hown hK hP h0 (Wd_ob kg_26 sg_26 (by decide)) rfl 20 (by decide) (hts _ md_X18_coins_1) (fun _ h9 => h9) (fl_at (t := 1) rfl) dX18_coins_7 ?_
    obtain ⟨h8, h9⟩ := ret_some hf
    rw [h8, h9]
    exact W.lret (v := (z.2.1 h0 20)) hx hb hr (fun t ht hW => ⟨⟨(z.2.1 h0 20), (), rfl, rfl, by rw [ht]; exact hP, va_K.moved hW.alike hK, hD⟩, hS.F ht⟩) hS.2.2 dX18_coins_10

set_option maxHeartbeats 4000000 in
set_option maxRecDepth 100000 in
theorem de_X5_sameType (l : Launch) (dC : Nat → ClassId) (dI : Nat → Nat → Nat) (cy : Nat → ClassId) (a : Nat → Nat) (sh : Nat → Nat × Nat) (n sz : Nat) (F : Nat) (z : St) (h0 : Nat) (x0 : Int64) (x1 : Nat) (x2 : Int64) {z8 : St} {r8 : Int32} (hf : fn_X5_sameType F sh n z h0 x0 x1 x2 = some (z8, r8)) : Met l yX5_sameType wsX5_sameType ({ frames := 1, cells := 0, slots := 0, locals := 22 }) (va_Pc [.ref (a h0), .long x0, .ref (a x1), .long x2] (fun U => U.heap.size = sz ∧ va_P (dC, dI) vwCl (Wd cy a sh n z) U.heap ∧ va_K (dC, dI) vwCl (TYS cy) U ∧ va_D (fun _ => True) (Wd cy a sh n z) ∧ NK U)) (va_Qi (fun (r9 : Int32) (u : Unit) => r9 = r8) (fun u t => va_P (dC, dI) vwCl (Wd cy a sh n z8) t.heap ∧ va_K (dC, dI) vwCl (TYS cy) t ∧ va_D (va_A (Wd cy a sh n z) sz) (Wd cy a sh n z8)) (va_A (Wd cy a sh n z) sz)) 0 0 (va_A (Wd cy a sh n z) sz) := by
  refine Met.ofW (cc := cX5_sameType) (maxL := 8) (ret := (some .boolean)) (by decide) rfl ?_
  intro p e s m args below meth c s₁ B hml hv
  obtain ⟨rfl, hsz, hP, hK, hD0, hN⟩ := hv
  have hx := B.exec
  have hb := B.bytes
  have hr := B.returns
  have hts := atoms_spec (ws := wsX5_sameType) B.pre
  have hown : s.vm.findClass RX5 = some m.cls := findClass_of_methodNamed B.named
  have hlocks := B.notSynchronized
  subst hsz
  have hD := hD0.self (sz := s.heap.size)
  clear hD0
  generalize hAe : va_A (Wd cy a sh n z) s.heap.size = A at hD ⊢
  have hA : ∀ q : Nat, s.heap.size ≤ q → A q := fun q h => by rw [← hAe]; exact Or.inr h
  clear hAe
  have hS : va_S A s.heap s.heap [] := va_S.rf
  have hl := lv_entry ([.ref (a h0), .long x0, .ref (a x1), .long x2]) (n := 8) (Nat.le_of_ble_eq_true rfl)
  rw [lg_entry_eq]
  generalize (lg_sl ([.ref (a h0), .long x0, .ref (a x1), .long x2]) ++ List.replicate (8 - (lg_sl ([.ref (a h0), .long x0, .ref (a x1), .long x2])).length) Slot.unset).toArray = ls at hl ⊢
  replace hl : lv_has ls 8 [(0, .ref (a h0)), (1, .long x0), (3, .ref (a x1)), (4, .long x2)] := hl
  unfold fn_X5_sameType at hf
  refine de_start hS hP (fun H locs hS hP => ?_)
  refine lv_lload_n hx hb dX5_sameType_0 rfl (lv_at hl 1 rfl) ?_
  refine lv_bipush (v := 8) hx hb dX5_sameType_1 (by decide) ?_
  refine lv_lushr (v := ((x0 : Int64).toUInt64 >>> ((8 : Int32).toInt64.toUInt64 &&& Int64.toUInt64 63)).toInt64) hx hb dX5_sameType_3 rfl ?_
  refine lv_lload hx hb dX5_sameType_4 (lv_at hl 3 rfl) ?_
  refine lv_bipush (v := 8) hx hb dX5_sameType_6 (by decide) ?_
  refine lv_lushr (v := ((x2 : Int64).toUInt64 >>> ((8 : Int32).toInt64.toUInt64 &&& Int64.toUInt64 63)).toInt64) hx hb dX5_sameType_8 rfl ?_
  refine W.lcmp hx hb dX5_sameType_9 ?_
  refine lv_if_eq (tgt := 15) hx hb dX5_sameType_10 (by decide) (fun c_1 => ?_) (fun c_1 => ?_)
  · skip
    rw [lg_cmp_eq] at c_1
    rw [if_pos c_1] at hf
    refine lv_lload_n hx hb dX5_sameType_15 rfl (lv_at hl 1 rfl) ?_
    obtain ⟨z_2, r_3, hfc, hf⟩ := cal_some hf
    have hFc := de_free hD hS hA
    refine va_calli (va_runS (As := [.long x0]) (rest := []) ⟨hx, hb, hml, hown, hts⟩ (de_X5_endsInStructure l dC dI cy a sh n H.size F z x0 hfc) (va_cwS 1 hts gX5_sameType_X5_endsInStructure rfl rfl rfl (by decide +kernel) ⟨Nat.le_of_ble_eq_true rfl, Nat.le_of_ble_eq_true rfl⟩) ⟨fun a U g mk q => by obtain ⟨q0, q1, qP, qK, qD, qN⟩ := q; exact ⟨q0, q1, qP, va_K.moved (u := U) (U := U.calling g mk a) (Vm.Alike.refl U.vm) qK, qD, qN.same rfl⟩, fun U hU hW => ⟨rfl, by rw [hU], by rw [hU]; exact hP, va_K.moved hW.alike hK, hD.weaken (fun _ _ _ _ => trivial), hN.warm hW⟩⟩ rfl rfl hl.1 rfl (lv_room (Nat.le_of_ble_eq_true rfl)) dX5_sameType_16 ⟨Nat.le_of_ble_eq_true rfl, Nat.le_of_ble_eq_true rfl⟩) hS (fun q _ h => hFc q h) hFc (fun rr u t H_4 locs ht hvm hw hB hz1 hk1 hS2 => ?_)
    rw [hw]
    clear hw
    obtain ⟨hP1, -, hD1⟩ := hB
    rw [ht] at hP1
    replace hD := hD1.weaken (fun _ _ _ h => hFc _ h)
    replace hP := hP1
    replace hS := hS2
    clear hP1 hD1 hS2 hFc hfc hz1 hk1 hvm ht
    refine lv_if_ne (tgt := 35) hx hb dX5_sameType_19 (by decide) (fun c_5 => ?_) (fun c_5 => ?_)
    · skip
      rw [if_neg c_5] at hf
      refine lv_lload_n hx hb dX5_sameType_35 rfl (lv_at hl 1 rfl) ?_
      refine lv_l2i (v := (x0 : Int64).toInt32) hx hb dX5_sameType_36 rfl ?_
      refine lv_sipush (v := 255) hx hb dX5_sameType_37 (by decide) ?_
      refine lv_iand hx hb dX5_sameType_40 ?_
      refine lv_topi (fun v_6 ev_6 => ?_)
      replace hf := lt_at ev_6 hf
      clear ev_6
      refine lv_istore (lv' := [(6, .int v_6), (0, .ref (a h0)), (1, .long x0), (3, .ref (a x1)), (4, .long x2)]) hx hb dX5_sameType_41 hl (by decide) rfl (fun ls hl2 => ?_)
      replace hl := hl2
      clear hl2
      refine lv_lload hx hb dX5_sameType_43 (lv_at hl 4 rfl) ?_
      refine lv_l2i (v := (x2 : Int64).toInt32) hx hb dX5_sameType_45 rfl ?_
      refine lv_sipush (v := 255) hx hb dX5_sameType_46 (by decide) ?_
      refine lv_iand hx hb dX5_sameType_49 ?_
      refine lv_topi (fun v_7 ev_7 => ?_)
      replace hf := lt_at ev_7 hf
      clear ev_7
      refine lv_istore (lv' := [(7, .int v_7), (6, .int v_6), (0, .ref (a h0)), (1, .long x0), (3, .ref (a x1)), (4, .long x2)]) hx hb dX5_sameType_50 hl (by decide) rfl (fun ls hl2 => ?_)
      replace hl := hl2
      clear hl2
      refine lv_aload_n hx hb dX5_sameType_52 rfl (lv_at hl 2 rfl) ?_
      refine lv_iload hx hb dX5_sameType_53 (lv_at hl 1 rfl) ?_
      refine lv_iconst (v := 4) hx hb dX5_sameType_55 (by decide) ?_
      obtain ⟨g_10, hf⟩ := grd_some hf
      obtain ⟨kg_10, sg_10⟩ := okO_at g_10
      obtain ⟨z_8, r_9, hfc, hf⟩ := cal_some hf
      have hFc := de_free hD hS hA
      refine va_calli (va_runV (As := [.int v_6, .int 4]) (rest := []) ⟨hx, hb, hml, hown, hts⟩ (de_X5_structureColumn l dC dI cy a sh n H_4.size F z_2 h0 v_6 4 hfc) (cwV 2 hts gX5_sameType_X5_structureColumn rfl rfl rfl (by decide +kernel) ⟨Nat.le_of_ble_eq_true rfl, Nat.le_of_ble_eq_true rfl⟩) ⟨fun a U g mk q => by obtain ⟨q0, q1, qP, qK, qD, qN⟩ := q; exact ⟨q0, q1, qP, va_K.moved (u := U) (U := U.calling g mk a) (Vm.Alike.refl U.vm) qK, qD, qN.same rfl⟩, va_recv hK hP (ci := 5) (q0 := h0) rfl (Wd_ob kg_10 sg_10 (by decide)), fun U hU hW => ⟨rfl, by rw [hU], by rw [hU]; exact hP, va_K.moved hW.alike hK, hD.weaken (fun _ _ _ _ => trivial), hN.warm hW⟩⟩ rfl rfl hl.1 rfl (lv_room (Nat.le_of_ble_eq_true rfl)) dX5_sameType_56 ⟨Nat.le_of_ble_eq_true rfl, Nat.le_of_ble_eq_true rfl⟩) hS (fun q _ h => hFc q h) hFc (fun rr u t H_11 locs ht hvm hw hB hz1 hk1 hS2 => ?_)
      rw [hw]
      clear hw
      obtain ⟨hP1, -, hD1⟩ := hB
      rw [ht] at hP1
      replace hD := hD1.weaken (fun _ _ _ h => hFc _ h)
      replace hP := hP1
      replace hS := hS2
      clear hP1 hD1 hS2 hFc hfc hz1 hk1 hvm ht
      refine lv_aload_n hx hb dX5_sameType_59 rfl (lv_at hl 4 rfl) ?_
      refine lv_iload hx hb dX5_sameType_60 (lv_at hl 0 rfl) ?_
      refine lv_iconst (v := 4) hx hb dX5_sameType_62 (by decide) ?_
      obtain ⟨g_14, hf⟩ := grd_some hf
      obtain ⟨kg_14, sg_14⟩ := okO_at g_14
      obtain ⟨z_12, r_13, hfc, hf⟩ := cal_some hf
      have hFc := de_free hD hS hA
      refine va_calli (va_runV (As := [.int v_7, .int 4]) (rest := [.int r_9]) ⟨hx, hb, hml, hown, hts⟩ (de_X5_structureColumn l dC dI cy a sh n H_11.size F z_8 x1 v_7 4 hfc) (cwV 2 hts gX5_sameType_X5_structureColumn rfl rfl rfl (by decide +kernel) ⟨Nat.le_of_ble_eq_true rfl, Nat.le_of_ble_eq_true rfl⟩) ⟨fun a U g mk q => by obtain ⟨q0, q1, qP, qK, qD, qN⟩ := q; exact ⟨q0, q1, qP, va_K.moved (u := U) (U := U.calling g mk a) (Vm.Alike.refl U.vm) qK, qD, qN.same rfl⟩, va_recv hK hP (ci := 5) (q0 := x1) rfl (Wd_ob kg_14 sg_14 (by decide)), fun U hU hW => ⟨rfl, by rw [hU], by rw [hU]; exact hP, va_K.moved hW.alike hK, hD.weaken (fun _ _ _ _ => trivial), hN.warm hW⟩⟩ rfl rfl hl.1 rfl (lv_room (Nat.le_of_ble_eq_true rfl)) dX5_sameType_63 ⟨Nat.le_of_ble_eq_true rfl, Nat.le_of_ble_eq_true rfl⟩) hS (fun q _ h => hFc q h) hFc (fun rr u t H_15 locs ht hvm hw hB hz1 hk1 hS2 => ?_)
      rw [hw]
      clear hw
      obtain ⟨hP1, -, hD1⟩ := hB
      rw [ht] at hP1
      replace hD := hD1.weaken (fun _ _ _ h => hFc _ h)
      replace hP := hP1
      replace hS := hS2
      clear hP1 hD1 hS2 hFc hfc hz1 hk1 hvm ht
      refine lv_icmp_ne (tgt := 90) hx hb dX5_sameType_66 (by decide) (fun c_16 => ?_) (fun c_16 => ?_)
      · skip
        rw [if_neg c_16] at hf
        refine lv_iconst (v := 0) hx hb dX5_sameType_90 (by decide) ?_
        obtain ⟨h8, h9⟩ := ret_some hf
        rw [h8, h9]
        exact W.zret (v := 0) hx hb hr rfl (fun t ht hW => ⟨⟨0, (), rfl, rfl, by rw [ht]; exact hP, va_K.moved hW.alike hK, hD⟩, hS.F ht⟩) hS.2.2 dX5_sameType_91
      · skip
        rw [if_pos c_16] at hf
        refine lv_aload_n hx hb dX5_sameType_69 rfl (lv_at hl 2 rfl) ?_
        refine lv_iload hx hb dX5_sameType_70 (lv_at hl 1 rfl) ?_
        refine lv_iconst (v := 5) hx hb dX5_sameType_72 (by decide) ?_
        obtain ⟨z_17, r_18, hfc, hf⟩ := cal_some hf
        have hFc := de_free hD hS hA
        refine va_calli (va_runV (As := [.int v_6, .int 5]) (rest := []) ⟨hx, hb, hml, hown, hts⟩ (de_X5_structureColumn l dC dI cy a sh n H_15.size F z_12 h0 v_6 5 hfc) (cwV 2 hts gX5_sameType_X5_structureColumn rfl rfl rfl (by decide +kernel) ⟨Nat.le_of_ble_eq_true rfl, Nat.le_of_ble_eq_true rfl⟩) ⟨fun a U g mk q => by obtain ⟨q0, q1, qP, qK, qD, qN⟩ := q; exact ⟨q0, q1, qP, va_K.moved (u := U) (U := U.calling g mk a) (Vm.Alike.refl U.vm) qK, qD, qN.same rfl⟩, va_recv hK hP (ci := 5) (q0 := h0) rfl (Wd_ob kg_10 sg_10 (by decide)), fun U hU hW => ⟨rfl, by rw [hU], by rw [hU]; exact hP, va_K.moved hW.alike hK, hD.weaken (fun _ _ _ _ => trivial), hN.warm hW⟩⟩ rfl rfl hl.1 rfl (lv_room (Nat.le_of_ble_eq_true rfl)) dX5_sameType_73 ⟨Nat.le_of_ble_eq_true rfl, Nat.le_of_ble_eq_true rfl⟩) hS (fun q _ h => hFc q h) hFc (fun rr u t H_19 locs ht hvm hw hB hz1 hk1 hS2 => ?_)
        rw [hw]
        clear hw
        obtain ⟨hP1, -, hD1⟩ := hB
        rw [ht] at hP1
        replace hD := hD1.weaken (fun _ _ _ h => hFc _ h)
        replace hP := hP1
        replace hS := hS2
        clear hP1 hD1 hS2 hFc hfc hz1 hk1 hvm ht
        refine lv_aload_n hx hb dX5_sameType_76 rfl (lv_at hl 4 rfl) ?_
        refine lv_iload hx hb dX5_sameType_77 (lv_at hl 0 rfl) ?_
        refine lv_iconst (v := 5) hx hb dX5_sameType_79 (by decide) ?_
        obtain ⟨z_20, r_21, hfc, hf⟩ := cal_some hf
        have hFc := de_free hD hS hA
        refine va_calli (va_runV (As := [.int v_7, .int 5]) (rest := [.int r_18]) ⟨hx, hb, hml, hown, hts⟩ (de_X5_structureColumn l dC dI cy a sh n H_19.size F z_17 x1 v_7 5 hfc) (cwV 2 hts gX5_sameType_X5_structureColumn rfl rfl rfl (by decide +kernel) ⟨Nat.le_of_ble_eq_true rfl, Nat.le_of_ble_eq_true rfl⟩) ⟨fun a U g mk q => by obtain ⟨q0, q1, qP, qK, qD, qN⟩ := q; exact ⟨q0, q1, qP, va_K.moved (u := U) (U := U.calling g mk a) (Vm.Alike.refl U.vm) qK, qD, qN.same rfl⟩, va_recv hK hP (ci := 5) (q0 := x1) rfl (Wd_ob kg_14 sg_14 (by decide)), fun U hU hW => ⟨rfl, by rw [hU], by rw [hU]; exact hP, va_K.moved hW.alike hK, hD.weaken (fun _ _ _ _ => trivial), hN.warm hW⟩⟩ rfl rfl hl.1 rfl (lv_room (Nat.le_of_ble_eq_true rfl)) dX5_sameType_80 ⟨Nat.le_of_ble_eq_true rfl, Nat.le_of_ble_eq_true rfl⟩) hS (fun q _ h => hFc q h) hFc (fun rr u t H_22 locs ht hvm hw hB hz1 hk1 hS2 => ?_)
        rw [hw]
        clear hw
        obtain ⟨hP1, -, hD1⟩ := hB
        rw [ht] at hP1
        replace hD := hD1.weaken (fun _ _ _ h => hFc _ h)
        replace hP := hP1
        replace hS := hS2
        clear hP1 hD1 hS2 hFc hfc hz1 hk1 hvm ht
        refine lv_icmp_ne (tgt := 90) hx hb dX5_sameType_83 (by decide) (fun c_23 => ?_) (fun c_23 => ?_)
        · skip
          rw [if_neg c_23] at hf
          refine lv_iconst (v := 0) hx hb dX5_sameType_90 (by decide) ?_
          obtain ⟨h8, h9⟩ := ret_some hf
          rw [h8, h9]
          exact W.zret (v := 0) hx hb hr rfl (fun t ht hW => ⟨⟨0, (), rfl, rfl, by rw [ht]; exact hP, va_K.moved hW.alike hK, hD⟩, hS.F ht⟩) hS.2.2 dX5_sameType_91
        · skip
          rw [if_pos c_23] at hf
          refine lv_iconst (v := 1) hx hb dX5_sameType_86 (by decide) ?_
          refine lv_goto (tgt := 91) hx hb dX5_sameType_87 (by decide) ?_
          obtain ⟨h8, h9⟩ := ret_some hf
          rw [h8, h9]
          exact W.zret (v := 1) hx hb hr rfl (fun t ht hW => ⟨⟨1, (), rfl, rfl, by rw [ht]; exact hP, va_K.moved hW.alike hK, hD⟩, hS.F ht⟩) hS.2.2 dX5_sameType_91
    · skip
      rw [if_pos c_5] at hf
      refine lv_lload_n hx hb dX5_sameType_22 rfl (lv_at hl 1 rfl) ?_
      refine lv_lload hx hb dX5_sameType_23 (lv_at hl 3 rfl) ?_
      refine W.lcmp hx hb dX5_sameType_25 ?_
      refine lv_if_ne (tgt := 33) hx hb dX5_sameType_26 (by decide) (fun c_24 => ?_) (fun c_24 => ?_)
      · skip
        rw [lg_cmp_eq] at c_24
        rw [if_neg c_24] at hf
        refine lv_iconst (v := 0) hx hb dX5_sameType_33 (by decide) ?_
        obtain ⟨h8, h9⟩ := ret_some hf
        rw [h8, h9]
        exact W.zret (v := 0) hx hb hr rfl (fun t ht hW => ⟨⟨0, (), rfl, rfl, by rw [ht]; exact hP, va_K.moved hW.alike hK, hD⟩, hS.F ht⟩) hS.2.2 dX5_sameType_34
      · skip
        rw [lg_cmp_eq] at c_24
        rw [if_pos c_24] at hf
        refine lv_iconst (v := 1) hx hb dX5_sameType_29 (by decide) ?_
        refine lv_goto (tgt := 34) hx hb dX5_sameType_30 (by decide) ?_
        obtain ⟨h8, h9⟩ := ret_some hf
        rw [h8, h9]
        exact W.zret (v := 1) hx hb hr rfl (fun t ht hW => ⟨⟨1, (), rfl, rfl, by rw [ht]; exact hP, va_K.moved hW.alike hK, hD⟩, hS.F ht⟩) hS.2.2 dX5_sameType_34
  · skip
    rw [lg_cmp_eq] at c_1
    rw [if_neg c_1] at hf
    refine lv_iconst (v := 0) hx hb dX5_sameType_13 (by decide) ?_
    obtain ⟨h8, h9⟩ := ret_some hf
    rw [h8, h9]
    exact W.zret (v := 0) hx hb hr rfl (fun t ht hW => ⟨⟨0, (), rfl, rfl, by rw [ht]; exact hP, va_K.moved hW.alike hK, hD⟩, hS.F ht⟩) hS.2.2 dX5_sameType_14

theorem md_X11_call_1 : (.constant RX11 130 (65535) : Cond) ∈ wsX11_call := List.mem_of_getElem? (i := 1) rfl
theorem md_X11_call_2 : (.fieldLink RX11 112 "ResourceLedger" "blockLength" "I" : Cond) ∈ wsX11_call := List.mem_of_getElem? (i := 2) rfl
theorem iwd_X11_call_X11 : ∀ w ∈ wsX110, w ∈ wsX11_call := fun _ h => List.mem_cons_of_mem _ (List.mem_append_left _ (List.mem_append_right _ h))
theorem md_X11_call_3 : (.fieldLink RX11 15 "ResourceLedger" "block" "[LResourceLedger$Transaction;" : Cond) ∈ wsX11_call := List.mem_of_getElem? (i := 3) rfl
theorem md_X11_call_4 : (.fieldLink RX11 131 "ResourceLedger$Transaction" "calls" "Z" : Cond) ∈ wsX11_call := List.mem_of_getElem? (i := 4) rfl
theorem iwd_X11_call_X8 : ∀ w ∈ wsX80, w ∈ wsX11_call := fun _ h => List.mem_cons_of_mem _ (List.mem_append_right _ h)
theorem md_X11_call_5 : (.fieldLink RX11 134 "ResourceLedger$Transaction" "module" "I" : Cond) ∈ wsX11_call := List.mem_of_getElem? (i := 5) rfl
theorem md_X11_call_6 : (.fieldLink RX11 137 "ResourceLedger$Transaction" "function" "I" : Cond) ∈ wsX11_call := List.mem_of_getElem? (i := 6) rfl
set_option maxHeartbeats 4000000 in
set_option maxRecDepth 100000 in
theorem de_X11_call (l : Launch) (dC : Nat → ClassId) (dI : Nat → Nat → Nat) (cy : Nat → ClassId) (a : Nat → Nat) (sh : Nat → Nat × Nat) (n sz : Nat) (F : Nat) (z : St) (h0 : Nat) (x0 : Int64) (x1 : Int64) (x2 : Int32) (x3 : Int32) (x4 : Int32) {z8 : St} {r8 : Int32} (hf : fn_X11_call F sh n z h0 x0 x1 x2 x3 x4 = some (z8, r8)) : Met l yX11_call wsX11_call ({ frames := 1, cells := 0, slots := 0, locals := 25 }) (va_Pc [.ref (a h0), .long x0, .long x1, .int x2, .int x3, .int x4] (fun U => U.heap.size = sz ∧ va_P (dC, dI) vwCl (Wd cy a sh n z) U.heap ∧ va_K (dC, dI) vwCl (TYS cy) U ∧ va_D (fun _ => True) (Wd cy a sh n z) ∧ NK U)) (va_Qi (fun (r9 : Int32) (u : Unit) => r9 = r8) (fun u t => va_P (dC, dI) vwCl (Wd cy a sh n z8) t.heap ∧ va_K (dC, dI) vwCl (TYS cy) t ∧ va_D (va_A (Wd cy a sh n z) sz) (Wd cy a sh n z8)) (va_A (Wd cy a sh n z) sz)) 0 0 (va_A (Wd cy a sh n z) sz) := by
  refine Met.ofW (cc := cX11_call) (maxL := 9) (ret := (some .int)) (by decide) rfl ?_
  intro p e s m args below meth c s₁ B hml hv
  obtain ⟨rfl, hsz, hP, hK, hD0, hN⟩ := hv
  have hx := B.exec
  have hb := B.bytes
  have hr := B.returns
  have hts := atoms_spec (ws := wsX11_call) B.pre
  have hown : s.vm.findClass RX11 = some m.cls := findClass_of_methodNamed B.named
  have hlocks := B.notSynchronized
  subst hsz
  have hD := hD0.self (sz := s.heap.size)
  clear hD0
  generalize hAe : va_A (Wd cy a sh n z) s.heap.size = A at hD ⊢
  have hA : ∀ q : Nat, s.heap.size ≤ q → A q := fun q h => by rw [← hAe]; exact Or.inr h
  clear hAe
  have hS : va_S A s.heap s.heap [] := va_S.rf
  have hl := lv_entry ([.ref (a h0), .long x0, .long x1, .int x2, .int x3, .int x4]) (n := 9) (Nat.le_of_ble_eq_true rfl)
  rw [lg_entry_eq]
  generalize (lg_sl ([.ref (a h0), .long x0, .long x1, .int x2, .int x3, .int x4]) ++ List.replicate (9 - (lg_sl ([.ref (a h0), .long x0, .long x1, .int x2, .int x3, .int x4])).length) Slot.unset).toArray = ls at hl ⊢
  replace hl : lv_has ls 9 [(0, .ref (a h0)), (1, .long x0), (3, .long x1), (5, .int x2), (6, .int x3), (7, .int x4)] := hl
  unfold fn_X11_call at hf
  refine de_start hS hP (fun H locs hS hP => ?_)
  refine lv_iload hx hb dX11_call_0 (lv_at hl 3 rfl) ?_
  refine lv_bipush (v := 10) hx hb dX11_call_2 (by decide) ?_
  refine lv_icmp_lt (tgt := 15) hx hb dX11_call_4 (by decide) (fun c_1 => ?_) (fun c_1 => ?_)
  · skip
    rw [if_pos c_1] at hf
    refine lv_iconst (v := (-1)) hx hb dX11_call_15 (by decide) ?_
    obtain ⟨h8, h9⟩ := ret_some hf
    rw [h8, h9]
    exact W.iret (v := (-1)) hx hb hr (fun t ht hW => ⟨⟨(-1), (), rfl, rfl, by rw [ht]; exact hP, va_K.moved hW.alike hK, hD⟩, hS.F ht⟩) hS.2.2 dX11_call_16
  · skip
    rw [if_neg c_1] at hf
    refine lv_iload hx hb dX11_call_7 (lv_at hl 3 rfl) ?_
    refine lv_sipush (v := 20000) hx hb dX11_call_9 (by decide) ?_
    refine lv_icmp_le (tgt := 17) hx hb dX11_call_12 (by decide) (fun c_2 => ?_) (fun c_2 => ?_)
    · skip
      rw [if_pos c_2] at hf
      refine lv_iload hx hb dX11_call_17 (lv_at hl 4 rfl) ?_
      refine lv_if_lt (tgt := 41) hx hb dX11_call_19 (by decide) (fun c_3 => ?_) (fun c_3 => ?_)
      · skip
        rw [if_pos c_3] at hf
        refine lv_iconst (v := (-1)) hx hb dX11_call_41 (by decide) ?_
        obtain ⟨h8, h9⟩ := ret_some hf
        rw [h8, h9]
        exact W.iret (v := (-1)) hx hb hr (fun t ht hW => ⟨⟨(-1), (), rfl, rfl, by rw [ht]; exact hP, va_K.moved hW.alike hK, hD⟩, hS.F ht⟩) hS.2.2 dX11_call_42
      · skip
        rw [if_neg c_3] at hf
        refine lv_iload hx hb dX11_call_22 (lv_at hl 4 rfl) ?_
        refine lv_ldc hx hb hown (hts _ md_X11_call_1) dX11_call_24 ?_
        refine lv_icmp_gt (tgt := 41) hx hb dX11_call_26 (by decide) (fun c_4 => ?_) (fun c_4 => ?_)
        · skip
          rw [if_pos c_4] at hf
          refine lv_iconst (v := (-1)) hx hb dX11_call_41 (by decide) ?_
          obtain ⟨h8, h9⟩ := ret_some hf
          rw [h8, h9]
          exact W.iret (v := (-1)) hx hb hr (fun t ht hW => ⟨⟨(-1), (), rfl, rfl, by rw [ht]; exact hP, va_K.moved hW.alike hK, hD⟩, hS.F ht⟩) hS.2.2 dX11_call_42
        · skip
          rw [if_neg c_4] at hf
          refine lv_iload hx hb dX11_call_29 (lv_at hl 5 rfl) ?_
          refine lv_if_lt (tgt := 41) hx hb dX11_call_31 (by decide) (fun c_5 => ?_) (fun c_5 => ?_)
          · skip
            rw [if_pos c_5] at hf
            refine lv_iconst (v := (-1)) hx hb dX11_call_41 (by decide) ?_
            obtain ⟨h8, h9⟩ := ret_some hf
            rw [h8, h9]
            exact W.iret (v := (-1)) hx hb hr (fun t ht hW => ⟨⟨(-1), (), rfl, rfl, by rw [ht]; exact hP, va_K.moved hW.alike hK, hD⟩, hS.F ht⟩) hS.2.2 dX11_call_42
          · skip
            rw [if_neg c_5] at hf
            refine lv_iload hx hb dX11_call_34 (lv_at hl 5 rfl) ?_
            refine lv_bipush (v := 63) hx hb dX11_call_36 (by decide) ?_
            refine lv_icmp_le (tgt := 43) hx hb dX11_call_38 (by decide) (fun c_6 => ?_) (fun c_6 => ?_)
            · skip
              rw [if_pos c_6] at hf
              refine lv_aload_n hx hb dX11_call_43 rfl (lv_at hl 0 rfl) ?_
              obtain ⟨g_7, hf⟩ := grd_some hf
              obtain ⟨kg_7, sg_7⟩ := okO_at g_7
              refine va_get (D := (dC, dI)) (ci := 11) (v := .int (z.1 h0 4)) (C := RX11) (T := TX11) (N := 13) hx hb hts iwd_X11_call_X11 hown hK hP h0 (Wd_ob kg_7 sg_7 (by decide)) rfl 4 (by decide) (hts _ md_X11_call_2) (fun _ h9 => h9) (fl_at (t := 0) rfl) dX11_call_44 ?_
              refine lv_bipush (v := 32) hx hb dX11_call_47 (by decide) ?_
              refine lv_icmp_lt (tgt := 55) hx hb dX11_call_49 (by decide) (fun c_8 => ?_) (fun c_8 => ?_)
              · skip
                rw [if_pos c_8] at hf
                refine lv_aload_n hx hb dX11_call_55 rfl (lv_at hl 0 rfl) ?_
                obtain ⟨k_9, ek_9, hf⟩ := lnk_some hf
                refine va_get (D := (dC, dI)) (ci := 11) (v := .ref (a k_9)) (C := RX11) (T := TX11) (N := 13) hx hb hts iwd_X11_call_X11 hown hK hP h0 (Wd_ob kg_7 sg_7 (by decide)) rfl 3 (by decide) (hts _ md_X11_call_3) (fun _ h9 => h9) (fl_q rfl ek_9) dX11_call_56 ?_
                refine lv_aload_n hx hb dX11_call_59 rfl (lv_at hl 0 rfl) ?_
                refine va_get (D := (dC, dI)) (ci := 11) (v := .int (z.1 h0 4)) (C := RX11) (T := TX11) (N := 13) hx hb hts iwd_X11_call_X11 hown hK hP h0 (Wd_ob kg_7 sg_7 (by decide)) rfl 4 (by decide) (hts _ md_X11_call_2) (fun _ h9 => h9) (fl_at (t := 0) rfl) dX11_call_60 ?_
                obtain ⟨g_10, hf⟩ := grd_some hf
                obtain ⟨kg_10, sg_10, ig_10⟩ := okA_at g_10
                obtain ⟨k_11, ek_11, hf⟩ := lnk_some hf
                refine va_aldq (C := RX8) hx hb hK hP k_9 5 (Wd_aq kg_10 sg_10 (by decide)) rfl ig_10 dX11_call_63 ?_
                refine W.eq (g2 := F0 m 64 ls [.ref (a k_11)]) (by rw [ek_11]; rfl) ?_
                refine lv_astore (lv' := [(8, .ref (a k_11)), (0, .ref (a h0)), (1, .long x0), (3, .long x1), (5, .int x2), (6, .int x3), (7, .int x4)]) hx hb dX11_call_64 hl (by decide) rfl (fun ls hl2 => ?_)
                replace hl := hl2
                clear hl2
                refine lv_aload hx hb dX11_call_66 (lv_at hl 0 rfl) ?_
                refine lv_lload_n hx hb dX11_call_68 rfl (lv_at hl 2 rfl) ?_
                refine lv_lload_n hx hb dX11_call_69 rfl (lv_at hl 3 rfl) ?_
                refine lv_iload hx hb dX11_call_70 (lv_at hl 4 rfl) ?_
                obtain ⟨g_13, hf⟩ := grd_some hf
                obtain ⟨kg_13, sg_13⟩ := okO_at g_13
                obtain ⟨z_12, _u, hfc, hf⟩ := cal_some hf
                have hFc := de_free hD hS hA
                refine va_callv (va_runV (As := [.long x0, .long x1, .int x2]) (rest := []) ⟨hx, hb, hml, hown, hts⟩ (de_X8_lay l dC dI cy a sh n H.size F z k_11 x0 x1 x2 hfc) (cwV 3 hts gX11_call_X8_lay rfl rfl rfl (by decide +kernel) ⟨Nat.le_of_ble_eq_true rfl, Nat.le_of_ble_eq_true rfl⟩) ⟨fun a U g mk q => by obtain ⟨q0, q1, qP, qK, qD, qN⟩ := q; exact ⟨q0, q1, qP, va_K.moved (u := U) (U := U.calling g mk a) (Vm.Alike.refl U.vm) qK, qD, qN.same rfl⟩, va_recv hK hP (ci := 8) (q0 := k_11) rfl (Wd_ob kg_13 sg_13 (by decide)), fun U hU hW => ⟨rfl, by rw [hU], by rw [hU]; exact hP, va_K.moved hW.alike hK, hD.weaken (fun _ _ _ _ => trivial), hN.warm hW⟩⟩ rfl rfl hl.1 rfl (lv_room (Nat.le_of_ble_eq_true rfl)) dX11_call_72 ⟨Nat.le_of_ble_eq_true rfl, Nat.le_of_ble_eq_true rfl⟩) hS (fun q _ h => hFc q h) hFc (fun u t H_14 locs ht hvm hw hB hz1 hk1 hS2 => ?_)
                obtain ⟨hP1, -, hD1⟩ := hB
                rw [ht] at hP1
                replace hD := hD1.weaken (fun _ _ _ h => hFc _ h)
                replace hP := hP1
                replace hS := hS2
                clear hP1 hD1 hS2 hFc hfc hz1 hk1 hvm ht
                refine lv_aload hx hb dX11_call_75 (lv_at hl 0 rfl) ?_
                refine lv_iconst (v := 1) hx hb dX11_call_77 (by decide) ?_
                refine va_put (D := (dC, dI)) (ci := 8) (v := .int 1) (ty := .boolean) (C := RX8) (T := TX8) (N := 19) hx hb hts iwd_X11_call_X8 tyX8 tyX8_ok nmX8 hown hK hP hD hS k_11 (Wd_ob kg_13 sg_13 (by decide)) rfl 0 (by decide) (hts _ md_X11_call_4) (fun _ h9 => h9) rfl (by decide +kernel) rfl rfl (by rw [fl_len]; decide) dX11_call_78 (fun H_15 locs hP2 hD2 hS2 => ?_)
                rw [Wd_si sg_13 (by decide) rfl] at hP2 hD2
                obtain ⟨z_16, ez_16⟩ : ∃ w, w = si z_12 k_11 0 1 := ⟨_, rfl⟩
                rw [← ez_16] at hP2 hD2
                replace hf := lt_at ez_16 hf
                clear ez_16
                replace hP := hP2
                replace hD := hD2
                replace hS := hS2
                clear hP2 hD2 hS2
                refine lv_aload hx hb dX11_call_81 (lv_at hl 0 rfl) ?_
                refine lv_iload hx hb dX11_call_83 (lv_at hl 5 rfl) ?_
                refine va_put (D := (dC, dI)) (ci := 8) (v := .int x3) (ty := .int) (C := RX8) (T := TX8) (N := 19) hx hb hts iwd_X11_call_X8 tyX8 tyX8_ok nmX8 hown hK hP hD hS k_11 (Wd_ob kg_13 sg_13 (by decide)) rfl 4 (by decide) (hts _ md_X11_call_5) (fun _ h9 => h9) rfl (by decide +kernel) rfl rfl (by rw [fl_len]; decide) dX11_call_85 (fun H_17 locs hP2 hD2 hS2 => ?_)
                rw [Wd_si sg_13 (by decide) rfl] at hP2 hD2
                obtain ⟨z_18, ez_18⟩ : ∃ w, w = si z_16 k_11 4 x3 := ⟨_, rfl⟩
                rw [← ez_18] at hP2 hD2
                replace hf := lt_at ez_18 hf
                clear ez_18
                replace hP := hP2
                replace hD := hD2
                replace hS := hS2
                clear hP2 hD2 hS2
                refine lv_aload hx hb dX11_call_88 (lv_at hl 0 rfl) ?_
                refine lv_iload hx hb dX11_call_90 (lv_at hl 6 rfl) ?_
                refine va_put (D := (dC, dI)) (ci := 8) (v := .int x4) (ty := .int) (C := RX8) (T := TX8) (N := 19) hx hb hts iwd_X11_call_X8 tyX8 tyX8_ok nmX8 hown hK hP hD hS k_11 (Wd_ob kg_13 sg_13 (by decide)) rfl 5 (by decide) (hts _ md_X11_call_6) (fun _ h9 => h9) rfl (by decide +kernel) rfl rfl (by rw [fl_len]; decide) dX11_call_92 (fun H_19 locs hP2 hD2 hS2 => ?_)
                rw [Wd_si sg_13 (by decide) rfl] at hP2 hD2
                obtain ⟨z_20, ez_20⟩ : ∃ w, w = si z_18 k_11 5 x4 := ⟨_, rfl⟩
                rw [← ez_20] at hP2 hD2
                replace hf := lt_at ez_20 hf
                clear ez_20
                replace hP := hP2
                replace hD := hD2
                replace hS := hS2
                clear hP2 hD2 hS2
                refine lv_aload_n hx hb dX11_call_95 rfl (lv_at hl 1 rfl) ?_
                refine lv_dup hx hb dX11_call_96 rfl ?_
                refine va_get (D := (dC, dI)) (ci := 11) (v := .int (z_20.1 h0 4)) (C := RX11) (T := TX11) (N := 13) hx hb hts iwd_X11_call_X11 hown hK hP h0 (Wd_ob kg_7 sg_7 (by decide)) rfl 4 (by decide) (hts _ md_X11_call_2) (fun _ h9 => h9) (fl_at (t := 0) rfl) dX11_call_97 ?_
                refine lv_topi (fun v_21 ev_21 => ?_)
                replace hf := lt_at ev_21 hf
                clear ev_21
                refine lv_dup_x1 hx hb dX11_call_100 rfl rfl ?_
                refine lv_iconst (v := 1) hx hb dX11_call_101 (by decide) ?_
                refine lv_iadd hx hb dX11_call_102 ?_
                refine va_put (D := (dC, dI)) (ci := 11) (v := .int (v_21 + 1)) (ty := .int) (C := RX11) (T := TX11) (N := 13) hx hb hts iwd_X11_call_X11 tyX11 tyX11_ok nmX11 hown hK hP hD hS h0 (Wd_ob kg_7 sg_7 (by decide)) rfl 4 (by decide) (hts _ md_X11_call_2) (fun _ h9 => h9) rfl (by decide +kernel) rfl rfl (by rw [fl_len]; decide) dX11_call_103 (fun H_22 locs hP2 hD2 hS2 => ?_)
                rw [Wd_si sg_7 (by decide) rfl] at hP2 hD2
                obtain ⟨z_23, ez_23⟩ : ∃ w, w = si z_20 h0 4 (v_21 + 1) := ⟨_, rfl⟩
                rw [← ez_23] at hP2 hD2
                replace hf := lt_at ez_23 hf
                clear ez_23
                replace hP := hP2
                replace hD := hD2
                replace hS := hS2
                clear hP2 hD2 hS2
                obtain ⟨h8, h9⟩ := ret_some hf
                rw [h8, h9]
                exact W.iret (v := v_21) hx hb hr (fun t ht hW => ⟨⟨v_21, (), rfl, rfl, by rw [ht]; exact hP, va_K.moved hW.alike hK, hD⟩, hS.F ht⟩) hS.2.2 dX11_call_106
              · skip
                rw [if_neg c_8] at hf
                refine lv_bipush (v := (-3)) hx hb dX11_call_52 (by decide) ?_
                obtain ⟨h8, h9⟩ := ret_some hf
                rw [h8, h9]
                exact W.iret (v := (-3)) hx hb hr (fun t ht hW => ⟨⟨(-3), (), rfl, rfl, by rw [ht]; exact hP, va_K.moved hW.alike hK, hD⟩, hS.F ht⟩) hS.2.2 dX11_call_54
            · skip
              rw [if_neg c_6] at hf
              refine lv_iconst (v := (-1)) hx hb dX11_call_41 (by decide) ?_
              obtain ⟨h8, h9⟩ := ret_some hf
              rw [h8, h9]
              exact W.iret (v := (-1)) hx hb hr (fun t ht hW => ⟨⟨(-1), (), rfl, rfl, by rw [ht]; exact hP, va_K.moved hW.alike hK, hD⟩, hS.F ht⟩) hS.2.2 dX11_call_42
    · skip
      rw [if_neg c_2] at hf
      refine lv_iconst (v := (-1)) hx hb dX11_call_15 (by decide) ?_
      obtain ⟨h8, h9⟩ := ret_some hf
      rw [h8, h9]
      exact W.iret (v := (-1)) hx hb hr (fun t ht hW => ⟨⟨(-1), (), rfl, rfl, by rw [ht]; exact hP, va_K.moved hW.alike hK, hD⟩, hS.F ht⟩) hS.2.2 dX11_call_16

theorem md_X1_child_1 : (.fieldLink RX1 11 "ResourceLedger$Heap" "kind" "[B" : Cond) ∈ wsX1_child := List.mem_of_getElem? (i := 1) rfl
theorem iwd_X1_child_X1 : ∀ w ∈ wsX10, w ∈ wsX1_child := fun _ h => List.mem_cons_of_mem _ (List.mem_append_right _ h)
theorem md_X1_child_3 : (.fieldLink RX1 30 "ResourceLedger$Heap" "slips" "I" : Cond) ∈ wsX1_child := List.mem_of_getElem? (i := 3) rfl
theorem md_X1_child_2 : (.fieldLink RX1 19 "ResourceLedger$Heap" "high" "[J" : Cond) ∈ wsX1_child := List.mem_of_getElem? (i := 2) rfl
theorem md_X1_child_4 : (.fieldLink RX1 15 "ResourceLedger$Heap" "low" "[J" : Cond) ∈ wsX1_child := List.mem_of_getElem? (i := 4) rfl
theorem md_X1_child_5 : (.fieldLink RX1 22 "ResourceLedger$Heap" "next" "[I" : Cond) ∈ wsX1_child := List.mem_of_getElem? (i := 5) rfl
set_option maxHeartbeats 4000000 in
set_option maxRecDepth 100000 in
theorem de_X1_child (l : Launch) (dC : Nat → ClassId) (dI : Nat → Nat → Nat) (cy : Nat → ClassId) (a : Nat → Nat) (sh : Nat → Nat × Nat) (n sz : Nat) (F : Nat) (z : St) (h0 : Nat) (x0 : Int32) (x1 : Int64) {z8 : St} {r8 : Int32} (hf : fn_X1_child F sh n z h0 x0 x1 = some (z8, r8)) : Met l yX1_child wsX1_child ({ frames := 1, cells := 0, slots := 0, locals := 20 }) (va_Pc [.ref (a h0), .int x0, .long x1] (fun U => U.heap.size = sz ∧ va_P (dC, dI) vwCl (Wd cy a sh n z) U.heap ∧ va_K (dC, dI) vwCl (TYS cy) U ∧ va_D (fun _ => True) (Wd cy a sh n z) ∧ NK U)) (va_Qi (fun (r9 : Int32) (u : Unit) => r9 = r8) (fun u t => va_P (dC, dI) vwCl (Wd cy a sh n z8) t.heap ∧ va_K (dC, dI) vwCl (TYS cy) t ∧ va_D (va_A (Wd cy a sh n z) sz) (Wd cy a sh n z8)) (va_A (Wd cy a sh n z) sz)) 0 0 (va_A (Wd cy a sh n z) sz) := by
  refine Met.ofW (cc := cX1_child) (maxL := 7) (ret := (some .int)) (by decide) rfl ?_
  intro p e s m args below meth c s₁ B hml hv
  obtain ⟨rfl, hsz, hP, hK, hD0, hN⟩ := hv
  have hx := B.exec
  have hb := B.bytes
  have hr := B.returns
  have hts := atoms_spec (ws := wsX1_child) B.pre
  have hown : s.vm.findClass RX1 = some m.cls := findClass_of_methodNamed B.named
  have hlocks := B.notSynchronized
  subst hsz
  have hD := hD0.self (sz := s.heap.size)
  clear hD0
  generalize hAe : va_A (Wd cy a sh n z) s.heap.size = A at hD ⊢
  have hA : ∀ q : Nat, s.heap.size ≤ q → A q := fun q h => by rw [← hAe]; exact Or.inr h
  clear hAe
  have hS : va_S A s.heap s.heap [] := va_S.rf
  have hl := lv_entry ([.ref (a h0), .int x0, .long x1]) (n := 7) (Nat.le_of_ble_eq_true rfl)
  rw [lg_entry_eq]
  generalize (lg_sl ([.ref (a h0), .int x0, .long x1]) ++ List.replicate (7 - (lg_sl ([.ref (a h0), .int x0, .long x1])).length) Slot.unset).toArray = ls at hl ⊢
  replace hl : lv_has ls 7 [(0, .ref (a h0)), (1, .int x0), (2, .long x1)] := hl
  unfold fn_X1_child at hf
  refine de_start hS hP (fun H locs hS hP => ?_)
  refine lv_aload_n hx hb dX1_child_0 rfl (lv_at hl 0 rfl) ?_
  obtain ⟨g_1, hf⟩ := grd_some hf
  obtain ⟨kg_1, sg_1⟩ := okO_at g_1
  obtain ⟨k_2, ek_2, hf⟩ := lnk_some hf
  refine va_get (D := (dC, dI)) (ci := 1) (v := .ref (a k_2)) (C := RX1) (T := TX1) (N := 7) hx hb hts iwd_X1_child_X1 hown hK hP h0 (Wd_ob kg_1 sg_1 (by decide)) rfl 0 (by decide) (hts _ md_X1_child_1) (fun _ h9 => h9) (fl_q rfl ek_2) dX1_child_1 ?_
  refine lv_iload_n hx hb dX1_child_4 rfl (lv_at hl 1 rfl) ?_
  obtain ⟨g_3, hf⟩ := grd_some hf
  obtain ⟨kg_3, sg_3, ig_3⟩ := okA_at g_3
  refine va_bald hx hb hK hP k_2 0 (Wd_ab kg_3 sg_3) rfl ig_3 dX1_child_5 ?_
  obtain ⟨z_4, r_5, hfc, hf⟩ := cal_some hf
  have hFc := de_free hD hS hA
  refine va_calli (va_runS (As := [.int (z.1 k_2 x0.toNatClampNeg)]) (rest := []) ⟨hx, hb, hml, hown, hts⟩ (de_X1_holdsOthers l dC dI cy a sh n H.size F z (z.1 k_2 x0.toNatClampNeg) hfc) (va_cwS 1 hts gX1_child_X1_holdsOthers rfl rfl rfl (by decide +kernel) ⟨Nat.le_of_ble_eq_true rfl, Nat.le_of_ble_eq_true rfl⟩) ⟨fun a U g mk q => by obtain ⟨q0, q1, qP, qK, qD, qN⟩ := q; exact ⟨q0, q1, qP, va_K.moved (u := U) (U := U.calling g mk a) (Vm.Alike.refl U.vm) qK, qD, qN.same rfl⟩, fun U hU hW => ⟨rfl, by rw [hU], by rw [hU]; exact hP, va_K.moved hW.alike hK, hD.weaken (fun _ _ _ _ => trivial), hN.warm hW⟩⟩ rfl rfl hl.1 rfl (lv_room (Nat.le_of_ble_eq_true rfl)) dX1_child_6 ⟨Nat.le_of_ble_eq_true rfl, Nat.le_of_ble_eq_true rfl⟩) hS (fun q _ h => hFc q h) hFc (fun rr u t H_6 locs ht hvm hw hB hz1 hk1 hS2 => ?_)
  rw [hw]
  clear hw
  obtain ⟨hP1, -, hD1⟩ := hB
  rw [ht] at hP1
  replace hD := hD1.weaken (fun _ _ _ h => hFc _ h)
  replace hP := hP1
  replace hS := hS2
  clear hP1 hD1 hS2 hFc hfc hz1 hk1 hvm ht
  refine de_cut (h := 29) (fun (x : St) => []) (fun x ls H locs => lv_has ls 7 [(0, .ref (a h0))] ∧ va_P (dC, dI) vwCl (Wd cy a sh n x) H ∧ va_D A (Wd cy a sh n x) ∧ va_S A s.heap H locs) (fun x => fn_X1_child_B29 F sh n h0 x) (z8, r8) ?_ (fun B29 => ?_)
  · intro x ls H locs hI hf
    obtain ⟨z_7, ez⟩ : ∃ w, w = x := ⟨_, rfl⟩
    subst ez
    obtain ⟨hl2, hP2, hD2, hS2⟩ := hI
    replace hl : lv_has ls 7 [(0, .ref (a h0))] := hl2
    replace hP := hP2
    replace hD := hD2
    replace hS := hS2
    clear hl2 hP2 hD2 hS2
    replace hf := fn_X1_child_B29_s hf
    refine W.eq (g2 := F0 m 29 ls []) rfl ?_
    refine lv_aload_n hx hb dX1_child_29 rfl (lv_at hl 0 rfl) ?_
    refine lv_dup hx hb dX1_child_30 rfl ?_
    refine va_get (D := (dC, dI)) (ci := 1) (v := .int (z_7.1 h0 6)) (C := RX1) (T := TX1) (N := 7) hx hb hts iwd_X1_child_X1 hown hK hP h0 (Wd_ob kg_1 sg_1 (by decide)) rfl 6 (by decide) (hts _ md_X1_child_3) (fun _ h9 => h9) (fl_at (t := 0) rfl) dX1_child_31 ?_
    refine lv_iconst (v := 1) hx hb dX1_child_34 (by decide) ?_
    refine lv_iadd hx hb dX1_child_35 ?_
    refine va_put (D := (dC, dI)) (ci := 1) (v := .int ((z_7.1 h0 6) + 1)) (ty := .int) (C := RX1) (T := TX1) (N := 7) hx hb hts iwd_X1_child_X1 tyX1 tyX1_ok nmX1 hown hK hP hD hS h0 (Wd_ob kg_1 sg_1 (by decide)) rfl 6 (by decide) (hts _ md_X1_child_3) (fun _ h9 => h9) rfl (by decide +kernel) rfl rfl (by rw [fl_len]; decide) dX1_child_36 (fun H_8 locs hP2 hD2 hS2 => ?_)
    rw [Wd_si sg_1 (by decide) rfl] at hP2 hD2
    obtain ⟨z_9, ez_9⟩ : ∃ w, w = si z_7 h0 6 ((z_7.1 h0 6) + 1) := ⟨_, rfl⟩
    rw [← ez_9] at hP2 hD2
    replace hf := lt_at ez_9 hf
    clear ez_9
    replace hP := hP2
    replace hD := hD2
    replace hS := hS2
    clear hP2 hD2 hS2
    refine lv_iconst (v := 0) hx hb dX1_child_39 (by decide) ?_
    obtain ⟨h8, h9⟩ := ret_some hf
    rw [h8, h9]
    exact W.iret (v := 0) hx hb hr (fun t ht hW => ⟨⟨0, (), rfl, rfl, by rw [ht]; exact hP, va_K.moved hW.alike hK, hD⟩, hS.F ht⟩) hS.2.2 dX1_child_40
  refine lv_if_eq (tgt := 29) hx hb dX1_child_9 (by decide) (fun c_10 => ?_) (fun c_10 => ?_)
  · skip
    rw [if_pos c_10] at hf
    exact B29 (z_4) ls H_6 locs ⟨lv_sub hl [0] rfl, hP, hD, hS⟩ hf
  · skip
    rw [if_neg c_10] at hf
    refine lv_lload_n hx hb dX1_child_12 rfl (lv_at hl 2 rfl) ?_
    refine lv_lconst (v := 0) hx hb dX1_child_13 (by decide) ?_
    refine W.lcmp hx hb dX1_child_14 ?_
    refine lv_if_lt (tgt := 29) hx hb dX1_child_15 (by decide) (fun c_11 => ?_) (fun c_11 => ?_)
    · skip
      rw [lg_cmp_lt] at c_11
      rw [if_pos c_11] at hf
      exact B29 (z_4) ls H_6 locs ⟨lv_sub hl [0] rfl, hP, hD, hS⟩ hf
    · skip
      rw [lg_cmp_lt] at c_11
      rw [if_neg c_11] at hf
      refine lv_lload_n hx hb dX1_child_18 rfl (lv_at hl 2 rfl) ?_
      refine lv_aload_n hx hb dX1_child_19 rfl (lv_at hl 0 rfl) ?_
      obtain ⟨k_12, ek_12, hf⟩ := lnk_some hf
      refine va_get (D := (dC, dI)) (ci := 1) (v := .ref (a k_12)) (C := RX1) (T := TX1) (N := 7) hx hb hts iwd_X1_child_X1 hown hK hP h0 (Wd_ob kg_1 sg_1 (by decide)) rfl 2 (by decide) (hts _ md_X1_child_2) (fun _ h9 => h9) (fl_q rfl ek_12) dX1_child_20 ?_
      refine lv_iload_n hx hb dX1_child_23 rfl (lv_at hl 1 rfl) ?_
      obtain ⟨g_13, hf⟩ := grd_some hf
      obtain ⟨kg_13, sg_13, ig_13⟩ := okA_at g_13
      refine va_lald hx hb hK hP k_12 2 (Wd_al kg_13 sg_13) rfl ig_13 dX1_child_24 ?_
      refine W.lcmp hx hb dX1_child_25 ?_
      refine lv_if_lt (tgt := 41) hx hb dX1_child_26 (by decide) (fun c_14 => ?_) (fun c_14 => ?_)
      · skip
        rw [lg_cmp_lt] at c_14
        rw [if_pos c_14] at hf
        refine lv_aload_n hx hb dX1_child_41 rfl (lv_at hl 0 rfl) ?_
        obtain ⟨k_15, ek_15, hf⟩ := lnk_some hf
        refine va_get (D := (dC, dI)) (ci := 1) (v := .ref (a k_15)) (C := RX1) (T := TX1) (N := 7) hx hb hts iwd_X1_child_X1 hown hK hP h0 (Wd_ob kg_1 sg_1 (by decide)) rfl 1 (by decide) (hts _ md_X1_child_4) (fun _ h9 => h9) (fl_q rfl ek_15) dX1_child_42 ?_
        refine lv_iload_n hx hb dX1_child_45 rfl (lv_at hl 1 rfl) ?_
        obtain ⟨g_16, hf⟩ := grd_some hf
        obtain ⟨kg_16, sg_16, ig_16⟩ := okA_at g_16
        refine va_lald hx hb hK hP k_15 2 (Wd_al kg_16 sg_16) rfl ig_16 dX1_child_46 ?_
        refine lv_l2i (v := ((z_4.2.1 k_15 x0.toNatClampNeg) : Int64).toInt32) hx hb dX1_child_47 rfl ?_
        refine lv_topi (fun v_17 ev_17 => ?_)
        replace hf := lt_at ev_17 hf
        clear ev_17
        refine lv_istore (lv' := [(4, .int v_17), (0, .ref (a h0)), (1, .int x0), (2, .long x1)]) hx hb dX1_child_48 hl (by decide) rfl (fun ls hl2 => ?_)
        replace hl := hl2
        clear hl2
        refine lv_aload_n hx hb dX1_child_50 rfl (lv_at hl 1 rfl) ?_
        obtain ⟨k_18, ek_18, hf⟩ := lnk_some hf
        refine va_get (D := (dC, dI)) (ci := 1) (v := .ref (a k_18)) (C := RX1) (T := TX1) (N := 7) hx hb hts iwd_X1_child_X1 hown hK hP h0 (Wd_ob kg_1 sg_1 (by decide)) rfl 2 (by decide) (hts _ md_X1_child_2) (fun _ h9 => h9) (fl_q rfl ek_18) dX1_child_51 ?_
        refine lv_iload_n hx hb dX1_child_54 rfl (lv_at hl 2 rfl) ?_
        obtain ⟨g_19, hf⟩ := grd_some hf
        obtain ⟨kg_19, sg_19, ig_19⟩ := okA_at g_19
        refine va_lald hx hb hK hP k_18 2 (Wd_al kg_19 sg_19) rfl ig_19 dX1_child_55 ?_
        refine lv_lconst (v := 1) hx hb dX1_child_56 (by decide) ?_
        refine lv_lsub hx hb dX1_child_57 ?_
        refine lv_topl (fun v_20 ev_20 => ?_)
        replace hf := lt_at ev_20 hf
        clear ev_20
        refine lv_lstore (lv' := [(5, .long v_20), (4, .int v_17), (0, .ref (a h0)), (1, .int x0), (2, .long x1)]) hx hb dX1_child_58 hl (by decide) rfl (fun ls hl2 => ?_)
        replace hl := hl2
        clear hl2
        have hl0 : lv_has ls 7 [(5, .long v_20), (4, .int v_17), (0, .ref (a h0)), (2, .long x1)] := lv_sub hl [0, 1, 2, 4] rfl
        refine de_loop (h := 60) (fun (x : St × Int32 × Int64) ls H locs => lv_has ls 7 [(5, .long x.2.2), (4, .int x.2.1), (0, .ref (a h0)), (2, .long x1)] ∧ va_P (dC, dI) vwCl (Wd cy a sh n x.1) H ∧ va_D A (Wd cy a sh n x.1) ∧ va_S A s.heap H locs) (fun f x => fn_X1_child_L60 F sh n x1 h0 f x.1 x.2.1 x.2.2) (z8, r8) ?_ (fun _ => rfl) F (z_4, v_17, v_20) ls H_6 locs ⟨hl0, hP, hD, hS⟩ hf
        intro f_24 x ls H locs ih60 hI hf
        obtain ⟨z_23, p_21, p_22⟩ := x
        obtain ⟨hl2, hP2, hD2, hS2⟩ := hI
        replace hl : lv_has ls 7 [(5, .long p_22), (4, .int p_21), (0, .ref (a h0)), (2, .long x1)] := hl2
        replace hP := hP2
        replace hD := hD2
        replace hS := hS2
        clear hl2 hP2 hD2 hS2 hl0
        replace hf := fn_X1_child_L60_s hf
        refine lv_lload hx hb dX1_child_60 (lv_at hl 0 rfl) ?_
        refine lv_lload_n hx hb dX1_child_62 rfl (lv_at hl 3 rfl) ?_
        refine W.lcmp hx hb dX1_child_63 ?_
        refine lv_if_le (tgt := 90) hx hb dX1_child_64 (by decide) (fun c_25 => ?_) (fun c_25 => ?_)
        · skip
          rw [lg_cmp_le] at c_25
          rw [if_pos c_25] at hf
          refine lv_iload hx hb dX1_child_90 (lv_at hl 1 rfl) ?_
          obtain ⟨h8, h9⟩ := ret_some hf
          rw [h8, h9]
          exact W.iret (v := p_21) hx hb hr (fun t ht hW => ⟨⟨p_21, (), rfl, rfl, by rw [ht]; exact hP, va_K.moved hW.alike hK, hD⟩, hS.F ht⟩) hS.2.2 dX1_child_92
        · skip
          rw [lg_cmp_le] at c_25
          rw [if_neg c_25] at hf
          refine lv_iload hx hb dX1_child_67 (lv_at hl 1 rfl) ?_
          refine lv_if_eq (tgt := 90) hx hb dX1_child_69 (by decide) (fun c_26 => ?_) (fun c_26 => ?_)
          · skip
            rw [if_pos c_26] at hf
            refine lv_iload hx hb dX1_child_90 (lv_at hl 1 rfl) ?_
            obtain ⟨h8, h9⟩ := ret_some hf
            rw [h8, h9]
            exact W.iret (v := p_21) hx hb hr (fun t ht hW => ⟨⟨p_21, (), rfl, rfl, by rw [ht]; exact hP, va_K.moved hW.alike hK, hD⟩, hS.F ht⟩) hS.2.2 dX1_child_92
          · skip
            rw [if_neg c_26] at hf
            refine lv_aload_n hx hb dX1_child_72 rfl (lv_at hl 2 rfl) ?_
            obtain ⟨k_27, ek_27, hf⟩ := lnk_some hf
            refine va_get (D := (dC, dI)) (ci := 1) (v := .ref (a k_27)) (C := RX1) (T := TX1) (N := 7) hx hb hts iwd_X1_child_X1 hown hK hP h0 (Wd_ob kg_1 sg_1 (by decide)) rfl 3 (by decide) (hts _ md_X1_child_5) (fun _ h9 => h9) (fl_q rfl ek_27) dX1_child_73 ?_
            refine lv_iload hx hb dX1_child_76 (lv_at hl 1 rfl) ?_
            obtain ⟨g_28, hf⟩ := grd_some hf
            obtain ⟨kg_28, sg_28, ig_28⟩ := okA_at g_28
            refine va_iald hx hb hK hP k_27 1 (Wd_ai kg_28 sg_28) rfl ig_28 dX1_child_78 ?_
            refine lv_topi (fun v_29 ev_29 => ?_)
            replace hf := lt_at ev_29 hf
            clear ev_29
            refine lv_istore (lv' := [(4, .int v_29), (5, .long p_22), (0, .ref (a h0)), (2, .long x1)]) hx hb dX1_child_79 hl (by decide) rfl (fun ls hl2 => ?_)
            replace hl := hl2
            clear hl2
            refine lv_lload hx hb dX1_child_81 (lv_at hl 1 rfl) ?_
            refine lv_lconst (v := 1) hx hb dX1_child_83 (by decide) ?_
            refine lv_lsub hx hb dX1_child_84 ?_
            refine lv_topl (fun v_30 ev_30 => ?_)
            replace hf := lt_at ev_30 hf
            clear ev_30
            refine lv_lstore (lv' := [(5, .long v_30), (4, .int v_29), (0, .ref (a h0)), (2, .long x1)]) hx hb dX1_child_85 hl (by decide) rfl (fun ls hl2 => ?_)
            replace hl := hl2
            clear hl2
            refine lv_goto (tgt := 60) hx hb dX1_child_87 (by decide) ?_
            exact ih60 (z_23, v_29, v_30) ls H locs ⟨lv_sub hl [0, 1, 2, 3] rfl, hP, hD, hS⟩ hf
      · skip
        rw [lg_cmp_lt] at c_14
        rw [if_neg c_14] at hf
        exact B29 (z_4) ls H_6 locs ⟨lv_sub hl [0] rfl, hP, hD, hS⟩ hf

theorem md_X4_gather_1 : (.fieldLink RX4 49 "ResourceLedger$Machine" "depths" "[I" : Cond) ∈ wsX4_gather := List.mem_of_getElem? (i := 1) rfl
theorem iwd_X4_gather_X4 : ∀ w ∈ wsX40, w ∈ wsX4_gather := fun _ h => List.mem_cons_of_mem _ (List.mem_append_left _ (List.mem_append_right _ h))
theorem md_X4_gather_2 : (.fieldLink RX4 100 "ResourceLedger$Machine" "top" "I" : Cond) ∈ wsX4_gather := List.mem_of_getElem? (i := 2) rfl
theorem md_X4_gather_3 : (.fieldLink RX4 12 "ResourceLedger$Machine" "heap" "LResourceLedger$Heap;" : Cond) ∈ wsX4_gather := List.mem_of_getElem? (i := 3) rfl
theorem md_X4_gather_5 : (.fieldLink RX4 55 "ResourceLedger$Machine" "stack" "[I" : Cond) ∈ wsX4_gather := List.mem_of_getElem? (i := 5) rfl
theorem md_X4_gather_4 : (.fieldLink RX4 71 "ResourceLedger$Heap" "slips" "I" : Cond) ∈ wsX4_gather := List.mem_of_getElem? (i := 4) rfl
theorem iwd_X4_gather_X1 : ∀ w ∈ wsX10, w ∈ wsX4_gather := fun _ h => List.mem_cons_of_mem _ (List.mem_append_right _ h)
set_option maxHeartbeats 4000000 in
set_option maxRecDepth 100000 in
theorem de_X4_gather (l : Launch) (dC : Nat → ClassId) (dI : Nat → Nat → Nat) (cy : Nat → ClassId) (a : Nat → Nat) (sh : Nat → Nat × Nat) (n sz : Nat) (F : Nat) (z : St) (h0 : Nat) (x0 : Int32) (x1 : Int32) {z8 : St} {r8 : Unit} (hf : fn_X4_gather F sh n z h0 x0 x1 = some (z8, r8)) : Met l yX4_gather wsX4_gather ({ frames := 1, cells := 0, slots := 0, locals := 25 }) (va_Pc [.ref (a h0), .int x0, .int x1] (fun U => U.heap.size = sz ∧ va_P (dC, dI) vwCl (Wd cy a sh n z) U.heap ∧ va_K (dC, dI) vwCl (TYS cy) U ∧ va_D (fun _ => True) (Wd cy a sh n z) ∧ NK U)) (va_Qv (fun u : Unit => True) (fun u t => va_P (dC, dI) vwCl (Wd cy a sh n z8) t.heap ∧ va_K (dC, dI) vwCl (TYS cy) t ∧ va_D (va_A (Wd cy a sh n z) sz) (Wd cy a sh n z8)) (va_A (Wd cy a sh n z) sz)) 0 0 (va_A (Wd cy a sh n z) sz) := by
  refine Met.ofW (cc := cX4_gather) (maxL := 6) (ret := none) (by decide) rfl ?_
  intro p e s m args below meth c s₁ B hml hv
  obtain ⟨rfl, hsz, hP, hK, hD0, hN⟩ := hv
  have hx := B.exec
  have hb := B.bytes
  have hr := B.returns
  have hts := atoms_spec (ws := wsX4_gather) B.pre
  have hown : s.vm.findClass RX4 = some m.cls := findClass_of_methodNamed B.named
  have hlocks := B.notSynchronized
  subst hsz
  have hD := hD0.self (sz := s.heap.size)
  clear hD0
  generalize hAe : va_A (Wd cy a sh n z) s.heap.size = A at hD ⊢
  have hA : ∀ q : Nat, s.heap.size ≤ q → A q := fun q h => by rw [← hAe]; exact Or.inr h
  clear hAe
  have hS : va_S A s.heap s.heap [] := va_S.rf
  have hl := lv_entry ([.ref (a h0), .int x0, .int x1]) (n := 6) (Nat.le_of_ble_eq_true rfl)
  rw [lg_entry_eq]
  generalize (lg_sl ([.ref (a h0), .int x0, .int x1]) ++ List.replicate (6 - (lg_sl ([.ref (a h0), .int x0, .int x1])).length) Slot.unset).toArray = ls at hl ⊢
  replace hl : lv_has ls 6 [(0, .ref (a h0)), (1, .int x0), (2, .int x1)] := hl
  unfold fn_X4_gather at hf
  refine de_start hS hP (fun H locs hS hP => ?_)
  refine lv_aload_n hx hb dX4_gather_0 rfl (lv_at hl 0 rfl) ?_
  obtain ⟨g_1, hf⟩ := grd_some hf
  obtain ⟨kg_1, sg_1⟩ := okO_at g_1
  obtain ⟨k_2, ek_2, hf⟩ := lnk_some hf
  refine va_get (D := (dC, dI)) (ci := 4) (v := .ref (a k_2)) (C := RX4) (T := TX4) (N := 18) hx hb hts iwd_X4_gather_X4 hown hK hP h0 (Wd_ob kg_1 sg_1 (by decide)) rfl 9 (by decide) (hts _ md_X4_gather_1) (fun _ h9 => h9) (fl_q rfl ek_2) dX4_gather_1 ?_
  refine lv_aload_n hx hb dX4_gather_4 rfl (lv_at hl 0 rfl) ?_
  refine va_get (D := (dC, dI)) (ci := 4) (v := .int (z.1 h0 12)) (C := RX4) (T := TX4) (N := 18) hx hb hts iwd_X4_gather_X4 hown hK hP h0 (Wd_ob kg_1 sg_1 (by decide)) rfl 12 (by decide) (hts _ md_X4_gather_2) (fun _ h9 => h9) (fl_at (t := 0) rfl) dX4_gather_5 ?_
  obtain ⟨g_3, hf⟩ := grd_some hf
  obtain ⟨kg_3, sg_3, ig_3⟩ := okA_at g_3
  refine va_iald hx hb hK hP k_2 1 (Wd_ai kg_3 sg_3) rfl ig_3 dX4_gather_8 ?_
  refine lv_iload_n hx hb dX4_gather_9 rfl (lv_at hl 2 rfl) ?_
  refine lv_isub hx hb dX4_gather_10 ?_
  refine lv_topi (fun v_4 ev_4 => ?_)
  replace hf := lt_at ev_4 hf
  clear ev_4
  refine lv_istore_n (lv' := [(3, .int v_4), (0, .ref (a h0)), (1, .int x0), (2, .int x1)]) hx hb dX4_gather_11 rfl hl (by decide) rfl (fun ls hl2 => ?_)
  replace hl := hl2
  clear hl2
  refine lv_iload_n hx hb dX4_gather_12 rfl (lv_at hl 0 rfl) ?_
  refine lv_if_ge (tgt := 30) hx hb dX4_gather_13 (by decide) (fun c_5 => ?_) (fun c_5 => ?_)
  · skip
    rw [if_pos c_5] at hf
    refine lv_aload_n hx hb dX4_gather_30 rfl (lv_at hl 1 rfl) ?_
    obtain ⟨k_6, ek_6, hf⟩ := lnk_some hf
    refine va_get (D := (dC, dI)) (ci := 4) (v := .ref (a k_6)) (C := RX4) (T := TX4) (N := 18) hx hb hts iwd_X4_gather_X4 hown hK hP h0 (Wd_ob kg_1 sg_1 (by decide)) rfl 1 (by decide) (hts _ md_X4_gather_3) (fun _ h9 => h9) (fl_q rfl ek_6) dX4_gather_31 ?_
    refine lv_iload_n hx hb dX4_gather_34 rfl (lv_at hl 2 rfl) ?_
    refine lv_lconst (v := 0) hx hb dX4_gather_35 (by decide) ?_
    refine lv_lconst (v := 0) hx hb dX4_gather_36 (by decide) ?_
    obtain ⟨g_9, hf⟩ := grd_some hf
    obtain ⟨kg_9, sg_9⟩ := okO_at g_9
    obtain ⟨z_7, r_8, hfc, hf⟩ := cal_some hf
    have hFc := de_free hD hS hA
    refine va_calli (va_runV (As := [.int x0, .long 0, .long 0]) (rest := []) ⟨hx, hb, hml, hown, hts⟩ (de_X1_make l dC dI cy a sh n H.size F z k_6 x0 0 0 hfc) (cwV 3 hts gX4_gather_X1_make rfl rfl rfl (by decide +kernel) ⟨Nat.le_of_ble_eq_true rfl, Nat.le_of_ble_eq_true rfl⟩) ⟨fun a U g mk q => by obtain ⟨q0, q1, qP, qK, qD, qN⟩ := q; exact ⟨q0, q1, qP, va_K.moved (u := U) (U := U.calling g mk a) (Vm.Alike.refl U.vm) qK, qD, qN.same rfl⟩, va_recv hK hP (ci := 1) (q0 := k_6) rfl (Wd_ob kg_9 sg_9 (by decide)), fun U hU hW => ⟨rfl, by rw [hU], by rw [hU]; exact hP, va_K.moved hW.alike hK, hD.weaken (fun _ _ _ _ => trivial), hN.warm hW⟩⟩ rfl rfl hl.1 rfl (lv_room (Nat.le_of_ble_eq_true rfl)) dX4_gather_37 ⟨Nat.le_of_ble_eq_true rfl, Nat.le_of_ble_eq_true rfl⟩) hS (fun q _ h => hFc q h) hFc (fun rr u t H_10 locs ht hvm hw hB hz1 hk1 hS2 => ?_)
    rw [hw]
    clear hw
    obtain ⟨hP1, -, hD1⟩ := hB
    rw [ht] at hP1
    replace hD := hD1.weaken (fun _ _ _ h => hFc _ h)
    replace hP := hP1
    replace hS := hS2
    clear hP1 hD1 hS2 hFc hfc hz1 hk1 hvm ht
    refine lv_istore (lv' := [(4, .int r_8), (3, .int v_4), (0, .ref (a h0)), (1, .int x0), (2, .int x1)]) hx hb dX4_gather_40 hl (by decide) rfl (fun ls hl2 => ?_)
    replace hl := hl2
    clear hl2
    refine lv_iload_n hx hb dX4_gather_42 rfl (lv_at hl 1 rfl) ?_
    refine lv_istore (lv' := [(5, .int v_4), (4, .int r_8), (3, .int v_4), (0, .ref (a h0)), (1, .int x0), (2, .int x1)]) hx hb dX4_gather_43 hl (by decide) rfl (fun ls hl2 => ?_)
    replace hl := hl2
    clear hl2
    have hl0 : lv_has ls 6 [(5, .int v_4), (4, .int r_8), (3, .int v_4), (0, .ref (a h0)), (2, .int x1)] := lv_sub hl [0, 1, 2, 3, 5] rfl
    refine de_loop (h := 45) (fun (x : St × Int32) ls H locs => lv_has ls 6 [(5, .int x.2), (4, .int r_8), (3, .int v_4), (0, .ref (a h0)), (2, .int x1)] ∧ va_P (dC, dI) vwCl (Wd cy a sh n x.1) H ∧ va_D A (Wd cy a sh n x.1) ∧ va_S A s.heap H locs) (fun f x => fn_X4_gather_L45 F sh n v_4 x1 h0 r_8 f x.1 x.2) (z8, r8) ?_ (fun _ => rfl) F (z_7, v_4) ls H_10 locs ⟨hl0, hP, hD, hS⟩ hf
    intro f_13 x ls H locs ih45 hI hf
    obtain ⟨z_12, p_11⟩ := x
    obtain ⟨hl2, hP2, hD2, hS2⟩ := hI
    replace hl : lv_has ls 6 [(5, .int p_11), (4, .int r_8), (3, .int v_4), (0, .ref (a h0)), (2, .int x1)] := hl2
    replace hP := hP2
    replace hD := hD2
    replace hS := hS2
    clear hl2 hP2 hD2 hS2 hl0
    replace hf := fn_X4_gather_L45_s hf
    refine lv_iload hx hb dX4_gather_45 (lv_at hl 0 rfl) ?_
    refine lv_iload_n hx hb dX4_gather_47 rfl (lv_at hl 2 rfl) ?_
    refine lv_iload_n hx hb dX4_gather_48 rfl (lv_at hl 4 rfl) ?_
    refine lv_iadd hx hb dX4_gather_49 ?_
    refine lv_icmp_ge (tgt := 83) hx hb dX4_gather_50 (by decide) (fun c_14 => ?_) (fun c_14 => ?_)
    · skip
      rw [if_pos c_14] at hf
      refine lv_aload_n hx hb dX4_gather_83 rfl (lv_at hl 3 rfl) ?_
      obtain ⟨k_15, ek_15, hf⟩ := lnk_some hf
      refine va_get (D := (dC, dI)) (ci := 4) (v := .ref (a k_15)) (C := RX4) (T := TX4) (N := 18) hx hb hts iwd_X4_gather_X4 hown hK hP h0 (Wd_ob kg_1 sg_1 (by decide)) rfl 9 (by decide) (hts _ md_X4_gather_1) (fun _ h9 => h9) (fl_q rfl ek_15) dX4_gather_84 ?_
      refine lv_aload_n hx hb dX4_gather_87 rfl (lv_at hl 3 rfl) ?_
      refine va_get (D := (dC, dI)) (ci := 4) (v := .int (z_12.1 h0 12)) (C := RX4) (T := TX4) (N := 18) hx hb hts iwd_X4_gather_X4 hown hK hP h0 (Wd_ob kg_1 sg_1 (by decide)) rfl 12 (by decide) (hts _ md_X4_gather_2) (fun _ h9 => h9) (fl_at (t := 0) rfl) dX4_gather_88 ?_
      refine lv_iload_n hx hb dX4_gather_91 rfl (lv_at hl 2 rfl) ?_
      obtain ⟨g_16, hf⟩ := grd_some hf
      obtain ⟨kg_16, sg_16, ig_16⟩ := okA_at g_16
      refine va_iast hx hb hK hP hD hS k_15 1 (Wd_ai kg_16 sg_16) rfl ig_16 dX4_gather_92 (fun H_17 locs hP2 hD2 hS2 => ?_)
      rw [Wd_ti sg_16] at hP2 hD2
      obtain ⟨z_18, ez_18⟩ : ∃ w, w = si z_12 k_15 (z_12.1 h0 12).toNatClampNeg v_4 := ⟨_, rfl⟩
      rw [← ez_18] at hP2 hD2
      replace hf := lt_at ez_18 hf
      clear ez_18
      replace hP := hP2
      replace hD := hD2
      replace hS := hS2
      clear hP2 hD2 hS2
      refine lv_aload_n hx hb dX4_gather_93 rfl (lv_at hl 3 rfl) ?_
      refine lv_iload hx hb dX4_gather_94 (lv_at hl 1 rfl) ?_
      obtain ⟨z_19, _u, hfc, hf⟩ := cal_some hf
      have hFc := de_free hD hS hA
      refine va_callv (va_runV (As := [.int r_8]) (rest := []) ⟨hx, hb, hml, hown, hts⟩ (de_X4_push l dC dI cy a sh n H_17.size F z_18 h0 r_8 hfc) (cwV 1 hts gX4_gather_X4_push rfl rfl rfl (by decide +kernel) ⟨Nat.le_of_ble_eq_true rfl, Nat.le_of_ble_eq_true rfl⟩) ⟨fun a U g mk q => by obtain ⟨q0, q1, qP, qK, qD, qN⟩ := q; exact ⟨q0, q1, qP, va_K.moved (u := U) (U := U.calling g mk a) (Vm.Alike.refl U.vm) qK, qD, qN.same rfl⟩, va_recv hK hP (ci := 4) (q0 := h0) rfl (Wd_ob kg_1 sg_1 (by decide)), fun U hU hW => ⟨rfl, by rw [hU], by rw [hU]; exact hP, va_K.moved hW.alike hK, hD.weaken (fun _ _ _ _ => trivial), hN.warm hW⟩⟩ rfl rfl hl.1 rfl (lv_room (Nat.le_of_ble_eq_true rfl)) dX4_gather_96 ⟨Nat.le_of_ble_eq_true rfl, Nat.le_of_ble_eq_true rfl⟩) hS (fun q _ h => hFc q h) hFc (fun u t H_20 locs ht hvm hw hB hz1 hk1 hS2 => ?_)
      obtain ⟨hP1, -, hD1⟩ := hB
      rw [ht] at hP1
      replace hD := hD1.weaken (fun _ _ _ h => hFc _ h)
      replace hP := hP1
      replace hS := hS2
      clear hP1 hD1 hS2 hFc hfc hz1 hk1 hvm ht
      obtain ⟨h8, h9⟩ := ret_some hf
      rw [h8]
      exact W.vret hx hb hr (fun t ht hW => ⟨⟨(), rfl, trivial, by rw [ht]; exact hP, va_K.moved hW.alike hK, hD⟩, hS.F ht⟩) hS.2.2 dX4_gather_99
    · skip
      rw [if_neg c_14] at hf
      refine lv_aload_n hx hb dX4_gather_53 rfl (lv_at hl 3 rfl) ?_
      obtain ⟨k_21, ek_21, hf⟩ := lnk_some hf
      refine va_get (D := (dC, dI)) (ci := 4) (v := .ref (a k_21)) (C := RX4) (T := TX4) (N := 18) hx hb hts iwd_X4_gather_X4 hown hK hP h0 (Wd_ob kg_1 sg_1 (by decide)) rfl 1 (by decide) (hts _ md_X4_gather_3) (fun _ h9 => h9) (fl_q rfl ek_21) dX4_gather_54 ?_
      refine lv_iload hx hb dX4_gather_57 (lv_at hl 1 rfl) ?_
      refine lv_aload_n hx hb dX4_gather_59 rfl (lv_at hl 3 rfl) ?_
      obtain ⟨k_22, ek_22, hf⟩ := lnk_some hf
      refine va_get (D := (dC, dI)) (ci := 4) (v := .ref (a k_22)) (C := RX4) (T := TX4) (N := 18) hx hb hts iwd_X4_gather_X4 hown hK hP h0 (Wd_ob kg_1 sg_1 (by decide)) rfl 11 (by decide) (hts _ md_X4_gather_5) (fun _ h9 => h9) (fl_q rfl ek_22) dX4_gather_60 ?_
      refine lv_aload_n hx hb dX4_gather_63 rfl (lv_at hl 3 rfl) ?_
      refine va_get (D := (dC, dI)) (ci := 4) (v := .int (z_12.1 h0 12)) (C := RX4) (T := TX4) (N := 18) hx hb hts iwd_X4_gather_X4 hown hK hP h0 (Wd_ob kg_1 sg_1 (by decide)) rfl 12 (by decide) (hts _ md_X4_gather_2) (fun _ h9 => h9) (fl_at (t := 0) rfl) dX4_gather_64 ?_
      refine lv_bipush (v := 64) hx hb dX4_gather_67 (by decide) ?_
      refine lv_imul hx hb dX4_gather_69 ?_
      refine lv_iload hx hb dX4_gather_70 (lv_at hl 0 rfl) ?_
      refine lv_iadd hx hb dX4_gather_72 ?_
      obtain ⟨g_23, hf⟩ := grd_some hf
      obtain ⟨kg_23, sg_23, ig_23⟩ := okA_at g_23
      refine va_iald hx hb hK hP k_22 1 (Wd_ai kg_23 sg_23) rfl ig_23 dX4_gather_73 ?_
      obtain ⟨g_25, hf⟩ := grd_some hf
      obtain ⟨kg_25, sg_25⟩ := okO_at g_25
      obtain ⟨z_24, _u, hfc, hf⟩ := cal_some hf
      have hFc := de_free hD hS hA
      refine va_callv (va_runV (As := [.int r_8, .int (z_12.1 k_22 (((z_12.1 h0 12) * 64) + p_11).toNatClampNeg)]) (rest := []) ⟨hx, hb, hml, hown, hts⟩ (de_X1_prepend l dC dI cy a sh n H.size F z_12 k_21 r_8 (z_12.1 k_22 (((z_12.1 h0 12) * 64) + p_11).toNatClampNeg) hfc) (cwV 2 hts gX4_gather_X1_prepend rfl rfl rfl (by decide +kernel) ⟨Nat.le_of_ble_eq_true rfl, Nat.le_of_ble_eq_true rfl⟩) ⟨fun a U g mk q => by obtain ⟨q0, q1, qP, qK, qD, qN⟩ := q; exact ⟨q0, q1, qP, va_K.moved (u := U) (U := U.calling g mk a) (Vm.Alike.refl U.vm) qK, qD, qN.same rfl⟩, va_recv hK hP (ci := 1) (q0 := k_21) rfl (Wd_ob kg_25 sg_25 (by decide)), fun U hU hW => ⟨rfl, by rw [hU], by rw [hU]; exact hP, va_K.moved hW.alike hK, hD.weaken (fun _ _ _ _ => trivial), hN.warm hW⟩⟩ rfl rfl hl.1 rfl (lv_room (Nat.le_of_ble_eq_true rfl)) dX4_gather_74 ⟨Nat.le_of_ble_eq_true rfl, Nat.le_of_ble_eq_true rfl⟩) hS (fun q _ h => hFc q h) hFc (fun u t H_26 locs ht hvm hw hB hz1 hk1 hS2 => ?_)
      obtain ⟨hP1, -, hD1⟩ := hB
      rw [ht] at hP1
      replace hD := hD1.weaken (fun _ _ _ h => hFc _ h)
      replace hP := hP1
      replace hS := hS2
      clear hP1 hD1 hS2 hFc hfc hz1 hk1 hvm ht
      refine lv_iinc (v := (p_11 + 1)) (lv' := [(5, .int (p_11 + 1)), (4, .int r_8), (3, .int v_4), (0, .ref (a h0)), (2, .int x1)]) hx hb dX4_gather_77 hl (k := 0) rfl rfl (by decide) rfl (fun ls hl2 => ?_)
      replace hl := hl2
      clear hl2
      refine lv_goto (tgt := 45) hx hb dX4_gather_80 (by decide) ?_
      exact ih45 (z_24, (p_11 + 1)) ls H_26 locs ⟨lv_sub hl [0, 1, 2, 3, 4] rfl, hP, hD, hS⟩ hf
  · skip
    rw [if_neg c_5] at hf
    refine lv_aload_n hx hb dX4_gather_16 rfl (lv_at hl 1 rfl) ?_
    obtain ⟨k_27, ek_27, hf⟩ := lnk_some hf
    refine va_get (D := (dC, dI)) (ci := 4) (v := .ref (a k_27)) (C := RX4) (T := TX4) (N := 18) hx hb hts iwd_X4_gather_X4 hown hK hP h0 (Wd_ob kg_1 sg_1 (by decide)) rfl 1 (by decide) (hts _ md_X4_gather_3) (fun _ h9 => h9) (fl_q rfl ek_27) dX4_gather_17 ?_
    refine lv_dup hx hb dX4_gather_20 rfl ?_
    obtain ⟨g_28, hf⟩ := grd_some hf
    obtain ⟨kg_28, sg_28⟩ := okO_at g_28
    refine va_get (D := (dC, dI)) (ci := 1) (v := .int (z.1 k_27 6)) (C := RX1) (T := TX1) (N := 7) hx hb hts iwd_X4_gather_X1 hown hK hP k_27 (Wd_ob kg_28 sg_28 (by decide)) rfl 6 (by decide) (hts _ md_X4_gather_4) (fun _ h9 => h9) (fl_at (t := 0) rfl) dX4_gather_21 ?_
    refine lv_iconst (v := 1) hx hb dX4_gather_24 (by decide) ?_
    refine lv_iadd hx hb dX4_gather_25 ?_
    refine va_put (D := (dC, dI)) (ci := 1) (v := .int ((z.1 k_27 6) + 1)) (ty := .int) (C := RX1) (T := TX1) (N := 7) hx hb hts iwd_X4_gather_X1 tyX1 tyX1_ok nmX1 hown hK hP hD hS k_27 (Wd_ob kg_28 sg_28 (by decide)) rfl 6 (by decide) (hts _ md_X4_gather_4) (fun _ h9 => h9) rfl (by decide +kernel) rfl rfl (by rw [fl_len]; decide) dX4_gather_26 (fun H_29 locs hP2 hD2 hS2 => ?_)
    rw [Wd_si sg_28 (by decide) rfl] at hP2 hD2
    obtain ⟨z_30, ez_30⟩ : ∃ w, w = si z k_27 6 ((z.1 k_27 6) + 1) := ⟨_, rfl⟩
    rw [← ez_30] at hP2 hD2
    replace hf := lt_at ez_30 hf
    clear ez_30
    replace hP := hP2
    replace hD := hD2
    replace hS := hS2
    clear hP2 hD2 hS2
    obtain ⟨h8, h9⟩ := ret_some hf
    rw [h8]
    exact W.vret hx hb hr (fun t ht hW => ⟨⟨(), rfl, trivial, by rw [ht]; exact hP, va_K.moved hW.alike hK, hD⟩, hS.F ht⟩) hS.2.2 dX4_gather_29

theorem md_X1_detach_1 : (.fieldLink RX1 11 "ResourceLedger$Heap" "kind" "[B" : Cond) ∈ wsX1_detach := List.mem_of_getElem? (i := 1) rfl
theorem iwd_X1_detach_X1 : ∀ w ∈ wsX10, w ∈ wsX1_detach := fun _ h => List.mem_cons_of_mem _ (List.mem_append_right _ h)
theorem md_X1_detach_4 : (.fieldLink RX1 30 "ResourceLedger$Heap" "slips" "I" : Cond) ∈ wsX1_detach := List.mem_of_getElem? (i := 4) rfl
theorem md_X1_detach_2 : (.fieldLink RX1 19 "ResourceLedger$Heap" "high" "[J" : Cond) ∈ wsX1_detach := List.mem_of_getElem? (i := 2) rfl
theorem md_X1_detach_3 : (.fieldLink RX1 15 "ResourceLedger$Heap" "low" "[J" : Cond) ∈ wsX1_detach := List.mem_of_getElem? (i := 3) rfl
theorem md_X1_detach_5 : (.fieldLink RX1 22 "ResourceLedger$Heap" "next" "[I" : Cond) ∈ wsX1_detach := List.mem_of_getElem? (i := 5) rfl
set_option maxHeartbeats 4000000 in
set_option maxRecDepth 100000 in
theorem de_X1_detach (l : Launch) (dC : Nat → ClassId) (dI : Nat → Nat → Nat) (cy : Nat → ClassId) (a : Nat → Nat) (sh : Nat → Nat × Nat) (n sz : Nat) (F : Nat) (z : St) (h0 : Nat) (x0 : Int32) {z8 : St} {r8 : Int32} (hf : fn_X1_detach F sh n z h0 x0 = some (z8, r8)) : Met l yX1_detach wsX1_detach ({ frames := 1, cells := 0, slots := 0, locals := 20 }) (va_Pc [.ref (a h0), .int x0] (fun U => U.heap.size = sz ∧ va_P (dC, dI) vwCl (Wd cy a sh n z) U.heap ∧ va_K (dC, dI) vwCl (TYS cy) U ∧ va_D (fun _ => True) (Wd cy a sh n z) ∧ NK U)) (va_Qi (fun (r9 : Int32) (u : Unit) => r9 = r8) (fun u t => va_P (dC, dI) vwCl (Wd cy a sh n z8) t.heap ∧ va_K (dC, dI) vwCl (TYS cy) t ∧ va_D (va_A (Wd cy a sh n z) sz) (Wd cy a sh n z8)) (va_A (Wd cy a sh n z) sz)) 0 0 (va_A (Wd cy a sh n z) sz) := by
  refine Met.ofW (cc := cX1_detach) (maxL := 3) (ret := (some .int)) (by decide) rfl ?_
  intro p e s m args below meth c s₁ B hml hv
  obtain ⟨rfl, hsz, hP, hK, hD0, hN⟩ := hv
  have hx := B.exec
  have hb := B.bytes
  have hr := B.returns
  have hts := atoms_spec (ws := wsX1_detach) B.pre
  have hown : s.vm.findClass RX1 = some m.cls := findClass_of_methodNamed B.named
  have hlocks := B.notSynchronized
  subst hsz
  have hD := hD0.self (sz := s.heap.size)
  clear hD0
  generalize hAe : va_A (Wd cy a sh n z) s.heap.size = A at hD ⊢
  have hA : ∀ q : Nat, s.heap.size ≤ q → A q := fun q h => by rw [← hAe]; exact Or.inr h
  clear hAe
  have hS : va_S A s.heap s.heap [] := va_S.rf
  have hl := lv_entry ([.ref (a h0), .int x0]) (n := 3) (Nat.le_of_ble_eq_true rfl)
  rw [lg_entry_eq]
  generalize (lg_sl ([.ref (a h0), .int x0]) ++ List.replicate (3 - (lg_sl ([.ref (a h0), .int x0])).length) Slot.unset).toArray = ls at hl ⊢
  replace hl : lv_has ls 3 [(0, .ref (a h0)), (1, .int x0)] := hl
  unfold fn_X1_detach at hf
  refine de_start hS hP (fun H locs hS hP => ?_)
  refine lv_aload_n hx hb dX1_detach_0 rfl (lv_at hl 0 rfl) ?_
  obtain ⟨g_1, hf⟩ := grd_some hf
  obtain ⟨kg_1, sg_1⟩ := okO_at g_1
  obtain ⟨k_2, ek_2, hf⟩ := lnk_some hf
  refine va_get (D := (dC, dI)) (ci := 1) (v := .ref (a k_2)) (C := RX1) (T := TX1) (N := 7) hx hb hts iwd_X1_detach_X1 hown hK hP h0 (Wd_ob kg_1 sg_1 (by decide)) rfl 0 (by decide) (hts _ md_X1_detach_1) (fun _ h9 => h9) (fl_q rfl ek_2) dX1_detach_1 ?_
  refine lv_iload_n hx hb dX1_detach_4 rfl (lv_at hl 1 rfl) ?_
  obtain ⟨g_3, hf⟩ := grd_some hf
  obtain ⟨kg_3, sg_3, ig_3⟩ := okA_at g_3
  refine va_bald hx hb hK hP k_2 0 (Wd_ab kg_3 sg_3) rfl ig_3 dX1_detach_5 ?_
  obtain ⟨z_4, r_5, hfc, hf⟩ := cal_some hf
  have hFc := de_free hD hS hA
  refine va_calli (va_runS (As := [.int (z.1 k_2 x0.toNatClampNeg)]) (rest := []) ⟨hx, hb, hml, hown, hts⟩ (de_X1_holdsOthers l dC dI cy a sh n H.size F z (z.1 k_2 x0.toNatClampNeg) hfc) (va_cwS 1 hts gX1_detach_X1_holdsOthers rfl rfl rfl (by decide +kernel) ⟨Nat.le_of_ble_eq_true rfl, Nat.le_of_ble_eq_true rfl⟩) ⟨fun a U g mk q => by obtain ⟨q0, q1, qP, qK, qD, qN⟩ := q; exact ⟨q0, q1, qP, va_K.moved (u := U) (U := U.calling g mk a) (Vm.Alike.refl U.vm) qK, qD, qN.same rfl⟩, fun U hU hW => ⟨rfl, by rw [hU], by rw [hU]; exact hP, va_K.moved hW.alike hK, hD.weaken (fun _ _ _ _ => trivial), hN.warm hW⟩⟩ rfl rfl hl.1 rfl (lv_room (Nat.le_of_ble_eq_true rfl)) dX1_detach_6 ⟨Nat.le_of_ble_eq_true rfl, Nat.le_of_ble_eq_true rfl⟩) hS (fun q _ h => hFc q h) hFc (fun rr u t H_6 locs ht hvm hw hB hz1 hk1 hS2 => ?_)
  rw [hw]
  clear hw
  obtain ⟨hP1, -, hD1⟩ := hB
  rw [ht] at hP1
  replace hD := hD1.weaken (fun _ _ _ h => hFc _ h)
  replace hP := hP1
  replace hS := hS2
  clear hP1 hD1 hS2 hFc hfc hz1 hk1 hvm ht
  refine de_cut (h := 34) (fun (x : St) => []) (fun x ls H locs => lv_has ls 3 [(0, .ref (a h0))] ∧ va_P (dC, dI) vwCl (Wd cy a sh n x) H ∧ va_D A (Wd cy a sh n x) ∧ va_S A s.heap H locs) (fun x => fn_X1_detach_B34 F sh n h0 x) (z8, r8) ?_ (fun B34 => ?_)
  · intro x ls H locs hI hf
    obtain ⟨z_7, ez⟩ : ∃ w, w = x := ⟨_, rfl⟩
    subst ez
    obtain ⟨hl2, hP2, hD2, hS2⟩ := hI
    replace hl : lv_has ls 3 [(0, .ref (a h0))] := hl2
    replace hP := hP2
    replace hD := hD2
    replace hS := hS2
    clear hl2 hP2 hD2 hS2
    replace hf := fn_X1_detach_B34_s hf
    refine W.eq (g2 := F0 m 34 ls []) rfl ?_
    refine lv_aload_n hx hb dX1_detach_34 rfl (lv_at hl 0 rfl) ?_
    refine lv_dup hx hb dX1_detach_35 rfl ?_
    refine va_get (D := (dC, dI)) (ci := 1) (v := .int (z_7.1 h0 6)) (C := RX1) (T := TX1) (N := 7) hx hb hts iwd_X1_detach_X1 hown hK hP h0 (Wd_ob kg_1 sg_1 (by decide)) rfl 6 (by decide) (hts _ md_X1_detach_4) (fun _ h9 => h9) (fl_at (t := 0) rfl) dX1_detach_36 ?_
    refine lv_iconst (v := 1) hx hb dX1_detach_39 (by decide) ?_
    refine lv_iadd hx hb dX1_detach_40 ?_
    refine va_put (D := (dC, dI)) (ci := 1) (v := .int ((z_7.1 h0 6) + 1)) (ty := .int) (C := RX1) (T := TX1) (N := 7) hx hb hts iwd_X1_detach_X1 tyX1 tyX1_ok nmX1 hown hK hP hD hS h0 (Wd_ob kg_1 sg_1 (by decide)) rfl 6 (by decide) (hts _ md_X1_detach_4) (fun _ h9 => h9) rfl (by decide +kernel) rfl rfl (by rw [fl_len]; decide) dX1_detach_41 (fun H_8 locs hP2 hD2 hS2 => ?_)
    rw [Wd_si sg_1 (by decide) rfl] at hP2 hD2
    obtain ⟨z_9, ez_9⟩ : ∃ w, w = si z_7 h0 6 ((z_7.1 h0 6) + 1) := ⟨_, rfl⟩
    rw [← ez_9] at hP2 hD2
    replace hf := lt_at ez_9 hf
    clear ez_9
    replace hP := hP2
    replace hD := hD2
    replace hS := hS2
    clear hP2 hD2 hS2
    refine lv_iconst (v := 0) hx hb dX1_detach_44 (by decide) ?_
    obtain ⟨h8, h9⟩ := ret_some hf
    rw [h8, h9]
    exact W.iret (v := 0) hx hb hr (fun t ht hW => ⟨⟨0, (), rfl, rfl, by rw [ht]; exact hP, va_K.moved hW.alike hK, hD⟩, hS.F ht⟩) hS.2.2 dX1_detach_45
  refine lv_if_eq (tgt := 34) hx hb dX1_detach_9 (by decide) (fun c_10 => ?_) (fun c_10 => ?_)
  · skip
    rw [if_pos c_10] at hf
    exact B34 (z_4) ls H_6 locs ⟨lv_sub hl [0] rfl, hP, hD, hS⟩ hf
  · skip
    rw [if_neg c_10] at hf
    refine lv_aload_n hx hb dX1_detach_12 rfl (lv_at hl 0 rfl) ?_
    obtain ⟨k_11, ek_11, hf⟩ := lnk_some hf
    refine va_get (D := (dC, dI)) (ci := 1) (v := .ref (a k_11)) (C := RX1) (T := TX1) (N := 7) hx hb hts iwd_X1_detach_X1 hown hK hP h0 (Wd_ob kg_1 sg_1 (by decide)) rfl 2 (by decide) (hts _ md_X1_detach_2) (fun _ h9 => h9) (fl_q rfl ek_11) dX1_detach_13 ?_
    refine lv_iload_n hx hb dX1_detach_16 rfl (lv_at hl 1 rfl) ?_
    obtain ⟨g_12, hf⟩ := grd_some hf
    obtain ⟨kg_12, sg_12, ig_12⟩ := okA_at g_12
    refine va_lald hx hb hK hP k_11 2 (Wd_al kg_12 sg_12) rfl ig_12 dX1_detach_17 ?_
    refine lv_lconst (v := 0) hx hb dX1_detach_18 (by decide) ?_
    refine W.lcmp hx hb dX1_detach_19 ?_
    refine lv_if_le (tgt := 34) hx hb dX1_detach_20 (by decide) (fun c_13 => ?_) (fun c_13 => ?_)
    · skip
      rw [lg_cmp_le] at c_13
      rw [if_pos c_13] at hf
      exact B34 (z_4) ls H_6 locs ⟨lv_sub hl [0] rfl, hP, hD, hS⟩ hf
    · skip
      rw [lg_cmp_le] at c_13
      rw [if_neg c_13] at hf
      refine lv_aload_n hx hb dX1_detach_23 rfl (lv_at hl 0 rfl) ?_
      obtain ⟨k_14, ek_14, hf⟩ := lnk_some hf
      refine va_get (D := (dC, dI)) (ci := 1) (v := .ref (a k_14)) (C := RX1) (T := TX1) (N := 7) hx hb hts iwd_X1_detach_X1 hown hK hP h0 (Wd_ob kg_1 sg_1 (by decide)) rfl 1 (by decide) (hts _ md_X1_detach_3) (fun _ h9 => h9) (fl_q rfl ek_14) dX1_detach_24 ?_
      refine lv_iload_n hx hb dX1_detach_27 rfl (lv_at hl 1 rfl) ?_
      obtain ⟨g_15, hf⟩ := grd_some hf
      obtain ⟨kg_15, sg_15, ig_15⟩ := okA_at g_15
      refine va_lald hx hb hK hP k_14 2 (Wd_al kg_15 sg_15) rfl ig_15 dX1_detach_28 ?_
      refine lv_lconst (v := 0) hx hb dX1_detach_29 (by decide) ?_
      refine W.lcmp hx hb dX1_detach_30 ?_
      refine lv_if_ne (tgt := 46) hx hb dX1_detach_31 (by decide) (fun c_16 => ?_) (fun c_16 => ?_)
      · skip
        rw [lg_cmp_eq] at c_16
        rw [if_neg c_16] at hf
        refine lv_aload_n hx hb dX1_detach_46 rfl (lv_at hl 0 rfl) ?_
        obtain ⟨k_17, ek_17, hf⟩ := lnk_some hf
        refine va_get (D := (dC, dI)) (ci := 1) (v := .ref (a k_17)) (C := RX1) (T := TX1) (N := 7) hx hb hts iwd_X1_detach_X1 hown hK hP h0 (Wd_ob kg_1 sg_1 (by decide)) rfl 1 (by decide) (hts _ md_X1_detach_3) (fun _ h9 => h9) (fl_q rfl ek_17) dX1_detach_47 ?_
        refine lv_iload_n hx hb dX1_detach_50 rfl (lv_at hl 1 rfl) ?_
        obtain ⟨g_18, hf⟩ := grd_some hf
        obtain ⟨kg_18, sg_18, ig_18⟩ := okA_at g_18
        refine va_lald hx hb hK hP k_17 2 (Wd_al kg_18 sg_18) rfl ig_18 dX1_detach_51 ?_
        refine lv_l2i (v := ((z_4.2.1 k_17 x0.toNatClampNeg) : Int64).toInt32) hx hb dX1_detach_52 rfl ?_
        refine lv_topi (fun v_19 ev_19 => ?_)
        replace hf := lt_at ev_19 hf
        clear ev_19
        refine lv_istore_n (lv' := [(2, .int v_19), (0, .ref (a h0)), (1, .int x0)]) hx hb dX1_detach_53 rfl hl (by decide) rfl (fun ls hl2 => ?_)
        replace hl := hl2
        clear hl2
        refine lv_aload_n hx hb dX1_detach_54 rfl (lv_at hl 1 rfl) ?_
        obtain ⟨k_20, ek_20, hf⟩ := lnk_some hf
        refine va_get (D := (dC, dI)) (ci := 1) (v := .ref (a k_20)) (C := RX1) (T := TX1) (N := 7) hx hb hts iwd_X1_detach_X1 hown hK hP h0 (Wd_ob kg_1 sg_1 (by decide)) rfl 1 (by decide) (hts _ md_X1_detach_3) (fun _ h9 => h9) (fl_q rfl ek_20) dX1_detach_55 ?_
        refine lv_iload_n hx hb dX1_detach_58 rfl (lv_at hl 2 rfl) ?_
        refine lv_aload_n hx hb dX1_detach_59 rfl (lv_at hl 1 rfl) ?_
        obtain ⟨k_21, ek_21, hf⟩ := lnk_some hf
        refine va_get (D := (dC, dI)) (ci := 1) (v := .ref (a k_21)) (C := RX1) (T := TX1) (N := 7) hx hb hts iwd_X1_detach_X1 hown hK hP h0 (Wd_ob kg_1 sg_1 (by decide)) rfl 3 (by decide) (hts _ md_X1_detach_5) (fun _ h9 => h9) (fl_q rfl ek_21) dX1_detach_60 ?_
        refine lv_iload_n hx hb dX1_detach_63 rfl (lv_at hl 0 rfl) ?_
        obtain ⟨g_22, hf⟩ := grd_some hf
        obtain ⟨kg_22, sg_22, ig_22⟩ := okA_at g_22
        refine va_iald hx hb hK hP k_21 1 (Wd_ai kg_22 sg_22) rfl ig_22 dX1_detach_64 ?_
        refine lv_i2l (v := ((z_4.1 k_21 v_19.toNatClampNeg) : Int32).toInt64) hx hb dX1_detach_65 rfl ?_
        obtain ⟨g_23, hf⟩ := grd_some hf
        obtain ⟨kg_23, sg_23, ig_23⟩ := okA_at g_23
        refine va_last hx hb hK hP hD hS k_20 2 (Wd_al kg_23 sg_23) rfl ig_23 dX1_detach_66 (fun H_24 locs hP2 hD2 hS2 => ?_)
        rw [Wd_tl sg_23] at hP2 hD2
        obtain ⟨z_25, ez_25⟩ : ∃ w, w = sl z_4 k_20 x0.toNatClampNeg (((z_4.1 k_21 v_19.toNatClampNeg) : Int32).toInt64) := ⟨_, rfl⟩
        rw [← ez_25] at hP2 hD2
        replace hf := lt_at ez_25 hf
        clear ez_25
        replace hP := hP2
        replace hD := hD2
        replace hS := hS2
        clear hP2 hD2 hS2
        refine lv_aload_n hx hb dX1_detach_67 rfl (lv_at hl 1 rfl) ?_
        obtain ⟨k_26, ek_26, hf⟩ := lnk_some hf
        refine va_get (D := (dC, dI)) (ci := 1) (v := .ref (a k_26)) (C := RX1) (T := TX1) (N := 7) hx hb hts iwd_X1_detach_X1 hown hK hP h0 (Wd_ob kg_1 sg_1 (by decide)) rfl 2 (by decide) (hts _ md_X1_detach_2) (fun _ h9 => h9) (fl_q rfl ek_26) dX1_detach_68 ?_
        refine lv_iload_n hx hb dX1_detach_71 rfl (lv_at hl 2 rfl) ?_
        refine lv_dup2_11 hx hb dX1_detach_72 rfl rfl ?_
        obtain ⟨g_27, hf⟩ := grd_some hf
        obtain ⟨kg_27, sg_27, ig_27⟩ := okA_at g_27
        refine va_lald hx hb hK hP k_26 2 (Wd_al kg_27 sg_27) rfl ig_27 dX1_detach_73 ?_
        refine lv_lconst (v := 1) hx hb dX1_detach_74 (by decide) ?_
        refine lv_lsub hx hb dX1_detach_75 ?_
        obtain ⟨g_28, hf⟩ := grd_some hf
        obtain ⟨kg_28, sg_28, ig_28⟩ := okA_at g_28
        refine va_last hx hb hK hP hD hS k_26 2 (Wd_al kg_28 sg_28) rfl ig_28 dX1_detach_76 (fun H_29 locs hP2 hD2 hS2 => ?_)
        rw [Wd_tl sg_28] at hP2 hD2
        obtain ⟨z_30, ez_30⟩ : ∃ w, w = sl z_25 k_26 x0.toNatClampNeg ((z_25.2.1 k_26 x0.toNatClampNeg) - 1) := ⟨_, rfl⟩
        rw [← ez_30] at hP2 hD2
        replace hf := lt_at ez_30 hf
        clear ez_30
        replace hP := hP2
        replace hD := hD2
        replace hS := hS2
        clear hP2 hD2 hS2
        refine lv_aload_n hx hb dX1_detach_77 rfl (lv_at hl 1 rfl) ?_
        obtain ⟨k_31, ek_31, hf⟩ := lnk_some hf
        refine va_get (D := (dC, dI)) (ci := 1) (v := .ref (a k_31)) (C := RX1) (T := TX1) (N := 7) hx hb hts iwd_X1_detach_X1 hown hK hP h0 (Wd_ob kg_1 sg_1 (by decide)) rfl 3 (by decide) (hts _ md_X1_detach_5) (fun _ h9 => h9) (fl_q rfl ek_31) dX1_detach_78 ?_
        refine lv_iload_n hx hb dX1_detach_81 rfl (lv_at hl 0 rfl) ?_
        refine lv_iconst (v := 0) hx hb dX1_detach_82 (by decide) ?_
        obtain ⟨g_32, hf⟩ := grd_some hf
        obtain ⟨kg_32, sg_32, ig_32⟩ := okA_at g_32
        refine va_iast hx hb hK hP hD hS k_31 1 (Wd_ai kg_32 sg_32) rfl ig_32 dX1_detach_83 (fun H_33 locs hP2 hD2 hS2 => ?_)
        rw [Wd_ti sg_32] at hP2 hD2
        obtain ⟨z_34, ez_34⟩ : ∃ w, w = si z_30 k_31 v_19.toNatClampNeg 0 := ⟨_, rfl⟩
        rw [← ez_34] at hP2 hD2
        replace hf := lt_at ez_34 hf
        clear ez_34
        replace hP := hP2
        replace hD := hD2
        replace hS := hS2
        clear hP2 hD2 hS2
        refine lv_iload_n hx hb dX1_detach_84 rfl (lv_at hl 0 rfl) ?_
        obtain ⟨h8, h9⟩ := ret_some hf
        rw [h8, h9]
        exact W.iret (v := v_19) hx hb hr (fun t ht hW => ⟨⟨v_19, (), rfl, rfl, by rw [ht]; exact hP, va_K.moved hW.alike hK, hD⟩, hS.F ht⟩) hS.2.2 dX1_detach_85
      · skip
        rw [lg_cmp_eq] at c_16
        rw [if_pos c_16] at hf
        exact B34 (z_4) ls H_6 locs ⟨lv_sub hl [0] rfl, hP, hD, hS⟩ hf

theorem md_X3_arrive_1 : (.fieldLink RX3 28 "ResourceLedger$Looker" "target" "[Z" : Cond) ∈ wsX3_arrive := List.mem_of_getElem? (i := 1) rfl
theorem iwd_X3_arrive_X3 : ∀ w ∈ wsX30, w ∈ wsX3_arrive := fun _ h => List.mem_cons_of_mem _ (List.mem_append_right _ h)
theorem md_X3_arrive_2 : (.fieldLink RX3 64 "ResourceLedger$Looker" "at" "I" : Cond) ∈ wsX3_arrive := List.mem_of_getElem? (i := 2) rfl
theorem md_X3_arrive_5 : (.fieldLink RX3 95 "ResourceLedger$Looker" "depth" "I" : Cond) ∈ wsX3_arrive := List.mem_of_getElem? (i := 5) rfl
theorem md_X3_arrive_6 : (.fieldLink RX3 34 "ResourceLedger$Looker" "keptThere" "[J" : Cond) ∈ wsX3_arrive := List.mem_of_getElem? (i := 6) rfl
theorem md_X3_arrive_7 : (.fieldLink RX3 105 "ResourceLedger$Looker" "there" "J" : Cond) ∈ wsX3_arrive := List.mem_of_getElem? (i := 7) rfl
theorem md_X3_arrive_8 : (.fieldLink RX3 37 "ResourceLedger$Looker" "keptInside" "[J" : Cond) ∈ wsX3_arrive := List.mem_of_getElem? (i := 8) rfl
theorem md_X3_arrive_9 : (.fieldLink RX3 98 "ResourceLedger$Looker" "inside" "J" : Cond) ∈ wsX3_arrive := List.mem_of_getElem? (i := 9) rfl
theorem md_X3_arrive_10 : (.fieldLink RX3 41 "ResourceLedger$Looker" "keptOrigins" "[J" : Cond) ∈ wsX3_arrive := List.mem_of_getElem? (i := 10) rfl
theorem md_X3_arrive_11 : (.fieldLink RX3 25 "ResourceLedger$Looker" "localOrigins" "[J" : Cond) ∈ wsX3_arrive := List.mem_of_getElem? (i := 11) rfl
theorem md_X3_arrive_12 : (.methodLink RX3 134 arraycopyName : Cond) ∈ wsX3_arrive := List.mem_of_getElem? (i := 12) rfl
theorem md_X3_arrive_13 : (.native arraycopyName : Cond) ∈ wsX3_arrive := List.mem_of_getElem? (i := 13) rfl
theorem md_X3_arrive_14 : (.static arraycopyName : Cond) ∈ wsX3_arrive := List.mem_of_getElem? (i := 14) rfl
theorem md_X3_arrive_15 : (.initialized "java/lang/System" : Cond) ∈ wsX3_arrive := List.mem_of_getElem? (i := 15) rfl
theorem md_X3_arrive_4 : (.fieldLink RX3 124 "ResourceLedger$Looker" "flowing" "Z" : Cond) ∈ wsX3_arrive := List.mem_of_getElem? (i := 4) rfl
theorem md_X3_arrive_3 : (.fieldLink RX3 31 "ResourceLedger$Looker" "reached" "[Z" : Cond) ∈ wsX3_arrive := List.mem_of_getElem? (i := 3) rfl
set_option maxHeartbeats 4000000 in
set_option maxRecDepth 100000 in
theorem de_X3_arrive (l : Launch) (dC : Nat → ClassId) (dI : Nat → Nat → Nat) (cy : Nat → ClassId) (a : Nat → Nat) (sh : Nat → Nat × Nat) (n sz : Nat) (F : Nat) (z : St) (h0 : Nat) {z8 : St} {r8 : Unit} (hf : fn_X3_arrive F sh n z h0 = some (z8, r8)) : Met l yX3_arrive wsX3_arrive ({ frames := 1, cells := 0, slots := 0, locals := 40 }) (va_Pc [.ref (a h0)] (fun U => U.heap.size = sz ∧ va_P (dC, dI) vwCl (Wd cy a sh n z) U.heap ∧ va_K (dC, dI) vwCl (TYS cy) U ∧ va_D (fun _ => True) (Wd cy a sh n z) ∧ NK U)) (va_Qv (fun u : Unit => True) (fun u t => va_P (dC, dI) vwCl (Wd cy a sh n z8) t.heap ∧ va_K (dC, dI) vwCl (TYS cy) t ∧ va_D (va_A (Wd cy a sh n z) sz) (Wd cy a sh n z8)) (va_A (Wd cy a sh n z) sz)) 0 0 (va_A (Wd cy a sh n z) sz) := by
  refine Met.ofW (cc := cX3_arrive) (maxL := 1) (ret := none) (by decide) rfl ?_
  intro p e s m args below meth c s₁ B hml hv
  obtain ⟨rfl, hsz, hP, hK, hD0, hN⟩ := hv
  have hx := B.exec
  have hb := B.bytes
  have hr := B.returns
  have hts := atoms_spec (ws := wsX3_arrive) B.pre
  have hown : s.vm.findClass RX3 = some m.cls := findClass_of_methodNamed B.named
  have hlocks := B.notSynchronized
  subst hsz
  have hD := hD0.self (sz := s.heap.size)
  clear hD0
  generalize hAe : va_A (Wd cy a sh n z) s.heap.size = A at hD ⊢
  have hA : ∀ q : Nat, s.heap.size ≤ q → A q := fun q h => by rw [← hAe]; exact Or.inr h
  clear hAe
  have hS : va_S A s.heap s.heap [] := va_S.rf
  have hl := lv_entry ([.ref (a h0)]) (n := 1) (Nat.le_of_ble_eq_true rfl)
  rw [lg_entry_eq]
  generalize (lg_sl ([.ref (a h0)]) ++ List.replicate (1 - (lg_sl ([.ref (a h0)])).length) Slot.unset).toArray = ls at hl ⊢
  replace hl : lv_has ls 1 [(0, .ref (a h0))] := hl
  unfold fn_X3_arrive at hf
  refine de_start hS hP (fun H locs hS hP => ?_)
  refine lv_aload_n hx hb dX3_arrive_0 rfl (lv_at hl 0 rfl) ?_
  obtain ⟨g_1, hf⟩ := grd_some hf
  obtain ⟨kg_1, sg_1⟩ := okO_at g_1
  obtain ⟨k_2, ek_2, hf⟩ := lnk_some hf
  refine va_get (D := (dC, dI)) (ci := 3) (v := .ref (a k_2)) (C := RX3) (T := TX3) (N := 22) hx hb hts iwd_X3_arrive_X3 hown hK hP h0 (Wd_ob kg_1 sg_1 (by decide)) rfl 17 (by decide) (hts _ md_X3_arrive_1) (fun _ h9 => h9) (fl_q rfl ek_2) dX3_arrive_1 ?_
  refine lv_aload_n hx hb dX3_arrive_4 rfl (lv_at hl 0 rfl) ?_
  refine va_get (D := (dC, dI)) (ci := 3) (v := .int (z.1 h0 4)) (C := RX3) (T := TX3) (N := 22) hx hb hts iwd_X3_arrive_X3 hown hK hP h0 (Wd_ob kg_1 sg_1 (by decide)) rfl 4 (by decide) (hts _ md_X3_arrive_2) (fun _ h9 => h9) (fl_at (t := 0) rfl) dX3_arrive_5 ?_
  obtain ⟨g_3, hf⟩ := grd_some hf
  obtain ⟨kg_3, sg_3, ig_3⟩ := okA_at g_3
  refine va_zald hx hb hK hP k_2 3 (Wd_az kg_3 sg_3) rfl ig_3 dX3_arrive_8 ?_
  refine de_cut (h := 43) (fun (x : St) => []) (fun x ls H locs => lv_has ls 1 [(0, .ref (a h0))] ∧ va_P (dC, dI) vwCl (Wd cy a sh n x) H ∧ va_D A (Wd cy a sh n x) ∧ va_S A s.heap H locs) (fun x => fn_X3_arrive_B43 F sh n h0 x) (z8, r8) ?_ (fun B43 => ?_)
  · intro x ls H locs hI hf
    obtain ⟨z_4, ez⟩ : ∃ w, w = x := ⟨_, rfl⟩
    subst ez
    obtain ⟨hl2, hP2, hD2, hS2⟩ := hI
    replace hl : lv_has ls 1 [(0, .ref (a h0))] := hl2
    replace hP := hP2
    replace hD := hD2
    replace hS := hS2
    clear hl2 hP2 hD2 hS2
    replace hf := fn_X3_arrive_B43_s hf
    refine W.eq (g2 := F0 m 43 ls []) rfl ?_
    refine lv_aload_n hx hb dX3_arrive_43 rfl (lv_at hl 0 rfl) ?_
    obtain ⟨k_5, ek_5, hf⟩ := lnk_some hf
    refine va_get (D := (dC, dI)) (ci := 3) (v := .ref (a k_5)) (C := RX3) (T := TX3) (N := 22) hx hb hts iwd_X3_arrive_X3 hown hK hP h0 (Wd_ob kg_1 sg_1 (by decide)) rfl 17 (by decide) (hts _ md_X3_arrive_1) (fun _ h9 => h9) (fl_q rfl ek_5) dX3_arrive_44 ?_
    refine lv_aload_n hx hb dX3_arrive_47 rfl (lv_at hl 0 rfl) ?_
    refine va_get (D := (dC, dI)) (ci := 3) (v := .int (z_4.1 h0 4)) (C := RX3) (T := TX3) (N := 22) hx hb hts iwd_X3_arrive_X3 hown hK hP h0 (Wd_ob kg_1 sg_1 (by decide)) rfl 4 (by decide) (hts _ md_X3_arrive_2) (fun _ h9 => h9) (fl_at (t := 0) rfl) dX3_arrive_48 ?_
    obtain ⟨g_6, hf⟩ := grd_some hf
    obtain ⟨kg_6, sg_6, ig_6⟩ := okA_at g_6
    refine va_zald hx hb hK hP k_5 3 (Wd_az kg_6 sg_6) rfl ig_6 dX3_arrive_51 ?_
    refine lv_if_eq (tgt := 115) hx hb dX3_arrive_52 (by decide) (fun c_7 => ?_) (fun c_7 => ?_)
    · skip
      rw [if_pos c_7] at hf
      obtain ⟨h8, h9⟩ := ret_some hf
      rw [h8]
      exact W.vret hx hb hr (fun t ht hW => ⟨⟨(), rfl, trivial, by rw [ht]; exact hP, va_K.moved hW.alike hK, hD⟩, hS.F ht⟩) hS.2.2 dX3_arrive_115
    · skip
      rw [if_neg c_7] at hf
      refine lv_aload_n hx hb dX3_arrive_55 rfl (lv_at hl 0 rfl) ?_
      refine va_get (D := (dC, dI)) (ci := 3) (v := .int (z_4.1 h0 8)) (C := RX3) (T := TX3) (N := 22) hx hb hts iwd_X3_arrive_X3 hown hK hP h0 (Wd_ob kg_1 sg_1 (by decide)) rfl 8 (by decide) (hts _ md_X3_arrive_5) (fun _ h9 => h9) (fl_at (t := 0) rfl) dX3_arrive_56 ?_
      refine de_cut (h := 68) (fun (x : St) => []) (fun x ls H locs => lv_has ls 1 [(0, .ref (a h0))] ∧ va_P (dC, dI) vwCl (Wd cy a sh n x) H ∧ va_D A (Wd cy a sh n x) ∧ va_S A s.heap H locs) (fun x => fn_X3_arrive_B68 F sh n h0 x) (z8, r8) ?_ (fun B68 => ?_)
      · intro x ls H locs hI hf
        obtain ⟨z_8, ez⟩ : ∃ w, w = x := ⟨_, rfl⟩
        subst ez
        obtain ⟨hl2, hP2, hD2, hS2⟩ := hI
        replace hl : lv_has ls 1 [(0, .ref (a h0))] := hl2
        replace hP := hP2
        replace hD := hD2
        replace hS := hS2
        clear hl2 hP2 hD2 hS2
        replace hf := fn_X3_arrive_B68_s hf
        refine W.eq (g2 := F0 m 68 ls []) rfl ?_
        refine lv_aload_n hx hb dX3_arrive_68 rfl (lv_at hl 0 rfl) ?_
        refine lv_aload_n hx hb dX3_arrive_69 rfl (lv_at hl 0 rfl) ?_
        obtain ⟨k_9, ek_9, hf⟩ := lnk_some hf
        refine va_get (D := (dC, dI)) (ci := 3) (v := .ref (a k_9)) (C := RX3) (T := TX3) (N := 22) hx hb hts iwd_X3_arrive_X3 hown hK hP h0 (Wd_ob kg_1 sg_1 (by decide)) rfl 19 (by decide) (hts _ md_X3_arrive_6) (fun _ h9 => h9) (fl_q rfl ek_9) dX3_arrive_70 ?_
        refine lv_aload_n hx hb dX3_arrive_73 rfl (lv_at hl 0 rfl) ?_
        refine va_get (D := (dC, dI)) (ci := 3) (v := .int (z_8.1 h0 4)) (C := RX3) (T := TX3) (N := 22) hx hb hts iwd_X3_arrive_X3 hown hK hP h0 (Wd_ob kg_1 sg_1 (by decide)) rfl 4 (by decide) (hts _ md_X3_arrive_2) (fun _ h9 => h9) (fl_at (t := 0) rfl) dX3_arrive_74 ?_
        obtain ⟨g_10, hf⟩ := grd_some hf
        obtain ⟨kg_10, sg_10, ig_10⟩ := okA_at g_10
        refine va_lald hx hb hK hP k_9 2 (Wd_al kg_10 sg_10) rfl ig_10 dX3_arrive_77 ?_
        refine va_put (D := (dC, dI)) (ci := 3) (v := .long (z_8.2.1 k_9 (z_8.1 h0 4).toNatClampNeg)) (ty := .long) (C := RX3) (T := TX3) (N := 22) hx hb hts iwd_X3_arrive_X3 tyX3 tyX3_ok nmX3 hown hK hP hD hS h0 (Wd_ob kg_1 sg_1 (by decide)) rfl 12 (by decide) (hts _ md_X3_arrive_7) (fun _ h9 => h9) rfl (by decide +kernel) rfl rfl (by rw [fl_len]; decide) dX3_arrive_78 (fun H_11 locs hP2 hD2 hS2 => ?_)
        rw [Wd_sl sg_1 (by decide) rfl] at hP2 hD2
        obtain ⟨z_12, ez_12⟩ : ∃ w, w = sl z_8 h0 12 (z_8.2.1 k_9 (z_8.1 h0 4).toNatClampNeg) := ⟨_, rfl⟩
        rw [← ez_12] at hP2 hD2
        replace hf := lt_at ez_12 hf
        clear ez_12
        replace hP := hP2
        replace hD := hD2
        replace hS := hS2
        clear hP2 hD2 hS2
        refine lv_aload_n hx hb dX3_arrive_81 rfl (lv_at hl 0 rfl) ?_
        refine lv_aload_n hx hb dX3_arrive_82 rfl (lv_at hl 0 rfl) ?_
        obtain ⟨k_13, ek_13, hf⟩ := lnk_some hf
        refine va_get (D := (dC, dI)) (ci := 3) (v := .ref (a k_13)) (C := RX3) (T := TX3) (N := 22) hx hb hts iwd_X3_arrive_X3 hown hK hP h0 (Wd_ob kg_1 sg_1 (by decide)) rfl 20 (by decide) (hts _ md_X3_arrive_8) (fun _ h9 => h9) (fl_q rfl ek_13) dX3_arrive_83 ?_
        refine lv_aload_n hx hb dX3_arrive_86 rfl (lv_at hl 0 rfl) ?_
        refine va_get (D := (dC, dI)) (ci := 3) (v := .int (z_12.1 h0 4)) (C := RX3) (T := TX3) (N := 22) hx hb hts iwd_X3_arrive_X3 hown hK hP h0 (Wd_ob kg_1 sg_1 (by decide)) rfl 4 (by decide) (hts _ md_X3_arrive_2) (fun _ h9 => h9) (fl_at (t := 0) rfl) dX3_arrive_87 ?_
        obtain ⟨g_14, hf⟩ := grd_some hf
        obtain ⟨kg_14, sg_14, ig_14⟩ := okA_at g_14
        refine va_lald hx hb hK hP k_13 2 (Wd_al kg_14 sg_14) rfl ig_14 dX3_arrive_90 ?_
        refine va_put (D := (dC, dI)) (ci := 3) (v := .long (z_12.2.1 k_13 (z_12.1 h0 4).toNatClampNeg)) (ty := .long) (C := RX3) (T := TX3) (N := 22) hx hb hts iwd_X3_arrive_X3 tyX3 tyX3_ok nmX3 hown hK hP hD hS h0 (Wd_ob kg_1 sg_1 (by decide)) rfl 13 (by decide) (hts _ md_X3_arrive_9) (fun _ h9 => h9) rfl (by decide +kernel) rfl rfl (by rw [fl_len]; decide) dX3_arrive_91 (fun H_15 locs hP2 hD2 hS2 => ?_)
        rw [Wd_sl sg_1 (by decide) rfl] at hP2 hD2
        obtain ⟨z_16, ez_16⟩ : ∃ w, w = sl z_12 h0 13 (z_12.2.1 k_13 (z_12.1 h0 4).toNatClampNeg) := ⟨_, rfl⟩
        rw [← ez_16] at hP2 hD2
        replace hf := lt_at ez_16 hf
        clear ez_16
        replace hP := hP2
        replace hD := hD2
        replace hS := hS2
        clear hP2 hD2 hS2
        refine lv_aload_n hx hb dX3_arrive_94 rfl (lv_at hl 0 rfl) ?_
        obtain ⟨k_17, ek_17, hf⟩ := lnk_some hf
        refine va_get (D := (dC, dI)) (ci := 3) (v := .ref (a k_17)) (C := RX3) (T := TX3) (N := 22) hx hb hts iwd_X3_arrive_X3 hown hK hP h0 (Wd_ob kg_1 sg_1 (by decide)) rfl 21 (by decide) (hts _ md_X3_arrive_10) (fun _ h9 => h9) (fl_q rfl ek_17) dX3_arrive_95 ?_
        refine lv_aload_n hx hb dX3_arrive_98 rfl (lv_at hl 0 rfl) ?_
        refine va_get (D := (dC, dI)) (ci := 3) (v := .int (z_16.1 h0 4)) (C := RX3) (T := TX3) (N := 22) hx hb hts iwd_X3_arrive_X3 hown hK hP h0 (Wd_ob kg_1 sg_1 (by decide)) rfl 4 (by decide) (hts _ md_X3_arrive_2) (fun _ h9 => h9) (fl_at (t := 0) rfl) dX3_arrive_99 ?_
        refine lv_bipush (v := 40) hx hb dX3_arrive_102 (by decide) ?_
        refine lv_imul hx hb dX3_arrive_104 ?_
        refine lv_aload_n hx hb dX3_arrive_105 rfl (lv_at hl 0 rfl) ?_
        obtain ⟨k_18, ek_18, hf⟩ := lnk_some hf
        refine va_get (D := (dC, dI)) (ci := 3) (v := .ref (a k_18)) (C := RX3) (T := TX3) (N := 22) hx hb hts iwd_X3_arrive_X3 hown hK hP h0 (Wd_ob kg_1 sg_1 (by decide)) rfl 10 (by decide) (hts _ md_X3_arrive_11) (fun _ h9 => h9) (fl_q rfl ek_18) dX3_arrive_106 ?_
        refine lv_iconst (v := 0) hx hb dX3_arrive_109 (by decide) ?_
        refine lv_bipush (v := 40) hx hb dX3_arrive_110 (by decide) ?_
        obtain ⟨g_19, hf⟩ := grd_some hf
        obtain ⟨kg_19, sg_19⟩ := okO_at g_19
        obtain ⟨g_21, hf⟩ := grd_some hf
        obtain ⟨kg_21, sg_21⟩ := okO_at g_21
        obtain ⟨g_20, hf⟩ := grd_some hf
        obtain ⟨ag_20, bg_20, cg_20, dg_20, eg_20⟩ := okC_at g_20
        refine va_copyl (ty := .long) hx hb (hml.trans hl.1.symm) hown (hts _ md_X3_arrive_12) (hts _ md_X3_arrive_13) (hts _ md_X3_arrive_14) (hts _ md_X3_arrive_15) hK hP hD hS k_17 k_18 2 2 (Wd_al kg_21 sg_21) (Wd_al kg_19 sg_19) rfl rfl rfl ag_20 bg_20 cg_20 dg_20 eg_20 (fun _ _ => rfl) (Nat.le_of_ble_eq_true rfl) (Nat.le_of_ble_eq_true rfl) dX3_arrive_112 (fun H_22 locs hP2 hD2 hS2 => ?_)
        rw [Wd_scl sg_19] at hP2 hD2
        obtain ⟨z_23, ez_23⟩ : ∃ w, w = scl z_16 k_18 (z_16.2.1 k_17) ((z_16.1 h0 4) * 40).toNatClampNeg (0 : Int32).toNatClampNeg (40 : Int32).toNatClampNeg := ⟨_, rfl⟩
        rw [← ez_23] at hP2 hD2
        replace hf := lt_at ez_23 hf
        clear ez_23
        replace hP := hP2
        replace hD := hD2
        replace hS := hS2
        clear hP2 hD2 hS2
        obtain ⟨h8, h9⟩ := ret_some hf
        rw [h8]
        exact W.vret hx hb hr (fun t ht hW => ⟨⟨(), rfl, trivial, by rw [ht]; exact hP, va_K.moved hW.alike hK, hD⟩, hS.F ht⟩) hS.2.2 dX3_arrive_115
      refine lv_if_le (tgt := 68) hx hb dX3_arrive_59 (by decide) (fun c_24 => ?_) (fun c_24 => ?_)
      · skip
        rw [if_pos c_24] at hf
        exact B68 (z_4) ls H locs ⟨lv_sub hl [0] rfl, hP, hD, hS⟩ hf
      · skip
        rw [if_neg c_24] at hf
        refine lv_aload_n hx hb dX3_arrive_62 rfl (lv_at hl 0 rfl) ?_
        refine lv_bipush (v := 8) hx hb dX3_arrive_63 (by decide) ?_
        obtain ⟨z_25, _u, hfc, hf⟩ := cal_some hf
        have hFc := de_free hD hS hA
        refine va_callv (va_runV (As := [.int 8]) (rest := []) ⟨hx, hb, hml, hown, hts⟩ (de_X3_fail l dC dI cy a sh n H.size F z_4 h0 8 hfc) (cwV 1 hts gX3_arrive_X3_fail rfl rfl rfl (by decide +kernel) ⟨Nat.le_of_ble_eq_true rfl, Nat.le_of_ble_eq_true rfl⟩) ⟨fun a U g mk q => by obtain ⟨q0, q1, qP, qK, qD, qN⟩ := q; exact ⟨q0, q1, qP, va_K.moved (u := U) (U := U.calling g mk a) (Vm.Alike.refl U.vm) qK, qD, qN.same rfl⟩, va_recv hK hP (ci := 3) (q0 := h0) rfl (Wd_ob kg_1 sg_1 (by decide)), fun U hU hW => ⟨rfl, by rw [hU], by rw [hU]; exact hP, va_K.moved hW.alike hK, hD.weaken (fun _ _ _ _ => trivial), hN.warm hW⟩⟩ rfl rfl hl.1 rfl (lv_room (Nat.le_of_ble_eq_true rfl)) dX3_arrive_65 ⟨Nat.le_of_ble_eq_true rfl, Nat.le_of_ble_eq_true rfl⟩) hS (fun q _ h => hFc q h) hFc (fun u t H_26 locs ht hvm hw hB hz1 hk1 hS2 => ?_)
        obtain ⟨hP1, -, hD1⟩ := hB
        rw [ht] at hP1
        replace hD := hD1.weaken (fun _ _ _ h => hFc _ h)
        replace hP := hP1
        replace hS := hS2
        clear hP1 hD1 hS2 hFc hfc hz1 hk1 hvm ht
        exact B68 (z_25) ls H_26 locs ⟨lv_sub hl [0] rfl, hP, hD, hS⟩ hf
  refine lv_if_eq (tgt := 27) hx hb dX3_arrive_9 (by decide) (fun c_27 => ?_) (fun c_27 => ?_)
  · skip
    rw [if_pos c_27] at hf
    refine lv_aload_n hx hb dX3_arrive_27 rfl (lv_at hl 0 rfl) ?_
    refine va_get (D := (dC, dI)) (ci := 3) (v := .int (z.1 h0 16)) (C := RX3) (T := TX3) (N := 22) hx hb hts iwd_X3_arrive_X3 hown hK hP h0 (Wd_ob kg_1 sg_1 (by decide)) rfl 16 (by decide) (hts _ md_X3_arrive_4) (fun _ h9 => h9) (fl_at (t := 0) rfl) dX3_arrive_28 ?_
    refine lv_if_ne (tgt := 43) hx hb dX3_arrive_31 (by decide) (fun c_28 => ?_) (fun c_28 => ?_)
    · skip
      rw [if_neg c_28] at hf
      exact B43 (z) ls H locs ⟨lv_sub hl [0] rfl, hP, hD, hS⟩ hf
    · skip
      rw [if_pos c_28] at hf
      refine lv_aload_n hx hb dX3_arrive_34 rfl (lv_at hl 0 rfl) ?_
      refine lv_bipush (v := 10) hx hb dX3_arrive_35 (by decide) ?_
      obtain ⟨z_29, _u, hfc, hf⟩ := cal_some hf
      have hFc := de_free hD hS hA
      refine va_callv (va_runV (As := [.int 10]) (rest := []) ⟨hx, hb, hml, hown, hts⟩ (de_X3_fail l dC dI cy a sh n H.size F z h0 10 hfc) (cwV 1 hts gX3_arrive_X3_fail rfl rfl rfl (by decide +kernel) ⟨Nat.le_of_ble_eq_true rfl, Nat.le_of_ble_eq_true rfl⟩) ⟨fun a U g mk q => by obtain ⟨q0, q1, qP, qK, qD, qN⟩ := q; exact ⟨q0, q1, qP, va_K.moved (u := U) (U := U.calling g mk a) (Vm.Alike.refl U.vm) qK, qD, qN.same rfl⟩, va_recv hK hP (ci := 3) (q0 := h0) rfl (Wd_ob kg_1 sg_1 (by decide)), fun U hU hW => ⟨rfl, by rw [hU], by rw [hU]; exact hP, va_K.moved hW.alike hK, hD.weaken (fun _ _ _ _ => trivial), hN.warm hW⟩⟩ rfl rfl hl.1 rfl (lv_room (Nat.le_of_ble_eq_true rfl)) dX3_arrive_37 ⟨Nat.le_of_ble_eq_true rfl, Nat.le_of_ble_eq_true rfl⟩) hS (fun q _ h => hFc q h) hFc (fun u t H_30 locs ht hvm hw hB hz1 hk1 hS2 => ?_)
      obtain ⟨hP1, -, hD1⟩ := hB
      rw [ht] at hP1
      replace hD := hD1.weaken (fun _ _ _ h => hFc _ h)
      replace hP := hP1
      replace hS := hS2
      clear hP1 hD1 hS2 hFc hfc hz1 hk1 hvm ht
      refine lv_goto (tgt := 115) hx hb dX3_arrive_40 (by decide) ?_
      obtain ⟨h8, h9⟩ := ret_some hf
      rw [h8]
      exact W.vret hx hb hr (fun t ht hW => ⟨⟨(), rfl, trivial, by rw [ht]; exact hP, va_K.moved hW.alike hK, hD⟩, hS.F ht⟩) hS.2.2 dX3_arrive_115
  · skip
    rw [if_neg c_27] at hf
    refine lv_aload_n hx hb dX3_arrive_12 rfl (lv_at hl 0 rfl) ?_
    obtain ⟨k_31, ek_31, hf⟩ := lnk_some hf
    refine va_get (D := (dC, dI)) (ci := 3) (v := .ref (a k_31)) (C := RX3) (T := TX3) (N := 22) hx hb hts iwd_X3_arrive_X3 hown hK hP h0 (Wd_ob kg_1 sg_1 (by decide)) rfl 18 (by decide) (hts _ md_X3_arrive_3) (fun _ h9 => h9) (fl_q rfl ek_31) dX3_arrive_13 ?_
    refine lv_aload_n hx hb dX3_arrive_16 rfl (lv_at hl 0 rfl) ?_
    refine va_get (D := (dC, dI)) (ci := 3) (v := .int (z.1 h0 4)) (C := RX3) (T := TX3) (N := 22) hx hb hts iwd_X3_arrive_X3 hown hK hP h0 (Wd_ob kg_1 sg_1 (by decide)) rfl 4 (by decide) (hts _ md_X3_arrive_2) (fun _ h9 => h9) (fl_at (t := 0) rfl) dX3_arrive_17 ?_
    obtain ⟨g_32, hf⟩ := grd_some hf
    obtain ⟨kg_32, sg_32, ig_32⟩ := okA_at g_32
    refine va_zald hx hb hK hP k_31 3 (Wd_az kg_32 sg_32) rfl ig_32 dX3_arrive_20 ?_
    refine lv_if_ne (tgt := 43) hx hb dX3_arrive_21 (by decide) (fun c_33 => ?_) (fun c_33 => ?_)
    · skip
      rw [if_neg c_33] at hf
      exact B43 (z) ls H locs ⟨lv_sub hl [0] rfl, hP, hD, hS⟩ hf
    · skip
      rw [if_pos c_33] at hf
      refine lv_goto (tgt := 34) hx hb dX3_arrive_24 (by decide) ?_
      refine lv_aload_n hx hb dX3_arrive_34 rfl (lv_at hl 0 rfl) ?_
      refine lv_bipush (v := 10) hx hb dX3_arrive_35 (by decide) ?_
      obtain ⟨z_34, _u, hfc, hf⟩ := cal_some hf
      have hFc := de_free hD hS hA
      refine va_callv (va_runV (As := [.int 10]) (rest := []) ⟨hx, hb, hml, hown, hts⟩ (de_X3_fail l dC dI cy a sh n H.size F z h0 10 hfc) (cwV 1 hts gX3_arrive_X3_fail rfl rfl rfl (by decide +kernel) ⟨Nat.le_of_ble_eq_true rfl, Nat.le_of_ble_eq_true rfl⟩) ⟨fun a U g mk q => by obtain ⟨q0, q1, qP, qK, qD, qN⟩ := q; exact ⟨q0, q1, qP, va_K.moved (u := U) (U := U.calling g mk a) (Vm.Alike.refl U.vm) qK, qD, qN.same rfl⟩, va_recv hK hP (ci := 3) (q0 := h0) rfl (Wd_ob kg_1 sg_1 (by decide)), fun U hU hW => ⟨rfl, by rw [hU], by rw [hU]; exact hP, va_K.moved hW.alike hK, hD.weaken (fun _ _ _ _ => trivial), hN.warm hW⟩⟩ rfl rfl hl.1 rfl (lv_room (Nat.le_of_ble_eq_true rfl)) dX3_arrive_37 ⟨Nat.le_of_ble_eq_true rfl, Nat.le_of_ble_eq_true rfl⟩) hS (fun q _ h => hFc q h) hFc (fun u t H_35 locs ht hvm hw hB hz1 hk1 hS2 => ?_)
      obtain ⟨hP1, -, hD1⟩ := hB
      rw [ht] at hP1
      replace hD := hD1.weaken (fun _ _ _ h => hFc _ h)
      replace hP := hP1
      replace hS := hS2
      clear hP1 hD1 hS2 hFc hfc hz1 hk1 hvm ht
      refine lv_goto (tgt := 115) hx hb dX3_arrive_40 (by decide) ?_
      obtain ⟨h8, h9⟩ := ret_some hf
      rw [h8]
      exact W.vret hx hb hr (fun t ht hW => ⟨⟨(), rfl, trivial, by rw [ht]; exact hP, va_K.moved hW.alike hK, hD⟩, hS.F ht⟩) hS.2.2 dX3_arrive_115

