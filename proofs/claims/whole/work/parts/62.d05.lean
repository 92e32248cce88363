theorem md_X18_addOne_1 : (.fieldLink RX18 34 "ResourceLedgerModel" "rowAt" "I" : Cond) ∈ wsX18_addOne := List.mem_of_getElem? (i := 1) rfl
theorem iwd_X18_addOne_X18 : ∀ w ∈ wsX180, w ∈ wsX18_addOne := fun _ h => List.mem_cons_of_mem _ (List.mem_append_left _ (List.mem_append_right _ h))
theorem md_X18_addOne_2 : (.fieldLink RX18 44 "ResourceLedgerModel" "rowKinds" "[B" : Cond) ∈ wsX18_addOne := List.mem_of_getElem? (i := 2) rfl
theorem tbd_1_5 {x : Int32} (h1 : ¬ x = 1) (h2 : ¬ x = 2) (h3 : ¬ x = 3) (h4 : ¬ x = 4) (h5 : ¬ x = 5) : x.toInt < 1 ∨ 5 < x.toInt := by
  have a1 : x.toInt ≠ 1 := tbd_ne h1
  have a2 : x.toInt ≠ 2 := tbd_ne h2
  have a3 : x.toInt ≠ 3 := tbd_ne h3
  have a4 : x.toInt ≠ 4 := tbd_ne h4
  have a5 : x.toInt ≠ 5 := tbd_ne h5
  omega
theorem md_X18_addOne_3 : (.fieldLink RX18 94 "ResourceLedgerModel" "digester" "LResourceLedgerModel$Digester;" : Cond) ∈ wsX18_addOne := List.mem_of_getElem? (i := 3) rfl
theorem md_X18_addOne_4 : (.fieldLink RX18 51 "ResourceLedgerModel" "rowLows" "[J" : Cond) ∈ wsX18_addOne := List.mem_of_getElem? (i := 4) rfl
theorem md_X18_addOne_5 : (.fieldLink RX18 48 "ResourceLedgerModel" "rowHighs" "[J" : Cond) ∈ wsX18_addOne := List.mem_of_getElem? (i := 5) rfl
theorem md_X18_addOne_6 : (.fieldLink RX18 60 "ResourceLedgerModel" "rowParts" "[I" : Cond) ∈ wsX18_addOne := List.mem_of_getElem? (i := 6) rfl
set_option maxHeartbeats 4000000 in
set_option maxRecDepth 100000 in
theorem de_X18_addOne (l : Launch) (dC : Nat → ClassId) (dI : Nat → Nat → Nat) (cy : Nat → ClassId) (a : Nat → Nat) (sh : Nat → Nat × Nat) (n F : Nat) : ∀ (d sz : Nat) (z : St) (h0 : Nat) {z8 : St} {r8 : Unit} (_ : fn_X18_addOne F sh n d z h0 = some (z8, r8)), Met l yX18_addOne wsX18_addOne ({ frames := d + 2, cells := 0, slots := 0, locals := d * 22 + 45 }) (va_Pc [.ref (a h0)] (fun U => U.heap.size = sz ∧ va_P (dC, dI) vwCl (Wd cy a sh n z) U.heap ∧ va_K (dC, dI) vwCl (TYS cy) U ∧ va_D (fun _ => True) (Wd cy a sh n z) ∧ NK U)) (va_Qv (fun u : Unit => True) (fun u t => va_P (dC, dI) vwCl (Wd cy a sh n z8) t.heap ∧ va_K (dC, dI) vwCl (TYS cy) t ∧ va_D (va_A (Wd cy a sh n z) sz) (Wd cy a sh n z8)) (va_A (Wd cy a sh n z) sz)) 0 0 (va_A (Wd cy a sh n z) sz) := by
  intro d
  induction d with
  | zero => intro sz z h0 z8 r8 hf; exact absurd hf (by simp [fn_X18_addOne])
  | succ d ihd =>
  intro sz z h0 z8 r8 hf
  refine Met.ofW (cc := cX18_addOne) (maxL := 3) (ret := none) (by decide) rfl ?_
  intro p e s m args below meth c s₁ B hml hv
  obtain ⟨rfl, hsz, hP, hK, hD0, hN⟩ := hv
  have hx := B.exec
  have hb := B.bytes
  have hr := B.returns
  have hts := atoms_spec (ws := wsX18_addOne) B.pre
  have hown : s.vm.findClass RX18 = some m.cls := findClass_of_methodNamed B.named
  have hlocks := B.notSynchronized
  subst hsz
  have hD := hD0.self (sz := s.heap.size)
  clear hD0
  generalize hAe : va_A (Wd cy a sh n z) s.heap.size = A at hD ⊢
  have hA : ∀ q : Nat, s.heap.size ≤ q → A q := fun q h => by rw [← hAe]; exact Or.inr h
  clear hAe
  have hS : va_S A s.heap s.heap [] := va_S.rf
  have hl := lv_entry ([.ref (a h0)]) (n := 3) (Nat.le_of_ble_eq_true rfl)
  rw [lg_entry_eq]
  generalize (lg_sl ([.ref (a h0)]) ++ List.replicate (3 - (lg_sl ([.ref (a h0)])).length) Slot.unset).toArray = ls at hl ⊢
  replace hl : lv_has ls 3 [(0, .ref (a h0))] := hl
  replace hf := fn_X18_addOne_s hf
  refine de_start hS hP (fun H locs hS hP => ?_)
  refine lv_aload_n hx hb dX18_addOne_0 rfl (lv_at hl 0 rfl) ?_
  obtain ⟨g_1, hf⟩ := grd_some hf
  obtain ⟨kg_1, sg_1⟩ := okO_at g_1
  refine va_get (D := (dC, dI)) (ci := 18) (v := .int (z.1 h0 14)) (C := RX18) (T := TX18) (N := 78) hx hb hts iwd_X18_addOne_X18 hown hK hP h0 (Wd_ob kg_1 sg_1 (by decide)) rfl 14 (by decide) (hts _ md_X18_addOne_1) (fun _ h9 => h9) (fl_at (t := 0) rfl) dX18_addOne_1 ?_
  refine lv_topi (fun v_2 ev_2 => ?_)
  replace hf := lt_at ev_2 hf
  clear ev_2
  refine lv_istore_n (lv' := [(1, .int v_2), (0, .ref (a h0))]) hx hb dX18_addOne_4 rfl hl (by decide) rfl (fun ls hl2 => ?_)
  replace hl := hl2
  clear hl2
  refine lv_aload_n hx hb dX18_addOne_5 rfl (lv_at hl 1 rfl) ?_
  refine lv_dup hx hb dX18_addOne_6 rfl ?_
  refine va_get (D := (dC, dI)) (ci := 18) (v := .int (z.1 h0 14)) (C := RX18) (T := TX18) (N := 78) hx hb hts iwd_X18_addOne_X18 hown hK hP h0 (Wd_ob kg_1 sg_1 (by decide)) rfl 14 (by decide) (hts _ md_X18_addOne_1) (fun _ h9 => h9) (fl_at (t := 0) rfl) dX18_addOne_7 ?_
  refine lv_iconst (v := 1) hx hb dX18_addOne_10 (by decide) ?_
  refine lv_iadd hx hb dX18_addOne_11 ?_
  refine va_put (D := (dC, dI)) (ci := 18) (v := .int ((z.1 h0 14) + 1)) (ty := .int) (C := RX18) (T := TX18) (N := 78) hx hb hts iwd_X18_addOne_X18 tyX18 tyX18_ok nmX18 hown hK hP hD hS h0 (Wd_ob kg_1 sg_1 (by decide)) rfl 14 (by decide) (hts _ md_X18_addOne_1) (fun _ h9 => h9) rfl (by decide +kernel) rfl rfl (by rw [fl_len]; decide) dX18_addOne_12 (fun H_3 locs hP2 hD2 hS2 => ?_)
  rw [Wd_si sg_1 (by decide) rfl] at hP2 hD2
  obtain ⟨z_4, ez_4⟩ : ∃ w, w = si z h0 14 ((z.1 h0 14) + 1) := ⟨_, rfl⟩
  rw [← ez_4] at hP2 hD2
  replace hf := lt_at ez_4 hf
  clear ez_4
  replace hP := hP2
  replace hD := hD2
  replace hS := hS2
  clear hP2 hD2 hS2
  refine lv_aload_n hx hb dX18_addOne_15 rfl (lv_at hl 1 rfl) ?_
  obtain ⟨k_5, ek_5, hf⟩ := lnk_some hf
  refine va_get (D := (dC, dI)) (ci := 18) (v := .ref (a k_5)) (C := RX18) (T := TX18) (N := 78) hx hb hts iwd_X18_addOne_X18 hown hK hP h0 (Wd_ob kg_1 sg_1 (by decide)) rfl 10 (by decide) (hts _ md_X18_addOne_2) (fun _ h9 => h9) (fl_q rfl ek_5) dX18_addOne_16 ?_
  refine lv_iload_n hx hb dX18_addOne_19 rfl (lv_at hl 0 rfl) ?_
  obtain ⟨g_6, hf⟩ := grd_some hf
  obtain ⟨kg_6, sg_6, ig_6⟩ := okA_at g_6
  refine va_bald hx hb hK hP k_5 0 (Wd_ab kg_6 sg_6) rfl ig_6 dX18_addOne_20 ?_
  by_cases c_7 : (z_4.1 k_5 v_2.toNatClampNeg) = 1
  · skip
    rw [if_pos c_7] at hf
    refine lv_tableIn (tgt := 56) hx hb dX18_addOne_21 (by rw [c_7]; decide) (by rw [c_7]; decide) (by rw [c_7]; rfl) (by decide) ?_
    refine lv_aload_n hx hb dX18_addOne_56 rfl (lv_at hl 1 rfl) ?_
    obtain ⟨k_8, ek_8, hf⟩ := lnk_some hf
    refine va_get (D := (dC, dI)) (ci := 18) (v := .ref (a k_8)) (C := RX18) (T := TX18) (N := 78) hx hb hts iwd_X18_addOne_X18 hown hK hP h0 (Wd_ob kg_1 sg_1 (by decide)) rfl 18 (by decide) (hts _ md_X18_addOne_3) (fun _ h9 => h9) (fl_q rfl ek_8) dX18_addOne_57 ?_
    refine lv_aload_n hx hb dX18_addOne_60 rfl (lv_at hl 1 rfl) ?_
    obtain ⟨k_9, ek_9, hf⟩ := lnk_some hf
    refine va_get (D := (dC, dI)) (ci := 18) (v := .ref (a k_9)) (C := RX18) (T := TX18) (N := 78) hx hb hts iwd_X18_addOne_X18 hown hK hP h0 (Wd_ob kg_1 sg_1 (by decide)) rfl 12 (by decide) (hts _ md_X18_addOne_4) (fun _ h9 => h9) (fl_q rfl ek_9) dX18_addOne_61 ?_
    refine lv_iload_n hx hb dX18_addOne_64 rfl (lv_at hl 0 rfl) ?_
    obtain ⟨g_10, hf⟩ := grd_some hf
    obtain ⟨kg_10, sg_10, ig_10⟩ := okA_at g_10
    refine va_lald hx hb hK hP k_9 2 (Wd_al kg_10 sg_10) rfl ig_10 dX18_addOne_65 ?_
    refine lv_l2i (v := ((z_4.2.1 k_9 v_2.toNatClampNeg) : Int64).toInt32) hx hb dX18_addOne_66 rfl ?_
    obtain ⟨g_12, hf⟩ := grd_some hf
    obtain ⟨kg_12, sg_12⟩ := okO_at g_12
    obtain ⟨z_11, _u, hfc, hf⟩ := cal_some hf
    have hFc := de_free hD hS hA
    refine va_callv (va_runV (As := [.int (((z_4.2.1 k_9 v_2.toNatClampNeg) : Int64).toInt32)]) (rest := []) ⟨hx, hb, hml, hown, hts⟩ (de_X12_add l dC dI cy a sh n H_3.size F z_4 k_8 (((z_4.2.1 k_9 v_2.toNatClampNeg) : Int64).toInt32) hfc) (cwV 1 hts gX18_addOne_X12_add rfl rfl rfl (by decide +kernel) ⟨by show _ ≤ d + 1 + 2; (try dsimp only); omega, by show _ ≤ (d + 1) * 22 + 45; (try dsimp only); omega⟩) ⟨fun a U g mk q => by obtain ⟨q0, q1, qP, qK, qD, qN⟩ := q; exact ⟨q0, q1, qP, va_K.moved (u := U) (U := U.calling g mk a) (Vm.Alike.refl U.vm) qK, qD, qN.same rfl⟩, va_recv hK hP (ci := 12) (q0 := k_8) rfl (Wd_ob kg_12 sg_12 (by decide)), fun U hU hW => ⟨rfl, by rw [hU], by rw [hU]; exact hP, va_K.moved hW.alike hK, hD.weaken (fun _ _ _ _ => trivial), hN.warm hW⟩⟩ rfl rfl hl.1 rfl (lv_room (Nat.le_of_ble_eq_true rfl)) dX18_addOne_67 ⟨Nat.le_of_ble_eq_true rfl, Nat.le_of_ble_eq_true rfl⟩) hS (fun q _ h => hFc q h) hFc (fun u t H_13 locs ht hvm hw hB hz1 hk1 hS2 => ?_)
    obtain ⟨hP1, -, hD1⟩ := hB
    rw [ht] at hP1
    replace hD := hD1.weaken (fun _ _ _ h => hFc _ h)
    replace hP := hP1
    replace hS := hS2
    clear hP1 hD1 hS2 hFc hfc hz1 hk1 hvm ht
    obtain ⟨h8, h9⟩ := ret_some hf
    rw [h8]
    exact W.vret hx hb hr (fun t ht hW => ⟨⟨(), rfl, trivial, by rw [ht]; exact hP, va_K.moved hW.alike hK, hD⟩, hS.F ht⟩) hS.2.2 dX18_addOne_70
  rw [if_neg c_7] at hf
  by_cases c_14 : (z_4.1 k_5 v_2.toNatClampNeg) = 2
  · skip
    rw [if_pos c_14] at hf
    refine lv_tableIn (tgt := 56) hx hb dX18_addOne_21 (by rw [c_14]; decide) (by rw [c_14]; decide) (by rw [c_14]; rfl) (by decide) ?_
    refine lv_aload_n hx hb dX18_addOne_56 rfl (lv_at hl 1 rfl) ?_
    obtain ⟨k_15, ek_15, hf⟩ := lnk_some hf
    refine va_get (D := (dC, dI)) (ci := 18) (v := .ref (a k_15)) (C := RX18) (T := TX18) (N := 78) hx hb hts iwd_X18_addOne_X18 hown hK hP h0 (Wd_ob kg_1 sg_1 (by decide)) rfl 18 (by decide) (hts _ md_X18_addOne_3) (fun _ h9 => h9) (fl_q rfl ek_15) dX18_addOne_57 ?_
    refine lv_aload_n hx hb dX18_addOne_60 rfl (lv_at hl 1 rfl) ?_
    obtain ⟨k_16, ek_16, hf⟩ := lnk_some hf
    refine va_get (D := (dC, dI)) (ci := 18) (v := .ref (a k_16)) (C := RX18) (T := TX18) (N := 78) hx hb hts iwd_X18_addOne_X18 hown hK hP h0 (Wd_ob kg_1 sg_1 (by decide)) rfl 12 (by decide) (hts _ md_X18_addOne_4) (fun _ h9 => h9) (fl_q rfl ek_16) dX18_addOne_61 ?_
    refine lv_iload_n hx hb dX18_addOne_64 rfl (lv_at hl 0 rfl) ?_
    obtain ⟨g_17, hf⟩ := grd_some hf
    obtain ⟨kg_17, sg_17, ig_17⟩ := okA_at g_17
    refine va_lald hx hb hK hP k_16 2 (Wd_al kg_17 sg_17) rfl ig_17 dX18_addOne_65 ?_
    refine lv_l2i (v := ((z_4.2.1 k_16 v_2.toNatClampNeg) : Int64).toInt32) hx hb dX18_addOne_66 rfl ?_
    obtain ⟨g_19, hf⟩ := grd_some hf
    obtain ⟨kg_19, sg_19⟩ := okO_at g_19
    obtain ⟨z_18, _u, hfc, hf⟩ := cal_some hf
    have hFc := de_free hD hS hA
    refine va_callv (va_runV (As := [.int (((z_4.2.1 k_16 v_2.toNatClampNeg) : Int64).toInt32)]) (rest := []) ⟨hx, hb, hml, hown, hts⟩ (de_X12_add l dC dI cy a sh n H_3.size F z_4 k_15 (((z_4.2.1 k_16 v_2.toNatClampNeg) : Int64).toInt32) hfc) (cwV 1 hts gX18_addOne_X12_add rfl rfl rfl (by decide +kernel) ⟨by show _ ≤ d + 1 + 2; (try dsimp only); omega, by show _ ≤ (d + 1) * 22 + 45; (try dsimp only); omega⟩) ⟨fun a U g mk q => by obtain ⟨q0, q1, qP, qK, qD, qN⟩ := q; exact ⟨q0, q1, qP, va_K.moved (u := U) (U := U.calling g mk a) (Vm.Alike.refl U.vm) qK, qD, qN.same rfl⟩, va_recv hK hP (ci := 12) (q0 := k_15) rfl (Wd_ob kg_19 sg_19 (by decide)), fun U hU hW => ⟨rfl, by rw [hU], by rw [hU]; exact hP, va_K.moved hW.alike hK, hD.weaken (fun _ _ _ _ => trivial), hN.warm hW⟩⟩ rfl rfl hl.1 rfl (lv_room (Nat.le_of_ble_eq_true rfl)) dX18_addOne_67 ⟨Nat.le_of_ble_eq_true rfl, Nat.le_of_ble_eq_true rfl⟩) hS (fun q _ h => hFc q h) hFc (fun u t H_20 locs ht hvm hw hB hz1 hk1 hS2 => ?_)
    obtain ⟨hP1, -, hD1⟩ := hB
    rw [ht] at hP1
    replace hD := hD1.weaken (fun _ _ _ h => hFc _ h)
    replace hP := hP1
    replace hS := hS2
    clear hP1 hD1 hS2 hFc hfc hz1 hk1 hvm ht
    obtain ⟨h8, h9⟩ := ret_some hf
    rw [h8]
    exact W.vret hx hb hr (fun t ht hW => ⟨⟨(), rfl, trivial, by rw [ht]; exact hP, va_K.moved hW.alike hK, hD⟩, hS.F ht⟩) hS.2.2 dX18_addOne_70
  rw [if_neg c_14] at hf
  by_cases c_21 : (z_4.1 k_5 v_2.toNatClampNeg) = 3
  · skip
    rw [if_pos c_21] at hf
    refine lv_tableIn (tgt := 71) hx hb dX18_addOne_21 (by rw [c_21]; decide) (by rw [c_21]; decide) (by rw [c_21]; rfl) (by decide) ?_
    refine lv_aload_n hx hb dX18_addOne_71 rfl (lv_at hl 1 rfl) ?_
    obtain ⟨k_22, ek_22, hf⟩ := lnk_some hf
    refine va_get (D := (dC, dI)) (ci := 18) (v := .ref (a k_22)) (C := RX18) (T := TX18) (N := 78) hx hb hts iwd_X18_addOne_X18 hown hK hP h0 (Wd_ob kg_1 sg_1 (by decide)) rfl 18 (by decide) (hts _ md_X18_addOne_3) (fun _ h9 => h9) (fl_q rfl ek_22) dX18_addOne_72 ?_
    refine lv_aload_n hx hb dX18_addOne_75 rfl (lv_at hl 1 rfl) ?_
    obtain ⟨k_23, ek_23, hf⟩ := lnk_some hf
    refine va_get (D := (dC, dI)) (ci := 18) (v := .ref (a k_23)) (C := RX18) (T := TX18) (N := 78) hx hb hts iwd_X18_addOne_X18 hown hK hP h0 (Wd_ob kg_1 sg_1 (by decide)) rfl 12 (by decide) (hts _ md_X18_addOne_4) (fun _ h9 => h9) (fl_q rfl ek_23) dX18_addOne_76 ?_
    refine lv_iload_n hx hb dX18_addOne_79 rfl (lv_at hl 0 rfl) ?_
    obtain ⟨g_24, hf⟩ := grd_some hf
    obtain ⟨kg_24, sg_24, ig_24⟩ := okA_at g_24
    refine va_lald hx hb hK hP k_23 2 (Wd_al kg_24 sg_24) rfl ig_24 dX18_addOne_80 ?_
    refine lv_bipush (v := 8) hx hb dX18_addOne_81 (by decide) ?_
    obtain ⟨g_26, hf⟩ := grd_some hf
    obtain ⟨kg_26, sg_26⟩ := okO_at g_26
    obtain ⟨z_25, _u, hfc, hf⟩ := cal_some hf
    have hFc := de_free hD hS hA
    refine va_callv (va_runV (As := [.long (z_4.2.1 k_23 v_2.toNatClampNeg), .int 8]) (rest := []) ⟨hx, hb, hml, hown, hts⟩ (de_X12_addNumber l dC dI cy a sh n H_3.size F z_4 k_22 (z_4.2.1 k_23 v_2.toNatClampNeg) 8 hfc) (cwV 2 hts gX18_addOne_X12_addNumber rfl rfl rfl (by decide +kernel) ⟨by show _ ≤ d + 1 + 2; (try dsimp only); omega, by show _ ≤ (d + 1) * 22 + 45; (try dsimp only); omega⟩) ⟨fun a U g mk q => by obtain ⟨q0, q1, qP, qK, qD, qN⟩ := q; exact ⟨q0, q1, qP, va_K.moved (u := U) (U := U.calling g mk a) (Vm.Alike.refl U.vm) qK, qD, qN.same rfl⟩, va_recv hK hP (ci := 12) (q0 := k_22) rfl (Wd_ob kg_26 sg_26 (by decide)), fun U hU hW => ⟨rfl, by rw [hU], by rw [hU]; exact hP, va_K.moved hW.alike hK, hD.weaken (fun _ _ _ _ => trivial), hN.warm hW⟩⟩ rfl rfl hl.1 rfl (lv_room (Nat.le_of_ble_eq_true rfl)) dX18_addOne_83 ⟨Nat.le_of_ble_eq_true rfl, Nat.le_of_ble_eq_true rfl⟩) hS (fun q _ h => hFc q h) hFc (fun u t H_27 locs ht hvm hw hB hz1 hk1 hS2 => ?_)
    obtain ⟨hP1, -, hD1⟩ := hB
    rw [ht] at hP1
    replace hD := hD1.weaken (fun _ _ _ h => hFc _ h)
    replace hP := hP1
    replace hS := hS2
    clear hP1 hD1 hS2 hFc hfc hz1 hk1 hvm ht
    obtain ⟨h8, h9⟩ := ret_some hf
    rw [h8]
    exact W.vret hx hb hr (fun t ht hW => ⟨⟨(), rfl, trivial, by rw [ht]; exact hP, va_K.moved hW.alike hK, hD⟩, hS.F ht⟩) hS.2.2 dX18_addOne_86
  rw [if_neg c_21] at hf
  by_cases c_28 : (z_4.1 k_5 v_2.toNatClampNeg) = 4
  · skip
    rw [if_pos c_28] at hf
    refine lv_tableIn (tgt := 87) hx hb dX18_addOne_21 (by rw [c_28]; decide) (by rw [c_28]; decide) (by rw [c_28]; rfl) (by decide) ?_
    refine lv_aload_n hx hb dX18_addOne_87 rfl (lv_at hl 1 rfl) ?_
    obtain ⟨k_29, ek_29, hf⟩ := lnk_some hf
    refine va_get (D := (dC, dI)) (ci := 18) (v := .ref (a k_29)) (C := RX18) (T := TX18) (N := 78) hx hb hts iwd_X18_addOne_X18 hown hK hP h0 (Wd_ob kg_1 sg_1 (by decide)) rfl 18 (by decide) (hts _ md_X18_addOne_3) (fun _ h9 => h9) (fl_q rfl ek_29) dX18_addOne_88 ?_
    refine lv_aload_n hx hb dX18_addOne_91 rfl (lv_at hl 1 rfl) ?_
    obtain ⟨k_30, ek_30, hf⟩ := lnk_some hf
    refine va_get (D := (dC, dI)) (ci := 18) (v := .ref (a k_30)) (C := RX18) (T := TX18) (N := 78) hx hb hts iwd_X18_addOne_X18 hown hK hP h0 (Wd_ob kg_1 sg_1 (by decide)) rfl 11 (by decide) (hts _ md_X18_addOne_5) (fun _ h9 => h9) (fl_q rfl ek_30) dX18_addOne_92 ?_
    refine lv_iload_n hx hb dX18_addOne_95 rfl (lv_at hl 0 rfl) ?_
    obtain ⟨g_31, hf⟩ := grd_some hf
    obtain ⟨kg_31, sg_31, ig_31⟩ := okA_at g_31
    refine va_lald hx hb hK hP k_30 2 (Wd_al kg_31 sg_31) rfl ig_31 dX18_addOne_96 ?_
    refine lv_bipush (v := 8) hx hb dX18_addOne_97 (by decide) ?_
    obtain ⟨g_33, hf⟩ := grd_some hf
    obtain ⟨kg_33, sg_33⟩ := okO_at g_33
    obtain ⟨z_32, _u, hfc, hf⟩ := cal_some hf
    have hFc := de_free hD hS hA
    refine va_callv (va_runV (As := [.long (z_4.2.1 k_30 v_2.toNatClampNeg), .int 8]) (rest := []) ⟨hx, hb, hml, hown, hts⟩ (de_X12_addNumber l dC dI cy a sh n H_3.size F z_4 k_29 (z_4.2.1 k_30 v_2.toNatClampNeg) 8 hfc) (cwV 2 hts gX18_addOne_X12_addNumber rfl rfl rfl (by decide +kernel) ⟨by show _ ≤ d + 1 + 2; (try dsimp only); omega, by show _ ≤ (d + 1) * 22 + 45; (try dsimp only); omega⟩) ⟨fun a U g mk q => by obtain ⟨q0, q1, qP, qK, qD, qN⟩ := q; exact ⟨q0, q1, qP, va_K.moved (u := U) (U := U.calling g mk a) (Vm.Alike.refl U.vm) qK, qD, qN.same rfl⟩, va_recv hK hP (ci := 12) (q0 := k_29) rfl (Wd_ob kg_33 sg_33 (by decide)), fun U hU hW => ⟨rfl, by rw [hU], by rw [hU]; exact hP, va_K.moved hW.alike hK, hD.weaken (fun _ _ _ _ => trivial), hN.warm hW⟩⟩ rfl rfl hl.1 rfl (lv_room (Nat.le_of_ble_eq_true rfl)) dX18_addOne_99 ⟨Nat.le_of_ble_eq_true rfl, Nat.le_of_ble_eq_true rfl⟩) hS (fun q _ h => hFc q h) hFc (fun u t H_34 locs ht hvm hw hB hz1 hk1 hS2 => ?_)
    obtain ⟨hP1, -, hD1⟩ := hB
    rw [ht] at hP1
    replace hD := hD1.weaken (fun _ _ _ h => hFc _ h)
    replace hP := hP1
    replace hS := hS2
    clear hP1 hD1 hS2 hFc hfc hz1 hk1 hvm ht
    refine lv_aload_n hx hb dX18_addOne_102 rfl (lv_at hl 1 rfl) ?_
    obtain ⟨k_35, ek_35, hf⟩ := lnk_some hf
    refine va_get (D := (dC, dI)) (ci := 18) (v := .ref (a k_35)) (C := RX18) (T := TX18) (N := 78) hx hb hts iwd_X18_addOne_X18 hown hK hP h0 (Wd_ob kg_1 sg_1 (by decide)) rfl 18 (by decide) (hts _ md_X18_addOne_3) (fun _ h9 => h9) (fl_q rfl ek_35) dX18_addOne_103 ?_
    refine lv_aload_n hx hb dX18_addOne_106 rfl (lv_at hl 1 rfl) ?_
    obtain ⟨k_36, ek_36, hf⟩ := lnk_some hf
    refine va_get (D := (dC, dI)) (ci := 18) (v := .ref (a k_36)) (C := RX18) (T := TX18) (N := 78) hx hb hts iwd_X18_addOne_X18 hown hK hP h0 (Wd_ob kg_1 sg_1 (by decide)) rfl 12 (by decide) (hts _ md_X18_addOne_4) (fun _ h9 => h9) (fl_q rfl ek_36) dX18_addOne_107 ?_
    refine lv_iload_n hx hb dX18_addOne_110 rfl (lv_at hl 0 rfl) ?_
    obtain ⟨g_37, hf⟩ := grd_some hf
    obtain ⟨kg_37, sg_37, ig_37⟩ := okA_at g_37
    refine va_lald hx hb hK hP k_36 2 (Wd_al kg_37 sg_37) rfl ig_37 dX18_addOne_111 ?_
    refine lv_bipush (v := 8) hx hb dX18_addOne_112 (by decide) ?_
    obtain ⟨g_39, hf⟩ := grd_some hf
    obtain ⟨kg_39, sg_39⟩ := okO_at g_39
    obtain ⟨z_38, _u, hfc, hf⟩ := cal_some hf
    have hFc := de_free hD hS hA
    refine va_callv (va_runV (As := [.long (z_32.2.1 k_36 v_2.toNatClampNeg), .int 8]) (rest := []) ⟨hx, hb, hml, hown, hts⟩ (de_X12_addNumber l dC dI cy a sh n H_34.size F z_32 k_35 (z_32.2.1 k_36 v_2.toNatClampNeg) 8 hfc) (cwV 2 hts gX18_addOne_X12_addNumber rfl rfl rfl (by decide +kernel) ⟨by show _ ≤ d + 1 + 2; (try dsimp only); omega, by show _ ≤ (d + 1) * 22 + 45; (try dsimp only); omega⟩) ⟨fun a U g mk q => by obtain ⟨q0, q1, qP, qK, qD, qN⟩ := q; exact ⟨q0, q1, qP, va_K.moved (u := U) (U := U.calling g mk a) (Vm.Alike.refl U.vm) qK, qD, qN.same rfl⟩, va_recv hK hP (ci := 12) (q0 := k_35) rfl (Wd_ob kg_39 sg_39 (by decide)), fun U hU hW => ⟨rfl, by rw [hU], by rw [hU]; exact hP, va_K.moved hW.alike hK, hD.weaken (fun _ _ _ _ => trivial), hN.warm hW⟩⟩ rfl rfl hl.1 rfl (lv_room (Nat.le_of_ble_eq_true rfl)) dX18_addOne_114 ⟨Nat.le_of_ble_eq_true rfl, Nat.le_of_ble_eq_true rfl⟩) hS (fun q _ h => hFc q h) hFc (fun u t H_40 locs ht hvm hw hB hz1 hk1 hS2 => ?_)
    obtain ⟨hP1, -, hD1⟩ := hB
    rw [ht] at hP1
    replace hD := hD1.weaken (fun _ _ _ h => hFc _ h)
    replace hP := hP1
    replace hS := hS2
    clear hP1 hD1 hS2 hFc hfc hz1 hk1 hvm ht
    obtain ⟨h8, h9⟩ := ret_some hf
    rw [h8]
    exact W.vret hx hb hr (fun t ht hW => ⟨⟨(), rfl, trivial, by rw [ht]; exact hP, va_K.moved hW.alike hK, hD⟩, hS.F ht⟩) hS.2.2 dX18_addOne_117
  rw [if_neg c_28] at hf
  by_cases c_41 : (z_4.1 k_5 v_2.toNatClampNeg) = 5
  · skip
    rw [if_pos c_41] at hf
    refine lv_tableIn (tgt := 71) hx hb dX18_addOne_21 (by rw [c_41]; decide) (by rw [c_41]; decide) (by rw [c_41]; rfl) (by decide) ?_
    refine lv_aload_n hx hb dX18_addOne_71 rfl (lv_at hl 1 rfl) ?_
    obtain ⟨k_42, ek_42, hf⟩ := lnk_some hf
    refine va_get (D := (dC, dI)) (ci := 18) (v := .ref (a k_42)) (C := RX18) (T := TX18) (N := 78) hx hb hts iwd_X18_addOne_X18 hown hK hP h0 (Wd_ob kg_1 sg_1 (by decide)) rfl 18 (by decide) (hts _ md_X18_addOne_3) (fun _ h9 => h9) (fl_q rfl ek_42) dX18_addOne_72 ?_
    refine lv_aload_n hx hb dX18_addOne_75 rfl (lv_at hl 1 rfl) ?_
    obtain ⟨k_43, ek_43, hf⟩ := lnk_some hf
    refine va_get (D := (dC, dI)) (ci := 18) (v := .ref (a k_43)) (C := RX18) (T := TX18) (N := 78) hx hb hts iwd_X18_addOne_X18 hown hK hP h0 (Wd_ob kg_1 sg_1 (by decide)) rfl 12 (by decide) (hts _ md_X18_addOne_4) (fun _ h9 => h9) (fl_q rfl ek_43) dX18_addOne_76 ?_
    refine lv_iload_n hx hb dX18_addOne_79 rfl (lv_at hl 0 rfl) ?_
    obtain ⟨g_44, hf⟩ := grd_some hf
    obtain ⟨kg_44, sg_44, ig_44⟩ := okA_at g_44
    refine va_lald hx hb hK hP k_43 2 (Wd_al kg_44 sg_44) rfl ig_44 dX18_addOne_80 ?_
    refine lv_bipush (v := 8) hx hb dX18_addOne_81 (by decide) ?_
    obtain ⟨g_46, hf⟩ := grd_some hf
    obtain ⟨kg_46, sg_46⟩ := okO_at g_46
    obtain ⟨z_45, _u, hfc, hf⟩ := cal_some hf
    have hFc := de_free hD hS hA
    refine va_callv (va_runV (As := [.long (z_4.2.1 k_43 v_2.toNatClampNeg), .int 8]) (rest := []) ⟨hx, hb, hml, hown, hts⟩ (de_X12_addNumber l dC dI cy a sh n H_3.size F z_4 k_42 (z_4.2.1 k_43 v_2.toNatClampNeg) 8 hfc) (cwV 2 hts gX18_addOne_X12_addNumber rfl rfl rfl (by decide +kernel) ⟨by show _ ≤ d + 1 + 2; (try dsimp only); omega, by show _ ≤ (d + 1) * 22 + 45; (try dsimp only); omega⟩) ⟨fun a U g mk q => by obtain ⟨q0, q1, qP, qK, qD, qN⟩ := q; exact ⟨q0, q1, qP, va_K.moved (u := U) (U := U.calling g mk a) (Vm.Alike.refl U.vm) qK, qD, qN.same rfl⟩, va_recv hK hP (ci := 12) (q0 := k_42) rfl (Wd_ob kg_46 sg_46 (by decide)), fun U hU hW => ⟨rfl, by rw [hU], by rw [hU]; exact hP, va_K.moved hW.alike hK, hD.weaken (fun _ _ _ _ => trivial), hN.warm hW⟩⟩ rfl rfl hl.1 rfl (lv_room (Nat.le_of_ble_eq_true rfl)) dX18_addOne_83 ⟨Nat.le_of_ble_eq_true rfl, Nat.le_of_ble_eq_true rfl⟩) hS (fun q _ h => hFc q h) hFc (fun u t H_47 locs ht hvm hw hB hz1 hk1 hS2 => ?_)
    obtain ⟨hP1, -, hD1⟩ := hB
    rw [ht] at hP1
    replace hD := hD1.weaken (fun _ _ _ h => hFc _ h)
    replace hP := hP1
    replace hS := hS2
    clear hP1 hD1 hS2 hFc hfc hz1 hk1 hvm ht
    obtain ⟨h8, h9⟩ := ret_some hf
    rw [h8]
    exact W.vret hx hb hr (fun t ht hW => ⟨⟨(), rfl, trivial, by rw [ht]; exact hP, va_K.moved hW.alike hK, hD⟩, hS.F ht⟩) hS.2.2 dX18_addOne_86
  rw [if_neg c_41] at hf
  refine lv_tableOut (tgt := 118) hx hb dX18_addOne_21 (tbd_1_5 c_7 c_14 c_21 c_28 c_41) (by decide) ?_
  refine lv_aload_n hx hb dX18_addOne_118 rfl (lv_at hl 1 rfl) ?_
  obtain ⟨k_48, ek_48, hf⟩ := lnk_some hf
  refine va_get (D := (dC, dI)) (ci := 18) (v := .ref (a k_48)) (C := RX18) (T := TX18) (N := 78) hx hb hts iwd_X18_addOne_X18 hown hK hP h0 (Wd_ob kg_1 sg_1 (by decide)) rfl 10 (by decide) (hts _ md_X18_addOne_2) (fun _ h9 => h9) (fl_q rfl ek_48) dX18_addOne_119 ?_
  refine lv_iload_n hx hb dX18_addOne_122 rfl (lv_at hl 0 rfl) ?_
  obtain ⟨g_49, hf⟩ := grd_some hf
  obtain ⟨kg_49, sg_49, ig_49⟩ := okA_at g_49
  refine va_bald hx hb hK hP k_48 0 (Wd_ab kg_49 sg_49) rfl ig_49 dX18_addOne_123 ?_
  refine lv_bipush (v := 7) hx hb dX18_addOne_124 (by decide) ?_
  refine de_cut (h := 144) (fun (x : St) => []) (fun x ls H locs => lv_has ls 3 [(1, .int v_2), (0, .ref (a h0))] ∧ va_P (dC, dI) vwCl (Wd cy a sh n x) H ∧ va_D A (Wd cy a sh n x) ∧ va_S A s.heap H locs) (fun x => fn_X18_addOne_B144 F sh n h0 v_2 (fn_X18_addOne F sh n d) x) (z8, r8) ?_ (fun B144 => ?_)
  · intro x ls H locs hI hf
    obtain ⟨z_50, ez⟩ : ∃ w, w = x := ⟨_, rfl⟩
    subst ez
    obtain ⟨hl2, hP2, hD2, hS2⟩ := hI
    replace hl : lv_has ls 3 [(1, .int v_2), (0, .ref (a h0))] := hl2
    replace hP := hP2
    replace hD := hD2
    replace hS := hS2
    clear hl2 hP2 hD2 hS2
    replace hf := fn_X18_addOne_B144_s hf
    refine W.eq (g2 := F0 m 144 ls []) rfl ?_
    refine lv_iconst (v := 0) hx hb dX18_addOne_144 (by decide) ?_
    refine lv_istore_n (lv' := [(2, .int 0), (1, .int v_2), (0, .ref (a h0))]) hx hb dX18_addOne_145 rfl hl (by decide) rfl (fun ls hl2 => ?_)
    replace hl := hl2
    clear hl2
    have hl0 : lv_has ls 3 [(2, .int 0), (1, .int v_2), (0, .ref (a h0))] := lv_sub hl [0, 1, 2] rfl
    refine de_loop (h := 146) (fun (x : St × Int32) ls H locs => lv_has ls 3 [(2, .int x.2), (1, .int v_2), (0, .ref (a h0))] ∧ va_P (dC, dI) vwCl (Wd cy a sh n x.1) H ∧ va_D A (Wd cy a sh n x.1) ∧ va_S A s.heap H locs) (fun f x => fn_X18_addOne_L146 F sh n h0 v_2 (fn_X18_addOne F sh n d) f x.1 x.2) (z8, r8) ?_ (fun _ => rfl) F (z_50, 0) ls H locs ⟨hl0, hP, hD, hS⟩ hf
    intro f_53 x ls H locs ih146 hI hf
    obtain ⟨z_52, p_51⟩ := x
    obtain ⟨hl2, hP2, hD2, hS2⟩ := hI
    replace hl : lv_has ls 3 [(2, .int p_51), (1, .int v_2), (0, .ref (a h0))] := hl2
    replace hP := hP2
    replace hD := hD2
    replace hS := hS2
    clear hl2 hP2 hD2 hS2 hl0
    replace hf := fn_X18_addOne_L146_s hf
    refine lv_iload_n hx hb dX18_addOne_146 rfl (lv_at hl 0 rfl) ?_
    refine lv_aload_n hx hb dX18_addOne_147 rfl (lv_at hl 2 rfl) ?_
    obtain ⟨k_54, ek_54, hf⟩ := lnk_some hf
    refine va_get (D := (dC, dI)) (ci := 18) (v := .ref (a k_54)) (C := RX18) (T := TX18) (N := 78) hx hb hts iwd_X18_addOne_X18 hown hK hP h0 (Wd_ob kg_1 sg_1 (by decide)) rfl 13 (by decide) (hts _ md_X18_addOne_6) (fun _ h9 => h9) (fl_q rfl ek_54) dX18_addOne_148 ?_
    refine lv_iload_n hx hb dX18_addOne_151 rfl (lv_at hl 1 rfl) ?_
    obtain ⟨g_55, hf⟩ := grd_some hf
    obtain ⟨kg_55, sg_55, ig_55⟩ := okA_at g_55
    refine va_iald hx hb hK hP k_54 1 (Wd_ai kg_55 sg_55) rfl ig_55 dX18_addOne_152 ?_
    refine lv_icmp_ge (tgt := 166) hx hb dX18_addOne_153 (by decide) (fun c_56 => ?_) (fun c_56 => ?_)
    · skip
      rw [if_pos c_56] at hf
      obtain ⟨h8, h9⟩ := ret_some hf
      rw [h8]
      exact W.vret hx hb hr (fun t ht hW => ⟨⟨(), rfl, trivial, by rw [ht]; exact hP, va_K.moved hW.alike hK, hD⟩, hS.F ht⟩) hS.2.2 dX18_addOne_166
    · skip
      rw [if_neg c_56] at hf
      refine lv_aload_n hx hb dX18_addOne_156 rfl (lv_at hl 2 rfl) ?_
      obtain ⟨z_57, _u, hfc, hf⟩ := cal_some hf
      have hFc := de_free hD hS hA
      refine va_callv (va_runV (As := []) (rest := []) ⟨hx, hb, hml, hown, hts⟩ (ihd H.size z_52 h0 hfc) (cwV 0 hts gX18_addOne_X18_addOne rfl rfl rfl (by decide +kernel) ⟨by show _ ≤ d + 1 + 2; (try dsimp only); omega, by show _ ≤ (d + 1) * 22 + 45; (try dsimp only); omega⟩) ⟨fun a U g mk q => by obtain ⟨q0, q1, qP, qK, qD, qN⟩ := q; exact ⟨q0, q1, qP, va_K.moved (u := U) (U := U.calling g mk a) (Vm.Alike.refl U.vm) qK, qD, qN.same rfl⟩, va_recv hK hP (ci := 18) (q0 := h0) rfl (Wd_ob kg_1 sg_1 (by decide)), fun U hU hW => ⟨rfl, by rw [hU], by rw [hU]; exact hP, va_K.moved hW.alike hK, hD.weaken (fun _ _ _ _ => trivial), hN.warm hW⟩⟩ rfl rfl hl.1 rfl (lv_room (Nat.le_of_ble_eq_true rfl)) dX18_addOne_157 ⟨Nat.le_of_ble_eq_true rfl, Nat.le_of_ble_eq_true rfl⟩) hS (fun q _ h => hFc q h) hFc (fun u t H_58 locs ht hvm hw hB hz1 hk1 hS2 => ?_)
      obtain ⟨hP1, -, hD1⟩ := hB
      rw [ht] at hP1
      replace hD := hD1.weaken (fun _ _ _ h => hFc _ h)
      replace hP := hP1
      replace hS := hS2
      clear hP1 hD1 hS2 hFc hfc hz1 hk1 hvm ht
      refine lv_iinc (v := (p_51 + 1)) (lv' := [(2, .int (p_51 + 1)), (1, .int v_2), (0, .ref (a h0))]) hx hb dX18_addOne_160 hl (k := 0) rfl rfl (by decide) rfl (fun ls hl2 => ?_)
      replace hl := hl2
      clear hl2
      refine lv_goto (tgt := 146) hx hb dX18_addOne_163 (by decide) ?_
      exact ih146 (z_57, (p_51 + 1)) ls H_58 locs ⟨lv_sub hl [0, 1, 2] rfl, hP, hD, hS⟩ hf
  refine lv_icmp_ne (tgt := 144) hx hb dX18_addOne_126 (by decide) (fun c_59 => ?_) (fun c_59 => ?_)
  · skip
    rw [if_neg c_59] at hf
    exact B144 (z_4) ls H_3 locs ⟨lv_sub hl [0, 1] rfl, hP, hD, hS⟩ hf
  · skip
    rw [if_pos c_59] at hf
    refine lv_aload_n hx hb dX18_addOne_129 rfl (lv_at hl 1 rfl) ?_
    obtain ⟨k_60, ek_60, hf⟩ := lnk_some hf
    refine va_get (D := (dC, dI)) (ci := 18) (v := .ref (a k_60)) (C := RX18) (T := TX18) (N := 78) hx hb hts iwd_X18_addOne_X18 hown hK hP h0 (Wd_ob kg_1 sg_1 (by decide)) rfl 18 (by decide) (hts _ md_X18_addOne_3) (fun _ h9 => h9) (fl_q rfl ek_60) dX18_addOne_130 ?_
    refine lv_aload_n hx hb dX18_addOne_133 rfl (lv_at hl 1 rfl) ?_
    obtain ⟨k_61, ek_61, hf⟩ := lnk_some hf
    refine va_get (D := (dC, dI)) (ci := 18) (v := .ref (a k_61)) (C := RX18) (T := TX18) (N := 78) hx hb hts iwd_X18_addOne_X18 hown hK hP h0 (Wd_ob kg_1 sg_1 (by decide)) rfl 13 (by decide) (hts _ md_X18_addOne_6) (fun _ h9 => h9) (fl_q rfl ek_61) dX18_addOne_134 ?_
    refine lv_iload_n hx hb dX18_addOne_137 rfl (lv_at hl 0 rfl) ?_
    obtain ⟨g_62, hf⟩ := grd_some hf
    obtain ⟨kg_62, sg_62, ig_62⟩ := okA_at g_62
    refine va_iald hx hb hK hP k_61 1 (Wd_ai kg_62 sg_62) rfl ig_62 dX18_addOne_138 ?_
    refine lv_i2l (v := ((z_4.1 k_61 v_2.toNatClampNeg) : Int32).toInt64) hx hb dX18_addOne_139 rfl ?_
    refine lv_iconst (v := 2) hx hb dX18_addOne_140 (by decide) ?_
    obtain ⟨g_64, hf⟩ := grd_some hf
    obtain ⟨kg_64, sg_64⟩ := okO_at g_64
    obtain ⟨z_63, _u, hfc, hf⟩ := cal_some hf
    have hFc := de_free hD hS hA
    refine va_callv (va_runV (As := [.long (((z_4.1 k_61 v_2.toNatClampNeg) : Int32).toInt64), .int 2]) (rest := []) ⟨hx, hb, hml, hown, hts⟩ (de_X12_addNumber l dC dI cy a sh n H_3.size F z_4 k_60 (((z_4.1 k_61 v_2.toNatClampNeg) : Int32).toInt64) 2 hfc) (cwV 2 hts gX18_addOne_X12_addNumber rfl rfl rfl (by decide +kernel) ⟨by show _ ≤ d + 1 + 2; (try dsimp only); omega, by show _ ≤ (d + 1) * 22 + 45; (try dsimp only); omega⟩) ⟨fun a U g mk q => by obtain ⟨q0, q1, qP, qK, qD, qN⟩ := q; exact ⟨q0, q1, qP, va_K.moved (u := U) (U := U.calling g mk a) (Vm.Alike.refl U.vm) qK, qD, qN.same rfl⟩, va_recv hK hP (ci := 12) (q0 := k_60) rfl (Wd_ob kg_64 sg_64 (by decide)), fun U hU hW => ⟨rfl, by rw [hU], by rw [hU]; exact hP, va_K.moved hW.alike hK, hD.weaken (fun _ _ _ _ => trivial), hN.warm hW⟩⟩ rfl rfl hl.1 rfl (lv_room (Nat.le_of_ble_eq_true rfl)) dX18_addOne_141 ⟨Nat.le_of_ble_eq_true rfl, Nat.le_of_ble_eq_true rfl⟩) hS (fun q _ h => hFc q h) hFc (fun u t H_65 locs ht hvm hw hB hz1 hk1 hS2 => ?_)
    obtain ⟨hP1, -, hD1⟩ := hB
    rw [ht] at hP1
    replace hD := hD1.weaken (fun _ _ _ h => hFc _ h)
    replace hP := hP1
    replace hS := hS2
    clear hP1 hD1 hS2 hFc hfc hz1 hk1 hvm ht
    exact B144 (z_63) ls H_65 locs ⟨lv_sub hl [0, 1] rfl, hP, hD, hS⟩ hf

theorem md_X12_end_1 : (.fieldLink RX12 13 "ResourceLedgerModel$Digester" "words" "[J" : Cond) ∈ wsX12_end := List.mem_of_getElem? (i := 1) rfl
theorem iwd_X12_end_X12 : ∀ w ∈ wsX120, w ∈ wsX12_end := fun _ h => List.mem_cons_of_mem _ (List.mem_append_right _ h)
theorem md_X12_end_2 : (.constantLong RX12 30 (1779033703) : Cond) ∈ wsX12_end := List.mem_of_getElem? (i := 2) rfl
theorem md_X12_end_3 : (.constantLong RX12 32 (3144134277) : Cond) ∈ wsX12_end := List.mem_of_getElem? (i := 3) rfl
theorem md_X12_end_4 : (.constantLong RX12 34 (1013904242) : Cond) ∈ wsX12_end := List.mem_of_getElem? (i := 4) rfl
theorem md_X12_end_5 : (.constantLong RX12 36 (2773480762) : Cond) ∈ wsX12_end := List.mem_of_getElem? (i := 5) rfl
theorem md_X12_end_6 : (.constantLong RX12 38 (1359893119) : Cond) ∈ wsX12_end := List.mem_of_getElem? (i := 6) rfl
theorem md_X12_end_7 : (.constantLong RX12 40 (2600822924) : Cond) ∈ wsX12_end := List.mem_of_getElem? (i := 7) rfl
theorem md_X12_end_8 : (.constantLong RX12 42 (528734635) : Cond) ∈ wsX12_end := List.mem_of_getElem? (i := 8) rfl
theorem md_X12_end_9 : (.constantLong RX12 44 (1541459225) : Cond) ∈ wsX12_end := List.mem_of_getElem? (i := 9) rfl
theorem md_X12_end_10 : (.fieldLink RX12 20 "ResourceLedgerModel$Digester" "size" "I" : Cond) ∈ wsX12_end := List.mem_of_getElem? (i := 10) rfl
theorem md_X12_end_11 : (.constantLong RX12 46 (8) : Cond) ∈ wsX12_end := List.mem_of_getElem? (i := 11) rfl
set_option maxHeartbeats 4000000 in
set_option maxRecDepth 100000 in
theorem de_X12_end (l : Launch) (dC : Nat → ClassId) (dI : Nat → Nat → Nat) (cy : Nat → ClassId) (a : Nat → Nat) (sh : Nat → Nat × Nat) (n sz : Nat) (F : Nat) (sk : Nat → Nat) (z : St) (h0 : Nat) {z8 : St} {r8 : Unit} (hf : fn_X12_end F sh n z h0 = some (z8, r8)) : Met l yX12_end wsX12_end ({ frames := 2, cells := 0, slots := 0, locals := 64 }) (va_Pc [.ref (a h0)] (fun U => U.heap.size = sz ∧ va_P (dC, dI) vwCl (Wd cy a sh n z) U.heap ∧ va_K (dC, dI) vwCl (TYS cy) U ∧ va_D (fun _ => True) (Wd cy a sh n z) ∧ NK U ∧ SKs sk (a CBK) (va_A (Wd cy a sh n z) sz) U U.heap)) (va_Qv (fun u : Unit => True) (fun u t => va_P (dC, dI) vwCl (Wd cy a sh n z8) t.heap ∧ va_K (dC, dI) vwCl (TYS cy) t ∧ va_D (va_A (Wd cy a sh n z) sz) (Wd cy a sh n z8)) (va_A (Wd cy a sh n z) sz)) 0 0 (va_A (Wd cy a sh n z) sz) := by
  refine Met.ofW (cc := cX12_end) (maxL := 3) (ret := none) (by decide) rfl ?_
  intro p e s m args below meth c s₁ B hml hv
  obtain ⟨rfl, hsz, hP, hK, hD0, hN, hSK⟩ := hv
  have hx := B.exec
  have hb := B.bytes
  have hr := B.returns
  have hts := atoms_spec (ws := wsX12_end) B.pre
  have hown : s.vm.findClass RX12 = some m.cls := findClass_of_methodNamed B.named
  have hlocks := B.notSynchronized
  subst hsz
  have hD := hD0.self (sz := s.heap.size)
  clear hD0
  generalize hAe : va_A (Wd cy a sh n z) s.heap.size = A at hD hSK ⊢
  have hA : ∀ q : Nat, s.heap.size ≤ q → A q := fun q h => by rw [← hAe]; exact Or.inr h
  clear hAe
  have hS : va_S A s.heap s.heap [] := va_S.rf
  have hl := lv_entry ([.ref (a h0)]) (n := 3) (Nat.le_of_ble_eq_true rfl)
  rw [lg_entry_eq]
  generalize (lg_sl ([.ref (a h0)]) ++ List.replicate (3 - (lg_sl ([.ref (a h0)])).length) Slot.unset).toArray = ls at hl ⊢
  replace hl : lv_has ls 3 [(0, .ref (a h0))] := hl
  unfold fn_X12_end at hf
  refine de_start hS hP (fun H locs hS hP => ?_)
  refine lv_aload_n hx hb dX12_end_0 rfl (lv_at hl 0 rfl) ?_
  obtain ⟨g_1, hf⟩ := grd_some hf
  obtain ⟨kg_1, sg_1⟩ := okO_at g_1
  obtain ⟨k_2, ek_2, hf⟩ := lnk_some hf
  refine va_get (D := (dC, dI)) (ci := 12) (v := .ref (a k_2)) (C := RX12) (T := TX12) (N := 4) hx hb hts iwd_X12_end_X12 hown hK hP h0 (Wd_ob kg_1 sg_1 (by decide)) rfl 2 (by decide) (hts _ md_X12_end_1) (fun _ h9 => h9) (fl_q rfl ek_2) dX12_end_1 ?_
  refine lv_iconst (v := 0) hx hb dX12_end_4 (by decide) ?_
  refine lv_ldc2 hx hb hown (hts _ md_X12_end_2) dX12_end_5 ?_
  obtain ⟨g_3, hf⟩ := grd_some hf
  obtain ⟨kg_3, sg_3, ig_3⟩ := okA_at g_3
  refine va_last hx hb hK hP hD hS k_2 2 (Wd_al kg_3 sg_3) rfl ig_3 dX12_end_8 (fun H_4 locs hP2 hD2 hS2 => ?_)
  rw [Wd_tl sg_3] at hP2 hD2
  obtain ⟨z_5, ez_5⟩ : ∃ w, w = sl z k_2 (0 : Int32).toNatClampNeg 1779033703 := ⟨_, rfl⟩
  rw [← ez_5] at hP2 hD2
  replace hf := lt_at ez_5 hf
  clear ez_5
  replace hP := hP2
  replace hD := hD2
  replace hS := hS2
  clear hP2 hD2 hS2
  refine lv_aload_n hx hb dX12_end_9 rfl (lv_at hl 0 rfl) ?_
  obtain ⟨k_6, ek_6, hf⟩ := lnk_some hf
  refine va_get (D := (dC, dI)) (ci := 12) (v := .ref (a k_6)) (C := RX12) (T := TX12) (N := 4) hx hb hts iwd_X12_end_X12 hown hK hP h0 (Wd_ob kg_1 sg_1 (by decide)) rfl 2 (by decide) (hts _ md_X12_end_1) (fun _ h9 => h9) (fl_q rfl ek_6) dX12_end_10 ?_
  refine lv_iconst (v := 1) hx hb dX12_end_13 (by decide) ?_
  refine lv_ldc2 hx hb hown (hts _ md_X12_end_3) dX12_end_14 ?_
  obtain ⟨g_7, hf⟩ := grd_some hf
  obtain ⟨kg_7, sg_7, ig_7⟩ := okA_at g_7
  refine va_last hx hb hK hP hD hS k_6 2 (Wd_al kg_7 sg_7) rfl ig_7 dX12_end_17 (fun H_8 locs hP2 hD2 hS2 => ?_)
  rw [Wd_tl sg_7] at hP2 hD2
  obtain ⟨z_9, ez_9⟩ : ∃ w, w = sl z_5 k_6 (1 : Int32).toNatClampNeg 3144134277 := ⟨_, rfl⟩
  rw [← ez_9] at hP2 hD2
  replace hf := lt_at ez_9 hf
  clear ez_9
  replace hP := hP2
  replace hD := hD2
  replace hS := hS2
  clear hP2 hD2 hS2
  refine lv_aload_n hx hb dX12_end_18 rfl (lv_at hl 0 rfl) ?_
  obtain ⟨k_10, ek_10, hf⟩ := lnk_some hf
  refine va_get (D := (dC, dI)) (ci := 12) (v := .ref (a k_10)) (C := RX12) (T := TX12) (N := 4) hx hb hts iwd_X12_end_X12 hown hK hP h0 (Wd_ob kg_1 sg_1 (by decide)) rfl 2 (by decide) (hts _ md_X12_end_1) (fun _ h9 => h9) (fl_q rfl ek_10) dX12_end_19 ?_
  refine lv_iconst (v := 2) hx hb dX12_end_22 (by decide) ?_
  refine lv_ldc2 hx hb hown (hts _ md_X12_end_4) dX12_end_23 ?_
  obtain ⟨g_11, hf⟩ := grd_some hf
  obtain ⟨kg_11, sg_11, ig_11⟩ := okA_at g_11
  refine va_last hx hb hK hP hD hS k_10 2 (Wd_al kg_11 sg_11) rfl ig_11 dX12_end_26 (fun H_12 locs hP2 hD2 hS2 => ?_)
  rw [Wd_tl sg_11] at hP2 hD2
  obtain ⟨z_13, ez_13⟩ : ∃ w, w = sl z_9 k_10 (2 : Int32).toNatClampNeg 1013904242 := ⟨_, rfl⟩
  rw [← ez_13] at hP2 hD2
  replace hf := lt_at ez_13 hf
  clear ez_13
  replace hP := hP2
  replace hD := hD2
  replace hS := hS2
  clear hP2 hD2 hS2
  refine lv_aload_n hx hb dX12_end_27 rfl (lv_at hl 0 rfl) ?_
  obtain ⟨k_14, ek_14, hf⟩ := lnk_some hf
  refine va_get (D := (dC, dI)) (ci := 12) (v := .ref (a k_14)) (C := RX12) (T := TX12) (N := 4) hx hb hts iwd_X12_end_X12 hown hK hP h0 (Wd_ob kg_1 sg_1 (by decide)) rfl 2 (by decide) (hts _ md_X12_end_1) (fun _ h9 => h9) (fl_q rfl ek_14) dX12_end_28 ?_
  refine lv_iconst (v := 3) hx hb dX12_end_31 (by decide) ?_
  refine lv_ldc2 hx hb hown (hts _ md_X12_end_5) dX12_end_32 ?_
  obtain ⟨g_15, hf⟩ := grd_some hf
  obtain ⟨kg_15, sg_15, ig_15⟩ := okA_at g_15
  refine va_last hx hb hK hP hD hS k_14 2 (Wd_al kg_15 sg_15) rfl ig_15 dX12_end_35 (fun H_16 locs hP2 hD2 hS2 => ?_)
  rw [Wd_tl sg_15] at hP2 hD2
  obtain ⟨z_17, ez_17⟩ : ∃ w, w = sl z_13 k_14 (3 : Int32).toNatClampNeg 2773480762 := ⟨_, rfl⟩
  rw [← ez_17] at hP2 hD2
  replace hf := lt_at ez_17 hf
  clear ez_17
  replace hP := hP2
  replace hD := hD2
  replace hS := hS2
  clear hP2 hD2 hS2
  refine lv_aload_n hx hb dX12_end_36 rfl (lv_at hl 0 rfl) ?_
  obtain ⟨k_18, ek_18, hf⟩ := lnk_some hf
  refine va_get (D := (dC, dI)) (ci := 12) (v := .ref (a k_18)) (C := RX12) (T := TX12) (N := 4) hx hb hts iwd_X12_end_X12 hown hK hP h0 (Wd_ob kg_1 sg_1 (by decide)) rfl 2 (by decide) (hts _ md_X12_end_1) (fun _ h9 => h9) (fl_q rfl ek_18) dX12_end_37 ?_
  refine lv_iconst (v := 4) hx hb dX12_end_40 (by decide) ?_
  refine lv_ldc2 hx hb hown (hts _ md_X12_end_6) dX12_end_41 ?_
  obtain ⟨g_19, hf⟩ := grd_some hf
  obtain ⟨kg_19, sg_19, ig_19⟩ := okA_at g_19
  refine va_last hx hb hK hP hD hS k_18 2 (Wd_al kg_19 sg_19) rfl ig_19 dX12_end_44 (fun H_20 locs hP2 hD2 hS2 => ?_)
  rw [Wd_tl sg_19] at hP2 hD2
  obtain ⟨z_21, ez_21⟩ : ∃ w, w = sl z_17 k_18 (4 : Int32).toNatClampNeg 1359893119 := ⟨_, rfl⟩
  rw [← ez_21] at hP2 hD2
  replace hf := lt_at ez_21 hf
  clear ez_21
  replace hP := hP2
  replace hD := hD2
  replace hS := hS2
  clear hP2 hD2 hS2
  refine lv_aload_n hx hb dX12_end_45 rfl (lv_at hl 0 rfl) ?_
  obtain ⟨k_22, ek_22, hf⟩ := lnk_some hf
  refine va_get (D := (dC, dI)) (ci := 12) (v := .ref (a k_22)) (C := RX12) (T := TX12) (N := 4) hx hb hts iwd_X12_end_X12 hown hK hP h0 (Wd_ob kg_1 sg_1 (by decide)) rfl 2 (by decide) (hts _ md_X12_end_1) (fun _ h9 => h9) (fl_q rfl ek_22) dX12_end_46 ?_
  refine lv_iconst (v := 5) hx hb dX12_end_49 (by decide) ?_
  refine lv_ldc2 hx hb hown (hts _ md_X12_end_7) dX12_end_50 ?_
  obtain ⟨g_23, hf⟩ := grd_some hf
  obtain ⟨kg_23, sg_23, ig_23⟩ := okA_at g_23
  refine va_last hx hb hK hP hD hS k_22 2 (Wd_al kg_23 sg_23) rfl ig_23 dX12_end_53 (fun H_24 locs hP2 hD2 hS2 => ?_)
  rw [Wd_tl sg_23] at hP2 hD2
  obtain ⟨z_25, ez_25⟩ : ∃ w, w = sl z_21 k_22 (5 : Int32).toNatClampNeg 2600822924 := ⟨_, rfl⟩
  rw [← ez_25] at hP2 hD2
  replace hf := lt_at ez_25 hf
  clear ez_25
  replace hP := hP2
  replace hD := hD2
  replace hS := hS2
  clear hP2 hD2 hS2
  refine lv_aload_n hx hb dX12_end_54 rfl (lv_at hl 0 rfl) ?_
  obtain ⟨k_26, ek_26, hf⟩ := lnk_some hf
  refine va_get (D := (dC, dI)) (ci := 12) (v := .ref (a k_26)) (C := RX12) (T := TX12) (N := 4) hx hb hts iwd_X12_end_X12 hown hK hP h0 (Wd_ob kg_1 sg_1 (by decide)) rfl 2 (by decide) (hts _ md_X12_end_1) (fun _ h9 => h9) (fl_q rfl ek_26) dX12_end_55 ?_
  refine lv_bipush (v := 6) hx hb dX12_end_58 (by decide) ?_
  refine lv_ldc2 hx hb hown (hts _ md_X12_end_8) dX12_end_60 ?_
  obtain ⟨g_27, hf⟩ := grd_some hf
  obtain ⟨kg_27, sg_27, ig_27⟩ := okA_at g_27
  refine va_last hx hb hK hP hD hS k_26 2 (Wd_al kg_27 sg_27) rfl ig_27 dX12_end_63 (fun H_28 locs hP2 hD2 hS2 => ?_)
  rw [Wd_tl sg_27] at hP2 hD2
  obtain ⟨z_29, ez_29⟩ : ∃ w, w = sl z_25 k_26 (6 : Int32).toNatClampNeg 528734635 := ⟨_, rfl⟩
  rw [← ez_29] at hP2 hD2
  replace hf := lt_at ez_29 hf
  clear ez_29
  replace hP := hP2
  replace hD := hD2
  replace hS := hS2
  clear hP2 hD2 hS2
  refine lv_aload_n hx hb dX12_end_64 rfl (lv_at hl 0 rfl) ?_
  obtain ⟨k_30, ek_30, hf⟩ := lnk_some hf
  refine va_get (D := (dC, dI)) (ci := 12) (v := .ref (a k_30)) (C := RX12) (T := TX12) (N := 4) hx hb hts iwd_X12_end_X12 hown hK hP h0 (Wd_ob kg_1 sg_1 (by decide)) rfl 2 (by decide) (hts _ md_X12_end_1) (fun _ h9 => h9) (fl_q rfl ek_30) dX12_end_65 ?_
  refine lv_bipush (v := 7) hx hb dX12_end_68 (by decide) ?_
  refine lv_ldc2 hx hb hown (hts _ md_X12_end_9) dX12_end_70 ?_
  obtain ⟨g_31, hf⟩ := grd_some hf
  obtain ⟨kg_31, sg_31, ig_31⟩ := okA_at g_31
  refine va_last hx hb hK hP hD hS k_30 2 (Wd_al kg_31 sg_31) rfl ig_31 dX12_end_73 (fun H_32 locs hP2 hD2 hS2 => ?_)
  rw [Wd_tl sg_31] at hP2 hD2
  obtain ⟨z_33, ez_33⟩ : ∃ w, w = sl z_29 k_30 (7 : Int32).toNatClampNeg 1541459225 := ⟨_, rfl⟩
  rw [← ez_33] at hP2 hD2
  replace hf := lt_at ez_33 hf
  clear ez_33
  replace hP := hP2
  replace hD := hD2
  replace hS := hS2
  clear hP2 hD2 hS2
  refine lv_aload_n hx hb dX12_end_74 rfl (lv_at hl 0 rfl) ?_
  refine va_get (D := (dC, dI)) (ci := 12) (v := .int (z_33.1 h0 1)) (C := RX12) (T := TX12) (N := 4) hx hb hts iwd_X12_end_X12 hown hK hP h0 (Wd_ob kg_1 sg_1 (by decide)) rfl 1 (by decide) (hts _ md_X12_end_10) (fun _ h9 => h9) (fl_at (t := 0) rfl) dX12_end_75 ?_
  refine lv_topi (fun v_34 ev_34 => ?_)
  replace hf := lt_at ev_34 hf
  clear ev_34
  refine lv_istore_n (lv' := [(1, .int v_34), (0, .ref (a h0))]) hx hb dX12_end_78 rfl hl (by decide) rfl (fun ls hl2 => ?_)
  replace hl := hl2
  clear hl2
  refine lv_aload_n hx hb dX12_end_79 rfl (lv_at hl 1 rfl) ?_
  refine lv_sipush (v := 128) hx hb dX12_end_80 (by decide) ?_
  obtain ⟨z_35, _u, hfc, hf⟩ := cal_some hf
  have hFc := de_free hD hS hA
  refine va_callv (va_runV (As := [.int 128]) (rest := []) ⟨hx, hb, hml, hown, hts⟩ (de_X12_add l dC dI cy a sh n H_32.size F z_33 h0 128 hfc) (cwV 1 hts gX12_end_X12_add rfl rfl rfl (by decide +kernel) ⟨Nat.le_of_ble_eq_true rfl, Nat.le_of_ble_eq_true rfl⟩) ⟨fun a U g mk q => by obtain ⟨q0, q1, qP, qK, qD, qN⟩ := q; exact ⟨q0, q1, qP, va_K.moved (u := U) (U := U.calling g mk a) (Vm.Alike.refl U.vm) qK, qD, qN.same rfl⟩, va_recv hK hP (ci := 12) (q0 := h0) rfl (Wd_ob kg_1 sg_1 (by decide)), fun U hU hW => ⟨rfl, by rw [hU], by rw [hU]; exact hP, va_K.moved hW.alike hK, hD.weaken (fun _ _ _ _ => trivial), hN.warm hW⟩⟩ rfl rfl hl.1 rfl (lv_room (Nat.le_of_ble_eq_true rfl)) dX12_end_83 ⟨Nat.le_of_ble_eq_true rfl, Nat.le_of_ble_eq_true rfl⟩) hS (fun q _ h => hFc q h) hFc (fun u t H_36 locs ht hvm hw hB hz1 hk1 hS2 => ?_)
  obtain ⟨hP1, -, hD1⟩ := hB
  rw [ht] at hP1
  replace hD := hD1.weaken (fun _ _ _ h => hFc _ h)
  replace hP := hP1
  replace hS := hS2
  clear hP1 hD1 hS2 hFc hfc hz1 hk1 hvm ht
  have hl0 : lv_has ls 3 [(1, .int v_34), (0, .ref (a h0))] := lv_sub hl [0, 1] rfl
  refine de_loop (h := 86) (fun (x : St) ls H locs => lv_has ls 3 [(1, .int v_34), (0, .ref (a h0))] ∧ va_P (dC, dI) vwCl (Wd cy a sh n x) H ∧ va_D A (Wd cy a sh n x) ∧ va_S A s.heap H locs) (fun f x => fn_X12_end_L86 F sh n h0 v_34 f x) (z8, r8) ?_ (fun _ => rfl) F (z_35) ls H_36 locs ⟨hl0, hP, hD, hS⟩ hf
  intro f_38 x ls H locs ih86 hI hf
  obtain ⟨z_37, ez⟩ : ∃ w, w = x := ⟨_, rfl⟩
  subst ez
  obtain ⟨hl2, hP2, hD2, hS2⟩ := hI
  replace hl : lv_has ls 3 [(1, .int v_34), (0, .ref (a h0))] := hl2
  replace hP := hP2
  replace hD := hD2
  replace hS := hS2
  clear hl2 hP2 hD2 hS2 hl0
  replace hf := fn_X12_end_L86_s hf
  refine lv_aload_n hx hb dX12_end_86 rfl (lv_at hl 1 rfl) ?_
  refine va_get (D := (dC, dI)) (ci := 12) (v := .int (z_37.1 h0 1)) (C := RX12) (T := TX12) (N := 4) hx hb hts iwd_X12_end_X12 hown hK hP h0 (Wd_ob kg_1 sg_1 (by decide)) rfl 1 (by decide) (hts _ md_X12_end_10) (fun _ h9 => h9) (fl_at (t := 0) rfl) dX12_end_87 ?_
  refine lv_bipush (v := 64) hx hb dX12_end_90 (by decide) ?_
  refine lv_irem hx hb dX12_end_92 (by decide) ?_
  refine lv_bipush (v := 56) hx hb dX12_end_93 (by decide) ?_
  refine lv_icmp_eq (tgt := 106) hx hb dX12_end_95 (by decide) (fun c_39 => ?_) (fun c_39 => ?_)
  · skip
    rw [if_pos c_39] at hf
    refine lv_aload_n hx hb dX12_end_106 rfl (lv_at hl 1 rfl) ?_
    refine lv_ldc2 hx hb hown (hts _ md_X12_end_11) dX12_end_107 ?_
    refine lv_iload_n hx hb dX12_end_110 rfl (lv_at hl 0 rfl) ?_
    refine lv_i2l (v := (v_34 : Int32).toInt64) hx hb dX12_end_111 rfl ?_
    refine lv_lmul hx hb dX12_end_112 ?_
    refine lv_bipush (v := 8) hx hb dX12_end_113 (by decide) ?_
    obtain ⟨z_40, _u, hfc, hf⟩ := cal_some hf
    have hFc := de_free hD hS hA
    refine va_callv (va_runV (As := [.long (8 * ((v_34 : Int32).toInt64)), .int 8]) (rest := []) ⟨hx, hb, hml, hown, hts⟩ (de_X12_addNumber l dC dI cy a sh n H.size F z_37 h0 (8 * ((v_34 : Int32).toInt64)) 8 hfc) (cwV 2 hts gX12_end_X12_addNumber rfl rfl rfl (by decide +kernel) ⟨Nat.le_of_ble_eq_true rfl, Nat.le_of_ble_eq_true rfl⟩) ⟨fun a U g mk q => by obtain ⟨q0, q1, qP, qK, qD, qN⟩ := q; exact ⟨q0, q1, qP, va_K.moved (u := U) (U := U.calling g mk a) (Vm.Alike.refl U.vm) qK, qD, qN.same rfl⟩, va_recv hK hP (ci := 12) (q0 := h0) rfl (Wd_ob kg_1 sg_1 (by decide)), fun U hU hW => ⟨rfl, by rw [hU], by rw [hU]; exact hP, va_K.moved hW.alike hK, hD.weaken (fun _ _ _ _ => trivial), hN.warm hW⟩⟩ rfl rfl hl.1 rfl (lv_room (Nat.le_of_ble_eq_true rfl)) dX12_end_115 ⟨Nat.le_of_ble_eq_true rfl, Nat.le_of_ble_eq_true rfl⟩) hS (fun q _ h => hFc q h) hFc (fun u t H_41 locs ht hvm hw hB hz1 hk1 hS2 => ?_)
    obtain ⟨hP1, -, hD1⟩ := hB
    rw [ht] at hP1
    replace hD := hD1.weaken (fun _ _ _ h => hFc _ h)
    replace hP := hP1
    replace hS := hS2
    clear hP1 hD1 hS2 hFc hfc hz1 hk1 hvm ht
    refine lv_iconst (v := 0) hx hb dX12_end_118 (by decide) ?_
    refine lv_istore_n (lv' := [(2, .int 0), (1, .int v_34), (0, .ref (a h0))]) hx hb dX12_end_119 rfl hl (by decide) rfl (fun ls hl2 => ?_)
    replace hl := hl2
    clear hl2
    have hl0 : lv_has ls 3 [(2, .int 0), (1, .int v_34), (0, .ref (a h0))] := lv_sub hl [0, 1, 2] rfl
    refine de_loop (h := 120) (fun (x : St × Int32) ls H locs => lv_has ls 3 [(2, .int x.2), (1, .int v_34), (0, .ref (a h0))] ∧ va_P (dC, dI) vwCl (Wd cy a sh n x.1) H ∧ va_D A (Wd cy a sh n x.1) ∧ va_S A s.heap H locs) (fun f x => fn_X12_end_L120 F sh n h0 v_34 f x.1 x.2) (z8, r8) ?_ (fun _ => rfl) F (z_40, 0) ls H_41 locs ⟨hl0, hP, hD, hS⟩ hf
    intro f_44 x ls H locs ih120 hI hf
    obtain ⟨z_43, p_42⟩ := x
    obtain ⟨hl2, hP2, hD2, hS2⟩ := hI
    replace hl : lv_has ls 3 [(2, .int p_42), (1, .int v_34), (0, .ref (a h0))] := hl2
    replace hP := hP2
    replace hD := hD2
    replace hS := hS2
    clear hl2 hP2 hD2 hS2 hl0
    replace hf := fn_X12_end_L120_s hf
    refine lv_iload_n hx hb dX12_end_120 rfl (lv_at hl 0 rfl) ?_
    refine lv_aload_n hx hb dX12_end_121 rfl (lv_at hl 2 rfl) ?_
    refine va_get (D := (dC, dI)) (ci := 12) (v := .int (z_43.1 h0 1)) (C := RX12) (T := TX12) (N := 4) hx hb hts iwd_X12_end_X12 hown hK hP h0 (Wd_ob kg_1 sg_1 (by decide)) rfl 1 (by decide) (hts _ md_X12_end_10) (fun _ h9 => h9) (fl_at (t := 0) rfl) dX12_end_122 ?_
    refine lv_icmp_ge (tgt := 139) hx hb dX12_end_125 (by decide) (fun c_45 => ?_) (fun c_45 => ?_)
    · skip
      rw [if_pos c_45] at hf
      refine lv_aload_n hx hb dX12_end_139 rfl (lv_at hl 2 rfl) ?_
      refine lv_iload_n hx hb dX12_end_140 rfl (lv_at hl 1 rfl) ?_
      refine va_put (D := (dC, dI)) (ci := 12) (v := .int v_34) (ty := .int) (C := RX12) (T := TX12) (N := 4) hx hb hts iwd_X12_end_X12 tyX12 tyX12_ok nmX12 hown hK hP hD hS h0 (Wd_ob kg_1 sg_1 (by decide)) rfl 1 (by decide) (hts _ md_X12_end_10) (fun _ h9 => h9) rfl (by decide +kernel) rfl rfl (by rw [fl_len]; decide) dX12_end_141 (fun H_46 locs hP2 hD2 hS2 => ?_)
      rw [Wd_si sg_1 (by decide) rfl] at hP2 hD2
      obtain ⟨z_47, ez_47⟩ : ∃ w, w = si z_43 h0 1 v_34 := ⟨_, rfl⟩
      rw [← ez_47] at hP2 hD2
      replace hf := lt_at ez_47 hf
      clear ez_47
      replace hP := hP2
      replace hD := hD2
      replace hS := hS2
      clear hP2 hD2 hS2
      obtain ⟨h8, h9⟩ := ret_some hf
      rw [h8]
      exact W.vret hx hb hr (fun t ht hW => ⟨⟨(), rfl, trivial, by rw [ht]; exact hP, va_K.moved hW.alike hK, hD⟩, hS.F ht⟩) hS.2.2 dX12_end_144
    · skip
      rw [if_neg c_45] at hf
      refine lv_aload_n hx hb dX12_end_128 rfl (lv_at hl 2 rfl) ?_
      refine lv_iload_n hx hb dX12_end_129 rfl (lv_at hl 0 rfl) ?_
      obtain ⟨z_48, _u, hfc, hf⟩ := cal_some hf
      have hFc := de_free hD hS hA
      refine va_callv (va_runV (As := [.int p_42]) (rest := []) ⟨hx, hb, hml, hown, hts⟩ (de_X12_block l dC dI cy a sh n H.size F sk z_43 h0 p_42 hfc) (cwV 1 hts gX12_end_X12_block rfl rfl rfl (by decide +kernel) ⟨Nat.le_of_ble_eq_true rfl, Nat.le_of_ble_eq_true rfl⟩) ⟨fun a U g mk q => by obtain ⟨q0, q1, qP, qK, qD, qN, qS⟩ := q; exact ⟨q0, q1, qP, va_K.moved (u := U) (U := U.calling g mk a) (Vm.Alike.refl U.vm) qK, qD, qN.same rfl, SKs.moved (u := U) (U := U.calling g mk a) (Vm.Alike.refl U.vm) qS⟩, va_recv hK hP (ci := 12) (q0 := h0) rfl (Wd_ob kg_1 sg_1 (by decide)), fun U hU hW => ⟨rfl, by rw [hU], by rw [hU]; exact hP, va_K.moved hW.alike hK, hD.weaken (fun _ _ _ _ => trivial), hN.warm hW, by rw [hU]; exact ((hSK.kept hS.2.1).narrow hFc).moved hW.alike⟩⟩ rfl rfl hl.1 rfl (lv_room (Nat.le_of_ble_eq_true rfl)) dX12_end_130 ⟨Nat.le_of_ble_eq_true rfl, Nat.le_of_ble_eq_true rfl⟩) hS (fun q _ h => hFc q h) hFc (fun u t H_49 locs ht hvm hw hB hz1 hk1 hS2 => ?_)
      obtain ⟨hP1, -, hD1⟩ := hB
      rw [ht] at hP1
      replace hD := hD1.weaken (fun _ _ _ h => hFc _ h)
      replace hP := hP1
      replace hS := hS2
      clear hP1 hD1 hS2 hFc hfc hz1 hk1 hvm ht
      refine lv_iinc (v := (p_42 + 64)) (lv' := [(2, .int (p_42 + 64)), (1, .int v_34), (0, .ref (a h0))]) hx hb dX12_end_133 hl (k := 0) rfl rfl (by decide) rfl (fun ls hl2 => ?_)
      replace hl := hl2
      clear hl2
      refine lv_goto (tgt := 120) hx hb dX12_end_136 (by decide) ?_
      exact ih120 (z_48, (p_42 + 64)) ls H_49 locs ⟨lv_sub hl [0, 1, 2] rfl, hP, hD, hS⟩ hf
  · skip
    rw [if_neg c_39] at hf
    refine lv_aload_n hx hb dX12_end_98 rfl (lv_at hl 1 rfl) ?_
    refine lv_iconst (v := 0) hx hb dX12_end_99 (by decide) ?_
    obtain ⟨z_50, _u, hfc, hf⟩ := cal_some hf
    have hFc := de_free hD hS hA
    refine va_callv (va_runV (As := [.int 0]) (rest := []) ⟨hx, hb, hml, hown, hts⟩ (de_X12_add l dC dI cy a sh n H.size F z_37 h0 0 hfc) (cwV 1 hts gX12_end_X12_add rfl rfl rfl (by decide +kernel) ⟨Nat.le_of_ble_eq_true rfl, Nat.le_of_ble_eq_true rfl⟩) ⟨fun a U g mk q => by obtain ⟨q0, q1, qP, qK, qD, qN⟩ := q; exact ⟨q0, q1, qP, va_K.moved (u := U) (U := U.calling g mk a) (Vm.Alike.refl U.vm) qK, qD, qN.same rfl⟩, va_recv hK hP (ci := 12) (q0 := h0) rfl (Wd_ob kg_1 sg_1 (by decide)), fun U hU hW => ⟨rfl, by rw [hU], by rw [hU]; exact hP, va_K.moved hW.alike hK, hD.weaken (fun _ _ _ _ => trivial), hN.warm hW⟩⟩ rfl rfl hl.1 rfl (lv_room (Nat.le_of_ble_eq_true rfl)) dX12_end_100 ⟨Nat.le_of_ble_eq_true rfl, Nat.le_of_ble_eq_true rfl⟩) hS (fun q _ h => hFc q h) hFc (fun u t H_51 locs ht hvm hw hB hz1 hk1 hS2 => ?_)
    obtain ⟨hP1, -, hD1⟩ := hB
    rw [ht] at hP1
    replace hD := hD1.weaken (fun _ _ _ h => hFc _ h)
    replace hP := hP1
    replace hS := hS2
    clear hP1 hD1 hS2 hFc hfc hz1 hk1 hvm ht
    refine lv_goto (tgt := 86) hx hb dX12_end_103 (by decide) ?_
    exact ih86 (z_50) ls H_51 locs ⟨lv_sub hl [0, 1] rfl, hP, hD, hS⟩ hf

theorem md_X5_measure_1 : (.fieldLink RX5 52 "ResourceLedger$Program" "allStructures" "I" : Cond) ∈ wsX5_measure := List.mem_of_getElem? (i := 1) rfl
theorem iwd_X5_measure_X5 : ∀ w ∈ wsX50, w ∈ wsX5_measure := fun _ h => List.mem_cons_of_mem _ (List.mem_append_left _ (List.mem_append_right _ h))
theorem md_X5_measure_2 : (.fieldLink RX5 99 "ResourceLedger$Program" "ownStructures" "I" : Cond) ∈ wsX5_measure := List.mem_of_getElem? (i := 2) rfl
theorem md_X5_measure_3 : (.methodLink RX5 138 Lib.Math.max.name : Cond) ∈ wsX5_measure := List.mem_of_getElem? (i := 3) rfl
theorem md_X5_measure_4 : (.static Lib.Math.max.name : Cond) ∈ wsX5_measure := List.mem_of_getElem? (i := 4) rfl
theorem md_X5_measure_5 : (.initialized "java/lang/Math" : Cond) ∈ wsX5_measure := List.mem_of_getElem? (i := 5) rfl
theorem md_X5_measure_6 : (.code Lib.Math.max.name Lib.Math.max.code 2 (some .int) : Cond) ∈ wsX5_measure := List.mem_of_getElem? (i := 6) rfl
set_option maxHeartbeats 4000000 in
set_option maxRecDepth 100000 in
theorem de_X5_measure (l : Launch) (dC : Nat → ClassId) (dI : Nat → Nat → Nat) (cy : Nat → ClassId) (a : Nat → Nat) (sh : Nat → Nat × Nat) (n sz : Nat) (F : Nat) (z : St) (h0 : Nat) (x0 : Nat) {z8 : St} {r8 : Unit} (hf : fn_X5_measure F sh n z h0 x0 = some (z8, r8)) : Met l yX5_measure wsX5_measure ({ frames := 2, cells := 0, slots := 0, locals := 46 }) (va_Pc [.ref (a h0), .ref (a x0)] (fun U => U.heap.size = sz ∧ va_P (dC, dI) vwCl (Wd cy a sh n z) U.heap ∧ va_K (dC, dI) vwCl (TYS cy) U ∧ va_D (fun _ => True) (Wd cy a sh n z) ∧ NK U)) (va_Qv (fun u : Unit => True) (fun u t => va_P (dC, dI) vwCl (Wd cy a sh n z8) t.heap ∧ va_K (dC, dI) vwCl (TYS cy) t ∧ va_D (va_A (Wd cy a sh n z) sz) (Wd cy a sh n z8)) (va_A (Wd cy a sh n z) sz)) 0 0 (va_A (Wd cy a sh n z) sz) := by
  refine Met.ofW (cc := cX5_measure) (maxL := 6) (ret := none) (by decide) rfl ?_
  intro p e s m args below meth c s₁ B hml hv
  obtain ⟨rfl, hsz, hP, hK, hD0, hN⟩ := hv
  have hx := B.exec
  have hb := B.bytes
  have hr := B.returns
  have hts := atoms_spec (ws := wsX5_measure) B.pre
  have hown : s.vm.findClass RX5 = some m.cls := findClass_of_methodNamed B.named
  have hlocks := B.notSynchronized
  subst hsz
  have hD := hD0.self (sz := s.heap.size)
  clear hD0
  generalize hAe : va_A (Wd cy a sh n z) s.heap.size = A at hD ⊢
  have hA : ∀ q : Nat, s.heap.size ≤ q → A q := fun q h => by rw [← hAe]; exact Or.inr h
  clear hAe
  have hS : va_S A s.heap s.heap [] := va_S.rf
  have hl := lv_entry ([.ref (a h0), .ref (a x0)]) (n := 6) (Nat.le_of_ble_eq_true rfl)
  rw [lg_entry_eq]
  generalize (lg_sl ([.ref (a h0), .ref (a x0)]) ++ List.replicate (6 - (lg_sl ([.ref (a h0), .ref (a x0)])).length) Slot.unset).toArray = ls at hl ⊢
  replace hl : lv_has ls 6 [(0, .ref (a h0)), (1, .ref (a x0))] := hl
  unfold fn_X5_measure at hf
  refine de_start hS hP (fun H locs hS hP => ?_)
  refine lv_iconst (v := 0) hx hb dX5_measure_0 (by decide) ?_
  refine lv_istore_n (lv' := [(2, .int 0), (0, .ref (a h0)), (1, .ref (a x0))]) hx hb dX5_measure_1 rfl hl (by decide) rfl (fun ls hl2 => ?_)
  replace hl := hl2
  clear hl2
  have hl0 : lv_has ls 6 [(2, .int 0), (0, .ref (a h0)), (1, .ref (a x0))] := lv_sub hl [0, 1, 2] rfl
  refine de_loop (h := 2) (fun (x : St × Int32) ls H locs => lv_has ls 6 [(2, .int x.2), (0, .ref (a h0)), (1, .ref (a x0))] ∧ va_P (dC, dI) vwCl (Wd cy a sh n x.1) H ∧ va_D A (Wd cy a sh n x.1) ∧ va_S A s.heap H locs) (fun f x => fn_X5_measure_L2 F sh n h0 x0 f x.1 x.2) (z8, r8) ?_ (fun _ => rfl) F (z, 0) ls H locs ⟨hl0, hP, hD, hS⟩ hf
  intro f_3 x ls H locs ih2 hI hf
  obtain ⟨z_2, p_1⟩ := x
  obtain ⟨hl2, hP2, hD2, hS2⟩ := hI
  replace hl : lv_has ls 6 [(2, .int p_1), (0, .ref (a h0)), (1, .ref (a x0))] := hl2
  replace hP := hP2
  replace hD := hD2
  replace hS := hS2
  clear hl2 hP2 hD2 hS2 hl0
  replace hf := fn_X5_measure_L2_s hf
  refine lv_iload_n hx hb dX5_measure_2 rfl (lv_at hl 0 rfl) ?_
  refine lv_aload_n hx hb dX5_measure_3 rfl (lv_at hl 1 rfl) ?_
  obtain ⟨g_4, hf⟩ := grd_some hf
  obtain ⟨kg_4, sg_4⟩ := okO_at g_4
  refine va_get (D := (dC, dI)) (ci := 5) (v := .int (z_2.1 h0 9)) (C := RX5) (T := TX5) (N := 15) hx hb hts iwd_X5_measure_X5 hown hK hP h0 (Wd_ob kg_4 sg_4 (by decide)) rfl 9 (by decide) (hts _ md_X5_measure_1) (fun _ h9 => h9) (fl_at (t := 0) rfl) dX5_measure_4 ?_
  refine lv_icmp_ge (tgt := 66) hx hb dX5_measure_7 (by decide) (fun c_5 => ?_) (fun c_5 => ?_)
  · skip
    rw [if_pos c_5] at hf
    refine lv_iconst (v := 0) hx hb dX5_measure_66 (by decide) ?_
    refine lv_istore_n (lv' := [(2, .int 0), (0, .ref (a h0)), (1, .ref (a x0))]) hx hb dX5_measure_67 rfl hl (by decide) rfl (fun ls hl2 => ?_)
    replace hl := hl2
    clear hl2
    have hl0 : lv_has ls 6 [(2, .int 0), (0, .ref (a h0))] := lv_sub hl [0, 1] rfl
    refine de_loop (h := 68) (fun (x : St × Int32) ls H locs => lv_has ls 6 [(2, .int x.2), (0, .ref (a h0))] ∧ va_P (dC, dI) vwCl (Wd cy a sh n x.1) H ∧ va_D A (Wd cy a sh n x.1) ∧ va_S A s.heap H locs) (fun f x => fn_X5_measure_L68 F sh n h0 f x.1 x.2) (z8, r8) ?_ (fun _ => rfl) F (z_2, 0) ls H locs ⟨hl0, hP, hD, hS⟩ hf
    intro f_8 x ls H locs ih68 hI hf
    obtain ⟨z_7, p_6⟩ := x
    obtain ⟨hl2, hP2, hD2, hS2⟩ := hI
    replace hl : lv_has ls 6 [(2, .int p_6), (0, .ref (a h0))] := hl2
    replace hP := hP2
    replace hD := hD2
    replace hS := hS2
    clear hl2 hP2 hD2 hS2 hl0
    replace hf := fn_X5_measure_L68_s hf
    refine lv_iload_n hx hb dX5_measure_68 rfl (lv_at hl 0 rfl) ?_
    refine lv_aload_n hx hb dX5_measure_69 rfl (lv_at hl 1 rfl) ?_
    refine va_get (D := (dC, dI)) (ci := 5) (v := .int (z_7.1 h0 8)) (C := RX5) (T := TX5) (N := 15) hx hb hts iwd_X5_measure_X5 hown hK hP h0 (Wd_ob kg_4 sg_4 (by decide)) rfl 8 (by decide) (hts _ md_X5_measure_2) (fun _ h9 => h9) (fl_at (t := 0) rfl) dX5_measure_70 ?_
    refine lv_icmp_ge (tgt := 149) hx hb dX5_measure_73 (by decide) (fun c_9 => ?_) (fun c_9 => ?_)
    · skip
      rw [if_pos c_9] at hf
      obtain ⟨h8, h9⟩ := ret_some hf
      rw [h8]
      exact W.vret hx hb hr (fun t ht hW => ⟨⟨(), rfl, trivial, by rw [ht]; exact hP, va_K.moved hW.alike hK, hD⟩, hS.F ht⟩) hS.2.2 dX5_measure_149
    · skip
      rw [if_neg c_9] at hf
      refine lv_iconst (v := 0) hx hb dX5_measure_76 (by decide) ?_
      refine lv_istore_n (lv' := [(3, .int 0), (2, .int p_6), (0, .ref (a h0))]) hx hb dX5_measure_77 rfl hl (by decide) rfl (fun ls hl2 => ?_)
      replace hl := hl2
      clear hl2
      have hl0 : lv_has ls 6 [(3, .int 0), (2, .int p_6), (0, .ref (a h0))] := lv_sub hl [0, 1, 2] rfl
      refine de_loop (h := 78) (fun (x : St × Int32) ls H locs => lv_has ls 6 [(3, .int x.2), (2, .int p_6), (0, .ref (a h0))] ∧ va_P (dC, dI) vwCl (Wd cy a sh n x.1) H ∧ va_D A (Wd cy a sh n x.1) ∧ va_S A s.heap H locs) (fun f x => fn_X5_measure_L78 F sh n h0 p_6 (fun z9 q2 => fn_X5_measure_L68 F sh n h0 f_8 z9 q2) f x.1 x.2) (z8, r8) ?_ (fun _ => rfl) F (z_7, 0) ls H locs ⟨hl0, hP, hD, hS⟩ hf
      intro f_12 x ls H locs ih78 hI hf
      obtain ⟨z_11, p_10⟩ := x
      obtain ⟨hl2, hP2, hD2, hS2⟩ := hI
      replace hl : lv_has ls 6 [(3, .int p_10), (2, .int p_6), (0, .ref (a h0))] := hl2
      replace hP := hP2
      replace hD := hD2
      replace hS := hS2
      clear hl2 hP2 hD2 hS2 hl0
      replace hf := fn_X5_measure_L78_s hf
      refine lv_iload_n hx hb dX5_measure_78 rfl (lv_at hl 0 rfl) ?_
      refine lv_aload_n hx hb dX5_measure_79 rfl (lv_at hl 2 rfl) ?_
      refine va_get (D := (dC, dI)) (ci := 5) (v := .int (z_11.1 h0 8)) (C := RX5) (T := TX5) (N := 15) hx hb hts iwd_X5_measure_X5 hown hK hP h0 (Wd_ob kg_4 sg_4 (by decide)) rfl 8 (by decide) (hts _ md_X5_measure_2) (fun _ h9 => h9) (fl_at (t := 0) rfl) dX5_measure_80 ?_
      refine lv_icmp_ge (tgt := 143) hx hb dX5_measure_83 (by decide) (fun c_13 => ?_) (fun c_13 => ?_)
      · skip
        rw [if_pos c_13] at hf
        refine lv_iinc (v := (p_6 + 1)) (lv' := [(2, .int (p_6 + 1)), (3, .int p_10), (0, .ref (a h0))]) hx hb dX5_measure_143 hl (k := 1) rfl rfl (by decide) rfl (fun ls hl2 => ?_)
        replace hl := hl2
        clear hl2
        refine lv_goto (tgt := 68) hx hb dX5_measure_146 (by decide) ?_
        exact ih68 (z_11, (p_6 + 1)) ls H locs ⟨lv_sub hl [0, 2] rfl, hP, hD, hS⟩ hf
      · skip
        rw [if_neg c_13] at hf
        refine lv_iconst (v := 0) hx hb dX5_measure_86 (by decide) ?_
        refine lv_istore (lv' := [(4, .int 0), (3, .int p_10), (2, .int p_6), (0, .ref (a h0))]) hx hb dX5_measure_87 hl (by decide) rfl (fun ls hl2 => ?_)
        replace hl := hl2
        clear hl2
        refine lv_iconst (v := 0) hx hb dX5_measure_89 (by decide) ?_
        refine lv_istore (lv' := [(5, .int 0), (4, .int 0), (3, .int p_10), (2, .int p_6), (0, .ref (a h0))]) hx hb dX5_measure_90 hl (by decide) rfl (fun ls hl2 => ?_)
        replace hl := hl2
        clear hl2
        have hl0 : lv_has ls 6 [(5, .int 0), (4, .int 0), (3, .int p_10), (2, .int p_6), (0, .ref (a h0))] := lv_sub hl [0, 1, 2, 3, 4] rfl
        refine de_loop (h := 92) (fun (x : St × Int32 × Int32) ls H locs => lv_has ls 6 [(5, .int x.2.2), (4, .int x.2.1), (3, .int p_10), (2, .int p_6), (0, .ref (a h0))] ∧ va_P (dC, dI) vwCl (Wd cy a sh n x.1) H ∧ va_D A (Wd cy a sh n x.1) ∧ va_S A s.heap H locs) (fun f x => fn_X5_measure_L92 F sh n h0 p_10 (fun z9 q3 => fn_X5_measure_L78 F sh n h0 p_6 (fun z9 q2 => fn_X5_measure_L68 F sh n h0 f_8 z9 q2) f_12 z9 q3) f x.1 x.2.1 x.2.2) (z8, r8) ?_ (fun _ => rfl) F (z_11, 0, 0) ls H locs ⟨hl0, hP, hD, hS⟩ hf
        intro f_17 x ls H locs ih92 hI hf
        obtain ⟨z_16, p_14, p_15⟩ := x
        obtain ⟨hl2, hP2, hD2, hS2⟩ := hI
        replace hl : lv_has ls 6 [(5, .int p_15), (4, .int p_14), (3, .int p_10), (2, .int p_6), (0, .ref (a h0))] := hl2
        replace hP := hP2
        replace hD := hD2
        replace hS := hS2
        clear hl2 hP2 hD2 hS2 hl0
        replace hf := fn_X5_measure_L92_s hf
        refine lv_iload hx hb dX5_measure_92 (lv_at hl 0 rfl) ?_
        refine lv_aload_n hx hb dX5_measure_94 rfl (lv_at hl 4 rfl) ?_
        refine lv_iload_n hx hb dX5_measure_95 rfl (lv_at hl 2 rfl) ?_
        obtain ⟨z_18, r_19, hfc, hf⟩ := cal_some hf
        have hFc := de_free hD hS hA
        refine va_calli (va_runV (As := [.int p_10]) (rest := [.int p_15]) ⟨hx, hb, hml, hown, hts⟩ (de_X5_fieldCount l dC dI cy a sh n H.size F z_16 h0 p_10 hfc) (cwV 1 hts gX5_measure_X5_fieldCount rfl rfl rfl (by decide +kernel) ⟨Nat.le_of_ble_eq_true rfl, Nat.le_of_ble_eq_true rfl⟩) ⟨fun a U g mk q => by obtain ⟨q0, q1, qP, qK, qD, qN⟩ := q; exact ⟨q0, q1, qP, va_K.moved (u := U) (U := U.calling g mk a) (Vm.Alike.refl U.vm) qK, qD, qN.same rfl⟩, va_recv hK hP (ci := 5) (q0 := h0) rfl (Wd_ob kg_4 sg_4 (by decide)), fun U hU hW => ⟨rfl, by rw [hU], by rw [hU]; exact hP, va_K.moved hW.alike hK, hD.weaken (fun _ _ _ _ => trivial), hN.warm hW⟩⟩ rfl rfl hl.1 rfl (lv_room (Nat.le_of_ble_eq_true rfl)) dX5_measure_96 ⟨Nat.le_of_ble_eq_true rfl, Nat.le_of_ble_eq_true rfl⟩) hS (fun q _ h => hFc q h) hFc (fun rr u t H_20 locs ht hvm hw hB hz1 hk1 hS2 => ?_)
        rw [hw]
        clear hw
        obtain ⟨hP1, -, hD1⟩ := hB
        rw [ht] at hP1
        replace hD := hD1.weaken (fun _ _ _ h => hFc _ h)
        replace hP := hP1
        replace hS := hS2
        clear hP1 hD1 hS2 hFc hfc hz1 hk1 hvm ht
        refine lv_icmp_ge (tgt := 126) hx hb dX5_measure_99 (by decide) (fun c_21 => ?_) (fun c_21 => ?_)
        · skip
          rw [if_pos c_21] at hf
          refine lv_aload_n hx hb dX5_measure_126 rfl (lv_at hl 4 rfl) ?_
          refine lv_iload_n hx hb dX5_measure_127 rfl (lv_at hl 2 rfl) ?_
          refine lv_bipush (v := 6) hx hb dX5_measure_128 (by decide) ?_
          refine lv_iload hx hb dX5_measure_130 (lv_at hl 1 rfl) ?_
          refine lv_iconst (v := 1) hx hb dX5_measure_132 (by decide) ?_
          refine lv_iadd hx hb dX5_measure_133 ?_
          obtain ⟨z_22, _u, hfc, hf⟩ := cal_some hf
          have hFc := de_free hD hS hA
          refine va_callv (va_runV (As := [.int p_10, .int 6, .int (p_14 + 1)]) (rest := []) ⟨hx, hb, hml, hown, hts⟩ (de_X5_setStructure l dC dI cy a sh n H_20.size F z_18 h0 p_10 6 (p_14 + 1) hfc) (cwV 3 hts gX5_measure_X5_setStructure rfl rfl rfl (by decide +kernel) ⟨Nat.le_of_ble_eq_true rfl, Nat.le_of_ble_eq_true rfl⟩) ⟨fun a U g mk q => by obtain ⟨q0, q1, qP, qK, qD, qN⟩ := q; exact ⟨q0, q1, qP, va_K.moved (u := U) (U := U.calling g mk a) (Vm.Alike.refl U.vm) qK, qD, qN.same rfl⟩, va_recv hK hP (ci := 5) (q0 := h0) rfl (Wd_ob kg_4 sg_4 (by decide)), fun U hU hW => ⟨rfl, by rw [hU], by rw [hU]; exact hP, va_K.moved hW.alike hK, hD.weaken (fun _ _ _ _ => trivial), hN.warm hW⟩⟩ rfl rfl hl.1 rfl (lv_room (Nat.le_of_ble_eq_true rfl)) dX5_measure_134 ⟨Nat.le_of_ble_eq_true rfl, Nat.le_of_ble_eq_true rfl⟩) hS (fun q _ h => hFc q h) hFc (fun u t H_23 locs ht hvm hw hB hz1 hk1 hS2 => ?_)
          obtain ⟨hP1, -, hD1⟩ := hB
          rw [ht] at hP1
          replace hD := hD1.weaken (fun _ _ _ h => hFc _ h)
          replace hP := hP1
          replace hS := hS2
          clear hP1 hD1 hS2 hFc hfc hz1 hk1 hvm ht
          refine lv_iinc (v := (p_10 + 1)) (lv' := [(3, .int (p_10 + 1)), (5, .int p_15), (4, .int p_14), (2, .int p_6), (0, .ref (a h0))]) hx hb dX5_measure_137 hl (k := 2) rfl rfl (by decide) rfl (fun ls hl2 => ?_)
          replace hl := hl2
          clear hl2
          refine lv_goto (tgt := 78) hx hb dX5_measure_140 (by decide) ?_
          exact ih78 (z_22, (p_10 + 1)) ls H_23 locs ⟨lv_sub hl [0, 3, 4] rfl, hP, hD, hS⟩ hf
        · skip
          rw [if_neg c_21] at hf
          refine lv_iload hx hb dX5_measure_102 (lv_at hl 1 rfl) ?_
          refine lv_aload_n hx hb dX5_measure_104 rfl (lv_at hl 4 rfl) ?_
          refine lv_aload_n hx hb dX5_measure_105 rfl (lv_at hl 4 rfl) ?_
          refine lv_iload_n hx hb dX5_measure_106 rfl (lv_at hl 2 rfl) ?_
          refine lv_iload hx hb dX5_measure_107 (lv_at hl 0 rfl) ?_
          obtain ⟨z_24, r_25, hfc, hf⟩ := cal_some hf
          have hFc := de_free hD hS hA
          refine va_calll (va_runV (As := [.int p_10, .int p_15]) (rest := [.ref (a h0), .int p_14]) ⟨hx, hb, hml, hown, hts⟩ (de_X5_fieldType l dC dI cy a sh n H_20.size F z_18 h0 p_10 p_15 hfc) (cwV 2 hts gX5_measure_X5_fieldType rfl rfl rfl (by decide +kernel) ⟨Nat.le_of_ble_eq_true rfl, Nat.le_of_ble_eq_true rfl⟩) ⟨fun a U g mk q => by obtain ⟨q0, q1, qP, qK, qD, qN⟩ := q; exact ⟨q0, q1, qP, va_K.moved (u := U) (U := U.calling g mk a) (Vm.Alike.refl U.vm) qK, qD, qN.same rfl⟩, va_recv hK hP (ci := 5) (q0 := h0) rfl (Wd_ob kg_4 sg_4 (by decide)), fun U hU hW => ⟨rfl, by rw [hU], by rw [hU]; exact hP, va_K.moved hW.alike hK, hD.weaken (fun _ _ _ _ => trivial), hN.warm hW⟩⟩ rfl rfl hl.1 rfl (lv_room (Nat.le_of_ble_eq_true rfl)) dX5_measure_109 ⟨Nat.le_of_ble_eq_true rfl, Nat.le_of_ble_eq_true rfl⟩) hS (fun q _ h => hFc q h) hFc (fun rr u t H_26 locs ht hvm hw hB hz1 hk1 hS2 => ?_)
          rw [hw]
          clear hw
          obtain ⟨hP1, -, hD1⟩ := hB
          rw [ht] at hP1
          replace hD := hD1.weaken (fun _ _ _ h => hFc _ h)
          replace hP := hP1
          replace hS := hS2
          clear hP1 hD1 hS2 hFc hfc hz1 hk1 hvm ht
          obtain ⟨z_27, r_28, hfc, hf⟩ := cal_some hf
          have hFc := de_free hD hS hA
          refine va_calli (va_runV (As := [.long r_25]) (rest := [.int p_14]) ⟨hx, hb, hml, hown, hts⟩ (de_X5_depthOf l dC dI cy a sh n H_26.size F z_24 h0 r_25 hfc) (cwV 1 hts gX5_measure_X5_depthOf rfl rfl rfl (by decide +kernel) ⟨Nat.le_of_ble_eq_true rfl, Nat.le_of_ble_eq_true rfl⟩) ⟨fun a U g mk q => by obtain ⟨q0, q1, qP, qK, qD, qN⟩ := q; exact ⟨q0, q1, qP, va_K.moved (u := U) (U := U.calling g mk a) (Vm.Alike.refl U.vm) qK, qD, qN.same rfl⟩, va_recv hK hP (ci := 5) (q0 := h0) rfl (Wd_ob kg_4 sg_4 (by decide)), fun U hU hW => ⟨rfl, by rw [hU], by rw [hU]; exact hP, va_K.moved hW.alike hK, hD.weaken (fun _ _ _ _ => trivial), hN.warm hW⟩⟩ rfl rfl hl.1 rfl (lv_room (Nat.le_of_ble_eq_true rfl)) dX5_measure_112 ⟨Nat.le_of_ble_eq_true rfl, Nat.le_of_ble_eq_true rfl⟩) hS (fun q _ h => hFc q h) hFc (fun rr u t H_29 locs ht hvm hw hB hz1 hk1 hS2 => ?_)
          rw [hw]
          clear hw
          obtain ⟨hP1, -, hD1⟩ := hB
          rw [ht] at hP1
          replace hD := hD1.weaken (fun _ _ _ h => hFc _ h)
          replace hP := hP1
          replace hS := hS2
          clear hP1 hD1 hS2 hFc hfc hz1 hk1 hvm ht
          refine va_mmax hx hb (hml.trans hl.1.symm) hown (hts _ md_X5_measure_3) (hts _ md_X5_measure_4) (hts _ md_X5_measure_5) (hts _ md_X5_measure_6) (Nat.le_of_ble_eq_true rfl) (Nat.le_of_ble_eq_true rfl) (Nat.le_of_ble_eq_true rfl) (Nat.le_of_ble_eq_true rfl) dX5_measure_115 ?_
          refine lv_topi (fun v_30 ev_30 => ?_)
          replace hf := lt_at ev_30 hf
          clear ev_30
          refine lv_istore (lv' := [(4, .int v_30), (5, .int p_15), (3, .int p_10), (2, .int p_6), (0, .ref (a h0))]) hx hb dX5_measure_118 hl (by decide) rfl (fun ls hl2 => ?_)
          replace hl := hl2
          clear hl2
          refine lv_iinc (v := (p_15 + 1)) (lv' := [(5, .int (p_15 + 1)), (4, .int v_30), (3, .int p_10), (2, .int p_6), (0, .ref (a h0))]) hx hb dX5_measure_120 hl (k := 1) rfl rfl (by decide) rfl (fun ls hl2 => ?_)
          replace hl := hl2
          clear hl2
          refine lv_goto (tgt := 92) hx hb dX5_measure_123 (by decide) ?_
          exact ih92 (z_27, v_30, (p_15 + 1)) ls H_29 locs ⟨lv_sub hl [0, 1, 2, 3, 4] rfl, hP, hD, hS⟩ hf
  · skip
    rw [if_neg c_5] at hf
    refine lv_iload_n hx hb dX5_measure_10 rfl (lv_at hl 0 rfl) ?_
    refine lv_aload_n hx hb dX5_measure_11 rfl (lv_at hl 1 rfl) ?_
    refine va_get (D := (dC, dI)) (ci := 5) (v := .int (z_2.1 h0 8)) (C := RX5) (T := TX5) (N := 15) hx hb hts iwd_X5_measure_X5 hown hK hP h0 (Wd_ob kg_4 sg_4 (by decide)) rfl 8 (by decide) (hts _ md_X5_measure_2) (fun _ h9 => h9) (fl_at (t := 0) rfl) dX5_measure_12 ?_
    refine lv_icmp_ge (tgt := 22) hx hb dX5_measure_15 (by decide) (fun c_31 => ?_) (fun c_31 => ?_)
    · skip
      rw [if_pos c_31] at hf
      refine lv_aload_n hx hb dX5_measure_22 rfl (lv_at hl 2 rfl) ?_
      refine lv_aload_n hx hb dX5_measure_23 rfl (lv_at hl 1 rfl) ?_
      refine lv_iload_n hx hb dX5_measure_24 rfl (lv_at hl 0 rfl) ?_
      refine lv_iconst (v := 4) hx hb dX5_measure_25 (by decide) ?_
      obtain ⟨z_32, r_33, hfc, hf⟩ := cal_some hf
      have hFc := de_free hD hS hA
      refine va_calli (va_runV (As := [.int p_1, .int 4]) (rest := [.ref (a x0)]) ⟨hx, hb, hml, hown, hts⟩ (de_X5_structureColumn l dC dI cy a sh n H.size F z_2 h0 p_1 4 hfc) (cwV 2 hts gX5_measure_X5_structureColumn rfl rfl rfl (by decide +kernel) ⟨Nat.le_of_ble_eq_true rfl, Nat.le_of_ble_eq_true rfl⟩) ⟨fun a U g mk q => by obtain ⟨q0, q1, qP, qK, qD, qN⟩ := q; exact ⟨q0, q1, qP, va_K.moved (u := U) (U := U.calling g mk a) (Vm.Alike.refl U.vm) qK, qD, qN.same rfl⟩, va_recv hK hP (ci := 5) (q0 := h0) rfl (Wd_ob kg_4 sg_4 (by decide)), fun U hU hW => ⟨rfl, by rw [hU], by rw [hU]; exact hP, va_K.moved hW.alike hK, hD.weaken (fun _ _ _ _ => trivial), hN.warm hW⟩⟩ rfl rfl hl.1 rfl (lv_room (Nat.le_of_ble_eq_true rfl)) dX5_measure_26 ⟨Nat.le_of_ble_eq_true rfl, Nat.le_of_ble_eq_true rfl⟩) hS (fun q _ h => hFc q h) hFc (fun rr u t H_34 locs ht hvm hw hB hz1 hk1 hS2 => ?_)
      rw [hw]
      clear hw
      obtain ⟨hP1, -, hD1⟩ := hB
      rw [ht] at hP1
      replace hD := hD1.weaken (fun _ _ _ h => hFc _ h)
      replace hP := hP1
      replace hS := hS2
      clear hP1 hD1 hS2 hFc hfc hz1 hk1 hvm ht
      obtain ⟨g_37, hf⟩ := grd_some hf
      obtain ⟨kg_37, sg_37⟩ := okO_at g_37
      obtain ⟨z_35, r_36, hfc, hf⟩ := cal_some hf
      have hFc := de_free hD hS hA
      refine va_callq (va_runV (As := [.int r_33]) (rest := []) ⟨hx, hb, hml, hown, hts⟩ (de_X7_findProgram l dC dI cy a sh n H_34.size F z_32 x0 r_33 hfc) (cwV 1 hts gX5_measure_X7_findProgram rfl rfl rfl (by decide +kernel) ⟨Nat.le_of_ble_eq_true rfl, Nat.le_of_ble_eq_true rfl⟩) ⟨fun a U g mk q => by obtain ⟨q0, q1, qP, qK, qD, qN⟩ := q; exact ⟨q0, q1, qP, va_K.moved (u := U) (U := U.calling g mk a) (Vm.Alike.refl U.vm) qK, qD, qN.same rfl⟩, va_recv hK hP (ci := 7) (q0 := x0) rfl (Wd_ob kg_37 sg_37 (by decide)), fun U hU hW => ⟨rfl, by rw [hU], by rw [hU]; exact hP, va_K.moved hW.alike hK, hD.weaken (fun _ _ _ _ => trivial), hN.warm hW⟩⟩ rfl rfl hl.1 rfl (lv_room (Nat.le_of_ble_eq_true rfl)) dX5_measure_29 ⟨Nat.le_of_ble_eq_true rfl, Nat.le_of_ble_eq_true rfl⟩) hS (fun q _ h => hFc q h) hFc (fun rr u t H_38 locs ht hvm hw hB hz1 hk1 hS2 => ?_)
      rw [hw]
      clear hw
      obtain ⟨hP1, -, hD1⟩ := hB
      rw [ht] at hP1
      replace hD := hD1.weaken (fun _ _ _ h => hFc _ h)
      replace hP := hP1
      replace hS := hS2
      clear hP1 hD1 hS2 hFc hfc hz1 hk1 hvm ht
      rcases r_36 with _ | k_39
      · skip
        replace hf := nul_none hf
        refine W.eq (g2 := F0 m 32 ls [.null]) rfl ?_
        refine lv_astore_nN (lv' := [(3, .null), (2, .int p_1), (0, .ref (a h0)), (1, .ref (a x0))]) hx hb dX5_measure_32 rfl hl (by decide) rfl (fun ls hl2 => ?_)
        replace hl := hl2
        clear hl2
        refine lv_aload_n hx hb dX5_measure_33 rfl (lv_at hl 2 rfl) ?_
        refine lv_iload_n hx hb dX5_measure_34 rfl (lv_at hl 1 rfl) ?_
        refine lv_bipush (v := 6) hx hb dX5_measure_35 (by decide) ?_
        refine lv_aload_nN hx hb dX5_measure_37 rfl (lv_at hl 0 rfl) ?_
        refine de_cut (h := 57) (fun (x : St × Int32) => [.int x.2, .int 6, .int p_1, .ref (a h0)]) (fun x ls H locs => lv_has ls 6 [(2, .int p_1), (0, .ref (a h0)), (1, .ref (a x0))] ∧ va_P (dC, dI) vwCl (Wd cy a sh n x.1) H ∧ va_D A (Wd cy a sh n x.1) ∧ va_S A s.heap H locs) (fun x => fn_X5_measure_B57 F sh n h0 p_1 (fun z9 q2 => fn_X5_measure_L2 F sh n h0 x0 f_3 z9 q2) x.1 x.2) (z8, r8) ?_ (fun B57 => ?_)
        · intro x ls H locs hI hf
          obtain ⟨z_41, p_40⟩ := x
          obtain ⟨hl2, hP2, hD2, hS2⟩ := hI
          replace hl : lv_has ls 6 [(2, .int p_1), (0, .ref (a h0)), (1, .ref (a x0))] := hl2
          replace hP := hP2
          replace hD := hD2
          replace hS := hS2
          clear hl2 hP2 hD2 hS2
          replace hf := fn_X5_measure_B57_s hf
          refine W.eq (g2 := F0 m 57 ls [.int p_40, .int 6, .int p_1, .ref (a h0)]) rfl ?_
          obtain ⟨z_42, _u, hfc, hf⟩ := cal_some hf
          have hFc := de_free hD hS hA
          refine va_callv (va_runV (As := [.int p_1, .int 6, .int p_40]) (rest := []) ⟨hx, hb, hml, hown, hts⟩ (de_X5_setStructure l dC dI cy a sh n H.size F z_41 h0 p_1 6 p_40 hfc) (cwV 3 hts gX5_measure_X5_setStructure rfl rfl rfl (by decide +kernel) ⟨Nat.le_of_ble_eq_true rfl, Nat.le_of_ble_eq_true rfl⟩) ⟨fun a U g mk q => by obtain ⟨q0, q1, qP, qK, qD, qN⟩ := q; exact ⟨q0, q1, qP, va_K.moved (u := U) (U := U.calling g mk a) (Vm.Alike.refl U.vm) qK, qD, qN.same rfl⟩, va_recv hK hP (ci := 5) (q0 := h0) rfl (Wd_ob kg_4 sg_4 (by decide)), fun U hU hW => ⟨rfl, by rw [hU], by rw [hU]; exact hP, va_K.moved hW.alike hK, hD.weaken (fun _ _ _ _ => trivial), hN.warm hW⟩⟩ rfl rfl hl.1 rfl (lv_room (Nat.le_of_ble_eq_true rfl)) dX5_measure_57 ⟨Nat.le_of_ble_eq_true rfl, Nat.le_of_ble_eq_true rfl⟩) hS (fun q _ h => hFc q h) hFc (fun u t H_43 locs ht hvm hw hB hz1 hk1 hS2 => ?_)
          obtain ⟨hP1, -, hD1⟩ := hB
          rw [ht] at hP1
          replace hD := hD1.weaken (fun _ _ _ h => hFc _ h)
          replace hP := hP1
          replace hS := hS2
          clear hP1 hD1 hS2 hFc hfc hz1 hk1 hvm ht
          refine lv_iinc (v := (p_1 + 1)) (lv' := [(2, .int (p_1 + 1)), (0, .ref (a h0)), (1, .ref (a x0))]) hx hb dX5_measure_60 hl (k := 0) rfl rfl (by decide) rfl (fun ls hl2 => ?_)
          replace hl := hl2
          clear hl2
          refine lv_goto (tgt := 2) hx hb dX5_measure_63 (by decide) ?_
          exact ih2 (z_42, (p_1 + 1)) ls H_43 locs ⟨lv_sub hl [0, 1, 2] rfl, hP, hD, hS⟩ hf
        refine lv_ifnonnullN hx hb dX5_measure_38 ?_
        refine lv_iconst (v := 0) hx hb dX5_measure_41 (by decide) ?_
        refine lv_goto (tgt := 57) hx hb dX5_measure_42 (by decide) ?_
        exact B57 (z_35, 0) ls H_38 locs ⟨lv_sub hl [1, 2, 3] rfl, hP, hD, hS⟩ hf
      · skip
        replace hf := nul_some hf
        refine W.eq (g2 := F0 m 32 ls [.ref (a k_39)]) rfl ?_
        refine lv_astore_n (lv' := [(3, .ref (a k_39)), (2, .int p_1), (0, .ref (a h0)), (1, .ref (a x0))]) hx hb dX5_measure_32 rfl hl (by decide) rfl (fun ls hl2 => ?_)
        replace hl := hl2
        clear hl2
        refine lv_aload_n hx hb dX5_measure_33 rfl (lv_at hl 2 rfl) ?_
        refine lv_iload_n hx hb dX5_measure_34 rfl (lv_at hl 1 rfl) ?_
        refine lv_bipush (v := 6) hx hb dX5_measure_35 (by decide) ?_
        refine lv_aload_n hx hb dX5_measure_37 rfl (lv_at hl 0 rfl) ?_
        refine de_cut (h := 57) (fun (x : St × Int32) => [.int x.2, .int 6, .int p_1, .ref (a h0)]) (fun x ls H locs => lv_has ls 6 [(2, .int p_1), (0, .ref (a h0)), (1, .ref (a x0))] ∧ va_P (dC, dI) vwCl (Wd cy a sh n x.1) H ∧ va_D A (Wd cy a sh n x.1) ∧ va_S A s.heap H locs) (fun x => fn_X5_measure_B57_2 F sh n h0 p_1 (fun z9 q2 => fn_X5_measure_L2 F sh n h0 x0 f_3 z9 q2) x.1 x.2) (z8, r8) ?_ (fun B57_2 => ?_)
        · intro x ls H locs hI hf
          obtain ⟨z_45, p_44⟩ := x
          obtain ⟨hl2, hP2, hD2, hS2⟩ := hI
          replace hl : lv_has ls 6 [(2, .int p_1), (0, .ref (a h0)), (1, .ref (a x0))] := hl2
          replace hP := hP2
          replace hD := hD2
          replace hS := hS2
          clear hl2 hP2 hD2 hS2
          replace hf := fn_X5_measure_B57_2_s hf
          refine W.eq (g2 := F0 m 57 ls [.int p_44, .int 6, .int p_1, .ref (a h0)]) rfl ?_
          obtain ⟨z_46, _u, hfc, hf⟩ := cal_some hf
          have hFc := de_free hD hS hA
          refine va_callv (va_runV (As := [.int p_1, .int 6, .int p_44]) (rest := []) ⟨hx, hb, hml, hown, hts⟩ (de_X5_setStructure l dC dI cy a sh n H.size F z_45 h0 p_1 6 p_44 hfc) (cwV 3 hts gX5_measure_X5_setStructure rfl rfl rfl (by decide +kernel) ⟨Nat.le_of_ble_eq_true rfl, Nat.le_of_ble_eq_true rfl⟩) ⟨fun a U g mk q => by obtain ⟨q0, q1, qP, qK, qD, qN⟩ := q; exact ⟨q0, q1, qP, va_K.moved (u := U) (U := U.calling g mk a) (Vm.Alike.refl U.vm) qK, qD, qN.same rfl⟩, va_recv hK hP (ci := 5) (q0 := h0) rfl (Wd_ob kg_4 sg_4 (by decide)), fun U hU hW => ⟨rfl, by rw [hU], by rw [hU]; exact hP, va_K.moved hW.alike hK, hD.weaken (fun _ _ _ _ => trivial), hN.warm hW⟩⟩ rfl rfl hl.1 rfl (lv_room (Nat.le_of_ble_eq_true rfl)) dX5_measure_57 ⟨Nat.le_of_ble_eq_true rfl, Nat.le_of_ble_eq_true rfl⟩) hS (fun q _ h => hFc q h) hFc (fun u t H_47 locs ht hvm hw hB hz1 hk1 hS2 => ?_)
          obtain ⟨hP1, -, hD1⟩ := hB
          rw [ht] at hP1
          replace hD := hD1.weaken (fun _ _ _ h => hFc _ h)
          replace hP := hP1
          replace hS := hS2
          clear hP1 hD1 hS2 hFc hfc hz1 hk1 hvm ht
          refine lv_iinc (v := (p_1 + 1)) (lv' := [(2, .int (p_1 + 1)), (0, .ref (a h0)), (1, .ref (a x0))]) hx hb dX5_measure_60 hl (k := 0) rfl rfl (by decide) rfl (fun ls hl2 => ?_)
          replace hl := hl2
          clear hl2
          refine lv_goto (tgt := 2) hx hb dX5_measure_63 (by decide) ?_
          exact ih2 (z_46, (p_1 + 1)) ls H_47 locs ⟨lv_sub hl [0, 1, 2] rfl, hP, hD, hS⟩ hf
        refine lv_ifnonnull (tgt := 45) hx hb dX5_measure_38 (by decide) ?_
        refine lv_aload_n hx hb dX5_measure_45 rfl (lv_at hl 0 rfl) ?_
        refine lv_aload_n hx hb dX5_measure_46 rfl (lv_at hl 2 rfl) ?_
        refine lv_iload_n hx hb dX5_measure_47 rfl (lv_at hl 1 rfl) ?_
        refine lv_iconst (v := 5) hx hb dX5_measure_48 (by decide) ?_
        obtain ⟨z_48, r_49, hfc, hf⟩ := cal_some hf
        have hFc := de_free hD hS hA
        refine va_calli (va_runV (As := [.int p_1, .int 5]) (rest := [.ref (a k_39), .int 6, .int p_1, .ref (a h0)]) ⟨hx, hb, hml, hown, hts⟩ (de_X5_structureColumn l dC dI cy a sh n H_38.size F z_35 h0 p_1 5 hfc) (cwV 2 hts gX5_measure_X5_structureColumn rfl rfl rfl (by decide +kernel) ⟨Nat.le_of_ble_eq_true rfl, Nat.le_of_ble_eq_true rfl⟩) ⟨fun a U g mk q => by obtain ⟨q0, q1, qP, qK, qD, qN⟩ := q; exact ⟨q0, q1, qP, va_K.moved (u := U) (U := U.calling g mk a) (Vm.Alike.refl U.vm) qK, qD, qN.same rfl⟩, va_recv hK hP (ci := 5) (q0 := h0) rfl (Wd_ob kg_4 sg_4 (by decide)), fun U hU hW => ⟨rfl, by rw [hU], by rw [hU]; exact hP, va_K.moved hW.alike hK, hD.weaken (fun _ _ _ _ => trivial), hN.warm hW⟩⟩ rfl rfl hl.1 rfl (lv_room (Nat.le_of_ble_eq_true rfl)) dX5_measure_49 ⟨Nat.le_of_ble_eq_true rfl, Nat.le_of_ble_eq_true rfl⟩) hS (fun q _ h => hFc q h) hFc (fun rr u t H_50 locs ht hvm hw hB hz1 hk1 hS2 => ?_)
        rw [hw]
        clear hw
        obtain ⟨hP1, -, hD1⟩ := hB
        rw [ht] at hP1
        replace hD := hD1.weaken (fun _ _ _ h => hFc _ h)
        replace hP := hP1
        replace hS := hS2
        clear hP1 hD1 hS2 hFc hfc hz1 hk1 hvm ht
        refine lv_bipush (v := 6) hx hb dX5_measure_52 (by decide) ?_
        obtain ⟨g_53, hf⟩ := grd_some hf
        obtain ⟨kg_53, sg_53⟩ := okO_at g_53
        obtain ⟨z_51, r_52, hfc, hf⟩ := cal_some hf
        have hFc := de_free hD hS hA
        refine va_calli (va_runV (As := [.int r_49, .int 6]) (rest := [.int 6, .int p_1, .ref (a h0)]) ⟨hx, hb, hml, hown, hts⟩ (de_X5_structureColumn l dC dI cy a sh n H_50.size F z_48 k_39 r_49 6 hfc) (cwV 2 hts gX5_measure_X5_structureColumn rfl rfl rfl (by decide +kernel) ⟨Nat.le_of_ble_eq_true rfl, Nat.le_of_ble_eq_true rfl⟩) ⟨fun a U g mk q => by obtain ⟨q0, q1, qP, qK, qD, qN⟩ := q; exact ⟨q0, q1, qP, va_K.moved (u := U) (U := U.calling g mk a) (Vm.Alike.refl U.vm) qK, qD, qN.same rfl⟩, va_recv hK hP (ci := 5) (q0 := k_39) rfl (Wd_ob kg_53 sg_53 (by decide)), fun U hU hW => ⟨rfl, by rw [hU], by rw [hU]; exact hP, va_K.moved hW.alike hK, hD.weaken (fun _ _ _ _ => trivial), hN.warm hW⟩⟩ rfl rfl hl.1 rfl (lv_room (Nat.le_of_ble_eq_true rfl)) dX5_measure_54 ⟨Nat.le_of_ble_eq_true rfl, Nat.le_of_ble_eq_true rfl⟩) hS (fun q _ h => hFc q h) hFc (fun rr u t H_54 locs ht hvm hw hB hz1 hk1 hS2 => ?_)
        rw [hw]
        clear hw
        obtain ⟨hP1, -, hD1⟩ := hB
        rw [ht] at hP1
        replace hD := hD1.weaken (fun _ _ _ h => hFc _ h)
        replace hP := hP1
        replace hS := hS2
        clear hP1 hD1 hS2 hFc hfc hz1 hk1 hvm ht
        exact B57_2 (z_51, r_52) ls H_54 locs ⟨lv_sub hl [1, 2, 3] rfl, hP, hD, hS⟩ hf
    · skip
      rw [if_neg c_31] at hf
      refine lv_null hx hb dX5_measure_18 ?_
      refine lv_goto (tgt := 32) hx hb dX5_measure_19 (by decide) ?_
      refine lv_astore_nN (lv' := [(3, .null), (2, .int p_1), (0, .ref (a h0)), (1, .ref (a x0))]) hx hb dX5_measure_32 rfl hl (by decide) rfl (fun ls hl2 => ?_)
      replace hl := hl2
      clear hl2
      refine lv_aload_n hx hb dX5_measure_33 rfl (lv_at hl 2 rfl) ?_
      refine lv_iload_n hx hb dX5_measure_34 rfl (lv_at hl 1 rfl) ?_
      refine lv_bipush (v := 6) hx hb dX5_measure_35 (by decide) ?_
      refine lv_aload_nN hx hb dX5_measure_37 rfl (lv_at hl 0 rfl) ?_
      refine de_cut (h := 57) (fun (x : St × Int32) => [.int x.2, .int 6, .int p_1, .ref (a h0)]) (fun x ls H locs => lv_has ls 6 [(2, .int p_1), (0, .ref (a h0)), (1, .ref (a x0))] ∧ va_P (dC, dI) vwCl (Wd cy a sh n x.1) H ∧ va_D A (Wd cy a sh n x.1) ∧ va_S A s.heap H locs) (fun x => fn_X5_measure_B57_3 F sh n h0 p_1 (fun z9 q2 => fn_X5_measure_L2 F sh n h0 x0 f_3 z9 q2) x.1 x.2) (z8, r8) ?_ (fun B57_3 => ?_)
      · intro x ls H locs hI hf
        obtain ⟨z_56, p_55⟩ := x
        obtain ⟨hl2, hP2, hD2, hS2⟩ := hI
        replace hl : lv_has ls 6 [(2, .int p_1), (0, .ref (a h0)), (1, .ref (a x0))] := hl2
        replace hP := hP2
        replace hD := hD2
        replace hS := hS2
        clear hl2 hP2 hD2 hS2
        replace hf := fn_X5_measure_B57_3_s hf
        refine W.eq (g2 := F0 m 57 ls [.int p_55, .int 6, .int p_1, .ref (a h0)]) rfl ?_
        obtain ⟨z_57, _u, hfc, hf⟩ := cal_some hf
        have hFc := de_free hD hS hA
        refine va_callv (va_runV (As := [.int p_1, .int 6, .int p_55]) (rest := []) ⟨hx, hb, hml, hown, hts⟩ (de_X5_setStructure l dC dI cy a sh n H.size F z_56 h0 p_1 6 p_55 hfc) (cwV 3 hts gX5_measure_X5_setStructure rfl rfl rfl (by decide +kernel) ⟨Nat.le_of_ble_eq_true rfl, Nat.le_of_ble_eq_true rfl⟩) ⟨fun a U g mk q => by obtain ⟨q0, q1, qP, qK, qD, qN⟩ := q; exact ⟨q0, q1, qP, va_K.moved (u := U) (U := U.calling g mk a) (Vm.Alike.refl U.vm) qK, qD, qN.same rfl⟩, va_recv hK hP (ci := 5) (q0 := h0) rfl (Wd_ob kg_4 sg_4 (by decide)), fun U hU hW => ⟨rfl, by rw [hU], by rw [hU]; exact hP, va_K.moved hW.alike hK, hD.weaken (fun _ _ _ _ => trivial), hN.warm hW⟩⟩ rfl rfl hl.1 rfl (lv_room (Nat.le_of_ble_eq_true rfl)) dX5_measure_57 ⟨Nat.le_of_ble_eq_true rfl, Nat.le_of_ble_eq_true rfl⟩) hS (fun q _ h => hFc q h) hFc (fun u t H_58 locs ht hvm hw hB hz1 hk1 hS2 => ?_)
        obtain ⟨hP1, -, hD1⟩ := hB
        rw [ht] at hP1
        replace hD := hD1.weaken (fun _ _ _ h => hFc _ h)
        replace hP := hP1
        replace hS := hS2
        clear hP1 hD1 hS2 hFc hfc hz1 hk1 hvm ht
        refine lv_iinc (v := (p_1 + 1)) (lv' := [(2, .int (p_1 + 1)), (0, .ref (a h0)), (1, .ref (a x0))]) hx hb dX5_measure_60 hl (k := 0) rfl rfl (by decide) rfl (fun ls hl2 => ?_)
        replace hl := hl2
        clear hl2
        refine lv_goto (tgt := 2) hx hb dX5_measure_63 (by decide) ?_
        exact ih2 (z_57, (p_1 + 1)) ls H_58 locs ⟨lv_sub hl [0, 1, 2] rfl, hP, hD, hS⟩ hf
      refine lv_ifnonnullN hx hb dX5_measure_38 ?_
      refine lv_iconst (v := 0) hx hb dX5_measure_41 (by decide) ?_
      refine lv_goto (tgt := 57) hx hb dX5_measure_42 (by decide) ?_
      exact B57_3 (z_2, 0) ls H locs ⟨lv_sub hl [1, 2, 3] rfl, hP, hD, hS⟩ hf

theorem md_X1_storeNode_1 : (.fieldLink RX1 60 "ResourceLedger$State" "nodeKind" "[B" : Cond) ∈ wsX1_storeNode := List.mem_of_getElem? (i := 1) rfl
theorem iwd_X1_storeNode_X7 : ∀ w ∈ wsX70, w ∈ wsX1_storeNode := fun _ h => List.mem_cons_of_mem _ (List.mem_append_left _ (List.mem_append_right _ h))
theorem md_X1_storeNode_2 : (.fieldLink RX1 30 "ResourceLedger$Heap" "slips" "I" : Cond) ∈ wsX1_storeNode := List.mem_of_getElem? (i := 2) rfl
theorem iwd_X1_storeNode_X1 : ∀ w ∈ wsX10, w ∈ wsX1_storeNode := fun _ h => List.mem_cons_of_mem _ (List.mem_append_right _ h)
theorem md_X1_storeNode_3 : (.fieldLink RX1 11 "ResourceLedger$Heap" "kind" "[B" : Cond) ∈ wsX1_storeNode := List.mem_of_getElem? (i := 3) rfl
theorem md_X1_storeNode_4 : (.fieldLink RX1 65 "ResourceLedger$State" "nodeHigh" "[J" : Cond) ∈ wsX1_storeNode := List.mem_of_getElem? (i := 4) rfl
theorem md_X1_storeNode_5 : (.fieldLink RX1 19 "ResourceLedger$Heap" "high" "[J" : Cond) ∈ wsX1_storeNode := List.mem_of_getElem? (i := 5) rfl
theorem md_X1_storeNode_6 : (.fieldLink RX1 68 "ResourceLedger$State" "nodeLow" "[J" : Cond) ∈ wsX1_storeNode := List.mem_of_getElem? (i := 6) rfl
theorem md_X1_storeNode_7 : (.fieldLink RX1 15 "ResourceLedger$Heap" "low" "[J" : Cond) ∈ wsX1_storeNode := List.mem_of_getElem? (i := 7) rfl
set_option maxHeartbeats 4000000 in
set_option maxRecDepth 100000 in
theorem de_X1_storeNode (l : Launch) (dC : Nat → ClassId) (dI : Nat → Nat → Nat) (cy : Nat → ClassId) (a : Nat → Nat) (sh : Nat → Nat × Nat) (n F : Nat) : ∀ (d sz : Nat) (z : St) (h0 : Nat) (x0 : Int32) (x1 : Nat) (x2 : Int32) (x3 : Int32) {z8 : St} {r8 : Int32} (_ : fn_X1_storeNode F sh n d z h0 x0 x1 x2 x3 = some (z8, r8)), Met l yX1_storeNode wsX1_storeNode ({ frames := d + 2, cells := 0, slots := 0, locals := d * 27 + 46 }) (va_Pc [.ref (a h0), .int x0, .ref (a x1), .int x2, .int x3] (fun U => U.heap.size = sz ∧ va_P (dC, dI) vwCl (Wd cy a sh n z) U.heap ∧ va_K (dC, dI) vwCl (TYS cy) U ∧ va_D (fun _ => True) (Wd cy a sh n z) ∧ NK U)) (va_Qi (fun (r9 : Int32) (u : Unit) => r9 = r8) (fun u t => va_P (dC, dI) vwCl (Wd cy a sh n z8) t.heap ∧ va_K (dC, dI) vwCl (TYS cy) t ∧ va_D (va_A (Wd cy a sh n z) sz) (Wd cy a sh n z8)) (va_A (Wd cy a sh n z) sz)) 0 0 (va_A (Wd cy a sh n z) sz) := by
  intro d
  induction d with
  | zero => intro sz z h0 x0 x1 x2 x3 z8 r8 hf; exact absurd hf (by simp [fn_X1_storeNode])
  | succ d ihd =>
  intro sz z h0 x0 x1 x2 x3 z8 r8 hf
  refine Met.ofW (cc := cX1_storeNode) (maxL := 8) (ret := (some .int)) (by decide) rfl ?_
  intro p e s m args below meth c s₁ B hml hv
  obtain ⟨rfl, hsz, hP, hK, hD0, hN⟩ := hv
  have hx := B.exec
  have hb := B.bytes
  have hr := B.returns
  have hts := atoms_spec (ws := wsX1_storeNode) B.pre
  have hown : s.vm.findClass RX1 = some m.cls := findClass_of_methodNamed B.named
  have hlocks := B.notSynchronized
  subst hsz
  have hD := hD0.self (sz := s.heap.size)
  clear hD0
  generalize hAe : va_A (Wd cy a sh n z) s.heap.size = A at hD ⊢
  have hA : ∀ q : Nat, s.heap.size ≤ q → A q := fun q h => by rw [← hAe]; exact Or.inr h
  clear hAe
  have hS : va_S A s.heap s.heap [] := va_S.rf
  have hl := lv_entry ([.ref (a h0), .int x0, .ref (a x1), .int x2, .int x3]) (n := 8) (Nat.le_of_ble_eq_true rfl)
  rw [lg_entry_eq]
  generalize (lg_sl ([.ref (a h0), .int x0, .ref (a x1), .int x2, .int x3]) ++ List.replicate (8 - (lg_sl ([.ref (a h0), .int x0, .ref (a x1), .int x2, .int x3])).length) Slot.unset).toArray = ls at hl ⊢
  replace hl : lv_has ls 8 [(0, .ref (a h0)), (1, .int x0), (2, .ref (a x1)), (3, .int x2), (4, .int x3)] := hl
  replace hf := fn_X1_storeNode_s hf
  refine de_start hS hP (fun H locs hS hP => ?_)
  refine lv_iload_n hx hb dX1_storeNode_0 rfl (lv_at hl 3 rfl) ?_
  refine lv_aload_n hx hb dX1_storeNode_1 rfl (lv_at hl 2 rfl) ?_
  obtain ⟨g_1, hf⟩ := grd_some hf
  obtain ⟨kg_1, sg_1⟩ := okO_at g_1
  obtain ⟨k_2, ek_2, hf⟩ := lnk_some hf
  refine va_get (D := (dC, dI)) (ci := 7) (v := .ref (a k_2)) (C := RX7) (T := TX7) (N := 16) hx hb hts iwd_X1_storeNode_X7 hown hK hP x1 (Wd_ob kg_1 sg_1 (by decide)) rfl 11 (by decide) (hts _ md_X1_storeNode_1) (fun _ h9 => h9) (fl_q rfl ek_2) dX1_storeNode_2 ?_
  obtain ⟨g_3, hf⟩ := grd_some hf
  obtain ⟨kg_3, sg_3⟩ := okO_at g_3
  refine va_alen (v := Int32.ofNat (sh k_2).2) hx hb hK hP k_2 0 (Wd_ab kg_3 sg_3) rfl rfl dX1_storeNode_5 ?_
  refine de_cut (h := 16) (fun (x : St) => []) (fun x ls H locs => lv_has ls 8 [(0, .ref (a h0)), (3, .int x2)] ∧ va_P (dC, dI) vwCl (Wd cy a sh n x) H ∧ va_D A (Wd cy a sh n x) ∧ va_S A s.heap H locs) (fun x => fn_X1_storeNode_B16 F sh n h0 x2 x) (z8, r8) ?_ (fun B16 => ?_)
  · intro x ls H locs hI hf
    obtain ⟨z_4, ez⟩ : ∃ w, w = x := ⟨_, rfl⟩
    subst ez
    obtain ⟨hl2, hP2, hD2, hS2⟩ := hI
    replace hl : lv_has ls 8 [(0, .ref (a h0)), (3, .int x2)] := hl2
    replace hP := hP2
    replace hD := hD2
    replace hS := hS2
    clear hl2 hP2 hD2 hS2
    replace hf := fn_X1_storeNode_B16_s hf
    refine W.eq (g2 := F0 m 16 ls []) rfl ?_
    refine lv_aload_n hx hb dX1_storeNode_16 rfl (lv_at hl 0 rfl) ?_
    refine lv_dup hx hb dX1_storeNode_17 rfl ?_
    obtain ⟨g_5, hf⟩ := grd_some hf
    obtain ⟨kg_5, sg_5⟩ := okO_at g_5
    refine va_get (D := (dC, dI)) (ci := 1) (v := .int (z_4.1 h0 6)) (C := RX1) (T := TX1) (N := 7) hx hb hts iwd_X1_storeNode_X1 hown hK hP h0 (Wd_ob kg_5 sg_5 (by decide)) rfl 6 (by decide) (hts _ md_X1_storeNode_2) (fun _ h9 => h9) (fl_at (t := 0) rfl) dX1_storeNode_18 ?_
    refine lv_iconst (v := 1) hx hb dX1_storeNode_21 (by decide) ?_
    refine lv_iadd hx hb dX1_storeNode_22 ?_
    refine va_put (D := (dC, dI)) (ci := 1) (v := .int ((z_4.1 h0 6) + 1)) (ty := .int) (C := RX1) (T := TX1) (N := 7) hx hb hts iwd_X1_storeNode_X1 tyX1 tyX1_ok nmX1 hown hK hP hD hS h0 (Wd_ob kg_5 sg_5 (by decide)) rfl 6 (by decide) (hts _ md_X1_storeNode_2) (fun _ h9 => h9) rfl (by decide +kernel) rfl rfl (by rw [fl_len]; decide) dX1_storeNode_23 (fun H_6 locs hP2 hD2 hS2 => ?_)
    rw [Wd_si sg_5 (by decide) rfl] at hP2 hD2
    obtain ⟨z_7, ez_7⟩ : ∃ w, w = si z_4 h0 6 ((z_4.1 h0 6) + 1) := ⟨_, rfl⟩
    rw [← ez_7] at hP2 hD2
    replace hf := lt_at ez_7 hf
    clear ez_7
    replace hP := hP2
    replace hD := hD2
    replace hS := hS2
    clear hP2 hD2 hS2
    refine lv_iload_n hx hb dX1_storeNode_26 rfl (lv_at hl 1 rfl) ?_
    obtain ⟨h8, h9⟩ := ret_some hf
    rw [h8, h9]
    exact W.iret (v := x2) hx hb hr (fun t ht hW => ⟨⟨x2, (), rfl, rfl, by rw [ht]; exact hP, va_K.moved hW.alike hK, hD⟩, hS.F ht⟩) hS.2.2 dX1_storeNode_27
  refine lv_icmp_ge (tgt := 16) hx hb dX1_storeNode_6 (by decide) (fun c_8 => ?_) (fun c_8 => ?_)
  · skip
    rw [if_pos c_8] at hf
    exact B16 (z) ls H locs ⟨lv_sub hl [0, 3] rfl, hP, hD, hS⟩ hf
  · skip
    rw [if_neg c_8] at hf
    refine lv_iload hx hb dX1_storeNode_9 (lv_at hl 4 rfl) ?_
    refine lv_bipush (v := 40) hx hb dX1_storeNode_11 (by decide) ?_
    refine lv_icmp_le (tgt := 28) hx hb dX1_storeNode_13 (by decide) (fun c_9 => ?_) (fun c_9 => ?_)
    · skip
      rw [if_pos c_9] at hf
      refine lv_aload_n hx hb dX1_storeNode_28 rfl (lv_at hl 0 rfl) ?_
      obtain ⟨g_10, hf⟩ := grd_some hf
      obtain ⟨kg_10, sg_10⟩ := okO_at g_10
      obtain ⟨k_11, ek_11, hf⟩ := lnk_some hf
      refine va_get (D := (dC, dI)) (ci := 1) (v := .ref (a k_11)) (C := RX1) (T := TX1) (N := 7) hx hb hts iwd_X1_storeNode_X1 hown hK hP h0 (Wd_ob kg_10 sg_10 (by decide)) rfl 0 (by decide) (hts _ md_X1_storeNode_3) (fun _ h9 => h9) (fl_q rfl ek_11) dX1_storeNode_29 ?_
      refine lv_iload_n hx hb dX1_storeNode_32 rfl (lv_at hl 1 rfl) ?_
      obtain ⟨g_12, hf⟩ := grd_some hf
      obtain ⟨kg_12, sg_12, ig_12⟩ := okA_at g_12
      refine va_bald hx hb hK hP k_11 0 (Wd_ab kg_12 sg_12) rfl ig_12 dX1_storeNode_33 ?_
      obtain ⟨z_13, r_14, hfc, hf⟩ := cal_some hf
      have hFc := de_free hD hS hA
      refine va_calli (va_runS (As := [.int (z.1 k_11 x0.toNatClampNeg)]) (rest := []) ⟨hx, hb, hml, hown, hts⟩ (de_X1_holdsOthers l dC dI cy a sh n H.size F z (z.1 k_11 x0.toNatClampNeg) hfc) (va_cwS 1 hts gX1_storeNode_X1_holdsOthers rfl rfl rfl (by decide +kernel) ⟨by show _ ≤ d + 1 + 2; (try dsimp only); omega, by show _ ≤ (d + 1) * 27 + 46; (try dsimp only); omega⟩) ⟨fun a U g mk q => by obtain ⟨q0, q1, qP, qK, qD, qN⟩ := q; exact ⟨q0, q1, qP, va_K.moved (u := U) (U := U.calling g mk a) (Vm.Alike.refl U.vm) qK, qD, qN.same rfl⟩, fun U hU hW => ⟨rfl, by rw [hU], by rw [hU]; exact hP, va_K.moved hW.alike hK, hD.weaken (fun _ _ _ _ => trivial), hN.warm hW⟩⟩ rfl rfl hl.1 rfl (lv_room (Nat.le_of_ble_eq_true rfl)) dX1_storeNode_34 ⟨Nat.le_of_ble_eq_true rfl, Nat.le_of_ble_eq_true rfl⟩) hS (fun q _ h => hFc q h) hFc (fun rr u t H_15 locs ht hvm hw hB hz1 hk1 hS2 => ?_)
      rw [hw]
      clear hw
      obtain ⟨hP1, -, hD1⟩ := hB
      rw [ht] at hP1
      replace hD := hD1.weaken (fun _ _ _ h => hFc _ h)
      replace hP := hP1
      replace hS := hS2
      clear hP1 hD1 hS2 hFc hfc hz1 hk1 hvm ht
      refine lv_istore (lv' := [(5, .int r_14), (0, .ref (a h0)), (1, .int x0), (2, .ref (a x1)), (3, .int x2), (4, .int x3)]) hx hb dX1_storeNode_37 hl (by decide) rfl (fun ls hl2 => ?_)
      replace hl := hl2
      clear hl2
      refine lv_aload_n hx hb dX1_storeNode_39 rfl (lv_at hl 3 rfl) ?_
      obtain ⟨k_16, ek_16, hf⟩ := lnk_some hf
      refine va_get (D := (dC, dI)) (ci := 7) (v := .ref (a k_16)) (C := RX7) (T := TX7) (N := 16) hx hb hts iwd_X1_storeNode_X7 hown hK hP x1 (Wd_ob kg_1 sg_1 (by decide)) rfl 11 (by decide) (hts _ md_X1_storeNode_1) (fun _ h9 => h9) (fl_q rfl ek_16) dX1_storeNode_40 ?_
      refine lv_iload_n hx hb dX1_storeNode_43 rfl (lv_at hl 4 rfl) ?_
      refine lv_aload_n hx hb dX1_storeNode_44 rfl (lv_at hl 1 rfl) ?_
      obtain ⟨k_17, ek_17, hf⟩ := lnk_some hf
      refine va_get (D := (dC, dI)) (ci := 1) (v := .ref (a k_17)) (C := RX1) (T := TX1) (N := 7) hx hb hts iwd_X1_storeNode_X1 hown hK hP h0 (Wd_ob kg_10 sg_10 (by decide)) rfl 0 (by decide) (hts _ md_X1_storeNode_3) (fun _ h9 => h9) (fl_q rfl ek_17) dX1_storeNode_45 ?_
      refine lv_iload_n hx hb dX1_storeNode_48 rfl (lv_at hl 2 rfl) ?_
      obtain ⟨g_18, hf⟩ := grd_some hf
      obtain ⟨kg_18, sg_18, ig_18⟩ := okA_at g_18
      refine va_bald hx hb hK hP k_17 0 (Wd_ab kg_18 sg_18) rfl ig_18 dX1_storeNode_49 ?_
      obtain ⟨g_19, hf⟩ := grd_some hf
      obtain ⟨kg_19, sg_19, ig_19⟩ := okA_at g_19
      refine va_bast hx hb hK hP hD hS k_16 0 (Wd_ab kg_19 sg_19) rfl ig_19 dX1_storeNode_50 (fun H_20 locs hP2 hD2 hS2 => ?_)
      rw [Wd_tb sg_19] at hP2 hD2
      obtain ⟨z_21, ez_21⟩ : ∃ w, w = si z_13 k_16 x2.toNatClampNeg (vp_nar .byte (z_13.1 k_17 x0.toNatClampNeg)) := ⟨_, rfl⟩
      rw [← ez_21] at hP2 hD2
      replace hf := lt_at ez_21 hf
      clear ez_21
      replace hP := hP2
      replace hD := hD2
      replace hS := hS2
      clear hP2 hD2 hS2
      refine lv_aload_n hx hb dX1_storeNode_51 rfl (lv_at hl 3 rfl) ?_
      obtain ⟨k_22, ek_22, hf⟩ := lnk_some hf
      refine va_get (D := (dC, dI)) (ci := 7) (v := .ref (a k_22)) (C := RX7) (T := TX7) (N := 16) hx hb hts iwd_X1_storeNode_X7 hown hK hP x1 (Wd_ob kg_1 sg_1 (by decide)) rfl 12 (by decide) (hts _ md_X1_storeNode_4) (fun _ h9 => h9) (fl_q rfl ek_22) dX1_storeNode_52 ?_
      refine lv_iload_n hx hb dX1_storeNode_55 rfl (lv_at hl 4 rfl) ?_
      refine lv_aload_n hx hb dX1_storeNode_56 rfl (lv_at hl 1 rfl) ?_
      obtain ⟨k_23, ek_23, hf⟩ := lnk_some hf
      refine va_get (D := (dC, dI)) (ci := 1) (v := .ref (a k_23)) (C := RX1) (T := TX1) (N := 7) hx hb hts iwd_X1_storeNode_X1 hown hK hP h0 (Wd_ob kg_10 sg_10 (by decide)) rfl 2 (by decide) (hts _ md_X1_storeNode_5) (fun _ h9 => h9) (fl_q rfl ek_23) dX1_storeNode_57 ?_
      refine lv_iload_n hx hb dX1_storeNode_60 rfl (lv_at hl 2 rfl) ?_
      obtain ⟨g_24, hf⟩ := grd_some hf
      obtain ⟨kg_24, sg_24, ig_24⟩ := okA_at g_24
      refine va_lald hx hb hK hP k_23 2 (Wd_al kg_24 sg_24) rfl ig_24 dX1_storeNode_61 ?_
      obtain ⟨g_25, hf⟩ := grd_some hf
      obtain ⟨kg_25, sg_25, ig_25⟩ := okA_at g_25
      refine va_last hx hb hK hP hD hS k_22 2 (Wd_al kg_25 sg_25) rfl ig_25 dX1_storeNode_62 (fun H_26 locs hP2 hD2 hS2 => ?_)
      rw [Wd_tl sg_25] at hP2 hD2
      obtain ⟨z_27, ez_27⟩ : ∃ w, w = sl z_21 k_22 x2.toNatClampNeg (z_21.2.1 k_23 x0.toNatClampNeg) := ⟨_, rfl⟩
      rw [← ez_27] at hP2 hD2
      replace hf := lt_at ez_27 hf
      clear ez_27
      replace hP := hP2
      replace hD := hD2
      replace hS := hS2
      clear hP2 hD2 hS2
      refine lv_aload_n hx hb dX1_storeNode_63 rfl (lv_at hl 3 rfl) ?_
      obtain ⟨k_28, ek_28, hf⟩ := lnk_some hf
      refine va_get (D := (dC, dI)) (ci := 7) (v := .ref (a k_28)) (C := RX7) (T := TX7) (N := 16) hx hb hts iwd_X1_storeNode_X7 hown hK hP x1 (Wd_ob kg_1 sg_1 (by decide)) rfl 13 (by decide) (hts _ md_X1_storeNode_6) (fun _ h9 => h9) (fl_q rfl ek_28) dX1_storeNode_64 ?_
      refine lv_iload_n hx hb dX1_storeNode_67 rfl (lv_at hl 4 rfl) ?_
      refine lv_iload hx hb dX1_storeNode_68 (lv_at hl 0 rfl) ?_
      refine de_cut (h := 83) (fun (x : St × Int64) => [.long x.2, .int x2, .ref (a k_28)]) (fun x ls H locs => lv_has ls 8 [(5, .int r_14), (0, .ref (a h0)), (1, .int x0), (2, .ref (a x1)), (3, .int x2), (4, .int x3)] ∧ va_P (dC, dI) vwCl (Wd cy a sh n x.1) H ∧ va_D A (Wd cy a sh n x.1) ∧ va_S A s.heap H locs) (fun x => fn_X1_storeNode_B83 F sh n k_28 x2 r_14 h0 x0 (fn_X1_storeNode F sh n d) x1 x3 x.1 x.2) (z8, r8) ?_ (fun B83 => ?_)
      · intro x ls H locs hI hf
        obtain ⟨z_30, p_29⟩ := x
        obtain ⟨hl2, hP2, hD2, hS2⟩ := hI
        replace hl : lv_has ls 8 [(5, .int r_14), (0, .ref (a h0)), (1, .int x0), (2, .ref (a x1)), (3, .int x2), (4, .int x3)] := hl2
        replace hP := hP2
        replace hD := hD2
        replace hS := hS2
        clear hl2 hP2 hD2 hS2
        replace hf := fn_X1_storeNode_B83_s hf
        refine W.eq (g2 := F0 m 83 ls [.long p_29, .int x2, .ref (a k_28)]) rfl ?_
        obtain ⟨g_31, hf⟩ := grd_some hf
        obtain ⟨kg_31, sg_31, ig_31⟩ := okA_at g_31
        refine va_last hx hb hK hP hD hS k_28 2 (Wd_al kg_31 sg_31) rfl ig_31 dX1_storeNode_83 (fun H_32 locs hP2 hD2 hS2 => ?_)
        rw [Wd_tl sg_31] at hP2 hD2
        obtain ⟨z_33, ez_33⟩ : ∃ w, w = sl z_30 k_28 x2.toNatClampNeg p_29 := ⟨_, rfl⟩
        rw [← ez_33] at hP2 hD2
        replace hf := lt_at ez_33 hf
        clear ez_33
        replace hP := hP2
        replace hD := hD2
        replace hS := hS2
        clear hP2 hD2 hS2
        refine lv_iload_n hx hb dX1_storeNode_84 rfl (lv_at hl 4 rfl) ?_
        refine lv_iconst (v := 1) hx hb dX1_storeNode_85 (by decide) ?_
        refine lv_iadd hx hb dX1_storeNode_86 ?_
        refine lv_topi (fun v_34 ev_34 => ?_)
        replace hf := lt_at ev_34 hf
        clear ev_34
        refine lv_istore (lv' := [(6, .int v_34), (5, .int r_14), (0, .ref (a h0)), (1, .int x0), (2, .ref (a x1)), (3, .int x2), (4, .int x3)]) hx hb dX1_storeNode_87 hl (by decide) rfl (fun ls hl2 => ?_)
        replace hl := hl2
        clear hl2
        refine lv_iconst (v := 0) hx hb dX1_storeNode_89 (by decide) ?_
        refine lv_istore (lv' := [(7, .int 0), (6, .int v_34), (5, .int r_14), (0, .ref (a h0)), (1, .int x0), (2, .ref (a x1)), (3, .int x2), (4, .int x3)]) hx hb dX1_storeNode_90 hl (by decide) rfl (fun ls hl2 => ?_)
        replace hl := hl2
        clear hl2
        have hl0 : lv_has ls 8 [(7, .int 0), (6, .int v_34), (5, .int r_14), (0, .ref (a h0)), (1, .int x0), (2, .ref (a x1)), (4, .int x3)] := lv_sub hl [0, 1, 2, 3, 4, 5, 7] rfl
        refine de_loop (h := 92) (fun (x : St × Int32 × Int32) ls H locs => lv_has ls 8 [(7, .int x.2.2), (6, .int x.2.1), (5, .int r_14), (0, .ref (a h0)), (1, .int x0), (2, .ref (a x1)), (4, .int x3)] ∧ va_P (dC, dI) vwCl (Wd cy a sh n x.1) H ∧ va_D A (Wd cy a sh n x.1) ∧ va_S A s.heap H locs) (fun f x => fn_X1_storeNode_L92 F sh n r_14 h0 x0 (fn_X1_storeNode F sh n d) x1 x3 f x.1 x.2.1 x.2.2) (z8, r8) ?_ (fun _ => rfl) F (z_33, v_34, 0) ls H_32 locs ⟨hl0, hP, hD, hS⟩ hf
        intro f_38 x ls H locs ih92 hI hf
        obtain ⟨z_37, p_35, p_36⟩ := x
        obtain ⟨hl2, hP2, hD2, hS2⟩ := hI
        replace hl : lv_has ls 8 [(7, .int p_36), (6, .int p_35), (5, .int r_14), (0, .ref (a h0)), (1, .int x0), (2, .ref (a x1)), (4, .int x3)] := hl2
        replace hP := hP2
        replace hD := hD2
        replace hS := hS2
        clear hl2 hP2 hD2 hS2 hl0
        replace hf := fn_X1_storeNode_L92_s hf
        refine lv_iload hx hb dX1_storeNode_92 (lv_at hl 2 rfl) ?_
        refine lv_if_eq (tgt := 137) hx hb dX1_storeNode_94 (by decide) (fun c_39 => ?_) (fun c_39 => ?_)
        · skip
          rw [if_pos c_39] at hf
          refine lv_iload hx hb dX1_storeNode_137 (lv_at hl 1 rfl) ?_
          obtain ⟨h8, h9⟩ := ret_some hf
          rw [h8, h9]
          exact W.iret (v := p_35) hx hb hr (fun t ht hW => ⟨⟨p_35, (), rfl, rfl, by rw [ht]; exact hP, va_K.moved hW.alike hK, hD⟩, hS.F ht⟩) hS.2.2 dX1_storeNode_139
        · skip
          rw [if_neg c_39] at hf
          refine lv_iload hx hb dX1_storeNode_97 (lv_at hl 0 rfl) ?_
          refine lv_i2l (v := (p_36 : Int32).toInt64) hx hb dX1_storeNode_99 rfl ?_
          refine lv_aload_n hx hb dX1_storeNode_100 rfl (lv_at hl 3 rfl) ?_
          obtain ⟨k_40, ek_40, hf⟩ := lnk_some hf
          refine va_get (D := (dC, dI)) (ci := 1) (v := .ref (a k_40)) (C := RX1) (T := TX1) (N := 7) hx hb hts iwd_X1_storeNode_X1 hown hK hP h0 (Wd_ob kg_10 sg_10 (by decide)) rfl 2 (by decide) (hts _ md_X1_storeNode_5) (fun _ h9 => h9) (fl_q rfl ek_40) dX1_storeNode_101 ?_
          refine lv_iload_n hx hb dX1_storeNode_104 rfl (lv_at hl 4 rfl) ?_
          obtain ⟨g_41, hf⟩ := grd_some hf
          obtain ⟨kg_41, sg_41, ig_41⟩ := okA_at g_41
          refine va_lald hx hb hK hP k_40 2 (Wd_al kg_41 sg_41) rfl ig_41 dX1_storeNode_105 ?_
          refine W.lcmp hx hb dX1_storeNode_106 ?_
          refine lv_if_ge (tgt := 137) hx hb dX1_storeNode_107 (by decide) (fun c_42 => ?_) (fun c_42 => ?_)
          · skip
            rw [lg_cmp_ge] at c_42
            rw [if_pos c_42] at hf
            refine lv_iload hx hb dX1_storeNode_137 (lv_at hl 1 rfl) ?_
            obtain ⟨h8, h9⟩ := ret_some hf
            rw [h8, h9]
            exact W.iret (v := p_35) hx hb hr (fun t ht hW => ⟨⟨p_35, (), rfl, rfl, by rw [ht]; exact hP, va_K.moved hW.alike hK, hD⟩, hS.F ht⟩) hS.2.2 dX1_storeNode_139
          · skip
            rw [lg_cmp_ge] at c_42
            rw [if_neg c_42] at hf
            refine lv_aload_n hx hb dX1_storeNode_110 rfl (lv_at hl 3 rfl) ?_
            refine lv_aload_n hx hb dX1_storeNode_111 rfl (lv_at hl 3 rfl) ?_
            refine lv_iload_n hx hb dX1_storeNode_112 rfl (lv_at hl 4 rfl) ?_
            refine lv_iload hx hb dX1_storeNode_113 (lv_at hl 0 rfl) ?_
            refine lv_i2l (v := (p_36 : Int32).toInt64) hx hb dX1_storeNode_115 rfl ?_
            obtain ⟨z_43, r_44, hfc, hf⟩ := cal_some hf
            have hFc := de_free hD hS hA
            refine va_calli (va_runV (As := [.int x0, .long ((p_36 : Int32).toInt64)]) (rest := [.ref (a h0)]) ⟨hx, hb, hml, hown, hts⟩ (de_X1_child l dC dI cy a sh n H.size F z_37 h0 x0 ((p_36 : Int32).toInt64) hfc) (cwV 2 hts gX1_storeNode_X1_child rfl rfl rfl (by decide +kernel) ⟨by show _ ≤ d + 1 + 2; (try dsimp only); omega, by show _ ≤ (d + 1) * 27 + 46; (try dsimp only); omega⟩) ⟨fun a U g mk q => by obtain ⟨q0, q1, qP, qK, qD, qN⟩ := q; exact ⟨q0, q1, qP, va_K.moved (u := U) (U := U.calling g mk a) (Vm.Alike.refl U.vm) qK, qD, qN.same rfl⟩, va_recv hK hP (ci := 1) (q0 := h0) rfl (Wd_ob kg_10 sg_10 (by decide)), fun U hU hW => ⟨rfl, by rw [hU], by rw [hU]; exact hP, va_K.moved hW.alike hK, hD.weaken (fun _ _ _ _ => trivial), hN.warm hW⟩⟩ rfl rfl hl.1 rfl (lv_room (Nat.le_of_ble_eq_true rfl)) dX1_storeNode_116 ⟨Nat.le_of_ble_eq_true rfl, Nat.le_of_ble_eq_true rfl⟩) hS (fun q _ h => hFc q h) hFc (fun rr u t H_45 locs ht hvm hw hB hz1 hk1 hS2 => ?_)
            rw [hw]
            clear hw
            obtain ⟨hP1, -, hD1⟩ := hB
            rw [ht] at hP1
            replace hD := hD1.weaken (fun _ _ _ h => hFc _ h)
            replace hP := hP1
            replace hS := hS2
            clear hP1 hD1 hS2 hFc hfc hz1 hk1 hvm ht
            refine lv_aload_n hx hb dX1_storeNode_119 rfl (lv_at hl 5 rfl) ?_
            refine lv_iload hx hb dX1_storeNode_120 (lv_at hl 1 rfl) ?_
            refine lv_iload hx hb dX1_storeNode_122 (lv_at hl 6 rfl) ?_
            refine lv_iconst (v := 1) hx hb dX1_storeNode_124 (by decide) ?_
            refine lv_iadd hx hb dX1_storeNode_125 ?_
            obtain ⟨z_46, r_47, hfc, hf⟩ := cal_some hf
            have hFc := de_free hD hS hA
            refine va_calli (va_runV (As := [.int r_44, .ref (a x1), .int p_35, .int (x3 + 1)]) (rest := []) ⟨hx, hb, hml, hown, hts⟩ (ihd H_45.size z_43 h0 r_44 x1 p_35 (x3 + 1) hfc) (cwV 4 hts gX1_storeNode_X1_storeNode rfl rfl rfl (by decide +kernel) ⟨by show _ ≤ d + 1 + 2; (try dsimp only); omega, by show _ ≤ (d + 1) * 27 + 46; (try dsimp only); omega⟩) ⟨fun a U g mk q => by obtain ⟨q0, q1, qP, qK, qD, qN⟩ := q; exact ⟨q0, q1, qP, va_K.moved (u := U) (U := U.calling g mk a) (Vm.Alike.refl U.vm) qK, qD, qN.same rfl⟩, va_recv hK hP (ci := 1) (q0 := h0) rfl (Wd_ob kg_10 sg_10 (by decide)), fun U hU hW => ⟨rfl, by rw [hU], by rw [hU]; exact hP, va_K.moved hW.alike hK, hD.weaken (fun _ _ _ _ => trivial), hN.warm hW⟩⟩ rfl rfl hl.1 rfl (lv_room (Nat.le_of_ble_eq_true rfl)) dX1_storeNode_126 ⟨Nat.le_of_ble_eq_true rfl, Nat.le_of_ble_eq_true rfl⟩) hS (fun q _ h => hFc q h) hFc (fun rr u t H_48 locs ht hvm hw hB hz1 hk1 hS2 => ?_)
            rw [hw]
            clear hw
            obtain ⟨hP1, -, hD1⟩ := hB
            rw [ht] at hP1
            replace hD := hD1.weaken (fun _ _ _ h => hFc _ h)
            replace hP := hP1
            replace hS := hS2
            clear hP1 hD1 hS2 hFc hfc hz1 hk1 hvm ht
            refine lv_istore (lv' := [(6, .int r_47), (7, .int p_36), (5, .int r_14), (0, .ref (a h0)), (1, .int x0), (2, .ref (a x1)), (4, .int x3)]) hx hb dX1_storeNode_129 hl (by decide) rfl (fun ls hl2 => ?_)
            replace hl := hl2
            clear hl2
            refine lv_iinc (v := (p_36 + 1)) (lv' := [(7, .int (p_36 + 1)), (6, .int r_47), (5, .int r_14), (0, .ref (a h0)), (1, .int x0), (2, .ref (a x1)), (4, .int x3)]) hx hb dX1_storeNode_131 hl (k := 1) rfl rfl (by decide) rfl (fun ls hl2 => ?_)
            replace hl := hl2
            clear hl2
            refine lv_goto (tgt := 92) hx hb dX1_storeNode_134 (by decide) ?_
            exact ih92 (z_46, r_47, (p_36 + 1)) ls H_48 locs ⟨lv_sub hl [0, 1, 2, 3, 4, 5, 6] rfl, hP, hD, hS⟩ hf
      refine lv_if_eq (tgt := 77) hx hb dX1_storeNode_70 (by decide) (fun c_49 => ?_) (fun c_49 => ?_)
      · skip
        rw [if_pos c_49] at hf
        refine lv_aload_n hx hb dX1_storeNode_77 rfl (lv_at hl 1 rfl) ?_
        obtain ⟨k_50, ek_50, hf⟩ := lnk_some hf
        refine va_get (D := (dC, dI)) (ci := 1) (v := .ref (a k_50)) (C := RX1) (T := TX1) (N := 7) hx hb hts iwd_X1_storeNode_X1 hown hK hP h0 (Wd_ob kg_10 sg_10 (by decide)) rfl 1 (by decide) (hts _ md_X1_storeNode_7) (fun _ h9 => h9) (fl_q rfl ek_50) dX1_storeNode_78 ?_
        refine lv_iload_n hx hb dX1_storeNode_81 rfl (lv_at hl 2 rfl) ?_
        obtain ⟨g_51, hf⟩ := grd_some hf
        obtain ⟨kg_51, sg_51, ig_51⟩ := okA_at g_51
        refine va_lald hx hb hK hP k_50 2 (Wd_al kg_51 sg_51) rfl ig_51 dX1_storeNode_82 ?_
        exact B83 (z_27, (z_27.2.1 k_50 x0.toNatClampNeg)) ls H_26 locs ⟨lv_sub hl [0, 1, 2, 3, 4, 5] rfl, hP, hD, hS⟩ hf
      · skip
        rw [if_neg c_49] at hf
        refine lv_lconst (v := 0) hx hb dX1_storeNode_73 (by decide) ?_
        refine lv_goto (tgt := 83) hx hb dX1_storeNode_74 (by decide) ?_
        exact B83 (z_27, 0) ls H_26 locs ⟨lv_sub hl [0, 1, 2, 3, 4, 5] rfl, hP, hD, hS⟩ hf
    · skip
      rw [if_neg c_9] at hf
      exact B16 (z) ls H locs ⟨lv_sub hl [0, 3] rfl, hP, hD, hS⟩ hf

theorem md_X6_findRound_1 : (.fieldLink RX6 17 "ResourceLedger$Reader" "p" "LResourceLedger$Program;" : Cond) ∈ wsX6_findRound := List.mem_of_getElem? (i := 1) rfl
theorem iwd_X6_findRound_X6 : ∀ w ∈ wsX60, w ∈ wsX6_findRound := fun _ h => List.mem_cons_of_mem _ (List.mem_append_left _ (List.mem_append_right _ h))
theorem md_X6_findRound_2 : (.fieldLink RX6 100 "ResourceLedger$Program" "ownStructures" "I" : Cond) ∈ wsX6_findRound := List.mem_of_getElem? (i := 2) rfl
theorem iwd_X6_findRound_X5 : ∀ w ∈ wsX50, w ∈ wsX6_findRound := fun _ h => List.mem_cons_of_mem _ (List.mem_append_right _ h)
theorem md_X6_findRound_3 : (.fieldLink RX6 11 "ResourceLedger$Reader" "holds" "[I" : Cond) ∈ wsX6_findRound := List.mem_of_getElem? (i := 3) rfl
set_option maxHeartbeats 4000000 in
set_option maxRecDepth 100000 in
theorem de_X6_findRound (l : Launch) (dC : Nat → ClassId) (dI : Nat → Nat → Nat) (cy : Nat → ClassId) (a : Nat → Nat) (sh : Nat → Nat × Nat) (n sz : Nat) (F : Nat) (z : St) (h0 : Nat) {z8 : St} {r8 : Unit} (hf : fn_X6_findRound F sh n z h0 = some (z8, r8)) : Met l yX6_findRound wsX6_findRound ({ frames := 2, cells := 0, slots := 0, locals := 44 }) (va_Pc [.ref (a h0)] (fun U => U.heap.size = sz ∧ va_P (dC, dI) vwCl (Wd cy a sh n z) U.heap ∧ va_K (dC, dI) vwCl (TYS cy) U ∧ va_D (fun _ => True) (Wd cy a sh n z) ∧ NK U)) (va_Qv (fun u : Unit => True) (fun u t => va_P (dC, dI) vwCl (Wd cy a sh n z8) t.heap ∧ va_K (dC, dI) vwCl (TYS cy) t ∧ va_D (va_A (Wd cy a sh n z) sz) (Wd cy a sh n z8)) (va_A (Wd cy a sh n z) sz)) 0 0 (va_A (Wd cy a sh n z) sz) := by
  refine Met.ofW (cc := cX6_findRound) (maxL := 7) (ret := none) (by decide) rfl ?_
  intro p e s m args below meth c s₁ B hml hv
  obtain ⟨rfl, hsz, hP, hK, hD0, hN⟩ := hv
  have hx := B.exec
  have hb := B.bytes
  have hr := B.returns
  have hts := atoms_spec (ws := wsX6_findRound) B.pre
  have hown : s.vm.findClass RX6 = some m.cls := findClass_of_methodNamed B.named
  have hlocks := B.notSynchronized
  subst hsz
  have hD := hD0.self (sz := s.heap.size)
  clear hD0
  generalize hAe : va_A (Wd cy a sh n z) s.heap.size = A at hD ⊢
  have hA : ∀ q : Nat, s.heap.size ≤ q → A q := fun q h => by rw [← hAe]; exact Or.inr h
  clear hAe
  have hS : va_S A s.heap s.heap [] := va_S.rf
  have hl := lv_entry ([.ref (a h0)]) (n := 7) (Nat.le_of_ble_eq_true rfl)
  rw [lg_entry_eq]
  generalize (lg_sl ([.ref (a h0)]) ++ List.replicate (7 - (lg_sl ([.ref (a h0)])).length) Slot.unset).toArray = ls at hl ⊢
  replace hl : lv_has ls 7 [(0, .ref (a h0))] := hl
  unfold fn_X6_findRound at hf
  refine de_start hS hP (fun H locs hS hP => ?_)
  refine lv_aload_n hx hb dX6_findRound_0 rfl (lv_at hl 0 rfl) ?_
  obtain ⟨g_1, hf⟩ := grd_some hf
  obtain ⟨kg_1, sg_1⟩ := okO_at g_1
  obtain ⟨k_2, ek_2, hf⟩ := lnk_some hf
  refine va_get (D := (dC, dI)) (ci := 6) (v := .ref (a k_2)) (C := RX6) (T := TX6) (N := 9) hx hb hts iwd_X6_findRound_X6 hown hK hP h0 (Wd_ob kg_1 sg_1 (by decide)) rfl 2 (by decide) (hts _ md_X6_findRound_1) (fun _ h9 => h9) (fl_q rfl ek_2) dX6_findRound_1 ?_
  obtain ⟨g_3, hf⟩ := grd_some hf
  obtain ⟨kg_3, sg_3⟩ := okO_at g_3
  refine va_get (D := (dC, dI)) (ci := 5) (v := .int (z.1 k_2 8)) (C := RX5) (T := TX5) (N := 15) hx hb hts iwd_X6_findRound_X5 hown hK hP k_2 (Wd_ob kg_3 sg_3 (by decide)) rfl 8 (by decide) (hts _ md_X6_findRound_2) (fun _ h9 => h9) (fl_at (t := 0) rfl) dX6_findRound_4 ?_
  refine lv_topi (fun v_4 ev_4 => ?_)
  replace hf := lt_at ev_4 hf
  clear ev_4
  refine lv_istore_n (lv' := [(1, .int v_4), (0, .ref (a h0))]) hx hb dX6_findRound_7 rfl hl (by decide) rfl (fun ls hl2 => ?_)
  replace hl := hl2
  clear hl2
  refine lv_iconst (v := 0) hx hb dX6_findRound_8 (by decide) ?_
  refine lv_istore_n (lv' := [(2, .int 0), (1, .int v_4), (0, .ref (a h0))]) hx hb dX6_findRound_9 rfl hl (by decide) rfl (fun ls hl2 => ?_)
  replace hl := hl2
  clear hl2
  have hl0 : lv_has ls 7 [(2, .int 0), (1, .int v_4), (0, .ref (a h0))] := lv_sub hl [0, 1, 2] rfl
  refine de_loop (h := 10) (fun (x : St × Int32) ls H locs => lv_has ls 7 [(2, .int x.2), (1, .int v_4), (0, .ref (a h0))] ∧ va_P (dC, dI) vwCl (Wd cy a sh n x.1) H ∧ va_D A (Wd cy a sh n x.1) ∧ va_S A s.heap H locs) (fun f x => fn_X6_findRound_L10 F sh n v_4 h0 f x.1 x.2) (z8, r8) ?_ (fun _ => rfl) F (z, 0) ls H locs ⟨hl0, hP, hD, hS⟩ hf
  intro f_7 x ls H locs ih10 hI hf
  obtain ⟨z_6, p_5⟩ := x
  obtain ⟨hl2, hP2, hD2, hS2⟩ := hI
  replace hl : lv_has ls 7 [(2, .int p_5), (1, .int v_4), (0, .ref (a h0))] := hl2
  replace hP := hP2
  replace hD := hD2
  replace hS := hS2
  clear hl2 hP2 hD2 hS2 hl0
  replace hf := fn_X6_findRound_L10_s hf
  refine lv_iload_n hx hb dX6_findRound_10 rfl (lv_at hl 0 rfl) ?_
  refine lv_iload_n hx hb dX6_findRound_11 rfl (lv_at hl 1 rfl) ?_
  refine lv_icmp_ge (tgt := 95) hx hb dX6_findRound_12 (by decide) (fun c_8 => ?_) (fun c_8 => ?_)
  · skip
    rw [if_pos c_8] at hf
    refine lv_iconst (v := 0) hx hb dX6_findRound_95 (by decide) ?_
    refine lv_istore_n (lv' := [(2, .int 0), (1, .int v_4), (0, .ref (a h0))]) hx hb dX6_findRound_96 rfl hl (by decide) rfl (fun ls hl2 => ?_)
    replace hl := hl2
    clear hl2
    have hl0 : lv_has ls 7 [(2, .int 0), (1, .int v_4), (0, .ref (a h0))] := lv_sub hl [0, 1, 2] rfl
    refine de_loop (h := 97) (fun (x : St × Int32) ls H locs => lv_has ls 7 [(2, .int x.2), (1, .int v_4), (0, .ref (a h0))] ∧ va_P (dC, dI) vwCl (Wd cy a sh n x.1) H ∧ va_D A (Wd cy a sh n x.1) ∧ va_S A s.heap H locs) (fun f x => fn_X6_findRound_L97 F sh n v_4 h0 f x.1 x.2) (z8, r8) ?_ (fun _ => rfl) F (z_6, 0) ls H locs ⟨hl0, hP, hD, hS⟩ hf
    intro f_11 x ls H locs ih97 hI hf
    obtain ⟨z_10, p_9⟩ := x
    obtain ⟨hl2, hP2, hD2, hS2⟩ := hI
    replace hl : lv_has ls 7 [(2, .int p_9), (1, .int v_4), (0, .ref (a h0))] := hl2
    replace hP := hP2
    replace hD := hD2
    replace hS := hS2
    clear hl2 hP2 hD2 hS2 hl0
    replace hf := fn_X6_findRound_L97_s hf
    refine lv_iload_n hx hb dX6_findRound_97 rfl (lv_at hl 0 rfl) ?_
    refine lv_iload_n hx hb dX6_findRound_98 rfl (lv_at hl 1 rfl) ?_
    refine lv_icmp_ge (tgt := 149) hx hb dX6_findRound_99 (by decide) (fun c_12 => ?_) (fun c_12 => ?_)
    · skip
      rw [if_pos c_12] at hf
      refine lv_iconst (v := 0) hx hb dX6_findRound_149 (by decide) ?_
      refine lv_istore_n (lv' := [(2, .int 0), (1, .int v_4), (0, .ref (a h0))]) hx hb dX6_findRound_150 rfl hl (by decide) rfl (fun ls hl2 => ?_)
      replace hl := hl2
      clear hl2
      have hl0 : lv_has ls 7 [(2, .int 0), (1, .int v_4), (0, .ref (a h0))] := lv_sub hl [0, 1, 2] rfl
      refine de_loop (h := 151) (fun (x : St × Int32) ls H locs => lv_has ls 7 [(2, .int x.2), (1, .int v_4), (0, .ref (a h0))] ∧ va_P (dC, dI) vwCl (Wd cy a sh n x.1) H ∧ va_D A (Wd cy a sh n x.1) ∧ va_S A s.heap H locs) (fun f x => fn_X6_findRound_L151 F sh n v_4 h0 f x.1 x.2) (z8, r8) ?_ (fun _ => rfl) F (z_10, 0) ls H locs ⟨hl0, hP, hD, hS⟩ hf
      intro f_15 x ls H locs ih151 hI hf
      obtain ⟨z_14, p_13⟩ := x
      obtain ⟨hl2, hP2, hD2, hS2⟩ := hI
      replace hl : lv_has ls 7 [(2, .int p_13), (1, .int v_4), (0, .ref (a h0))] := hl2
      replace hP := hP2
      replace hD := hD2
      replace hS := hS2
      clear hl2 hP2 hD2 hS2 hl0
      replace hf := fn_X6_findRound_L151_s hf
      refine lv_iload_n hx hb dX6_findRound_151 rfl (lv_at hl 0 rfl) ?_
      refine lv_iload_n hx hb dX6_findRound_152 rfl (lv_at hl 1 rfl) ?_
      refine lv_icmp_ge (tgt := 190) hx hb dX6_findRound_153 (by decide) (fun c_16 => ?_) (fun c_16 => ?_)
      · skip
        rw [if_pos c_16] at hf
        obtain ⟨h8, h9⟩ := ret_some hf
        rw [h8]
        exact W.vret hx hb hr (fun t ht hW => ⟨⟨(), rfl, trivial, by rw [ht]; exact hP, va_K.moved hW.alike hK, hD⟩, hS.F ht⟩) hS.2.2 dX6_findRound_190
      · skip
        rw [if_neg c_16] at hf
        refine lv_aload_n hx hb dX6_findRound_156 rfl (lv_at hl 2 rfl) ?_
        obtain ⟨k_17, ek_17, hf⟩ := lnk_some hf
        refine va_get (D := (dC, dI)) (ci := 6) (v := .ref (a k_17)) (C := RX6) (T := TX6) (N := 9) hx hb hts iwd_X6_findRound_X6 hown hK hP h0 (Wd_ob kg_1 sg_1 (by decide)) rfl 8 (by decide) (hts _ md_X6_findRound_3) (fun _ h9 => h9) (fl_q rfl ek_17) dX6_findRound_157 ?_
        refine lv_iload_n hx hb dX6_findRound_160 rfl (lv_at hl 0 rfl) ?_
        obtain ⟨g_18, hf⟩ := grd_some hf
        obtain ⟨kg_18, sg_18, ig_18⟩ := okA_at g_18
        refine va_iald hx hb hK hP k_17 1 (Wd_ai kg_18 sg_18) rfl ig_18 dX6_findRound_161 ?_
        refine lv_iload_n hx hb dX6_findRound_162 rfl (lv_at hl 0 rfl) ?_
        refine lv_iushr (v := (((z_14.1 k_17 p_13.toNatClampNeg) : Int32).toUInt32 >>> ((p_13 : Int32).toUInt32 &&& Int32.toUInt32 31)).toInt32) hx hb dX6_findRound_163 rfl ?_
        refine lv_iconst (v := 1) hx hb dX6_findRound_164 (by decide) ?_
        refine lv_iand hx hb dX6_findRound_165 ?_
        refine de_cut (h := 184) (fun (x : St) => []) (fun x ls H locs => lv_has ls 7 [(2, .int p_13), (1, .int v_4), (0, .ref (a h0))] ∧ va_P (dC, dI) vwCl (Wd cy a sh n x) H ∧ va_D A (Wd cy a sh n x) ∧ va_S A s.heap H locs) (fun x => fn_X6_findRound_B184 F sh n p_13 (fun z9 q2 => fn_X6_findRound_L151 F sh n v_4 h0 f_15 z9 q2) x) (z8, r8) ?_ (fun B184 => ?_)
        · intro x ls H locs hI hf
          obtain ⟨z_19, ez⟩ : ∃ w, w = x := ⟨_, rfl⟩
          subst ez
          obtain ⟨hl2, hP2, hD2, hS2⟩ := hI
          replace hl : lv_has ls 7 [(2, .int p_13), (1, .int v_4), (0, .ref (a h0))] := hl2
          replace hP := hP2
          replace hD := hD2
          replace hS := hS2
          clear hl2 hP2 hD2 hS2
          replace hf := fn_X6_findRound_B184_s hf
          refine W.eq (g2 := F0 m 184 ls []) rfl ?_
          refine lv_iinc (v := (p_13 + 1)) (lv' := [(2, .int (p_13 + 1)), (1, .int v_4), (0, .ref (a h0))]) hx hb dX6_findRound_184 hl (k := 0) rfl rfl (by decide) rfl (fun ls hl2 => ?_)
          replace hl := hl2
          clear hl2
          refine lv_goto (tgt := 151) hx hb dX6_findRound_187 (by decide) ?_
          exact ih151 (z_19, (p_13 + 1)) ls H locs ⟨lv_sub hl [0, 1, 2] rfl, hP, hD, hS⟩ hf
        refine lv_if_eq (tgt := 184) hx hb dX6_findRound_166 (by decide) (fun c_20 => ?_) (fun c_20 => ?_)
        · skip
          rw [if_pos c_20] at hf
          exact B184 (z_14) ls H locs ⟨lv_sub hl [0, 1, 2] rfl, hP, hD, hS⟩ hf
        · skip
          rw [if_neg c_20] at hf
          refine lv_aload_n hx hb dX6_findRound_169 rfl (lv_at hl 2 rfl) ?_
          refine lv_bipush (v := 14) hx hb dX6_findRound_170 (by decide) ?_
          refine lv_aload_n hx hb dX6_findRound_172 rfl (lv_at hl 2 rfl) ?_
          obtain ⟨k_21, ek_21, hf⟩ := lnk_some hf
          refine va_get (D := (dC, dI)) (ci := 6) (v := .ref (a k_21)) (C := RX6) (T := TX6) (N := 9) hx hb hts iwd_X6_findRound_X6 hown hK hP h0 (Wd_ob kg_1 sg_1 (by decide)) rfl 2 (by decide) (hts _ md_X6_findRound_1) (fun _ h9 => h9) (fl_q rfl ek_21) dX6_findRound_173 ?_
          refine lv_iload_n hx hb dX6_findRound_176 rfl (lv_at hl 0 rfl) ?_
          refine lv_iconst (v := 1) hx hb dX6_findRound_177 (by decide) ?_
          obtain ⟨g_24, hf⟩ := grd_some hf
          obtain ⟨kg_24, sg_24⟩ := okO_at g_24
          obtain ⟨z_22, r_23, hfc, hf⟩ := cal_some hf
          have hFc := de_free hD hS hA
          refine va_calli (va_runV (As := [.int p_13, .int 1]) (rest := [.int 14, .ref (a h0)]) ⟨hx, hb, hml, hown, hts⟩ (de_X5_structureColumn l dC dI cy a sh n H.size F z_14 k_21 p_13 1 hfc) (cwV 2 hts gX6_findRound_X5_structureColumn rfl rfl rfl (by decide +kernel) ⟨Nat.le_of_ble_eq_true rfl, Nat.le_of_ble_eq_true rfl⟩) ⟨fun a U g mk q => by obtain ⟨q0, q1, qP, qK, qD, qN⟩ := q; exact ⟨q0, q1, qP, va_K.moved (u := U) (U := U.calling g mk a) (Vm.Alike.refl U.vm) qK, qD, qN.same rfl⟩, va_recv hK hP (ci := 5) (q0 := k_21) rfl (Wd_ob kg_24 sg_24 (by decide)), fun U hU hW => ⟨rfl, by rw [hU], by rw [hU]; exact hP, va_K.moved hW.alike hK, hD.weaken (fun _ _ _ _ => trivial), hN.warm hW⟩⟩ rfl rfl hl.1 rfl (lv_room (Nat.le_of_ble_eq_true rfl)) dX6_findRound_178 ⟨Nat.le_of_ble_eq_true rfl, Nat.le_of_ble_eq_true rfl⟩) hS (fun q _ h => hFc q h) hFc (fun rr u t H_25 locs ht hvm hw hB hz1 hk1 hS2 => ?_)
          rw [hw]
          clear hw
          obtain ⟨hP1, -, hD1⟩ := hB
          rw [ht] at hP1
          replace hD := hD1.weaken (fun _ _ _ h => hFc _ h)
          replace hP := hP1
          replace hS := hS2
          clear hP1 hD1 hS2 hFc hfc hz1 hk1 hvm ht
          obtain ⟨z_26, _u, hfc, hf⟩ := cal_some hf
          have hFc := de_free hD hS hA
          refine va_callv (va_runV (As := [.int 14, .int r_23]) (rest := []) ⟨hx, hb, hml, hown, hts⟩ (de_X6_fail l dC dI cy a sh n H_25.size F z_22 h0 14 r_23 hfc) (cwV 2 hts gX6_findRound_X6_fail rfl rfl rfl (by decide +kernel) ⟨Nat.le_of_ble_eq_true rfl, Nat.le_of_ble_eq_true rfl⟩) ⟨fun a U g mk q => by obtain ⟨q0, q1, qP, qK, qD, qN⟩ := q; exact ⟨q0, q1, qP, va_K.moved (u := U) (U := U.calling g mk a) (Vm.Alike.refl U.vm) qK, qD, qN.same rfl⟩, va_recv hK hP (ci := 6) (q0 := h0) rfl (Wd_ob kg_1 sg_1 (by decide)), fun U hU hW => ⟨rfl, by rw [hU], by rw [hU]; exact hP, va_K.moved hW.alike hK, hD.weaken (fun _ _ _ _ => trivial), hN.warm hW⟩⟩ rfl rfl hl.1 rfl (lv_room (Nat.le_of_ble_eq_true rfl)) dX6_findRound_181 ⟨Nat.le_of_ble_eq_true rfl, Nat.le_of_ble_eq_true rfl⟩) hS (fun q _ h => hFc q h) hFc (fun u t H_27 locs ht hvm hw hB hz1 hk1 hS2 => ?_)
          obtain ⟨hP1, -, hD1⟩ := hB
          rw [ht] at hP1
          replace hD := hD1.weaken (fun _ _ _ h => hFc _ h)
          replace hP := hP1
          replace hS := hS2
          clear hP1 hD1 hS2 hFc hfc hz1 hk1 hvm ht
          exact B184 (z_26) ls H_27 locs ⟨lv_sub hl [0, 1, 2] rfl, hP, hD, hS⟩ hf
    · skip
      rw [if_neg c_12] at hf
      refine lv_iconst (v := 0) hx hb dX6_findRound_102 (by decide) ?_
      refine lv_istore_n (lv' := [(3, .int 0), (2, .int p_9), (1, .int v_4), (0, .ref (a h0))]) hx hb dX6_findRound_103 rfl hl (by decide) rfl (fun ls hl2 => ?_)
      replace hl := hl2
      clear hl2
      have hl0 : lv_has ls 7 [(3, .int 0), (2, .int p_9), (1, .int v_4), (0, .ref (a h0))] := lv_sub hl [0, 1, 2, 3] rfl
      refine de_loop (h := 104) (fun (x : St × Int32) ls H locs => lv_has ls 7 [(3, .int x.2), (2, .int p_9), (1, .int v_4), (0, .ref (a h0))] ∧ va_P (dC, dI) vwCl (Wd cy a sh n x.1) H ∧ va_D A (Wd cy a sh n x.1) ∧ va_S A s.heap H locs) (fun f x => fn_X6_findRound_L104 F sh n v_4 p_9 h0 (fun z9 q2 => fn_X6_findRound_L97 F sh n v_4 h0 f_11 z9 q2) f x.1 x.2) (z8, r8) ?_ (fun _ => rfl) F (z_10, 0) ls H locs ⟨hl0, hP, hD, hS⟩ hf
      intro f_30 x ls H locs ih104 hI hf
      obtain ⟨z_29, p_28⟩ := x
      obtain ⟨hl2, hP2, hD2, hS2⟩ := hI
      replace hl : lv_has ls 7 [(3, .int p_28), (2, .int p_9), (1, .int v_4), (0, .ref (a h0))] := hl2
      replace hP := hP2
      replace hD := hD2
      replace hS := hS2
      clear hl2 hP2 hD2 hS2 hl0
      replace hf := fn_X6_findRound_L104_s hf
      refine lv_iload_n hx hb dX6_findRound_104 rfl (lv_at hl 0 rfl) ?_
      refine lv_iload_n hx hb dX6_findRound_105 rfl (lv_at hl 2 rfl) ?_
      refine lv_icmp_ge (tgt := 143) hx hb dX6_findRound_106 (by decide) (fun c_31 => ?_) (fun c_31 => ?_)
      · skip
        rw [if_pos c_31] at hf
        refine lv_iinc (v := (p_9 + 1)) (lv' := [(2, .int (p_9 + 1)), (3, .int p_28), (1, .int v_4), (0, .ref (a h0))]) hx hb dX6_findRound_143 hl (k := 1) rfl rfl (by decide) rfl (fun ls hl2 => ?_)
        replace hl := hl2
        clear hl2
        refine lv_goto (tgt := 97) hx hb dX6_findRound_146 (by decide) ?_
        exact ih97 (z_29, (p_9 + 1)) ls H locs ⟨lv_sub hl [0, 2, 3] rfl, hP, hD, hS⟩ hf
      · skip
        rw [if_neg c_31] at hf
        refine lv_aload_n hx hb dX6_findRound_109 rfl (lv_at hl 3 rfl) ?_
        obtain ⟨k_32, ek_32, hf⟩ := lnk_some hf
        refine va_get (D := (dC, dI)) (ci := 6) (v := .ref (a k_32)) (C := RX6) (T := TX6) (N := 9) hx hb hts iwd_X6_findRound_X6 hown hK hP h0 (Wd_ob kg_1 sg_1 (by decide)) rfl 8 (by decide) (hts _ md_X6_findRound_3) (fun _ h9 => h9) (fl_q rfl ek_32) dX6_findRound_110 ?_
        refine lv_iload_n hx hb dX6_findRound_113 rfl (lv_at hl 0 rfl) ?_
        obtain ⟨g_33, hf⟩ := grd_some hf
        obtain ⟨kg_33, sg_33, ig_33⟩ := okA_at g_33
        refine va_iald hx hb hK hP k_32 1 (Wd_ai kg_33 sg_33) rfl ig_33 dX6_findRound_114 ?_
        refine lv_iload_n hx hb dX6_findRound_115 rfl (lv_at hl 1 rfl) ?_
        refine lv_iushr (v := (((z_29.1 k_32 p_28.toNatClampNeg) : Int32).toUInt32 >>> ((p_9 : Int32).toUInt32 &&& Int32.toUInt32 31)).toInt32) hx hb dX6_findRound_116 rfl ?_
        refine lv_iconst (v := 1) hx hb dX6_findRound_117 (by decide) ?_
        refine lv_iand hx hb dX6_findRound_118 ?_
        refine de_cut (h := 137) (fun (x : St) => []) (fun x ls H locs => lv_has ls 7 [(3, .int p_28), (2, .int p_9), (1, .int v_4), (0, .ref (a h0))] ∧ va_P (dC, dI) vwCl (Wd cy a sh n x) H ∧ va_D A (Wd cy a sh n x) ∧ va_S A s.heap H locs) (fun x => fn_X6_findRound_B137 F sh n p_28 (fun z9 q3 => fn_X6_findRound_L104 F sh n v_4 p_9 h0 (fun z9 q2 => fn_X6_findRound_L97 F sh n v_4 h0 f_11 z9 q2) f_30 z9 q3) x) (z8, r8) ?_ (fun B137 => ?_)
        · intro x ls H locs hI hf
          obtain ⟨z_34, ez⟩ : ∃ w, w = x := ⟨_, rfl⟩
          subst ez
          obtain ⟨hl2, hP2, hD2, hS2⟩ := hI
          replace hl : lv_has ls 7 [(3, .int p_28), (2, .int p_9), (1, .int v_4), (0, .ref (a h0))] := hl2
          replace hP := hP2
          replace hD := hD2
          replace hS := hS2
          clear hl2 hP2 hD2 hS2
          replace hf := fn_X6_findRound_B137_s hf
          refine W.eq (g2 := F0 m 137 ls []) rfl ?_
          refine lv_iinc (v := (p_28 + 1)) (lv' := [(3, .int (p_28 + 1)), (2, .int p_9), (1, .int v_4), (0, .ref (a h0))]) hx hb dX6_findRound_137 hl (k := 0) rfl rfl (by decide) rfl (fun ls hl2 => ?_)
          replace hl := hl2
          clear hl2
          refine lv_goto (tgt := 104) hx hb dX6_findRound_140 (by decide) ?_
          exact ih104 (z_34, (p_28 + 1)) ls H locs ⟨lv_sub hl [0, 1, 2, 3] rfl, hP, hD, hS⟩ hf
        refine lv_if_eq (tgt := 137) hx hb dX6_findRound_119 (by decide) (fun c_35 => ?_) (fun c_35 => ?_)
        · skip
          rw [if_pos c_35] at hf
          exact B137 (z_29) ls H locs ⟨lv_sub hl [0, 1, 2, 3] rfl, hP, hD, hS⟩ hf
        · skip
          rw [if_neg c_35] at hf
          refine lv_aload_n hx hb dX6_findRound_122 rfl (lv_at hl 3 rfl) ?_
          obtain ⟨k_36, ek_36, hf⟩ := lnk_some hf
          refine va_get (D := (dC, dI)) (ci := 6) (v := .ref (a k_36)) (C := RX6) (T := TX6) (N := 9) hx hb hts iwd_X6_findRound_X6 hown hK hP h0 (Wd_ob kg_1 sg_1 (by decide)) rfl 8 (by decide) (hts _ md_X6_findRound_3) (fun _ h9 => h9) (fl_q rfl ek_36) dX6_findRound_123 ?_
          refine lv_iload_n hx hb dX6_findRound_126 rfl (lv_at hl 0 rfl) ?_
          refine lv_dup2_11 hx hb dX6_findRound_127 rfl rfl ?_
          obtain ⟨g_37, hf⟩ := grd_some hf
          obtain ⟨kg_37, sg_37, ig_37⟩ := okA_at g_37
          refine va_iald hx hb hK hP k_36 1 (Wd_ai kg_37 sg_37) rfl ig_37 dX6_findRound_128 ?_
          refine lv_aload_n hx hb dX6_findRound_129 rfl (lv_at hl 3 rfl) ?_
          obtain ⟨k_38, ek_38, hf⟩ := lnk_some hf
          refine va_get (D := (dC, dI)) (ci := 6) (v := .ref (a k_38)) (C := RX6) (T := TX6) (N := 9) hx hb hts iwd_X6_findRound_X6 hown hK hP h0 (Wd_ob kg_1 sg_1 (by decide)) rfl 8 (by decide) (hts _ md_X6_findRound_3) (fun _ h9 => h9) (fl_q rfl ek_38) dX6_findRound_130 ?_
          refine lv_iload_n hx hb dX6_findRound_133 rfl (lv_at hl 1 rfl) ?_
          obtain ⟨g_39, hf⟩ := grd_some hf
          obtain ⟨kg_39, sg_39, ig_39⟩ := okA_at g_39
          refine va_iald hx hb hK hP k_38 1 (Wd_ai kg_39 sg_39) rfl ig_39 dX6_findRound_134 ?_
          refine lv_ior hx hb dX6_findRound_135 ?_
          obtain ⟨g_40, hf⟩ := grd_some hf
          obtain ⟨kg_40, sg_40, ig_40⟩ := okA_at g_40
          refine va_iast hx hb hK hP hD hS k_36 1 (Wd_ai kg_40 sg_40) rfl ig_40 dX6_findRound_136 (fun H_41 locs hP2 hD2 hS2 => ?_)
          rw [Wd_ti sg_40] at hP2 hD2
          obtain ⟨z_42, ez_42⟩ : ∃ w, w = si z_29 k_36 p_28.toNatClampNeg ((z_29.1 k_36 p_28.toNatClampNeg) ||| (z_29.1 k_38 p_9.toNatClampNeg)) := ⟨_, rfl⟩
          rw [← ez_42] at hP2 hD2
          replace hf := lt_at ez_42 hf
          clear ez_42
          replace hP := hP2
          replace hD := hD2
          replace hS := hS2
          clear hP2 hD2 hS2
          exact B137 (z_42) ls H_41 locs ⟨lv_sub hl [0, 1, 2, 3] rfl, hP, hD, hS⟩ hf
  · skip
    rw [if_neg c_8] at hf
    refine lv_aload_n hx hb dX6_findRound_15 rfl (lv_at hl 2 rfl) ?_
    obtain ⟨k_43, ek_43, hf⟩ := lnk_some hf
    refine va_get (D := (dC, dI)) (ci := 6) (v := .ref (a k_43)) (C := RX6) (T := TX6) (N := 9) hx hb hts iwd_X6_findRound_X6 hown hK hP h0 (Wd_ob kg_1 sg_1 (by decide)) rfl 8 (by decide) (hts _ md_X6_findRound_3) (fun _ h9 => h9) (fl_q rfl ek_43) dX6_findRound_16 ?_
    refine lv_iload_n hx hb dX6_findRound_19 rfl (lv_at hl 0 rfl) ?_
    refine lv_iconst (v := 0) hx hb dX6_findRound_20 (by decide) ?_
    obtain ⟨g_44, hf⟩ := grd_some hf
    obtain ⟨kg_44, sg_44, ig_44⟩ := okA_at g_44
    refine va_iast hx hb hK hP hD hS k_43 1 (Wd_ai kg_44 sg_44) rfl ig_44 dX6_findRound_21 (fun H_45 locs hP2 hD2 hS2 => ?_)
    rw [Wd_ti sg_44] at hP2 hD2
    obtain ⟨z_46, ez_46⟩ : ∃ w, w = si z_6 k_43 p_5.toNatClampNeg 0 := ⟨_, rfl⟩
    rw [← ez_46] at hP2 hD2
    replace hf := lt_at ez_46 hf
    clear ez_46
    replace hP := hP2
    replace hD := hD2
    replace hS := hS2
    clear hP2 hD2 hS2
    refine lv_iconst (v := 0) hx hb dX6_findRound_22 (by decide) ?_
    refine lv_istore_n (lv' := [(3, .int 0), (2, .int p_5), (1, .int v_4), (0, .ref (a h0))]) hx hb dX6_findRound_23 rfl hl (by decide) rfl (fun ls hl2 => ?_)
    replace hl := hl2
    clear hl2
    have hl0 : lv_has ls 7 [(3, .int 0), (2, .int p_5), (1, .int v_4), (0, .ref (a h0))] := lv_sub hl [0, 1, 2, 3] rfl
    refine de_loop (h := 24) (fun (x : St × Int32) ls H locs => lv_has ls 7 [(3, .int x.2), (2, .int p_5), (1, .int v_4), (0, .ref (a h0))] ∧ va_P (dC, dI) vwCl (Wd cy a sh n x.1) H ∧ va_D A (Wd cy a sh n x.1) ∧ va_S A s.heap H locs) (fun f x => fn_X6_findRound_L24 F sh n h0 p_5 v_4 (fun z9 q2 => fn_X6_findRound_L10 F sh n v_4 h0 f_7 z9 q2) f x.1 x.2) (z8, r8) ?_ (fun _ => rfl) F (z_46, 0) ls H_45 locs ⟨hl0, hP, hD, hS⟩ hf
    intro f_49 x ls H locs ih24 hI hf
    obtain ⟨z_48, p_47⟩ := x
    obtain ⟨hl2, hP2, hD2, hS2⟩ := hI
    replace hl : lv_has ls 7 [(3, .int p_47), (2, .int p_5), (1, .int v_4), (0, .ref (a h0))] := hl2
    replace hP := hP2
    replace hD := hD2
    replace hS := hS2
    clear hl2 hP2 hD2 hS2 hl0
    replace hf := fn_X6_findRound_L24_s hf
    refine lv_iload_n hx hb dX6_findRound_24 rfl (lv_at hl 0 rfl) ?_
    refine lv_aload_n hx hb dX6_findRound_25 rfl (lv_at hl 3 rfl) ?_
    obtain ⟨k_50, ek_50, hf⟩ := lnk_some hf
    refine va_get (D := (dC, dI)) (ci := 6) (v := .ref (a k_50)) (C := RX6) (T := TX6) (N := 9) hx hb hts iwd_X6_findRound_X6 hown hK hP h0 (Wd_ob kg_1 sg_1 (by decide)) rfl 2 (by decide) (hts _ md_X6_findRound_1) (fun _ h9 => h9) (fl_q rfl ek_50) dX6_findRound_26 ?_
    refine lv_iload_n hx hb dX6_findRound_29 rfl (lv_at hl 1 rfl) ?_
    obtain ⟨g_53, hf⟩ := grd_some hf
    obtain ⟨kg_53, sg_53⟩ := okO_at g_53
    obtain ⟨z_51, r_52, hfc, hf⟩ := cal_some hf
    have hFc := de_free hD hS hA
    refine va_calli (va_runV (As := [.int p_5]) (rest := [.int p_47]) ⟨hx, hb, hml, hown, hts⟩ (de_X5_fieldCount l dC dI cy a sh n H.size F z_48 k_50 p_5 hfc) (cwV 1 hts gX6_findRound_X5_fieldCount rfl rfl rfl (by decide +kernel) ⟨Nat.le_of_ble_eq_true rfl, Nat.le_of_ble_eq_true rfl⟩) ⟨fun a U g mk q => by obtain ⟨q0, q1, qP, qK, qD, qN⟩ := q; exact ⟨q0, q1, qP, va_K.moved (u := U) (U := U.calling g mk a) (Vm.Alike.refl U.vm) qK, qD, qN.same rfl⟩, va_recv hK hP (ci := 5) (q0 := k_50) rfl (Wd_ob kg_53 sg_53 (by decide)), fun U hU hW => ⟨rfl, by rw [hU], by rw [hU]; exact hP, va_K.moved hW.alike hK, hD.weaken (fun _ _ _ _ => trivial), hN.warm hW⟩⟩ rfl rfl hl.1 rfl (lv_room (Nat.le_of_ble_eq_true rfl)) dX6_findRound_30 ⟨Nat.le_of_ble_eq_true rfl, Nat.le_of_ble_eq_true rfl⟩) hS (fun q _ h => hFc q h) hFc (fun rr u t H_54 locs ht hvm hw hB hz1 hk1 hS2 => ?_)
    rw [hw]
    clear hw
    obtain ⟨hP1, -, hD1⟩ := hB
    rw [ht] at hP1
    replace hD := hD1.weaken (fun _ _ _ h => hFc _ h)
    replace hP := hP1
    replace hS := hS2
    clear hP1 hD1 hS2 hFc hfc hz1 hk1 hvm ht
    refine lv_icmp_ge (tgt := 89) hx hb dX6_findRound_33 (by decide) (fun c_55 => ?_) (fun c_55 => ?_)
    · skip
      rw [if_pos c_55] at hf
      refine lv_iinc (v := (p_5 + 1)) (lv' := [(2, .int (p_5 + 1)), (3, .int p_47), (1, .int v_4), (0, .ref (a h0))]) hx hb dX6_findRound_89 hl (k := 1) rfl rfl (by decide) rfl (fun ls hl2 => ?_)
      replace hl := hl2
      clear hl2
      refine lv_goto (tgt := 10) hx hb dX6_findRound_92 (by decide) ?_
      exact ih10 (z_51, (p_5 + 1)) ls H_54 locs ⟨lv_sub hl [0, 2, 3] rfl, hP, hD, hS⟩ hf
    · skip
      rw [if_neg c_55] at hf
      refine lv_aload_n hx hb dX6_findRound_36 rfl (lv_at hl 3 rfl) ?_
      obtain ⟨k_56, ek_56, hf⟩ := lnk_some hf
      refine va_get (D := (dC, dI)) (ci := 6) (v := .ref (a k_56)) (C := RX6) (T := TX6) (N := 9) hx hb hts iwd_X6_findRound_X6 hown hK hP h0 (Wd_ob kg_1 sg_1 (by decide)) rfl 2 (by decide) (hts _ md_X6_findRound_1) (fun _ h9 => h9) (fl_q rfl ek_56) dX6_findRound_37 ?_
      refine lv_iload_n hx hb dX6_findRound_40 rfl (lv_at hl 1 rfl) ?_
      refine lv_iload_n hx hb dX6_findRound_41 rfl (lv_at hl 0 rfl) ?_
      obtain ⟨g_59, hf⟩ := grd_some hf
      obtain ⟨kg_59, sg_59⟩ := okO_at g_59
      obtain ⟨z_57, r_58, hfc, hf⟩ := cal_some hf
      have hFc := de_free hD hS hA
      refine va_calll (va_runV (As := [.int p_5, .int p_47]) (rest := []) ⟨hx, hb, hml, hown, hts⟩ (de_X5_fieldType l dC dI cy a sh n H_54.size F z_51 k_56 p_5 p_47 hfc) (cwV 2 hts gX6_findRound_X5_fieldType rfl rfl rfl (by decide +kernel) ⟨Nat.le_of_ble_eq_true rfl, Nat.le_of_ble_eq_true rfl⟩) ⟨fun a U g mk q => by obtain ⟨q0, q1, qP, qK, qD, qN⟩ := q; exact ⟨q0, q1, qP, va_K.moved (u := U) (U := U.calling g mk a) (Vm.Alike.refl U.vm) qK, qD, qN.same rfl⟩, va_recv hK hP (ci := 5) (q0 := k_56) rfl (Wd_ob kg_59 sg_59 (by decide)), fun U hU hW => ⟨rfl, by rw [hU], by rw [hU]; exact hP, va_K.moved hW.alike hK, hD.weaken (fun _ _ _ _ => trivial), hN.warm hW⟩⟩ rfl rfl hl.1 rfl (lv_room (Nat.le_of_ble_eq_true rfl)) dX6_findRound_42 ⟨Nat.le_of_ble_eq_true rfl, Nat.le_of_ble_eq_true rfl⟩) hS (fun q _ h => hFc q h) hFc (fun rr u t H_60 locs ht hvm hw hB hz1 hk1 hS2 => ?_)
      rw [hw]
      clear hw
      obtain ⟨hP1, -, hD1⟩ := hB
      rw [ht] at hP1
      replace hD := hD1.weaken (fun _ _ _ h => hFc _ h)
      replace hP := hP1
      replace hS := hS2
      clear hP1 hD1 hS2 hFc hfc hz1 hk1 hvm ht
      refine lv_lstore (lv' := [(4, .long r_58), (3, .int p_47), (2, .int p_5), (1, .int v_4), (0, .ref (a h0))]) hx hb dX6_findRound_45 hl (by decide) rfl (fun ls hl2 => ?_)
      replace hl := hl2
      clear hl2
      refine lv_lload hx hb dX6_findRound_47 (lv_at hl 0 rfl) ?_
      refine lv_l2i (v := (r_58 : Int64).toInt32) hx hb dX6_findRound_49 rfl ?_
      refine lv_sipush (v := 255) hx hb dX6_findRound_50 (by decide) ?_
      refine lv_iand hx hb dX6_findRound_53 ?_
      refine lv_topi (fun v_61 ev_61 => ?_)
      replace hf := lt_at ev_61 hf
      clear ev_61
      refine lv_istore (lv' := [(6, .int v_61), (4, .long r_58), (3, .int p_47), (2, .int p_5), (1, .int v_4), (0, .ref (a h0))]) hx hb dX6_findRound_54 hl (by decide) rfl (fun ls hl2 => ?_)
      replace hl := hl2
      clear hl2
      refine lv_lload hx hb dX6_findRound_56 (lv_at hl 1 rfl) ?_
      obtain ⟨z_62, r_63, hfc, hf⟩ := cal_some hf
      have hFc := de_free hD hS hA
      refine va_calli (va_runS (As := [.long r_58]) (rest := []) ⟨hx, hb, hml, hown, hts⟩ (de_X5_endsInStructure l dC dI cy a sh n H_60.size F z_57 r_58 hfc) (va_cwS 1 hts gX6_findRound_X5_endsInStructure rfl rfl rfl (by decide +kernel) ⟨Nat.le_of_ble_eq_true rfl, Nat.le_of_ble_eq_true rfl⟩) ⟨fun a U g mk q => by obtain ⟨q0, q1, qP, qK, qD, qN⟩ := q; exact ⟨q0, q1, qP, va_K.moved (u := U) (U := U.calling g mk a) (Vm.Alike.refl U.vm) qK, qD, qN.same rfl⟩, fun U hU hW => ⟨rfl, by rw [hU], by rw [hU]; exact hP, va_K.moved hW.alike hK, hD.weaken (fun _ _ _ _ => trivial), hN.warm hW⟩⟩ rfl rfl hl.1 rfl (lv_room (Nat.le_of_ble_eq_true rfl)) dX6_findRound_58 ⟨Nat.le_of_ble_eq_true rfl, Nat.le_of_ble_eq_true rfl⟩) hS (fun q _ h => hFc q h) hFc (fun rr u t H_64 locs ht hvm hw hB hz1 hk1 hS2 => ?_)
      rw [hw]
      clear hw
      obtain ⟨hP1, -, hD1⟩ := hB
      rw [ht] at hP1
      replace hD := hD1.weaken (fun _ _ _ h => hFc _ h)
      replace hP := hP1
      replace hS := hS2
      clear hP1 hD1 hS2 hFc hfc hz1 hk1 hvm ht
      refine de_cut (h := 83) (fun (x : St) => []) (fun x ls H locs => lv_has ls 7 [(3, .int p_47), (2, .int p_5), (1, .int v_4), (0, .ref (a h0))] ∧ va_P (dC, dI) vwCl (Wd cy a sh n x) H ∧ va_D A (Wd cy a sh n x) ∧ va_S A s.heap H locs) (fun x => fn_X6_findRound_B83 F sh n p_47 (fun z9 q3 => fn_X6_findRound_L24 F sh n h0 p_5 v_4 (fun z9 q2 => fn_X6_findRound_L10 F sh n v_4 h0 f_7 z9 q2) f_49 z9 q3) x) (z8, r8) ?_ (fun B83 => ?_)
      · intro x ls H locs hI hf
        obtain ⟨z_65, ez⟩ : ∃ w, w = x := ⟨_, rfl⟩
        subst ez
        obtain ⟨hl2, hP2, hD2, hS2⟩ := hI
        replace hl : lv_has ls 7 [(3, .int p_47), (2, .int p_5), (1, .int v_4), (0, .ref (a h0))] := hl2
        replace hP := hP2
        replace hD := hD2
        replace hS := hS2
        clear hl2 hP2 hD2 hS2
        replace hf := fn_X6_findRound_B83_s hf
        refine W.eq (g2 := F0 m 83 ls []) rfl ?_
        refine lv_iinc (v := (p_47 + 1)) (lv' := [(3, .int (p_47 + 1)), (2, .int p_5), (1, .int v_4), (0, .ref (a h0))]) hx hb dX6_findRound_83 hl (k := 0) rfl rfl (by decide) rfl (fun ls hl2 => ?_)
        replace hl := hl2
        clear hl2
        refine lv_goto (tgt := 24) hx hb dX6_findRound_86 (by decide) ?_
        exact ih24 (z_65, (p_47 + 1)) ls H locs ⟨lv_sub hl [0, 1, 2, 3] rfl, hP, hD, hS⟩ hf
      refine lv_if_eq (tgt := 83) hx hb dX6_findRound_61 (by decide) (fun c_66 => ?_) (fun c_66 => ?_)
      · skip
        rw [if_pos c_66] at hf
        exact B83 (z_62) ls H_64 locs ⟨lv_sub hl [2, 3, 4, 5] rfl, hP, hD, hS⟩ hf
      · skip
        rw [if_neg c_66] at hf
        refine lv_iload hx hb dX6_findRound_64 (lv_at hl 0 rfl) ?_
        refine lv_iload_n hx hb dX6_findRound_66 rfl (lv_at hl 4 rfl) ?_
        refine lv_icmp_ge (tgt := 83) hx hb dX6_findRound_67 (by decide) (fun c_67 => ?_) (fun c_67 => ?_)
        · skip
          rw [if_pos c_67] at hf
          exact B83 (z_62) ls H_64 locs ⟨lv_sub hl [2, 3, 4, 5] rfl, hP, hD, hS⟩ hf
        · skip
          rw [if_neg c_67] at hf
          refine lv_aload_n hx hb dX6_findRound_70 rfl (lv_at hl 5 rfl) ?_
          obtain ⟨k_68, ek_68, hf⟩ := lnk_some hf
          refine va_get (D := (dC, dI)) (ci := 6) (v := .ref (a k_68)) (C := RX6) (T := TX6) (N := 9) hx hb hts iwd_X6_findRound_X6 hown hK hP h0 (Wd_ob kg_1 sg_1 (by decide)) rfl 8 (by decide) (hts _ md_X6_findRound_3) (fun _ h9 => h9) (fl_q rfl ek_68) dX6_findRound_71 ?_
          refine lv_iload_n hx hb dX6_findRound_74 rfl (lv_at hl 3 rfl) ?_
          refine lv_dup2_11 hx hb dX6_findRound_75 rfl rfl ?_
          obtain ⟨g_69, hf⟩ := grd_some hf
          obtain ⟨kg_69, sg_69, ig_69⟩ := okA_at g_69
          refine va_iald hx hb hK hP k_68 1 (Wd_ai kg_69 sg_69) rfl ig_69 dX6_findRound_76 ?_
          refine lv_iconst (v := 1) hx hb dX6_findRound_77 (by decide) ?_
          refine lv_iload hx hb dX6_findRound_78 (lv_at hl 0 rfl) ?_
          refine lv_ishl hx hb dX6_findRound_80 ?_
          refine lv_ior hx hb dX6_findRound_81 ?_
          obtain ⟨g_70, hf⟩ := grd_some hf
          obtain ⟨kg_70, sg_70, ig_70⟩ := okA_at g_70
          refine va_iast hx hb hK hP hD hS k_68 1 (Wd_ai kg_70 sg_70) rfl ig_70 dX6_findRound_82 (fun H_71 locs hP2 hD2 hS2 => ?_)
          rw [Wd_ti sg_70] at hP2 hD2
          obtain ⟨z_72, ez_72⟩ : ∃ w, w = si z_62 k_68 p_5.toNatClampNeg ((z_62.1 k_68 p_5.toNatClampNeg) ||| (1 <<< (v_61 &&& 31))) := ⟨_, rfl⟩
          rw [← ez_72] at hP2 hD2
          replace hf := lt_at ez_72 hf
          clear ez_72
          replace hP := hP2
          replace hD := hD2
          replace hS := hS2
          clear hP2 hD2 hS2
          exact B83 (z_72) ls H_71 locs ⟨lv_sub hl [2, 3, 4, 5] rfl, hP, hD, hS⟩ hf

theorem md_X10_divide_1 : (.fieldLink RX10 24 "ResourceLedger$Wide" "beyond" "Z" : Cond) ∈ wsX10_divide := List.mem_of_getElem? (i := 1) rfl
theorem iwd_X10_divide_X10 : ∀ w ∈ wsX100, w ∈ wsX10_divide := fun _ h => List.mem_cons_of_mem _ (List.mem_append_right _ h)
theorem md_X10_divide_2 : (.fieldLink RX10 38 "ResourceLedger$Wide" "restHigh" "J" : Cond) ∈ wsX10_divide := List.mem_of_getElem? (i := 2) rfl
theorem md_X10_divide_3 : (.fieldLink RX10 41 "ResourceLedger$Wide" "restLow" "J" : Cond) ∈ wsX10_divide := List.mem_of_getElem? (i := 3) rfl
theorem md_X10_divide_4 : (.fieldLink RX10 17 "ResourceLedger$Wide" "high" "J" : Cond) ∈ wsX10_divide := List.mem_of_getElem? (i := 4) rfl
theorem md_X10_divide_5 : (.fieldLink RX10 21 "ResourceLedger$Wide" "low" "J" : Cond) ∈ wsX10_divide := List.mem_of_getElem? (i := 5) rfl
set_option maxHeartbeats 4000000 in
set_option maxRecDepth 100000 in
theorem de_X10_divide (l : Launch) (dC : Nat → ClassId) (dI : Nat → Nat → Nat) (cy : Nat → ClassId) (a : Nat → Nat) (sh : Nat → Nat × Nat) (n sz : Nat) (F : Nat) (z : St) (h0 : Nat) (x0 : Int64) (x1 : Int64) (x2 : Int32) {z8 : St} {r8 : Unit} (hf : fn_X10_divide F sh n z h0 x0 x1 x2 = some (z8, r8)) : Met l yX10_divide wsX10_divide ({ frames := 2, cells := 0, slots := 0, locals := 50 }) (va_Pc [.ref (a h0), .long x0, .long x1, .int x2] (fun U => U.heap.size = sz ∧ va_P (dC, dI) vwCl (Wd cy a sh n z) U.heap ∧ va_K (dC, dI) vwCl (TYS cy) U ∧ va_D (fun _ => True) (Wd cy a sh n z) ∧ NK U)) (va_Qv (fun u : Unit => True) (fun u t => va_P (dC, dI) vwCl (Wd cy a sh n z8) t.heap ∧ va_K (dC, dI) vwCl (TYS cy) t ∧ va_D (va_A (Wd cy a sh n z) sz) (Wd cy a sh n z8)) (va_A (Wd cy a sh n z) sz)) 0 0 (va_A (Wd cy a sh n z) sz) := by
  refine Met.ofW (cc := cX10_divide) (maxL := 8) (ret := none) (by decide) rfl ?_
  intro p e s m args below meth c s₁ B hml hv
  obtain ⟨rfl, hsz, hP, hK, hD0, hN⟩ := hv
  have hx := B.exec
  have hb := B.bytes
  have hr := B.returns
  have hts := atoms_spec (ws := wsX10_divide) B.pre
  have hown : s.vm.findClass RX10 = some m.cls := findClass_of_methodNamed B.named
  have hlocks := B.notSynchronized
  subst hsz
  have hD := hD0.self (sz := s.heap.size)
  clear hD0
  generalize hAe : va_A (Wd cy a sh n z) s.heap.size = A at hD ⊢
  have hA : ∀ q : Nat, s.heap.size ≤ q → A q := fun q h => by rw [← hAe]; exact Or.inr h
  clear hAe
  have hS : va_S A s.heap s.heap [] := va_S.rf
  have hl := lv_entry ([.ref (a h0), .long x0, .long x1, .int x2]) (n := 8) (Nat.le_of_ble_eq_true rfl)
  rw [lg_entry_eq]
  generalize (lg_sl ([.ref (a h0), .long x0, .long x1, .int x2]) ++ List.replicate (8 - (lg_sl ([.ref (a h0), .long x0, .long x1, .int x2])).length) Slot.unset).toArray = ls at hl ⊢
  replace hl : lv_has ls 8 [(0, .ref (a h0)), (1, .long x0), (3, .long x1), (5, .int x2)] := hl
  unfold fn_X10_divide at hf
  refine de_start hS hP (fun H locs hS hP => ?_)
  refine lv_aload_n hx hb dX10_divide_0 rfl (lv_at hl 0 rfl) ?_
  refine lv_lload_n hx hb dX10_divide_1 rfl (lv_at hl 1 rfl) ?_
  refine lv_lconst (v := 0) hx hb dX10_divide_2 (by decide) ?_
  refine W.lcmp hx hb dX10_divide_3 ?_
  refine de_cut (h := 18) (fun (x : St × Int32) => [.int x.2, .ref (a h0)]) (fun x ls H locs => lv_has ls 8 [(0, .ref (a h0)), (1, .long x0), (3, .long x1), (5, .int x2)] ∧ va_P (dC, dI) vwCl (Wd cy a sh n x.1) H ∧ va_D A (Wd cy a sh n x.1) ∧ va_S A s.heap H locs) (fun x => fn_X10_divide_B18 F sh n h0 x2 x0 x1 x.1 x.2) (z8, r8) ?_ (fun B18 => ?_)
  · intro x ls H locs hI hf
    obtain ⟨z_2, p_1⟩ := x
    obtain ⟨hl2, hP2, hD2, hS2⟩ := hI
    replace hl : lv_has ls 8 [(0, .ref (a h0)), (1, .long x0), (3, .long x1), (5, .int x2)] := hl2
    replace hP := hP2
    replace hD := hD2
    replace hS := hS2
    clear hl2 hP2 hD2 hS2
    replace hf := fn_X10_divide_B18_s hf
    refine W.eq (g2 := F0 m 18 ls [.int p_1, .ref (a h0)]) rfl ?_
    obtain ⟨g_3, hf⟩ := grd_some hf
    obtain ⟨kg_3, sg_3⟩ := okO_at g_3
    obtain ⟨g_4, hf⟩ := grd_some hf
    refine va_put (D := (dC, dI)) (ci := 10) (v := .int p_1) (ty := .boolean) (C := RX10) (T := TX10) (N := 5) hx hb hts iwd_X10_divide_X10 tyX10 tyX10_ok nmX10 hown hK hP hD hS h0 (Wd_ob kg_3 sg_3 (by decide)) rfl 2 (by decide) (hts _ md_X10_divide_1) (fun _ h9 => h9) rfl (by decide +kernel) (nar_z g_4) (fit_z g_4) (by rw [fl_len]; decide) dX10_divide_18 (fun H_5 locs hP2 hD2 hS2 => ?_)
    rw [Wd_si sg_3 (by decide) rfl] at hP2 hD2
    obtain ⟨z_6, ez_6⟩ : ∃ w, w = si z_2 h0 2 p_1 := ⟨_, rfl⟩
    rw [← ez_6] at hP2 hD2
    replace hf := lt_at ez_6 hf
    clear ez_6
    replace hP := hP2
    replace hD := hD2
    replace hS := hS2
    clear hP2 hD2 hS2
    refine lv_aload_n hx hb dX10_divide_21 rfl (lv_at hl 0 rfl) ?_
    refine lv_lconst (v := 0) hx hb dX10_divide_22 (by decide) ?_
    refine va_put (D := (dC, dI)) (ci := 10) (v := .long 0) (ty := .long) (C := RX10) (T := TX10) (N := 5) hx hb hts iwd_X10_divide_X10 tyX10 tyX10_ok nmX10 hown hK hP hD hS h0 (Wd_ob kg_3 sg_3 (by decide)) rfl 3 (by decide) (hts _ md_X10_divide_2) (fun _ h9 => h9) rfl (by decide +kernel) rfl rfl (by rw [fl_len]; decide) dX10_divide_23 (fun H_7 locs hP2 hD2 hS2 => ?_)
    rw [Wd_sl sg_3 (by decide) rfl] at hP2 hD2
    obtain ⟨z_8, ez_8⟩ : ∃ w, w = sl z_6 h0 3 0 := ⟨_, rfl⟩
    rw [← ez_8] at hP2 hD2
    replace hf := lt_at ez_8 hf
    clear ez_8
    replace hP := hP2
    replace hD := hD2
    replace hS := hS2
    clear hP2 hD2 hS2
    refine lv_aload_n hx hb dX10_divide_26 rfl (lv_at hl 0 rfl) ?_
    refine lv_lconst (v := 0) hx hb dX10_divide_27 (by decide) ?_
    refine va_put (D := (dC, dI)) (ci := 10) (v := .long 0) (ty := .long) (C := RX10) (T := TX10) (N := 5) hx hb hts iwd_X10_divide_X10 tyX10 tyX10_ok nmX10 hown hK hP hD hS h0 (Wd_ob kg_3 sg_3 (by decide)) rfl 4 (by decide) (hts _ md_X10_divide_3) (fun _ h9 => h9) rfl (by decide +kernel) rfl rfl (by rw [fl_len]; decide) dX10_divide_28 (fun H_9 locs hP2 hD2 hS2 => ?_)
    rw [Wd_sl sg_3 (by decide) rfl] at hP2 hD2
    obtain ⟨z_10, ez_10⟩ : ∃ w, w = sl z_8 h0 4 0 := ⟨_, rfl⟩
    rw [← ez_10] at hP2 hD2
    replace hf := lt_at ez_10 hf
    clear ez_10
    replace hP := hP2
    replace hD := hD2
    replace hS := hS2
    clear hP2 hD2 hS2
    refine lv_iconst (v := 0) hx hb dX10_divide_31 (by decide) ?_
    refine lv_istore (lv' := [(6, .int 0), (0, .ref (a h0)), (1, .long x0), (3, .long x1), (5, .int x2)]) hx hb dX10_divide_32 hl (by decide) rfl (fun ls hl2 => ?_)
    replace hl := hl2
    clear hl2
    have hl0 : lv_has ls 8 [(6, .int 0), (0, .ref (a h0)), (1, .long x0), (3, .long x1), (5, .int x2)] := lv_sub hl [0, 1, 2, 3, 4] rfl
    refine de_loop (h := 34) (fun (x : St × Int32) ls H locs => lv_has ls 8 [(6, .int x.2), (0, .ref (a h0)), (1, .long x0), (3, .long x1), (5, .int x2)] ∧ va_P (dC, dI) vwCl (Wd cy a sh n x.1) H ∧ va_D A (Wd cy a sh n x.1) ∧ va_S A s.heap H locs) (fun f x => fn_X10_divide_L34 F sh n x2 h0 x0 x1 f x.1 x.2) (z8, r8) ?_ (fun _ => rfl) F (z_10, 0) ls H_9 locs ⟨hl0, hP, hD, hS⟩ hf
    intro f_13 x ls H locs ih34 hI hf
    obtain ⟨z_12, p_11⟩ := x
    obtain ⟨hl2, hP2, hD2, hS2⟩ := hI
    replace hl : lv_has ls 8 [(6, .int p_11), (0, .ref (a h0)), (1, .long x0), (3, .long x1), (5, .int x2)] := hl2
    replace hP := hP2
    replace hD := hD2
    replace hS := hS2
    clear hl2 hP2 hD2 hS2 hl0
    replace hf := fn_X10_divide_L34_s hf
    refine lv_iload hx hb dX10_divide_34 (lv_at hl 0 rfl) ?_
    refine lv_sipush (v := 128) hx hb dX10_divide_36 (by decide) ?_
    refine de_cut (h := 204) (fun (x : St) => []) (fun x ls H locs => lv_has ls 8 [(0, .ref (a h0)), (5, .int x2)] ∧ va_P (dC, dI) vwCl (Wd cy a sh n x) H ∧ va_D A (Wd cy a sh n x) ∧ va_S A s.heap H locs) (fun x => fn_X10_divide_B204 F sh n x2 h0 x) (z8, r8) ?_ (fun B204 => ?_)
    · intro x ls H locs hI hf
      obtain ⟨z_14, ez⟩ : ∃ w, w = x := ⟨_, rfl⟩
      subst ez
      obtain ⟨hl2, hP2, hD2, hS2⟩ := hI
      replace hl : lv_has ls 8 [(0, .ref (a h0)), (5, .int x2)] := hl2
      replace hP := hP2
      replace hD := hD2
      replace hS := hS2
      clear hl2 hP2 hD2 hS2
      replace hf := fn_X10_divide_B204_s hf
      refine W.eq (g2 := F0 m 204 ls []) rfl ?_
      refine lv_iload hx hb dX10_divide_204 (lv_at hl 1 rfl) ?_
      refine lv_if_eq (tgt := 225) hx hb dX10_divide_206 (by decide) (fun c_15 => ?_) (fun c_15 => ?_)
      · skip
        rw [if_pos c_15] at hf
        obtain ⟨h8, h9⟩ := ret_some hf
        rw [h8]
        exact W.vret hx hb hr (fun t ht hW => ⟨⟨(), rfl, trivial, by rw [ht]; exact hP, va_K.moved hW.alike hK, hD⟩, hS.F ht⟩) hS.2.2 dX10_divide_225
      · skip
        rw [if_neg c_15] at hf
        refine lv_aload_n hx hb dX10_divide_209 rfl (lv_at hl 0 rfl) ?_
        refine lv_aload_n hx hb dX10_divide_210 rfl (lv_at hl 0 rfl) ?_
        refine va_get (D := (dC, dI)) (ci := 10) (v := .long (z_14.2.1 h0 3)) (C := RX10) (T := TX10) (N := 5) hx hb hts iwd_X10_divide_X10 hown hK hP h0 (Wd_ob kg_3 sg_3 (by decide)) rfl 3 (by decide) (hts _ md_X10_divide_2) (fun _ h9 => h9) (fl_at (t := 1) rfl) dX10_divide_211 ?_
        refine va_put (D := (dC, dI)) (ci := 10) (v := .long (z_14.2.1 h0 3)) (ty := .long) (C := RX10) (T := TX10) (N := 5) hx hb hts iwd_X10_divide_X10 tyX10 tyX10_ok nmX10 hown hK hP hD hS h0 (Wd_ob kg_3 sg_3 (by decide)) rfl 0 (by decide) (hts _ md_X10_divide_4) (fun _ h9 => h9) rfl (by decide +kernel) rfl rfl (by rw [fl_len]; decide) dX10_divide_214 (fun H_16 locs hP2 hD2 hS2 => ?_)
        rw [Wd_sl sg_3 (by decide) rfl] at hP2 hD2
        obtain ⟨z_17, ez_17⟩ : ∃ w, w = sl z_14 h0 0 (z_14.2.1 h0 3) := ⟨_, rfl⟩
        rw [← ez_17] at hP2 hD2
        replace hf := lt_at ez_17 hf
        clear ez_17
        replace hP := hP2
        replace hD := hD2
        replace hS := hS2
        clear hP2 hD2 hS2
        refine lv_aload_n hx hb dX10_divide_217 rfl (lv_at hl 0 rfl) ?_
        refine lv_aload_n hx hb dX10_divide_218 rfl (lv_at hl 0 rfl) ?_
        refine va_get (D := (dC, dI)) (ci := 10) (v := .long (z_17.2.1 h0 4)) (C := RX10) (T := TX10) (N := 5) hx hb hts iwd_X10_divide_X10 hown hK hP h0 (Wd_ob kg_3 sg_3 (by decide)) rfl 4 (by decide) (hts _ md_X10_divide_3) (fun _ h9 => h9) (fl_at (t := 1) rfl) dX10_divide_219 ?_
        refine va_put (D := (dC, dI)) (ci := 10) (v := .long (z_17.2.1 h0 4)) (ty := .long) (C := RX10) (T := TX10) (N := 5) hx hb hts iwd_X10_divide_X10 tyX10 tyX10_ok nmX10 hown hK hP hD hS h0 (Wd_ob kg_3 sg_3 (by decide)) rfl 1 (by decide) (hts _ md_X10_divide_5) (fun _ h9 => h9) rfl (by decide +kernel) rfl rfl (by rw [fl_len]; decide) dX10_divide_222 (fun H_18 locs hP2 hD2 hS2 => ?_)
        rw [Wd_sl sg_3 (by decide) rfl] at hP2 hD2
        obtain ⟨z_19, ez_19⟩ : ∃ w, w = sl z_17 h0 1 (z_17.2.1 h0 4) := ⟨_, rfl⟩
        rw [← ez_19] at hP2 hD2
        replace hf := lt_at ez_19 hf
        clear ez_19
        replace hP := hP2
        replace hD := hD2
        replace hS := hS2
        clear hP2 hD2 hS2
        obtain ⟨h8, h9⟩ := ret_some hf
        rw [h8]
        exact W.vret hx hb hr (fun t ht hW => ⟨⟨(), rfl, trivial, by rw [ht]; exact hP, va_K.moved hW.alike hK, hD⟩, hS.F ht⟩) hS.2.2 dX10_divide_225
    refine lv_icmp_ge (tgt := 204) hx hb dX10_divide_39 (by decide) (fun c_20 => ?_) (fun c_20 => ?_)
    · skip
      rw [if_pos c_20] at hf
      exact B204 (z_12) ls H locs ⟨lv_sub hl [1, 4] rfl, hP, hD, hS⟩ hf
    · skip
      rw [if_neg c_20] at hf
      refine lv_aload_n hx hb dX10_divide_42 rfl (lv_at hl 1 rfl) ?_
      refine va_get (D := (dC, dI)) (ci := 10) (v := .int (z_12.1 h0 2)) (C := RX10) (T := TX10) (N := 5) hx hb hts iwd_X10_divide_X10 hown hK hP h0 (Wd_ob kg_3 sg_3 (by decide)) rfl 2 (by decide) (hts _ md_X10_divide_1) (fun _ h9 => h9) (fl_at (t := 0) rfl) dX10_divide_43 ?_
      refine lv_if_ne (tgt := 204) hx hb dX10_divide_46 (by decide) (fun c_21 => ?_) (fun c_21 => ?_)
      · skip
        rw [if_neg c_21] at hf
        exact B204 (z_12) ls H locs ⟨lv_sub hl [1, 4] rfl, hP, hD, hS⟩ hf
      · skip
        rw [if_pos c_21] at hf
        refine lv_aload_n hx hb dX10_divide_49 rfl (lv_at hl 1 rfl) ?_
        refine va_get (D := (dC, dI)) (ci := 10) (v := .long (z_12.2.1 h0 3)) (C := RX10) (T := TX10) (N := 5) hx hb hts iwd_X10_divide_X10 hown hK hP h0 (Wd_ob kg_3 sg_3 (by decide)) rfl 3 (by decide) (hts _ md_X10_divide_2) (fun _ h9 => h9) (fl_at (t := 1) rfl) dX10_divide_50 ?_
        refine lv_lconst (v := 0) hx hb dX10_divide_53 (by decide) ?_
        refine W.lcmp hx hb dX10_divide_54 ?_
        refine de_cut (h := 63) (fun (x : St × Int32) => [.int x.2]) (fun x ls H locs => lv_has ls 8 [(6, .int p_11), (0, .ref (a h0)), (1, .long x0), (3, .long x1), (5, .int x2)] ∧ va_P (dC, dI) vwCl (Wd cy a sh n x.1) H ∧ va_D A (Wd cy a sh n x.1) ∧ va_S A s.heap H locs) (fun x => fn_X10_divide_B63 F sh n h0 x0 x1 p_11 (fun z9 q6 => fn_X10_divide_L34 F sh n x2 h0 x0 x1 f_13 z9 q6) x.1 x.2) (z8, r8) ?_ (fun B63 => ?_)
        · intro x ls H locs hI hf
          obtain ⟨z_23, p_22⟩ := x
          obtain ⟨hl2, hP2, hD2, hS2⟩ := hI
          replace hl : lv_has ls 8 [(6, .int p_11), (0, .ref (a h0)), (1, .long x0), (3, .long x1), (5, .int x2)] := hl2
          replace hP := hP2
          replace hD := hD2
          replace hS := hS2
          clear hl2 hP2 hD2 hS2
          replace hf := fn_X10_divide_B63_s hf
          refine W.eq (g2 := F0 m 63 ls [.int p_22]) rfl ?_
          refine lv_istore (lv' := [(7, .int p_22), (6, .int p_11), (0, .ref (a h0)), (1, .long x0), (3, .long x1), (5, .int x2)]) hx hb dX10_divide_63 hl (by decide) rfl (fun ls hl2 => ?_)
          replace hl := hl2
          clear hl2
          refine lv_aload_n hx hb dX10_divide_65 rfl (lv_at hl 2 rfl) ?_
          refine lv_aload_n hx hb dX10_divide_66 rfl (lv_at hl 2 rfl) ?_
          refine va_get (D := (dC, dI)) (ci := 10) (v := .long (z_23.2.1 h0 3)) (C := RX10) (T := TX10) (N := 5) hx hb hts iwd_X10_divide_X10 hown hK hP h0 (Wd_ob kg_3 sg_3 (by decide)) rfl 3 (by decide) (hts _ md_X10_divide_2) (fun _ h9 => h9) (fl_at (t := 1) rfl) dX10_divide_67 ?_
          refine lv_iconst (v := 1) hx hb dX10_divide_70 (by decide) ?_
          refine lv_lshl (v := ((z_23.2.1 h0 3) <<< ((1 : Int32).toInt64 &&& 63))) hx hb dX10_divide_71 rfl ?_
          refine lv_aload_n hx hb dX10_divide_72 rfl (lv_at hl 2 rfl) ?_
          refine va_get (D := (dC, dI)) (ci := 10) (v := .long (z_23.2.1 h0 4)) (C := RX10) (T := TX10) (N := 5) hx hb hts iwd_X10_divide_X10 hown hK hP h0 (Wd_ob kg_3 sg_3 (by decide)) rfl 4 (by decide) (hts _ md_X10_divide_3) (fun _ h9 => h9) (fl_at (t := 1) rfl) dX10_divide_73 ?_
          refine lv_bipush (v := 63) hx hb dX10_divide_76 (by decide) ?_
          refine lv_lushr (v := (((z_23.2.1 h0 4) : Int64).toUInt64 >>> ((63 : Int32).toInt64.toUInt64 &&& Int64.toUInt64 63)).toInt64) hx hb dX10_divide_78 rfl ?_
          refine lv_lor hx hb dX10_divide_79 ?_
          refine va_put (D := (dC, dI)) (ci := 10) (v := .long ((((z_23.2.1 h0 3) <<< ((1 : Int32).toInt64 &&& 63))) ||| ((((z_23.2.1 h0 4) : Int64).toUInt64 >>> ((63 : Int32).toInt64.toUInt64 &&& Int64.toUInt64 63)).toInt64))) (ty := .long) (C := RX10) (T := TX10) (N := 5) hx hb hts iwd_X10_divide_X10 tyX10 tyX10_ok nmX10 hown hK hP hD hS h0 (Wd_ob kg_3 sg_3 (by decide)) rfl 3 (by decide) (hts _ md_X10_divide_2) (fun _ h9 => h9) rfl (by decide +kernel) rfl rfl (by rw [fl_len]; decide) dX10_divide_80 (fun H_24 locs hP2 hD2 hS2 => ?_)
          rw [Wd_sl sg_3 (by decide) rfl] at hP2 hD2
          obtain ⟨z_25, ez_25⟩ : ∃ w, w = sl z_23 h0 3 ((((z_23.2.1 h0 3) <<< ((1 : Int32).toInt64 &&& 63))) ||| ((((z_23.2.1 h0 4) : Int64).toUInt64 >>> ((63 : Int32).toInt64.toUInt64 &&& Int64.toUInt64 63)).toInt64)) := ⟨_, rfl⟩
          rw [← ez_25] at hP2 hD2
          replace hf := lt_at ez_25 hf
          clear ez_25
          replace hP := hP2
          replace hD := hD2
          replace hS := hS2
          clear hP2 hD2 hS2
          refine lv_aload_n hx hb dX10_divide_83 rfl (lv_at hl 2 rfl) ?_
          refine lv_aload_n hx hb dX10_divide_84 rfl (lv_at hl 2 rfl) ?_
          refine va_get (D := (dC, dI)) (ci := 10) (v := .long (z_25.2.1 h0 4)) (C := RX10) (T := TX10) (N := 5) hx hb hts iwd_X10_divide_X10 hown hK hP h0 (Wd_ob kg_3 sg_3 (by decide)) rfl 4 (by decide) (hts _ md_X10_divide_3) (fun _ h9 => h9) (fl_at (t := 1) rfl) dX10_divide_85 ?_
          refine lv_iconst (v := 1) hx hb dX10_divide_88 (by decide) ?_
          refine lv_lshl (v := ((z_25.2.1 h0 4) <<< ((1 : Int32).toInt64 &&& 63))) hx hb dX10_divide_89 rfl ?_
          refine lv_aload_n hx hb dX10_divide_90 rfl (lv_at hl 2 rfl) ?_
          refine va_get (D := (dC, dI)) (ci := 10) (v := .long (z_25.2.1 h0 0)) (C := RX10) (T := TX10) (N := 5) hx hb hts iwd_X10_divide_X10 hown hK hP h0 (Wd_ob kg_3 sg_3 (by decide)) rfl 0 (by decide) (hts _ md_X10_divide_4) (fun _ h9 => h9) (fl_at (t := 1) rfl) dX10_divide_91 ?_
          refine lv_bipush (v := 63) hx hb dX10_divide_94 (by decide) ?_
          refine lv_lushr (v := (((z_25.2.1 h0 0) : Int64).toUInt64 >>> ((63 : Int32).toInt64.toUInt64 &&& Int64.toUInt64 63)).toInt64) hx hb dX10_divide_96 rfl ?_
          refine lv_lor hx hb dX10_divide_97 ?_
          refine va_put (D := (dC, dI)) (ci := 10) (v := .long ((((z_25.2.1 h0 4) <<< ((1 : Int32).toInt64 &&& 63))) ||| ((((z_25.2.1 h0 0) : Int64).toUInt64 >>> ((63 : Int32).toInt64.toUInt64 &&& Int64.toUInt64 63)).toInt64))) (ty := .long) (C := RX10) (T := TX10) (N := 5) hx hb hts iwd_X10_divide_X10 tyX10 tyX10_ok nmX10 hown hK hP hD hS h0 (Wd_ob kg_3 sg_3 (by decide)) rfl 4 (by decide) (hts _ md_X10_divide_3) (fun _ h9 => h9) rfl (by decide +kernel) rfl rfl (by rw [fl_len]; decide) dX10_divide_98 (fun H_26 locs hP2 hD2 hS2 => ?_)
          rw [Wd_sl sg_3 (by decide) rfl] at hP2 hD2
          obtain ⟨z_27, ez_27⟩ : ∃ w, w = sl z_25 h0 4 ((((z_25.2.1 h0 4) <<< ((1 : Int32).toInt64 &&& 63))) ||| ((((z_25.2.1 h0 0) : Int64).toUInt64 >>> ((63 : Int32).toInt64.toUInt64 &&& Int64.toUInt64 63)).toInt64)) := ⟨_, rfl⟩
          rw [← ez_27] at hP2 hD2
          replace hf := lt_at ez_27 hf
          clear ez_27
          replace hP := hP2
          replace hD := hD2
          replace hS := hS2
          clear hP2 hD2 hS2
          refine lv_aload_n hx hb dX10_divide_101 rfl (lv_at hl 2 rfl) ?_
          refine lv_aload_n hx hb dX10_divide_102 rfl (lv_at hl 2 rfl) ?_
          refine va_get (D := (dC, dI)) (ci := 10) (v := .long (z_27.2.1 h0 0)) (C := RX10) (T := TX10) (N := 5) hx hb hts iwd_X10_divide_X10 hown hK hP h0 (Wd_ob kg_3 sg_3 (by decide)) rfl 0 (by decide) (hts _ md_X10_divide_4) (fun _ h9 => h9) (fl_at (t := 1) rfl) dX10_divide_103 ?_
          refine lv_iconst (v := 1) hx hb dX10_divide_106 (by decide) ?_
          refine lv_lshl (v := ((z_27.2.1 h0 0) <<< ((1 : Int32).toInt64 &&& 63))) hx hb dX10_divide_107 rfl ?_
          refine lv_aload_n hx hb dX10_divide_108 rfl (lv_at hl 2 rfl) ?_
          refine va_get (D := (dC, dI)) (ci := 10) (v := .long (z_27.2.1 h0 1)) (C := RX10) (T := TX10) (N := 5) hx hb hts iwd_X10_divide_X10 hown hK hP h0 (Wd_ob kg_3 sg_3 (by decide)) rfl 1 (by decide) (hts _ md_X10_divide_5) (fun _ h9 => h9) (fl_at (t := 1) rfl) dX10_divide_109 ?_
          refine lv_bipush (v := 63) hx hb dX10_divide_112 (by decide) ?_
          refine lv_lushr (v := (((z_27.2.1 h0 1) : Int64).toUInt64 >>> ((63 : Int32).toInt64.toUInt64 &&& Int64.toUInt64 63)).toInt64) hx hb dX10_divide_114 rfl ?_
          refine lv_lor hx hb dX10_divide_115 ?_
          refine va_put (D := (dC, dI)) (ci := 10) (v := .long ((((z_27.2.1 h0 0) <<< ((1 : Int32).toInt64 &&& 63))) ||| ((((z_27.2.1 h0 1) : Int64).toUInt64 >>> ((63 : Int32).toInt64.toUInt64 &&& Int64.toUInt64 63)).toInt64))) (ty := .long) (C := RX10) (T := TX10) (N := 5) hx hb hts iwd_X10_divide_X10 tyX10 tyX10_ok nmX10 hown hK hP hD hS h0 (Wd_ob kg_3 sg_3 (by decide)) rfl 0 (by decide) (hts _ md_X10_divide_4) (fun _ h9 => h9) rfl (by decide +kernel) rfl rfl (by rw [fl_len]; decide) dX10_divide_116 (fun H_28 locs hP2 hD2 hS2 => ?_)
          rw [Wd_sl sg_3 (by decide) rfl] at hP2 hD2
          obtain ⟨z_29, ez_29⟩ : ∃ w, w = sl z_27 h0 0 ((((z_27.2.1 h0 0) <<< ((1 : Int32).toInt64 &&& 63))) ||| ((((z_27.2.1 h0 1) : Int64).toUInt64 >>> ((63 : Int32).toInt64.toUInt64 &&& Int64.toUInt64 63)).toInt64)) := ⟨_, rfl⟩
          rw [← ez_29] at hP2 hD2
          replace hf := lt_at ez_29 hf
          clear ez_29
          replace hP := hP2
          replace hD := hD2
          replace hS := hS2
          clear hP2 hD2 hS2
          refine lv_aload_n hx hb dX10_divide_119 rfl (lv_at hl 2 rfl) ?_
          refine lv_dup hx hb dX10_divide_120 rfl ?_
          refine va_get (D := (dC, dI)) (ci := 10) (v := .long (z_29.2.1 h0 1)) (C := RX10) (T := TX10) (N := 5) hx hb hts iwd_X10_divide_X10 hown hK hP h0 (Wd_ob kg_3 sg_3 (by decide)) rfl 1 (by decide) (hts _ md_X10_divide_5) (fun _ h9 => h9) (fl_at (t := 1) rfl) dX10_divide_121 ?_
          refine lv_iconst (v := 1) hx hb dX10_divide_124 (by decide) ?_
          refine lv_lshl (v := ((z_29.2.1 h0 1) <<< ((1 : Int32).toInt64 &&& 63))) hx hb dX10_divide_125 rfl ?_
          refine va_put (D := (dC, dI)) (ci := 10) (v := .long (((z_29.2.1 h0 1) <<< ((1 : Int32).toInt64 &&& 63)))) (ty := .long) (C := RX10) (T := TX10) (N := 5) hx hb hts iwd_X10_divide_X10 tyX10 tyX10_ok nmX10 hown hK hP hD hS h0 (Wd_ob kg_3 sg_3 (by decide)) rfl 1 (by decide) (hts _ md_X10_divide_5) (fun _ h9 => h9) rfl (by decide +kernel) rfl rfl (by rw [fl_len]; decide) dX10_divide_126 (fun H_30 locs hP2 hD2 hS2 => ?_)
          rw [Wd_sl sg_3 (by decide) rfl] at hP2 hD2
          obtain ⟨z_31, ez_31⟩ : ∃ w, w = sl z_29 h0 1 (((z_29.2.1 h0 1) <<< ((1 : Int32).toInt64 &&& 63))) := ⟨_, rfl⟩
          rw [← ez_31] at hP2 hD2
          replace hf := lt_at ez_31 hf
          clear ez_31
          replace hP := hP2
          replace hD := hD2
          replace hS := hS2
          clear hP2 hD2 hS2
          refine lv_iload hx hb dX10_divide_129 (lv_at hl 0 rfl) ?_
          refine de_cut (h := 198) (fun (x : St) => []) (fun x ls H locs => lv_has ls 8 [(6, .int p_11), (0, .ref (a h0)), (1, .long x0), (3, .long x1), (5, .int x2)] ∧ va_P (dC, dI) vwCl (Wd cy a sh n x) H ∧ va_D A (Wd cy a sh n x) ∧ va_S A s.heap H locs) (fun x => fn_X10_divide_B198 F sh n p_11 (fun z9 q6 => fn_X10_divide_L34 F sh n x2 h0 x0 x1 f_13 z9 q6) x) (z8, r8) ?_ (fun B198 => ?_)
          · intro x ls H locs hI hf
            obtain ⟨z_32, ez⟩ : ∃ w, w = x := ⟨_, rfl⟩
            subst ez
            obtain ⟨hl2, hP2, hD2, hS2⟩ := hI
            replace hl : lv_has ls 8 [(6, .int p_11), (0, .ref (a h0)), (1, .long x0), (3, .long x1), (5, .int x2)] := hl2
            replace hP := hP2
            replace hD := hD2
            replace hS := hS2
            clear hl2 hP2 hD2 hS2
            replace hf := fn_X10_divide_B198_s hf
            refine W.eq (g2 := F0 m 198 ls []) rfl ?_
            refine lv_iinc (v := (p_11 + 1)) (lv' := [(6, .int (p_11 + 1)), (0, .ref (a h0)), (1, .long x0), (3, .long x1), (5, .int x2)]) hx hb dX10_divide_198 hl (k := 0) rfl rfl (by decide) rfl (fun ls hl2 => ?_)
            replace hl := hl2
            clear hl2
            refine lv_goto (tgt := 34) hx hb dX10_divide_201 (by decide) ?_
            exact ih34 (z_32, (p_11 + 1)) ls H locs ⟨lv_sub hl [0, 1, 2, 3, 4] rfl, hP, hD, hS⟩ hf
          refine de_cut (h := 150) (fun (x : St) => []) (fun x ls H locs => lv_has ls 8 [(6, .int p_11), (0, .ref (a h0)), (1, .long x0), (3, .long x1), (5, .int x2)] ∧ va_P (dC, dI) vwCl (Wd cy a sh n x) H ∧ va_D A (Wd cy a sh n x) ∧ va_S A s.heap H locs) (fun x => fn_X10_divide_B150 F sh n h0 x1 x0 p_11 (fun z9 q6 => fn_X10_divide_L34 F sh n x2 h0 x0 x1 f_13 z9 q6) x) (z8, r8) ?_ (fun B150 => ?_)
          · intro x ls H locs hI hf
            obtain ⟨z_33, ez⟩ : ∃ w, w = x := ⟨_, rfl⟩
            subst ez
            obtain ⟨hl2, hP2, hD2, hS2⟩ := hI
            replace hl : lv_has ls 8 [(6, .int p_11), (0, .ref (a h0)), (1, .long x0), (3, .long x1), (5, .int x2)] := hl2
            replace hP := hP2
            replace hD := hD2
            replace hS := hS2
            clear hl2 hP2 hD2 hS2
            replace hf := fn_X10_divide_B150_s hf
            refine W.eq (g2 := F0 m 150 ls []) rfl ?_
            refine lv_aload_n hx hb dX10_divide_150 rfl (lv_at hl 1 rfl) ?_
            refine lv_aload_n hx hb dX10_divide_151 rfl (lv_at hl 1 rfl) ?_
            refine va_get (D := (dC, dI)) (ci := 10) (v := .long (z_33.2.1 h0 3)) (C := RX10) (T := TX10) (N := 5) hx hb hts iwd_X10_divide_X10 hown hK hP h0 (Wd_ob kg_3 sg_3 (by decide)) rfl 3 (by decide) (hts _ md_X10_divide_2) (fun _ h9 => h9) (fl_at (t := 1) rfl) dX10_divide_152 ?_
            refine lv_lload_n hx hb dX10_divide_155 rfl (lv_at hl 2 rfl) ?_
            refine lv_lsub hx hb dX10_divide_156 ?_
            refine lv_aload_n hx hb dX10_divide_157 rfl (lv_at hl 1 rfl) ?_
            refine va_get (D := (dC, dI)) (ci := 10) (v := .long (z_33.2.1 h0 4)) (C := RX10) (T := TX10) (N := 5) hx hb hts iwd_X10_divide_X10 hown hK hP h0 (Wd_ob kg_3 sg_3 (by decide)) rfl 4 (by decide) (hts _ md_X10_divide_3) (fun _ h9 => h9) (fl_at (t := 1) rfl) dX10_divide_158 ?_
            refine lv_lload_n hx hb dX10_divide_161 rfl (lv_at hl 3 rfl) ?_
            obtain ⟨z_34, r_35, hfc, hf⟩ := cal_some hf
            have hFc := de_free hD hS hA
            refine va_calli (va_runS (As := [.long (z_33.2.1 h0 4), .long x1]) (rest := [.long ((z_33.2.1 h0 3) - x0), .ref (a h0)]) ⟨hx, hb, hml, hown, hts⟩ (de_X10_below l dC dI cy a sh n H.size F z_33 (z_33.2.1 h0 4) x1 hfc) (va_cwS 2 hts gX10_divide_X10_below rfl rfl rfl (by decide +kernel) ⟨Nat.le_of_ble_eq_true rfl, Nat.le_of_ble_eq_true rfl⟩) ⟨fun a U g mk q => by obtain ⟨q0, q1, qP, qK, qD, qN⟩ := q; exact ⟨q0, q1, qP, va_K.moved (u := U) (U := U.calling g mk a) (Vm.Alike.refl U.vm) qK, qD, qN.same rfl⟩, fun U hU hW => ⟨rfl, by rw [hU], by rw [hU]; exact hP, va_K.moved hW.alike hK, hD.weaken (fun _ _ _ _ => trivial), hN.warm hW⟩⟩ rfl rfl hl.1 rfl (lv_room (Nat.le_of_ble_eq_true rfl)) dX10_divide_162 ⟨Nat.le_of_ble_eq_true rfl, Nat.le_of_ble_eq_true rfl⟩) hS (fun q _ h => hFc q h) hFc (fun rr u t H_36 locs ht hvm hw hB hz1 hk1 hS2 => ?_)
            rw [hw]
            clear hw
            obtain ⟨hP1, -, hD1⟩ := hB
            rw [ht] at hP1
            replace hD := hD1.weaken (fun _ _ _ h => hFc _ h)
            replace hP := hP1
            replace hS := hS2
            clear hP1 hD1 hS2 hFc hfc hz1 hk1 hvm ht
            refine de_cut (h := 173) (fun (x : St × Int32) => [.int x.2, .long ((z_33.2.1 h0 3) - x0), .ref (a h0)]) (fun x ls H locs => lv_has ls 8 [(6, .int p_11), (0, .ref (a h0)), (1, .long x0), (3, .long x1), (5, .int x2)] ∧ va_P (dC, dI) vwCl (Wd cy a sh n x.1) H ∧ va_D A (Wd cy a sh n x.1) ∧ va_S A s.heap H locs) (fun x => fn_X10_divide_B173 F sh n h0 z_33 x0 x1 p_11 (fun z9 q6 => fn_X10_divide_L34 F sh n x2 h0 x0 x1 f_13 z9 q6) x.1 x.2) (z8, r8) ?_ (fun B173 => ?_)
            · intro x ls H locs hI hf
              obtain ⟨z_38, p_37⟩ := x
              obtain ⟨hl2, hP2, hD2, hS2⟩ := hI
              replace hl : lv_has ls 8 [(6, .int p_11), (0, .ref (a h0)), (1, .long x0), (3, .long x1), (5, .int x2)] := hl2
              replace hP := hP2
              replace hD := hD2
              replace hS := hS2
              clear hl2 hP2 hD2 hS2
              replace hf := fn_X10_divide_B173_s hf
              refine W.eq (g2 := F0 m 173 ls [.int p_37, .long ((z_33.2.1 h0 3) - x0), .ref (a h0)]) rfl ?_
              refine lv_i2l (v := (p_37 : Int32).toInt64) hx hb dX10_divide_173 rfl ?_
              refine lv_lsub hx hb dX10_divide_174 ?_
              refine va_put (D := (dC, dI)) (ci := 10) (v := .long (((z_33.2.1 h0 3) - x0) - ((p_37 : Int32).toInt64))) (ty := .long) (C := RX10) (T := TX10) (N := 5) hx hb hts iwd_X10_divide_X10 tyX10 tyX10_ok nmX10 hown hK hP hD hS h0 (Wd_ob kg_3 sg_3 (by decide)) rfl 3 (by decide) (hts _ md_X10_divide_2) (fun _ h9 => h9) rfl (by decide +kernel) rfl rfl (by rw [fl_len]; decide) dX10_divide_175 (fun H_39 locs hP2 hD2 hS2 => ?_)
              rw [Wd_sl sg_3 (by decide) rfl] at hP2 hD2
              obtain ⟨z_40, ez_40⟩ : ∃ w, w = sl z_38 h0 3 (((z_33.2.1 h0 3) - x0) - ((p_37 : Int32).toInt64)) := ⟨_, rfl⟩
              rw [← ez_40] at hP2 hD2
              replace hf := lt_at ez_40 hf
              clear ez_40
              replace hP := hP2
              replace hD := hD2
              replace hS := hS2
              clear hP2 hD2 hS2
              refine lv_aload_n hx hb dX10_divide_178 rfl (lv_at hl 1 rfl) ?_
              refine lv_dup hx hb dX10_divide_179 rfl ?_
              refine va_get (D := (dC, dI)) (ci := 10) (v := .long (z_40.2.1 h0 4)) (C := RX10) (T := TX10) (N := 5) hx hb hts iwd_X10_divide_X10 hown hK hP h0 (Wd_ob kg_3 sg_3 (by decide)) rfl 4 (by decide) (hts _ md_X10_divide_3) (fun _ h9 => h9) (fl_at (t := 1) rfl) dX10_divide_180 ?_
              refine lv_lload_n hx hb dX10_divide_183 rfl (lv_at hl 3 rfl) ?_
              refine lv_lsub hx hb dX10_divide_184 ?_
              refine va_put (D := (dC, dI)) (ci := 10) (v := .long ((z_40.2.1 h0 4) - x1)) (ty := .long) (C := RX10) (T := TX10) (N := 5) hx hb hts iwd_X10_divide_X10 tyX10 tyX10_ok nmX10 hown hK hP hD hS h0 (Wd_ob kg_3 sg_3 (by decide)) rfl 4 (by decide) (hts _ md_X10_divide_3) (fun _ h9 => h9) rfl (by decide +kernel) rfl rfl (by rw [fl_len]; decide) dX10_divide_185 (fun H_41 locs hP2 hD2 hS2 => ?_)
              rw [Wd_sl sg_3 (by decide) rfl] at hP2 hD2
              obtain ⟨z_42, ez_42⟩ : ∃ w, w = sl z_40 h0 4 ((z_40.2.1 h0 4) - x1) := ⟨_, rfl⟩
              rw [← ez_42] at hP2 hD2
              replace hf := lt_at ez_42 hf
              clear ez_42
              replace hP := hP2
              replace hD := hD2
              replace hS := hS2
              clear hP2 hD2 hS2
              refine lv_aload_n hx hb dX10_divide_188 rfl (lv_at hl 1 rfl) ?_
              refine lv_dup hx hb dX10_divide_189 rfl ?_
              refine va_get (D := (dC, dI)) (ci := 10) (v := .long (z_42.2.1 h0 1)) (C := RX10) (T := TX10) (N := 5) hx hb hts iwd_X10_divide_X10 hown hK hP h0 (Wd_ob kg_3 sg_3 (by decide)) rfl 1 (by decide) (hts _ md_X10_divide_5) (fun _ h9 => h9) (fl_at (t := 1) rfl) dX10_divide_190 ?_
              refine lv_lconst (v := 1) hx hb dX10_divide_193 (by decide) ?_
              refine lv_lor hx hb dX10_divide_194 ?_
              refine va_put (D := (dC, dI)) (ci := 10) (v := .long ((z_42.2.1 h0 1) ||| 1)) (ty := .long) (C := RX10) (T := TX10) (N := 5) hx hb hts iwd_X10_divide_X10 tyX10 tyX10_ok nmX10 hown hK hP hD hS h0 (Wd_ob kg_3 sg_3 (by decide)) rfl 1 (by decide) (hts _ md_X10_divide_5) (fun _ h9 => h9) rfl (by decide +kernel) rfl rfl (by rw [fl_len]; decide) dX10_divide_195 (fun H_43 locs hP2 hD2 hS2 => ?_)
              rw [Wd_sl sg_3 (by decide) rfl] at hP2 hD2
              obtain ⟨z_44, ez_44⟩ : ∃ w, w = sl z_42 h0 1 ((z_42.2.1 h0 1) ||| 1) := ⟨_, rfl⟩
              rw [← ez_44] at hP2 hD2
              replace hf := lt_at ez_44 hf
              clear ez_44
              replace hP := hP2
              replace hD := hD2
              replace hS := hS2
              clear hP2 hD2 hS2
              exact B198 (z_44) ls H_43 locs ⟨lv_sub hl [0, 1, 2, 3, 4] rfl, hP, hD, hS⟩ hf
            refine lv_if_eq (tgt := 172) hx hb dX10_divide_165 (by decide) (fun c_45 => ?_) (fun c_45 => ?_)
            · skip
              rw [if_pos c_45] at hf
              refine lv_iconst (v := 0) hx hb dX10_divide_172 (by decide) ?_
              exact B173 (z_34, 0) ls H_36 locs ⟨lv_sub hl [0, 1, 2, 3, 4] rfl, hP, hD, hS⟩ hf
            · skip
              rw [if_neg c_45] at hf
              refine lv_iconst (v := 1) hx hb dX10_divide_168 (by decide) ?_
              refine lv_goto (tgt := 173) hx hb dX10_divide_169 (by decide) ?_
              exact B173 (z_34, 1) ls H_36 locs ⟨lv_sub hl [0, 1, 2, 3, 4] rfl, hP, hD, hS⟩ hf
          refine lv_if_ne (tgt := 150) hx hb dX10_divide_131 (by decide) (fun c_46 => ?_) (fun c_46 => ?_)
          · skip
            rw [if_neg c_46] at hf
            exact B150 (z_31) ls H_30 locs ⟨lv_sub hl [1, 2, 3, 4, 5] rfl, hP, hD, hS⟩ hf
          · skip
            rw [if_pos c_46] at hf
            refine lv_aload_n hx hb dX10_divide_134 rfl (lv_at hl 2 rfl) ?_
            refine va_get (D := (dC, dI)) (ci := 10) (v := .long (z_31.2.1 h0 3)) (C := RX10) (T := TX10) (N := 5) hx hb hts iwd_X10_divide_X10 hown hK hP h0 (Wd_ob kg_3 sg_3 (by decide)) rfl 3 (by decide) (hts _ md_X10_divide_2) (fun _ h9 => h9) (fl_at (t := 1) rfl) dX10_divide_135 ?_
            refine lv_aload_n hx hb dX10_divide_138 rfl (lv_at hl 2 rfl) ?_
            refine va_get (D := (dC, dI)) (ci := 10) (v := .long (z_31.2.1 h0 4)) (C := RX10) (T := TX10) (N := 5) hx hb hts iwd_X10_divide_X10 hown hK hP h0 (Wd_ob kg_3 sg_3 (by decide)) rfl 4 (by decide) (hts _ md_X10_divide_3) (fun _ h9 => h9) (fl_at (t := 1) rfl) dX10_divide_139 ?_
            refine lv_lload_n hx hb dX10_divide_142 rfl (lv_at hl 3 rfl) ?_
            refine lv_lload_n hx hb dX10_divide_143 rfl (lv_at hl 4 rfl) ?_
            obtain ⟨z_47, r_48, hfc, hf⟩ := cal_some hf
            have hFc := de_free hD hS hA
            refine va_calli (va_runS (As := [.long (z_31.2.1 h0 3), .long (z_31.2.1 h0 4), .long x0, .long x1]) (rest := []) ⟨hx, hb, hml, hown, hts⟩ (de_X10_compare l dC dI cy a sh n H_30.size F z_31 (z_31.2.1 h0 3) (z_31.2.1 h0 4) x0 x1 hfc) (va_cwS 4 hts gX10_divide_X10_compare rfl rfl rfl (by decide +kernel) ⟨Nat.le_of_ble_eq_true rfl, Nat.le_of_ble_eq_true rfl⟩) ⟨fun a U g mk q => by obtain ⟨q0, q1, qP, qK, qD, qN⟩ := q; exact ⟨q0, q1, qP, va_K.moved (u := U) (U := U.calling g mk a) (Vm.Alike.refl U.vm) qK, qD, qN.same rfl⟩, fun U hU hW => ⟨rfl, by rw [hU], by rw [hU]; exact hP, va_K.moved hW.alike hK, hD.weaken (fun _ _ _ _ => trivial), hN.warm hW⟩⟩ rfl rfl hl.1 rfl (lv_room (Nat.le_of_ble_eq_true rfl)) dX10_divide_144 ⟨Nat.le_of_ble_eq_true rfl, Nat.le_of_ble_eq_true rfl⟩) hS (fun q _ h => hFc q h) hFc (fun rr u t H_49 locs ht hvm hw hB hz1 hk1 hS2 => ?_)
            rw [hw]
            clear hw
            obtain ⟨hP1, -, hD1⟩ := hB
            rw [ht] at hP1
            replace hD := hD1.weaken (fun _ _ _ h => hFc _ h)
            replace hP := hP1
            replace hS := hS2
            clear hP1 hD1 hS2 hFc hfc hz1 hk1 hvm ht
            refine lv_if_lt (tgt := 198) hx hb dX10_divide_147 (by decide) (fun c_50 => ?_) (fun c_50 => ?_)
            · skip
              rw [if_pos c_50] at hf
              exact B198 (z_47) ls H_49 locs ⟨lv_sub hl [1, 2, 3, 4, 5] rfl, hP, hD, hS⟩ hf
            · skip
              rw [if_neg c_50] at hf
              exact B150 (z_47) ls H_49 locs ⟨lv_sub hl [1, 2, 3, 4, 5] rfl, hP, hD, hS⟩ hf
        refine lv_if_ge (tgt := 62) hx hb dX10_divide_55 (by decide) (fun c_51 => ?_) (fun c_51 => ?_)
        · skip
          rw [lg_cmp_ge] at c_51
          rw [if_pos c_51] at hf
          refine lv_iconst (v := 0) hx hb dX10_divide_62 (by decide) ?_
          exact B63 (z_12, 0) ls H locs ⟨lv_sub hl [0, 1, 2, 3, 4] rfl, hP, hD, hS⟩ hf
        · skip
          rw [lg_cmp_ge] at c_51
          rw [if_neg c_51] at hf
          refine lv_iconst (v := 1) hx hb dX10_divide_58 (by decide) ?_
          refine lv_goto (tgt := 63) hx hb dX10_divide_59 (by decide) ?_
          exact B63 (z_12, 1) ls H locs ⟨lv_sub hl [0, 1, 2, 3, 4] rfl, hP, hD, hS⟩ hf
  refine de_cut (h := 17) (fun (x : St) => [.ref (a h0)]) (fun x ls H locs => lv_has ls 8 [(0, .ref (a h0)), (1, .long x0), (3, .long x1), (5, .int x2)] ∧ va_P (dC, dI) vwCl (Wd cy a sh n x) H ∧ va_D A (Wd cy a sh n x) ∧ va_S A s.heap H locs) (fun x => fn_X10_divide_B17 F sh n h0 x2 x0 x1 x) (z8, r8) ?_ (fun B17 => ?_)
  · intro x ls H locs hI hf
    obtain ⟨z_52, ez⟩ : ∃ w, w = x := ⟨_, rfl⟩
    subst ez
    obtain ⟨hl2, hP2, hD2, hS2⟩ := hI
    replace hl : lv_has ls 8 [(0, .ref (a h0)), (1, .long x0), (3, .long x1), (5, .int x2)] := hl2
    replace hP := hP2
    replace hD := hD2
    replace hS := hS2
    clear hl2 hP2 hD2 hS2
    replace hf := fn_X10_divide_B17_s hf
    refine W.eq (g2 := F0 m 17 ls [.ref (a h0)]) rfl ?_
    refine lv_iconst (v := 0) hx hb dX10_divide_17 (by decide) ?_
    exact B18 (z_52, 0) ls H locs ⟨lv_sub hl [0, 1, 2, 3] rfl, hP, hD, hS⟩ hf
  refine lv_if_ne (tgt := 17) hx hb dX10_divide_4 (by decide) (fun c_53 => ?_) (fun c_53 => ?_)
  · skip
    rw [lg_cmp_eq] at c_53
    rw [if_neg c_53] at hf
    exact B17 (z) ls H locs ⟨lv_sub hl [0, 1, 2, 3] rfl, hP, hD, hS⟩ hf
  · skip
    rw [lg_cmp_eq] at c_53
    rw [if_pos c_53] at hf
    refine lv_lload_n hx hb dX10_divide_7 rfl (lv_at hl 2 rfl) ?_
    refine lv_lconst (v := 0) hx hb dX10_divide_8 (by decide) ?_
    refine W.lcmp hx hb dX10_divide_9 ?_
    refine lv_if_ne (tgt := 17) hx hb dX10_divide_10 (by decide) (fun c_54 => ?_) (fun c_54 => ?_)
    · skip
      rw [lg_cmp_eq] at c_54
      rw [if_neg c_54] at hf
      exact B17 (z) ls H locs ⟨lv_sub hl [0, 1, 2, 3] rfl, hP, hD, hS⟩ hf
    · skip
      rw [lg_cmp_eq] at c_54
      rw [if_pos c_54] at hf
      refine lv_iconst (v := 1) hx hb dX10_divide_13 (by decide) ?_
      refine lv_goto (tgt := 18) hx hb dX10_divide_14 (by decide) ?_
      exact B18 (z, 1) ls H locs ⟨lv_sub hl [0, 1, 2, 3] rfl, hP, hD, hS⟩ hf

theorem md_X16_lookInstruction_3 : (.fieldLink RX16 101 "ResourceLedgerModel$Unit" "elements" "I" : Cond) ∈ wsX16_lookInstruction := List.mem_of_getElem? (i := 3) rfl
theorem iwd_X16_lookInstruction_X16 : ∀ w ∈ wsX160, w ∈ wsX16_lookInstruction := fun _ h => List.mem_cons_of_mem _ (List.mem_append_right _ h)
theorem md_X16_lookInstruction_1 : (.fieldLink RX16 104 "ResourceLedgerModel$Unit" "functions" "I" : Cond) ∈ wsX16_lookInstruction := List.mem_of_getElem? (i := 1) rfl
theorem md_X16_lookInstruction_2 : (.fieldLink RX16 98 "ResourceLedgerModel$Unit" "callees" "I" : Cond) ∈ wsX16_lookInstruction := List.mem_of_getElem? (i := 2) rfl
set_option maxHeartbeats 4000000 in
set_option maxRecDepth 100000 in
theorem de_X16_lookInstruction (l : Launch) (dC : Nat → ClassId) (dI : Nat → Nat → Nat) (cy : Nat → ClassId) (a : Nat → Nat) (sh : Nat → Nat × Nat) (n sz : Nat) (F : Nat) (z : St) (h0 : Nat) (x0 : Int32) (x1 : Int32) (x2 : Int32) {z8 : St} {r8 : Unit} (hf : fn_X16_lookInstruction F sh n z h0 x0 x1 x2 = some (z8, r8)) : Met l yX16_lookInstruction wsX16_lookInstruction ({ frames := 2, cells := 0, slots := 0, locals := 43 }) (va_Pc [.ref (a h0), .int x0, .int x1, .int x2] (fun U => U.heap.size = sz ∧ va_P (dC, dI) vwCl (Wd cy a sh n z) U.heap ∧ va_K (dC, dI) vwCl (TYS cy) U ∧ va_D (fun _ => True) (Wd cy a sh n z) ∧ NK U)) (va_Qv (fun u : Unit => True) (fun u t => va_P (dC, dI) vwCl (Wd cy a sh n z8) t.heap ∧ va_K (dC, dI) vwCl (TYS cy) t ∧ va_D (va_A (Wd cy a sh n z) sz) (Wd cy a sh n z8)) (va_A (Wd cy a sh n z) sz)) 0 0 (va_A (Wd cy a sh n z) sz) := by
  refine Met.ofW (cc := cX16_lookInstruction) (maxL := 5) (ret := none) (by decide) rfl ?_
  intro p e s m args below meth c s₁ B hml hv
  obtain ⟨rfl, hsz, hP, hK, hD0, hN⟩ := hv
  have hx := B.exec
  have hb := B.bytes
  have hr := B.returns
  have hts := atoms_spec (ws := wsX16_lookInstruction) B.pre
  have hown : s.vm.findClass RX16 = some m.cls := findClass_of_methodNamed B.named
  have hlocks := B.notSynchronized
  subst hsz
  have hD := hD0.self (sz := s.heap.size)
  clear hD0
  generalize hAe : va_A (Wd cy a sh n z) s.heap.size = A at hD ⊢
  have hA : ∀ q : Nat, s.heap.size ≤ q → A q := fun q h => by rw [← hAe]; exact Or.inr h
  clear hAe
  have hS : va_S A s.heap s.heap [] := va_S.rf
  have hl := lv_entry ([.ref (a h0), .int x0, .int x1, .int x2]) (n := 5) (Nat.le_of_ble_eq_true rfl)
  rw [lg_entry_eq]
  generalize (lg_sl ([.ref (a h0), .int x0, .int x1, .int x2]) ++ List.replicate (5 - (lg_sl ([.ref (a h0), .int x0, .int x1, .int x2])).length) Slot.unset).toArray = ls at hl ⊢
  replace hl : lv_has ls 5 [(0, .ref (a h0)), (1, .int x0), (2, .int x1), (3, .int x2)] := hl
  unfold fn_X16_lookInstruction at hf
  refine de_start hS hP (fun H locs hS hP => ?_)
  refine lv_aload_n hx hb dX16_lookInstruction_0 rfl (lv_at hl 0 rfl) ?_
  refine lv_iload_n hx hb dX16_lookInstruction_1 rfl (lv_at hl 1 rfl) ?_
  obtain ⟨g_3, hf⟩ := grd_some hf
  obtain ⟨kg_3, sg_3⟩ := okO_at g_3
  obtain ⟨z_1, r_2, hfc, hf⟩ := cal_some hf
  have hFc := de_free hD hS hA
  refine va_calli (va_runV (As := [.int x0]) (rest := []) ⟨hx, hb, hml, hown, hts⟩ (de_X16_byteAt l dC dI cy a sh n H.size F z h0 x0 hfc) (cwV 1 hts gX16_lookInstruction_X16_byteAt rfl rfl rfl (by decide +kernel) ⟨Nat.le_of_ble_eq_true rfl, Nat.le_of_ble_eq_true rfl⟩) ⟨fun a U g mk q => by obtain ⟨q0, q1, qP, qK, qD, qN⟩ := q; exact ⟨q0, q1, qP, va_K.moved (u := U) (U := U.calling g mk a) (Vm.Alike.refl U.vm) qK, qD, qN.same rfl⟩, va_recv hK hP (ci := 16) (q0 := h0) rfl (Wd_ob kg_3 sg_3 (by decide)), fun U hU hW => ⟨rfl, by rw [hU], by rw [hU]; exact hP, va_K.moved hW.alike hK, hD.weaken (fun _ _ _ _ => trivial), hN.warm hW⟩⟩ rfl rfl hl.1 rfl (lv_room (Nat.le_of_ble_eq_true rfl)) dX16_lookInstruction_2 ⟨Nat.le_of_ble_eq_true rfl, Nat.le_of_ble_eq_true rfl⟩) hS (fun q _ h => hFc q h) hFc (fun rr u t H_4 locs ht hvm hw hB hz1 hk1 hS2 => ?_)
  rw [hw]
  clear hw
  obtain ⟨hP1, -, hD1⟩ := hB
  rw [ht] at hP1
  replace hD := hD1.weaken (fun _ _ _ h => hFc _ h)
  replace hP := hP1
  replace hS := hS2
  clear hP1 hD1 hS2 hFc hfc hz1 hk1 hvm ht
  refine lv_istore (lv' := [(4, .int r_2), (0, .ref (a h0)), (1, .int x0), (2, .int x1), (3, .int x2)]) hx hb dX16_lookInstruction_5 hl (by decide) rfl (fun ls hl2 => ?_)
  replace hl := hl2
  clear hl2
  refine lv_iload hx hb dX16_lookInstruction_7 (lv_at hl 0 rfl) ?_
  refine lv_iconst (v := 1) hx hb dX16_lookInstruction_9 (by decide) ?_
  refine de_cut (h := 42) (fun (x : St) => []) (fun x ls H locs => lv_has ls 5 [(4, .int r_2), (0, .ref (a h0)), (1, .int x0), (2, .int x1)] ∧ va_P (dC, dI) vwCl (Wd cy a sh n x) H ∧ va_D A (Wd cy a sh n x) ∧ va_S A s.heap H locs) (fun x => fn_X16_lookInstruction_B42 F sh n r_2 h0 x0 x1 x) (z8, r8) ?_ (fun B42 => ?_)
  · intro x ls H locs hI hf
    obtain ⟨z_5, ez⟩ : ∃ w, w = x := ⟨_, rfl⟩
    subst ez
    obtain ⟨hl2, hP2, hD2, hS2⟩ := hI
    replace hl : lv_has ls 5 [(4, .int r_2), (0, .ref (a h0)), (1, .int x0), (2, .int x1)] := hl2
    replace hP := hP2
    replace hD := hD2
    replace hS := hS2
    clear hl2 hP2 hD2 hS2
    replace hf := fn_X16_lookInstruction_B42_s hf
    refine W.eq (g2 := F0 m 42 ls []) rfl ?_
    refine lv_iload hx hb dX16_lookInstruction_42 (lv_at hl 0 rfl) ?_
    refine lv_bipush (v := 10) hx hb dX16_lookInstruction_44 (by decide) ?_
    refine de_cut (h := 79) (fun (x : St) => []) (fun x ls H locs => lv_has ls 5 [(4, .int r_2), (0, .ref (a h0)), (1, .int x0)] ∧ va_P (dC, dI) vwCl (Wd cy a sh n x) H ∧ va_D A (Wd cy a sh n x) ∧ va_S A s.heap H locs) (fun x => fn_X16_lookInstruction_B79 F sh n r_2 h0 x0 x) (z8, r8) ?_ (fun B79 => ?_)
    · intro x ls H locs hI hf
      obtain ⟨z_6, ez⟩ : ∃ w, w = x := ⟨_, rfl⟩
      subst ez
      obtain ⟨hl2, hP2, hD2, hS2⟩ := hI
      replace hl : lv_has ls 5 [(4, .int r_2), (0, .ref (a h0)), (1, .int x0)] := hl2
      replace hP := hP2
      replace hD := hD2
      replace hS := hS2
      clear hl2 hP2 hD2 hS2
      replace hf := fn_X16_lookInstruction_B79_s hf
      refine W.eq (g2 := F0 m 79 ls []) rfl ?_
      refine lv_iload hx hb dX16_lookInstruction_79 (lv_at hl 0 rfl) ?_
      refine lv_bipush (v := 16) hx hb dX16_lookInstruction_81 (by decide) ?_
      refine de_cut (h := 93) (fun (x : St) => []) (fun x ls H locs => lv_has ls 5 [(0, .ref (a h0)), (1, .int x0)] ∧ va_P (dC, dI) vwCl (Wd cy a sh n x) H ∧ va_D A (Wd cy a sh n x) ∧ va_S A s.heap H locs) (fun x => fn_X16_lookInstruction_B93 F sh n h0 x0 x) (z8, r8) ?_ (fun B93 => ?_)
      · intro x ls H locs hI hf
        obtain ⟨z_7, ez⟩ : ∃ w, w = x := ⟨_, rfl⟩
        subst ez
        obtain ⟨hl2, hP2, hD2, hS2⟩ := hI
        replace hl : lv_has ls 5 [(0, .ref (a h0)), (1, .int x0)] := hl2
        replace hP := hP2
        replace hD := hD2
        replace hS := hS2
        clear hl2 hP2 hD2 hS2
        replace hf := fn_X16_lookInstruction_B93_s hf
        refine W.eq (g2 := F0 m 93 ls []) rfl ?_
        refine lv_aload_n hx hb dX16_lookInstruction_93 rfl (lv_at hl 0 rfl) ?_
        refine lv_iload_n hx hb dX16_lookInstruction_94 rfl (lv_at hl 1 rfl) ?_
        refine lv_iconst (v := 1) hx hb dX16_lookInstruction_95 (by decide) ?_
        refine lv_iadd hx hb dX16_lookInstruction_96 ?_
        obtain ⟨z_8, _u, hfc, hf⟩ := cal_some hf
        have hFc := de_free hD hS hA
        refine va_callv (va_runV (As := [.int (x0 + 1)]) (rest := []) ⟨hx, hb, hml, hown, hts⟩ (de_X16_lookOwn l dC dI cy a sh n H.size F z_7 h0 (x0 + 1) hfc) (cwV 1 hts gX16_lookInstruction_X16_lookOwn rfl rfl rfl (by decide +kernel) ⟨Nat.le_of_ble_eq_true rfl, Nat.le_of_ble_eq_true rfl⟩) ⟨fun a U g mk q => by obtain ⟨q0, q1, qP, qK, qD, qN⟩ := q; exact ⟨q0, q1, qP, va_K.moved (u := U) (U := U.calling g mk a) (Vm.Alike.refl U.vm) qK, qD, qN.same rfl⟩, va_recv hK hP (ci := 16) (q0 := h0) rfl (Wd_ob kg_3 sg_3 (by decide)), fun U hU hW => ⟨rfl, by rw [hU], by rw [hU]; exact hP, va_K.moved hW.alike hK, hD.weaken (fun _ _ _ _ => trivial), hN.warm hW⟩⟩ rfl rfl hl.1 rfl (lv_room (Nat.le_of_ble_eq_true rfl)) dX16_lookInstruction_97 ⟨Nat.le_of_ble_eq_true rfl, Nat.le_of_ble_eq_true rfl⟩) hS (fun q _ h => hFc q h) hFc (fun u t H_9 locs ht hvm hw hB hz1 hk1 hS2 => ?_)
        obtain ⟨hP1, -, hD1⟩ := hB
        rw [ht] at hP1
        replace hD := hD1.weaken (fun _ _ _ h => hFc _ h)
        replace hP := hP1
        replace hS := hS2
        clear hP1 hD1 hS2 hFc hfc hz1 hk1 hvm ht
        refine lv_aload_n hx hb dX16_lookInstruction_100 rfl (lv_at hl 0 rfl) ?_
        obtain ⟨z_10, r_11, hfc, hf⟩ := cal_some hf
        have hFc := de_free hD hS hA
        refine va_calli (va_runV (As := []) (rest := []) ⟨hx, hb, hml, hown, hts⟩ (de_X16_isGood l dC dI cy a sh n H_9.size F z_8 h0 hfc) (cwV 0 hts gX16_lookInstruction_X16_isGood rfl rfl rfl (by decide +kernel) ⟨Nat.le_of_ble_eq_true rfl, Nat.le_of_ble_eq_true rfl⟩) ⟨fun a U g mk q => by obtain ⟨q0, q1, qP, qK, qD, qN⟩ := q; exact ⟨q0, q1, qP, va_K.moved (u := U) (U := U.calling g mk a) (Vm.Alike.refl U.vm) qK, qD, qN.same rfl⟩, va_recv hK hP (ci := 16) (q0 := h0) rfl (Wd_ob kg_3 sg_3 (by decide)), fun U hU hW => ⟨rfl, by rw [hU], by rw [hU]; exact hP, va_K.moved hW.alike hK, hD.weaken (fun _ _ _ _ => trivial), hN.warm hW⟩⟩ rfl rfl hl.1 rfl (lv_room (Nat.le_of_ble_eq_true rfl)) dX16_lookInstruction_101 ⟨Nat.le_of_ble_eq_true rfl, Nat.le_of_ble_eq_true rfl⟩) hS (fun q _ h => hFc q h) hFc (fun rr u t H_12 locs ht hvm hw hB hz1 hk1 hS2 => ?_)
        rw [hw]
        clear hw
        obtain ⟨hP1, -, hD1⟩ := hB
        rw [ht] at hP1
        replace hD := hD1.weaken (fun _ _ _ h => hFc _ h)
        replace hP := hP1
        replace hS := hS2
        clear hP1 hD1 hS2 hFc hfc hz1 hk1 hvm ht
        refine lv_if_eq (tgt := 253) hx hb dX16_lookInstruction_104 (by decide) (fun c_13 => ?_) (fun c_13 => ?_)
        · skip
          rw [if_pos c_13] at hf
          obtain ⟨h8, h9⟩ := ret_some hf
          rw [h8]
          exact W.vret hx hb hr (fun t ht hW => ⟨⟨(), rfl, trivial, by rw [ht]; exact hP, va_K.moved hW.alike hK, hD⟩, hS.F ht⟩) hS.2.2 dX16_lookInstruction_253
        · skip
          rw [if_neg c_13] at hf
          refine lv_aload_n hx hb dX16_lookInstruction_107 rfl (lv_at hl 0 rfl) ?_
          refine lv_iload_n hx hb dX16_lookInstruction_108 rfl (lv_at hl 1 rfl) ?_
          refine lv_iconst (v := 2) hx hb dX16_lookInstruction_109 (by decide) ?_
          refine lv_iadd hx hb dX16_lookInstruction_110 ?_
          obtain ⟨z_14, r_15, hfc, hf⟩ := cal_some hf
          have hFc := de_free hD hS hA
          refine va_calli (va_runV (As := [.int (x0 + 2)]) (rest := []) ⟨hx, hb, hml, hown, hts⟩ (de_X16_byteAt l dC dI cy a sh n H_12.size F z_10 h0 (x0 + 2) hfc) (cwV 1 hts gX16_lookInstruction_X16_byteAt rfl rfl rfl (by decide +kernel) ⟨Nat.le_of_ble_eq_true rfl, Nat.le_of_ble_eq_true rfl⟩) ⟨fun a U g mk q => by obtain ⟨q0, q1, qP, qK, qD, qN⟩ := q; exact ⟨q0, q1, qP, va_K.moved (u := U) (U := U.calling g mk a) (Vm.Alike.refl U.vm) qK, qD, qN.same rfl⟩, va_recv hK hP (ci := 16) (q0 := h0) rfl (Wd_ob kg_3 sg_3 (by decide)), fun U hU hW => ⟨rfl, by rw [hU], by rw [hU]; exact hP, va_K.moved hW.alike hK, hD.weaken (fun _ _ _ _ => trivial), hN.warm hW⟩⟩ rfl rfl hl.1 rfl (lv_room (Nat.le_of_ble_eq_true rfl)) dX16_lookInstruction_111 ⟨Nat.le_of_ble_eq_true rfl, Nat.le_of_ble_eq_true rfl⟩) hS (fun q _ h => hFc q h) hFc (fun rr u t H_16 locs ht hvm hw hB hz1 hk1 hS2 => ?_)
          rw [hw]
          clear hw
          obtain ⟨hP1, -, hD1⟩ := hB
          rw [ht] at hP1
          replace hD := hD1.weaken (fun _ _ _ h => hFc _ h)
          replace hP := hP1
          replace hS := hS2
          clear hP1 hD1 hS2 hFc hfc hz1 hk1 hvm ht
          refine lv_aload_n hx hb dX16_lookInstruction_114 rfl (lv_at hl 0 rfl) ?_
          refine lv_aload_n hx hb dX16_lookInstruction_115 rfl (lv_at hl 0 rfl) ?_
          refine lv_iload_n hx hb dX16_lookInstruction_116 rfl (lv_at hl 1 rfl) ?_
          refine lv_iconst (v := 1) hx hb dX16_lookInstruction_117 (by decide) ?_
          refine lv_iadd hx hb dX16_lookInstruction_118 ?_
          obtain ⟨z_17, r_18, hfc, hf⟩ := cal_some hf
          have hFc := de_free hD hS hA
          refine va_calli (va_runV (As := [.int (x0 + 1)]) (rest := [.ref (a h0), .int r_15]) ⟨hx, hb, hml, hown, hts⟩ (de_X16_byteAt l dC dI cy a sh n H_16.size F z_14 h0 (x0 + 1) hfc) (cwV 1 hts gX16_lookInstruction_X16_byteAt rfl rfl rfl (by decide +kernel) ⟨Nat.le_of_ble_eq_true rfl, Nat.le_of_ble_eq_true rfl⟩) ⟨fun a U g mk q => by obtain ⟨q0, q1, qP, qK, qD, qN⟩ := q; exact ⟨q0, q1, qP, va_K.moved (u := U) (U := U.calling g mk a) (Vm.Alike.refl U.vm) qK, qD, qN.same rfl⟩, va_recv hK hP (ci := 16) (q0 := h0) rfl (Wd_ob kg_3 sg_3 (by decide)), fun U hU hW => ⟨rfl, by rw [hU], by rw [hU]; exact hP, va_K.moved hW.alike hK, hD.weaken (fun _ _ _ _ => trivial), hN.warm hW⟩⟩ rfl rfl hl.1 rfl (lv_room (Nat.le_of_ble_eq_true rfl)) dX16_lookInstruction_119 ⟨Nat.le_of_ble_eq_true rfl, Nat.le_of_ble_eq_true rfl⟩) hS (fun q _ h => hFc q h) hFc (fun rr u t H_19 locs ht hvm hw hB hz1 hk1 hS2 => ?_)
          rw [hw]
          clear hw
          obtain ⟨hP1, -, hD1⟩ := hB
          rw [ht] at hP1
          replace hD := hD1.weaken (fun _ _ _ h => hFc _ h)
          replace hP := hP1
          replace hS := hS2
          clear hP1 hD1 hS2 hFc hfc hz1 hk1 hvm ht
          obtain ⟨z_20, r_21, hfc, hf⟩ := cal_some hf
          have hFc := de_free hD hS hA
          refine va_calli (va_runV (As := [.int r_18]) (rest := [.int r_15]) ⟨hx, hb, hml, hown, hts⟩ (de_X16_fieldsOf l dC dI cy a sh n H_19.size F z_17 h0 r_18 hfc) (cwV 1 hts gX16_lookInstruction_X16_fieldsOf rfl rfl rfl (by decide +kernel) ⟨Nat.le_of_ble_eq_true rfl, Nat.le_of_ble_eq_true rfl⟩) ⟨fun a U g mk q => by obtain ⟨q0, q1, qP, qK, qD, qN⟩ := q; exact ⟨q0, q1, qP, va_K.moved (u := U) (U := U.calling g mk a) (Vm.Alike.refl U.vm) qK, qD, qN.same rfl⟩, va_recv hK hP (ci := 16) (q0 := h0) rfl (Wd_ob kg_3 sg_3 (by decide)), fun U hU hW => ⟨rfl, by rw [hU], by rw [hU]; exact hP, va_K.moved hW.alike hK, hD.weaken (fun _ _ _ _ => trivial), hN.warm hW⟩⟩ rfl rfl hl.1 rfl (lv_room (Nat.le_of_ble_eq_true rfl)) dX16_lookInstruction_122 ⟨Nat.le_of_ble_eq_true rfl, Nat.le_of_ble_eq_true rfl⟩) hS (fun q _ h => hFc q h) hFc (fun rr u t H_22 locs ht hvm hw hB hz1 hk1 hS2 => ?_)
          rw [hw]
          clear hw
          obtain ⟨hP1, -, hD1⟩ := hB
          rw [ht] at hP1
          replace hD := hD1.weaken (fun _ _ _ h => hFc _ h)
          replace hP := hP1
          replace hS := hS2
          clear hP1 hD1 hS2 hFc hfc hz1 hk1 hvm ht
          refine lv_icmp_lt (tgt := 253) hx hb dX16_lookInstruction_125 (by decide) (fun c_23 => ?_) (fun c_23 => ?_)
          · skip
            rw [if_pos c_23] at hf
            obtain ⟨h8, h9⟩ := ret_some hf
            rw [h8]
            exact W.vret hx hb hr (fun t ht hW => ⟨⟨(), rfl, trivial, by rw [ht]; exact hP, va_K.moved hW.alike hK, hD⟩, hS.F ht⟩) hS.2.2 dX16_lookInstruction_253
          · skip
            rw [if_neg c_23] at hf
            refine lv_aload_n hx hb dX16_lookInstruction_128 rfl (lv_at hl 0 rfl) ?_
            refine lv_bipush (v := 9) hx hb dX16_lookInstruction_129 (by decide) ?_
            refine lv_iload_n hx hb dX16_lookInstruction_131 rfl (lv_at hl 1 rfl) ?_
            refine lv_iconst (v := 2) hx hb dX16_lookInstruction_132 (by decide) ?_
            refine lv_iadd hx hb dX16_lookInstruction_133 ?_
            obtain ⟨z_24, _u, hfc, hf⟩ := cal_some hf
            have hFc := de_free hD hS hA
            refine va_callv (va_runV (As := [.int 9, .int (x0 + 2)]) (rest := []) ⟨hx, hb, hml, hown, hts⟩ (de_X16_fail l dC dI cy a sh n H_22.size F z_20 h0 9 (x0 + 2) hfc) (cwV 2 hts gX16_lookInstruction_X16_fail rfl rfl rfl (by decide +kernel) ⟨Nat.le_of_ble_eq_true rfl, Nat.le_of_ble_eq_true rfl⟩) ⟨fun a U g mk q => by obtain ⟨q0, q1, qP, qK, qD, qN⟩ := q; exact ⟨q0, q1, qP, va_K.moved (u := U) (U := U.calling g mk a) (Vm.Alike.refl U.vm) qK, qD, qN.same rfl⟩, va_recv hK hP (ci := 16) (q0 := h0) rfl (Wd_ob kg_3 sg_3 (by decide)), fun U hU hW => ⟨rfl, by rw [hU], by rw [hU]; exact hP, va_K.moved hW.alike hK, hD.weaken (fun _ _ _ _ => trivial), hN.warm hW⟩⟩ rfl rfl hl.1 rfl (lv_room (Nat.le_of_ble_eq_true rfl)) dX16_lookInstruction_134 ⟨Nat.le_of_ble_eq_true rfl, Nat.le_of_ble_eq_true rfl⟩) hS (fun q _ h => hFc q h) hFc (fun u t H_25 locs ht hvm hw hB hz1 hk1 hS2 => ?_)
            obtain ⟨hP1, -, hD1⟩ := hB
            rw [ht] at hP1
            replace hD := hD1.weaken (fun _ _ _ h => hFc _ h)
            replace hP := hP1
            replace hS := hS2
            clear hP1 hD1 hS2 hFc hfc hz1 hk1 hvm ht
            refine lv_goto (tgt := 253) hx hb dX16_lookInstruction_137 (by decide) ?_
            obtain ⟨h8, h9⟩ := ret_some hf
            rw [h8]
            exact W.vret hx hb hr (fun t ht hW => ⟨⟨(), rfl, trivial, by rw [ht]; exact hP, va_K.moved hW.alike hK, hD⟩, hS.F ht⟩) hS.2.2 dX16_lookInstruction_253
      refine lv_icmp_eq (tgt := 93) hx hb dX16_lookInstruction_83 (by decide) (fun c_26 => ?_) (fun c_26 => ?_)
      · skip
        rw [if_pos c_26] at hf
        exact B93 (z_6) ls H locs ⟨lv_sub hl [1, 2] rfl, hP, hD, hS⟩ hf
      · skip
        rw [if_neg c_26] at hf
        refine lv_iload hx hb dX16_lookInstruction_86 (lv_at hl 0 rfl) ?_
        refine lv_bipush (v := 17) hx hb dX16_lookInstruction_88 (by decide) ?_
        refine lv_icmp_ne (tgt := 140) hx hb dX16_lookInstruction_90 (by decide) (fun c_27 => ?_) (fun c_27 => ?_)
        · skip
          rw [if_neg c_27] at hf
          refine lv_iload hx hb dX16_lookInstruction_140 (lv_at hl 0 rfl) ?_
          refine lv_bipush (v := 21) hx hb dX16_lookInstruction_142 (by decide) ?_
          refine lv_icmp_eq (tgt := 168) hx hb dX16_lookInstruction_144 (by decide) (fun c_28 => ?_) (fun c_28 => ?_)
          · skip
            rw [if_pos c_28] at hf
            refine lv_aload_n hx hb dX16_lookInstruction_168 rfl (lv_at hl 1 rfl) ?_
            refine lv_iload_n hx hb dX16_lookInstruction_169 rfl (lv_at hl 2 rfl) ?_
            refine lv_iconst (v := 1) hx hb dX16_lookInstruction_170 (by decide) ?_
            refine lv_iadd hx hb dX16_lookInstruction_171 ?_
            obtain ⟨z_29, _u, hfc, hf⟩ := cal_some hf
            have hFc := de_free hD hS hA
            refine va_callv (va_runV (As := [.int (x0 + 1)]) (rest := []) ⟨hx, hb, hml, hown, hts⟩ (de_X16_lookOwn l dC dI cy a sh n H.size F z_6 h0 (x0 + 1) hfc) (cwV 1 hts gX16_lookInstruction_X16_lookOwn rfl rfl rfl (by decide +kernel) ⟨Nat.le_of_ble_eq_true rfl, Nat.le_of_ble_eq_true rfl⟩) ⟨fun a U g mk q => by obtain ⟨q0, q1, qP, qK, qD, qN⟩ := q; exact ⟨q0, q1, qP, va_K.moved (u := U) (U := U.calling g mk a) (Vm.Alike.refl U.vm) qK, qD, qN.same rfl⟩, va_recv hK hP (ci := 16) (q0 := h0) rfl (Wd_ob kg_3 sg_3 (by decide)), fun U hU hW => ⟨rfl, by rw [hU], by rw [hU]; exact hP, va_K.moved hW.alike hK, hD.weaken (fun _ _ _ _ => trivial), hN.warm hW⟩⟩ rfl rfl hl.1 rfl (lv_room (Nat.le_of_ble_eq_true rfl)) dX16_lookInstruction_172 ⟨Nat.le_of_ble_eq_true rfl, Nat.le_of_ble_eq_true rfl⟩) hS (fun q _ h => hFc q h) hFc (fun u t H_30 locs ht hvm hw hB hz1 hk1 hS2 => ?_)
            obtain ⟨hP1, -, hD1⟩ := hB
            rw [ht] at hP1
            replace hD := hD1.weaken (fun _ _ _ h => hFc _ h)
            replace hP := hP1
            replace hS := hS2
            clear hP1 hD1 hS2 hFc hfc hz1 hk1 hvm ht
            refine lv_goto (tgt := 253) hx hb dX16_lookInstruction_175 (by decide) ?_
            obtain ⟨h8, h9⟩ := ret_some hf
            rw [h8]
            exact W.vret hx hb hr (fun t ht hW => ⟨⟨(), rfl, trivial, by rw [ht]; exact hP, va_K.moved hW.alike hK, hD⟩, hS.F ht⟩) hS.2.2 dX16_lookInstruction_253
          · skip
            rw [if_neg c_28] at hf
            refine lv_iload hx hb dX16_lookInstruction_147 (lv_at hl 0 rfl) ?_
            refine lv_bipush (v := 22) hx hb dX16_lookInstruction_149 (by decide) ?_
            refine lv_icmp_eq (tgt := 168) hx hb dX16_lookInstruction_151 (by decide) (fun c_31 => ?_) (fun c_31 => ?_)
            · skip
              rw [if_pos c_31] at hf
              refine lv_aload_n hx hb dX16_lookInstruction_168 rfl (lv_at hl 1 rfl) ?_
              refine lv_iload_n hx hb dX16_lookInstruction_169 rfl (lv_at hl 2 rfl) ?_
              refine lv_iconst (v := 1) hx hb dX16_lookInstruction_170 (by decide) ?_
              refine lv_iadd hx hb dX16_lookInstruction_171 ?_
              obtain ⟨z_32, _u, hfc, hf⟩ := cal_some hf
              have hFc := de_free hD hS hA
              refine va_callv (va_runV (As := [.int (x0 + 1)]) (rest := []) ⟨hx, hb, hml, hown, hts⟩ (de_X16_lookOwn l dC dI cy a sh n H.size F z_6 h0 (x0 + 1) hfc) (cwV 1 hts gX16_lookInstruction_X16_lookOwn rfl rfl rfl (by decide +kernel) ⟨Nat.le_of_ble_eq_true rfl, Nat.le_of_ble_eq_true rfl⟩) ⟨fun a U g mk q => by obtain ⟨q0, q1, qP, qK, qD, qN⟩ := q; exact ⟨q0, q1, qP, va_K.moved (u := U) (U := U.calling g mk a) (Vm.Alike.refl U.vm) qK, qD, qN.same rfl⟩, va_recv hK hP (ci := 16) (q0 := h0) rfl (Wd_ob kg_3 sg_3 (by decide)), fun U hU hW => ⟨rfl, by rw [hU], by rw [hU]; exact hP, va_K.moved hW.alike hK, hD.weaken (fun _ _ _ _ => trivial), hN.warm hW⟩⟩ rfl rfl hl.1 rfl (lv_room (Nat.le_of_ble_eq_true rfl)) dX16_lookInstruction_172 ⟨Nat.le_of_ble_eq_true rfl, Nat.le_of_ble_eq_true rfl⟩) hS (fun q _ h => hFc q h) hFc (fun u t H_33 locs ht hvm hw hB hz1 hk1 hS2 => ?_)
              obtain ⟨hP1, -, hD1⟩ := hB
              rw [ht] at hP1
              replace hD := hD1.weaken (fun _ _ _ h => hFc _ h)
              replace hP := hP1
              replace hS := hS2
              clear hP1 hD1 hS2 hFc hfc hz1 hk1 hvm ht
              refine lv_goto (tgt := 253) hx hb dX16_lookInstruction_175 (by decide) ?_
              obtain ⟨h8, h9⟩ := ret_some hf
              rw [h8]
              exact W.vret hx hb hr (fun t ht hW => ⟨⟨(), rfl, trivial, by rw [ht]; exact hP, va_K.moved hW.alike hK, hD⟩, hS.F ht⟩) hS.2.2 dX16_lookInstruction_253
            · skip
              rw [if_neg c_31] at hf
              refine lv_iload hx hb dX16_lookInstruction_154 (lv_at hl 0 rfl) ?_
              refine lv_bipush (v := 46) hx hb dX16_lookInstruction_156 (by decide) ?_
              refine de_cut (h := 178) (fun (x : St) => []) (fun x ls H locs => lv_has ls 5 [(4, .int r_2), (0, .ref (a h0)), (1, .int x0)] ∧ va_P (dC, dI) vwCl (Wd cy a sh n x) H ∧ va_D A (Wd cy a sh n x) ∧ va_S A s.heap H locs) (fun x => fn_X16_lookInstruction_B178 F sh n r_2 h0 x0 x) (z8, r8) ?_ (fun B178 => ?_)
              · intro x ls H locs hI hf
                obtain ⟨z_34, ez⟩ : ∃ w, w = x := ⟨_, rfl⟩
                subst ez
                obtain ⟨hl2, hP2, hD2, hS2⟩ := hI
                replace hl : lv_has ls 5 [(4, .int r_2), (0, .ref (a h0)), (1, .int x0)] := hl2
                replace hP := hP2
                replace hD := hD2
                replace hS := hS2
                clear hl2 hP2 hD2 hS2
                replace hf := fn_X16_lookInstruction_B178_s hf
                refine W.eq (g2 := F0 m 178 ls []) rfl ?_
                refine lv_iload hx hb dX16_lookInstruction_178 (lv_at hl 0 rfl) ?_
                refine lv_bipush (v := 23) hx hb dX16_lookInstruction_180 (by decide) ?_
                refine lv_icmp_ne (tgt := 216) hx hb dX16_lookInstruction_182 (by decide) (fun c_35 => ?_) (fun c_35 => ?_)
                · skip
                  rw [if_neg c_35] at hf
                  refine lv_iload hx hb dX16_lookInstruction_216 (lv_at hl 0 rfl) ?_
                  refine lv_bipush (v := 51) hx hb dX16_lookInstruction_218 (by decide) ?_
                  refine lv_icmp_le (tgt := 253) hx hb dX16_lookInstruction_220 (by decide) (fun c_36 => ?_) (fun c_36 => ?_)
                  · skip
                    rw [if_pos c_36] at hf
                    obtain ⟨h8, h9⟩ := ret_some hf
                    rw [h8]
                    exact W.vret hx hb hr (fun t ht hW => ⟨⟨(), rfl, trivial, by rw [ht]; exact hP, va_K.moved hW.alike hK, hD⟩, hS.F ht⟩) hS.2.2 dX16_lookInstruction_253
                  · skip
                    rw [if_neg c_36] at hf
                    refine lv_iload hx hb dX16_lookInstruction_223 (lv_at hl 0 rfl) ?_
                    refine lv_bipush (v := 59) hx hb dX16_lookInstruction_225 (by decide) ?_
                    refine lv_icmp_ge (tgt := 253) hx hb dX16_lookInstruction_227 (by decide) (fun c_37 => ?_) (fun c_37 => ?_)
                    · skip
                      rw [if_pos c_37] at hf
                      obtain ⟨h8, h9⟩ := ret_some hf
                      rw [h8]
                      exact W.vret hx hb hr (fun t ht hW => ⟨⟨(), rfl, trivial, by rw [ht]; exact hP, va_K.moved hW.alike hK, hD⟩, hS.F ht⟩) hS.2.2 dX16_lookInstruction_253
                    · skip
                      rw [if_neg c_37] at hf
                      refine lv_aload_n hx hb dX16_lookInstruction_230 rfl (lv_at hl 1 rfl) ?_
                      refine lv_iload_n hx hb dX16_lookInstruction_231 rfl (lv_at hl 2 rfl) ?_
                      refine lv_iconst (v := 1) hx hb dX16_lookInstruction_232 (by decide) ?_
                      refine lv_iadd hx hb dX16_lookInstruction_233 ?_
                      obtain ⟨z_38, r_39, hfc, hf⟩ := cal_some hf
                      have hFc := de_free hD hS hA
                      refine va_calli (va_runV (As := [.int (x0 + 1)]) (rest := []) ⟨hx, hb, hml, hown, hts⟩ (de_X16_byteAt l dC dI cy a sh n H.size F z_34 h0 (x0 + 1) hfc) (cwV 1 hts gX16_lookInstruction_X16_byteAt rfl rfl rfl (by decide +kernel) ⟨Nat.le_of_ble_eq_true rfl, Nat.le_of_ble_eq_true rfl⟩) ⟨fun a U g mk q => by obtain ⟨q0, q1, qP, qK, qD, qN⟩ := q; exact ⟨q0, q1, qP, va_K.moved (u := U) (U := U.calling g mk a) (Vm.Alike.refl U.vm) qK, qD, qN.same rfl⟩, va_recv hK hP (ci := 16) (q0 := h0) rfl (Wd_ob kg_3 sg_3 (by decide)), fun U hU hW => ⟨rfl, by rw [hU], by rw [hU]; exact hP, va_K.moved hW.alike hK, hD.weaken (fun _ _ _ _ => trivial), hN.warm hW⟩⟩ rfl rfl hl.1 rfl (lv_room (Nat.le_of_ble_eq_true rfl)) dX16_lookInstruction_234 ⟨Nat.le_of_ble_eq_true rfl, Nat.le_of_ble_eq_true rfl⟩) hS (fun q _ h => hFc q h) hFc (fun rr u t H_40 locs ht hvm hw hB hz1 hk1 hS2 => ?_)
                      rw [hw]
                      clear hw
                      obtain ⟨hP1, -, hD1⟩ := hB
                      rw [ht] at hP1
                      replace hD := hD1.weaken (fun _ _ _ h => hFc _ h)
                      replace hP := hP1
                      replace hS := hS2
                      clear hP1 hD1 hS2 hFc hfc hz1 hk1 hvm ht
                      refine lv_aload_n hx hb dX16_lookInstruction_237 rfl (lv_at hl 1 rfl) ?_
                      refine va_get (D := (dC, dI)) (ci := 16) (v := .int (z_38.1 h0 8)) (C := RX16) (T := TX16) (N := 18) hx hb hts iwd_X16_lookInstruction_X16 hown hK hP h0 (Wd_ob kg_3 sg_3 (by decide)) rfl 8 (by decide) (hts _ md_X16_lookInstruction_3) (fun _ h9 => h9) (fl_at (t := 0) rfl) dX16_lookInstruction_238 ?_
                      refine lv_icmp_lt (tgt := 253) hx hb dX16_lookInstruction_241 (by decide) (fun c_41 => ?_) (fun c_41 => ?_)
                      · skip
                        rw [if_pos c_41] at hf
                        obtain ⟨h8, h9⟩ := ret_some hf
                        rw [h8]
                        exact W.vret hx hb hr (fun t ht hW => ⟨⟨(), rfl, trivial, by rw [ht]; exact hP, va_K.moved hW.alike hK, hD⟩, hS.F ht⟩) hS.2.2 dX16_lookInstruction_253
                      · skip
                        rw [if_neg c_41] at hf
                        refine lv_aload_n hx hb dX16_lookInstruction_244 rfl (lv_at hl 1 rfl) ?_
                        refine lv_bipush (v := 12) hx hb dX16_lookInstruction_245 (by decide) ?_
                        refine lv_iload_n hx hb dX16_lookInstruction_247 rfl (lv_at hl 2 rfl) ?_
                        refine lv_iconst (v := 1) hx hb dX16_lookInstruction_248 (by decide) ?_
                        refine lv_iadd hx hb dX16_lookInstruction_249 ?_
                        obtain ⟨z_42, _u, hfc, hf⟩ := cal_some hf
                        have hFc := de_free hD hS hA
                        refine va_callv (va_runV (As := [.int 12, .int (x0 + 1)]) (rest := []) ⟨hx, hb, hml, hown, hts⟩ (de_X16_fail l dC dI cy a sh n H_40.size F z_38 h0 12 (x0 + 1) hfc) (cwV 2 hts gX16_lookInstruction_X16_fail rfl rfl rfl (by decide +kernel) ⟨Nat.le_of_ble_eq_true rfl, Nat.le_of_ble_eq_true rfl⟩) ⟨fun a U g mk q => by obtain ⟨q0, q1, qP, qK, qD, qN⟩ := q; exact ⟨q0, q1, qP, va_K.moved (u := U) (U := U.calling g mk a) (Vm.Alike.refl U.vm) qK, qD, qN.same rfl⟩, va_recv hK hP (ci := 16) (q0 := h0) rfl (Wd_ob kg_3 sg_3 (by decide)), fun U hU hW => ⟨rfl, by rw [hU], by rw [hU]; exact hP, va_K.moved hW.alike hK, hD.weaken (fun _ _ _ _ => trivial), hN.warm hW⟩⟩ rfl rfl hl.1 rfl (lv_room (Nat.le_of_ble_eq_true rfl)) dX16_lookInstruction_250 ⟨Nat.le_of_ble_eq_true rfl, Nat.le_of_ble_eq_true rfl⟩) hS (fun q _ h => hFc q h) hFc (fun u t H_43 locs ht hvm hw hB hz1 hk1 hS2 => ?_)
                        obtain ⟨hP1, -, hD1⟩ := hB
                        rw [ht] at hP1
                        replace hD := hD1.weaken (fun _ _ _ h => hFc _ h)
                        replace hP := hP1
                        replace hS := hS2
                        clear hP1 hD1 hS2 hFc hfc hz1 hk1 hvm ht
                        obtain ⟨h8, h9⟩ := ret_some hf
                        rw [h8]
                        exact W.vret hx hb hr (fun t ht hW => ⟨⟨(), rfl, trivial, by rw [ht]; exact hP, va_K.moved hW.alike hK, hD⟩, hS.F ht⟩) hS.2.2 dX16_lookInstruction_253
                · skip
                  rw [if_pos c_35] at hf
                  refine lv_aload_n hx hb dX16_lookInstruction_185 rfl (lv_at hl 1 rfl) ?_
                  refine lv_iload_n hx hb dX16_lookInstruction_186 rfl (lv_at hl 2 rfl) ?_
                  refine lv_iconst (v := 1) hx hb dX16_lookInstruction_187 (by decide) ?_
                  refine lv_iadd hx hb dX16_lookInstruction_188 ?_
                  obtain ⟨z_44, r_45, hfc, hf⟩ := cal_some hf
                  have hFc := de_free hD hS hA
                  refine va_calli (va_runV (As := [.int (x0 + 1)]) (rest := []) ⟨hx, hb, hml, hown, hts⟩ (de_X16_byteAt l dC dI cy a sh n H.size F z_34 h0 (x0 + 1) hfc) (cwV 1 hts gX16_lookInstruction_X16_byteAt rfl rfl rfl (by decide +kernel) ⟨Nat.le_of_ble_eq_true rfl, Nat.le_of_ble_eq_true rfl⟩) ⟨fun a U g mk q => by obtain ⟨q0, q1, qP, qK, qD, qN⟩ := q; exact ⟨q0, q1, qP, va_K.moved (u := U) (U := U.calling g mk a) (Vm.Alike.refl U.vm) qK, qD, qN.same rfl⟩, va_recv hK hP (ci := 16) (q0 := h0) rfl (Wd_ob kg_3 sg_3 (by decide)), fun U hU hW => ⟨rfl, by rw [hU], by rw [hU]; exact hP, va_K.moved hW.alike hK, hD.weaken (fun _ _ _ _ => trivial), hN.warm hW⟩⟩ rfl rfl hl.1 rfl (lv_room (Nat.le_of_ble_eq_true rfl)) dX16_lookInstruction_189 ⟨Nat.le_of_ble_eq_true rfl, Nat.le_of_ble_eq_true rfl⟩) hS (fun q _ h => hFc q h) hFc (fun rr u t H_46 locs ht hvm hw hB hz1 hk1 hS2 => ?_)
                  rw [hw]
                  clear hw
                  obtain ⟨hP1, -, hD1⟩ := hB
                  rw [ht] at hP1
                  replace hD := hD1.weaken (fun _ _ _ h => hFc _ h)
                  replace hP := hP1
                  replace hS := hS2
                  clear hP1 hD1 hS2 hFc hfc hz1 hk1 hvm ht
                  refine lv_aload_n hx hb dX16_lookInstruction_192 rfl (lv_at hl 1 rfl) ?_
                  refine va_get (D := (dC, dI)) (ci := 16) (v := .int (z_44.1 h0 9)) (C := RX16) (T := TX16) (N := 18) hx hb hts iwd_X16_lookInstruction_X16 hown hK hP h0 (Wd_ob kg_3 sg_3 (by decide)) rfl 9 (by decide) (hts _ md_X16_lookInstruction_1) (fun _ h9 => h9) (fl_at (t := 0) rfl) dX16_lookInstruction_193 ?_
                  refine lv_aload_n hx hb dX16_lookInstruction_196 rfl (lv_at hl 1 rfl) ?_
                  refine va_get (D := (dC, dI)) (ci := 16) (v := .int (z_44.1 h0 7)) (C := RX16) (T := TX16) (N := 18) hx hb hts iwd_X16_lookInstruction_X16 hown hK hP h0 (Wd_ob kg_3 sg_3 (by decide)) rfl 7 (by decide) (hts _ md_X16_lookInstruction_2) (fun _ h9 => h9) (fl_at (t := 0) rfl) dX16_lookInstruction_197 ?_
                  refine lv_iadd hx hb dX16_lookInstruction_200 ?_
                  refine lv_icmp_lt (tgt := 253) hx hb dX16_lookInstruction_201 (by decide) (fun c_47 => ?_) (fun c_47 => ?_)
                  · skip
                    rw [if_pos c_47] at hf
                    obtain ⟨h8, h9⟩ := ret_some hf
                    rw [h8]
                    exact W.vret hx hb hr (fun t ht hW => ⟨⟨(), rfl, trivial, by rw [ht]; exact hP, va_K.moved hW.alike hK, hD⟩, hS.F ht⟩) hS.2.2 dX16_lookInstruction_253
                  · skip
                    rw [if_neg c_47] at hf
                    refine lv_aload_n hx hb dX16_lookInstruction_204 rfl (lv_at hl 1 rfl) ?_
                    refine lv_bipush (v := 11) hx hb dX16_lookInstruction_205 (by decide) ?_
                    refine lv_iload_n hx hb dX16_lookInstruction_207 rfl (lv_at hl 2 rfl) ?_
                    refine lv_iconst (v := 1) hx hb dX16_lookInstruction_208 (by decide) ?_
                    refine lv_iadd hx hb dX16_lookInstruction_209 ?_
                    obtain ⟨z_48, _u, hfc, hf⟩ := cal_some hf
                    have hFc := de_free hD hS hA
                    refine va_callv (va_runV (As := [.int 11, .int (x0 + 1)]) (rest := []) ⟨hx, hb, hml, hown, hts⟩ (de_X16_fail l dC dI cy a sh n H_46.size F z_44 h0 11 (x0 + 1) hfc) (cwV 2 hts gX16_lookInstruction_X16_fail rfl rfl rfl (by decide +kernel) ⟨Nat.le_of_ble_eq_true rfl, Nat.le_of_ble_eq_true rfl⟩) ⟨fun a U g mk q => by obtain ⟨q0, q1, qP, qK, qD, qN⟩ := q; exact ⟨q0, q1, qP, va_K.moved (u := U) (U := U.calling g mk a) (Vm.Alike.refl U.vm) qK, qD, qN.same rfl⟩, va_recv hK hP (ci := 16) (q0 := h0) rfl (Wd_ob kg_3 sg_3 (by decide)), fun U hU hW => ⟨rfl, by rw [hU], by rw [hU]; exact hP, va_K.moved hW.alike hK, hD.weaken (fun _ _ _ _ => trivial), hN.warm hW⟩⟩ rfl rfl hl.1 rfl (lv_room (Nat.le_of_ble_eq_true rfl)) dX16_lookInstruction_210 ⟨Nat.le_of_ble_eq_true rfl, Nat.le_of_ble_eq_true rfl⟩) hS (fun q _ h => hFc q h) hFc (fun u t H_49 locs ht hvm hw hB hz1 hk1 hS2 => ?_)
                    obtain ⟨hP1, -, hD1⟩ := hB
                    rw [ht] at hP1
                    replace hD := hD1.weaken (fun _ _ _ h => hFc _ h)
                    replace hP := hP1
                    replace hS := hS2
                    clear hP1 hD1 hS2 hFc hfc hz1 hk1 hvm ht
                    refine lv_goto (tgt := 253) hx hb dX16_lookInstruction_213 (by decide) ?_
                    obtain ⟨h8, h9⟩ := ret_some hf
                    rw [h8]
                    exact W.vret hx hb hr (fun t ht hW => ⟨⟨(), rfl, trivial, by rw [ht]; exact hP, va_K.moved hW.alike hK, hD⟩, hS.F ht⟩) hS.2.2 dX16_lookInstruction_253
              refine lv_icmp_le (tgt := 178) hx hb dX16_lookInstruction_158 (by decide) (fun c_50 => ?_) (fun c_50 => ?_)
              · skip
                rw [if_pos c_50] at hf
                exact B178 (z_6) ls H locs ⟨lv_sub hl [0, 1, 2] rfl, hP, hD, hS⟩ hf
              · skip
                rw [if_neg c_50] at hf
                refine lv_iload hx hb dX16_lookInstruction_161 (lv_at hl 0 rfl) ?_
                refine lv_bipush (v := 52) hx hb dX16_lookInstruction_163 (by decide) ?_
                refine lv_icmp_ge (tgt := 178) hx hb dX16_lookInstruction_165 (by decide) (fun c_51 => ?_) (fun c_51 => ?_)
                · skip
                  rw [if_pos c_51] at hf
                  exact B178 (z_6) ls H locs ⟨lv_sub hl [0, 1, 2] rfl, hP, hD, hS⟩ hf
                · skip
                  rw [if_neg c_51] at hf
                  refine lv_aload_n hx hb dX16_lookInstruction_168 rfl (lv_at hl 1 rfl) ?_
                  refine lv_iload_n hx hb dX16_lookInstruction_169 rfl (lv_at hl 2 rfl) ?_
                  refine lv_iconst (v := 1) hx hb dX16_lookInstruction_170 (by decide) ?_
                  refine lv_iadd hx hb dX16_lookInstruction_171 ?_
                  obtain ⟨z_52, _u, hfc, hf⟩ := cal_some hf
                  have hFc := de_free hD hS hA
                  refine va_callv (va_runV (As := [.int (x0 + 1)]) (rest := []) ⟨hx, hb, hml, hown, hts⟩ (de_X16_lookOwn l dC dI cy a sh n H.size F z_6 h0 (x0 + 1) hfc) (cwV 1 hts gX16_lookInstruction_X16_lookOwn rfl rfl rfl (by decide +kernel) ⟨Nat.le_of_ble_eq_true rfl, Nat.le_of_ble_eq_true rfl⟩) ⟨fun a U g mk q => by obtain ⟨q0, q1, qP, qK, qD, qN⟩ := q; exact ⟨q0, q1, qP, va_K.moved (u := U) (U := U.calling g mk a) (Vm.Alike.refl U.vm) qK, qD, qN.same rfl⟩, va_recv hK hP (ci := 16) (q0 := h0) rfl (Wd_ob kg_3 sg_3 (by decide)), fun U hU hW => ⟨rfl, by rw [hU], by rw [hU]; exact hP, va_K.moved hW.alike hK, hD.weaken (fun _ _ _ _ => trivial), hN.warm hW⟩⟩ rfl rfl hl.1 rfl (lv_room (Nat.le_of_ble_eq_true rfl)) dX16_lookInstruction_172 ⟨Nat.le_of_ble_eq_true rfl, Nat.le_of_ble_eq_true rfl⟩) hS (fun q _ h => hFc q h) hFc (fun u t H_53 locs ht hvm hw hB hz1 hk1 hS2 => ?_)
                  obtain ⟨hP1, -, hD1⟩ := hB
                  rw [ht] at hP1
                  replace hD := hD1.weaken (fun _ _ _ h => hFc _ h)
                  replace hP := hP1
                  replace hS := hS2
                  clear hP1 hD1 hS2 hFc hfc hz1 hk1 hvm ht
                  refine lv_goto (tgt := 253) hx hb dX16_lookInstruction_175 (by decide) ?_
                  obtain ⟨h8, h9⟩ := ret_some hf
                  rw [h8]
                  exact W.vret hx hb hr (fun t ht hW => ⟨⟨(), rfl, trivial, by rw [ht]; exact hP, va_K.moved hW.alike hK, hD⟩, hS.F ht⟩) hS.2.2 dX16_lookInstruction_253
        · skip
          rw [if_pos c_27] at hf
          exact B93 (z_6) ls H locs ⟨lv_sub hl [1, 2] rfl, hP, hD, hS⟩ hf
    refine lv_icmp_le (tgt := 79) hx hb dX16_lookInstruction_46 (by decide) (fun c_54 => ?_) (fun c_54 => ?_)
    · skip
      rw [if_pos c_54] at hf
      exact B79 (z_5) ls H locs ⟨lv_sub hl [0, 1, 2] rfl, hP, hD, hS⟩ hf
    · skip
      rw [if_neg c_54] at hf
      refine lv_iload hx hb dX16_lookInstruction_49 (lv_at hl 0 rfl) ?_
      refine lv_bipush (v := 16) hx hb dX16_lookInstruction_51 (by decide) ?_
      refine lv_icmp_ge (tgt := 79) hx hb dX16_lookInstruction_53 (by decide) (fun c_55 => ?_) (fun c_55 => ?_)
      · skip
        rw [if_pos c_55] at hf
        exact B79 (z_5) ls H locs ⟨lv_sub hl [0, 1, 2] rfl, hP, hD, hS⟩ hf
      · skip
        rw [if_neg c_55] at hf
        refine lv_aload_n hx hb dX16_lookInstruction_56 rfl (lv_at hl 1 rfl) ?_
        refine lv_iload_n hx hb dX16_lookInstruction_57 rfl (lv_at hl 2 rfl) ?_
        refine lv_iconst (v := 1) hx hb dX16_lookInstruction_58 (by decide) ?_
        refine lv_iadd hx hb dX16_lookInstruction_59 ?_
        obtain ⟨z_56, r_57, hfc, hf⟩ := cal_some hf
        have hFc := de_free hD hS hA
        refine va_calli (va_runV (As := [.int (x0 + 1)]) (rest := []) ⟨hx, hb, hml, hown, hts⟩ (de_X16_byteAt l dC dI cy a sh n H.size F z_5 h0 (x0 + 1) hfc) (cwV 1 hts gX16_lookInstruction_X16_byteAt rfl rfl rfl (by decide +kernel) ⟨Nat.le_of_ble_eq_true rfl, Nat.le_of_ble_eq_true rfl⟩) ⟨fun a U g mk q => by obtain ⟨q0, q1, qP, qK, qD, qN⟩ := q; exact ⟨q0, q1, qP, va_K.moved (u := U) (U := U.calling g mk a) (Vm.Alike.refl U.vm) qK, qD, qN.same rfl⟩, va_recv hK hP (ci := 16) (q0 := h0) rfl (Wd_ob kg_3 sg_3 (by decide)), fun U hU hW => ⟨rfl, by rw [hU], by rw [hU]; exact hP, va_K.moved hW.alike hK, hD.weaken (fun _ _ _ _ => trivial), hN.warm hW⟩⟩ rfl rfl hl.1 rfl (lv_room (Nat.le_of_ble_eq_true rfl)) dX16_lookInstruction_60 ⟨Nat.le_of_ble_eq_true rfl, Nat.le_of_ble_eq_true rfl⟩) hS (fun q _ h => hFc q h) hFc (fun rr u t H_58 locs ht hvm hw hB hz1 hk1 hS2 => ?_)
        rw [hw]
        clear hw
        obtain ⟨hP1, -, hD1⟩ := hB
        rw [ht] at hP1
        replace hD := hD1.weaken (fun _ _ _ h => hFc _ h)
        replace hP := hP1
        replace hS := hS2
        clear hP1 hD1 hS2 hFc hfc hz1 hk1 hvm ht
        refine lv_iload_n hx hb dX16_lookInstruction_63 rfl (lv_at hl 3 rfl) ?_
        refine lv_icmp_lt (tgt := 253) hx hb dX16_lookInstruction_64 (by decide) (fun c_59 => ?_) (fun c_59 => ?_)
        · skip
          rw [if_pos c_59] at hf
          obtain ⟨h8, h9⟩ := ret_some hf
          rw [h8]
          exact W.vret hx hb hr (fun t ht hW => ⟨⟨(), rfl, trivial, by rw [ht]; exact hP, va_K.moved hW.alike hK, hD⟩, hS.F ht⟩) hS.2.2 dX16_lookInstruction_253
        · skip
          rw [if_neg c_59] at hf
          refine lv_aload_n hx hb dX16_lookInstruction_67 rfl (lv_at hl 1 rfl) ?_
          refine lv_bipush (v := 10) hx hb dX16_lookInstruction_68 (by decide) ?_
          refine lv_iload_n hx hb dX16_lookInstruction_70 rfl (lv_at hl 2 rfl) ?_
          refine lv_iconst (v := 1) hx hb dX16_lookInstruction_71 (by decide) ?_
          refine lv_iadd hx hb dX16_lookInstruction_72 ?_
          obtain ⟨z_60, _u, hfc, hf⟩ := cal_some hf
          have hFc := de_free hD hS hA
          refine va_callv (va_runV (As := [.int 10, .int (x0 + 1)]) (rest := []) ⟨hx, hb, hml, hown, hts⟩ (de_X16_fail l dC dI cy a sh n H_58.size F z_56 h0 10 (x0 + 1) hfc) (cwV 2 hts gX16_lookInstruction_X16_fail rfl rfl rfl (by decide +kernel) ⟨Nat.le_of_ble_eq_true rfl, Nat.le_of_ble_eq_true rfl⟩) ⟨fun a U g mk q => by obtain ⟨q0, q1, qP, qK, qD, qN⟩ := q; exact ⟨q0, q1, qP, va_K.moved (u := U) (U := U.calling g mk a) (Vm.Alike.refl U.vm) qK, qD, qN.same rfl⟩, va_recv hK hP (ci := 16) (q0 := h0) rfl (Wd_ob kg_3 sg_3 (by decide)), fun U hU hW => ⟨rfl, by rw [hU], by rw [hU]; exact hP, va_K.moved hW.alike hK, hD.weaken (fun _ _ _ _ => trivial), hN.warm hW⟩⟩ rfl rfl hl.1 rfl (lv_room (Nat.le_of_ble_eq_true rfl)) dX16_lookInstruction_73 ⟨Nat.le_of_ble_eq_true rfl, Nat.le_of_ble_eq_true rfl⟩) hS (fun q _ h => hFc q h) hFc (fun u t H_61 locs ht hvm hw hB hz1 hk1 hS2 => ?_)
          obtain ⟨hP1, -, hD1⟩ := hB
          rw [ht] at hP1
          replace hD := hD1.weaken (fun _ _ _ h => hFc _ h)
          replace hP := hP1
          replace hS := hS2
          clear hP1 hD1 hS2 hFc hfc hz1 hk1 hvm ht
          refine lv_goto (tgt := 253) hx hb dX16_lookInstruction_76 (by decide) ?_
          obtain ⟨h8, h9⟩ := ret_some hf
          rw [h8]
          exact W.vret hx hb hr (fun t ht hW => ⟨⟨(), rfl, trivial, by rw [ht]; exact hP, va_K.moved hW.alike hK, hD⟩, hS.F ht⟩) hS.2.2 dX16_lookInstruction_253
  refine lv_icmp_le (tgt := 42) hx hb dX16_lookInstruction_10 (by decide) (fun c_62 => ?_) (fun c_62 => ?_)
  · skip
    rw [if_pos c_62] at hf
    exact B42 (z_1) ls H_4 locs ⟨lv_sub hl [0, 1, 2, 3] rfl, hP, hD, hS⟩ hf
  · skip
    rw [if_neg c_62] at hf
    refine lv_iload hx hb dX16_lookInstruction_13 (lv_at hl 0 rfl) ?_
    refine lv_iconst (v := 5) hx hb dX16_lookInstruction_15 (by decide) ?_
    refine lv_icmp_ge (tgt := 42) hx hb dX16_lookInstruction_16 (by decide) (fun c_63 => ?_) (fun c_63 => ?_)
    · skip
      rw [if_pos c_63] at hf
      exact B42 (z_1) ls H_4 locs ⟨lv_sub hl [0, 1, 2, 3] rfl, hP, hD, hS⟩ hf
    · skip
      rw [if_neg c_63] at hf
      refine lv_aload_n hx hb dX16_lookInstruction_19 rfl (lv_at hl 1 rfl) ?_
      refine lv_iload_n hx hb dX16_lookInstruction_20 rfl (lv_at hl 2 rfl) ?_
      refine lv_iconst (v := 1) hx hb dX16_lookInstruction_21 (by decide) ?_
      refine lv_iadd hx hb dX16_lookInstruction_22 ?_
      obtain ⟨z_64, r_65, hfc, hf⟩ := cal_some hf
      have hFc := de_free hD hS hA
      refine va_calli (va_runV (As := [.int (x0 + 1)]) (rest := []) ⟨hx, hb, hml, hown, hts⟩ (de_X16_shortAt l dC dI cy a sh n H_4.size F z_1 h0 (x0 + 1) hfc) (cwV 1 hts gX16_lookInstruction_X16_shortAt rfl rfl rfl (by decide +kernel) ⟨Nat.le_of_ble_eq_true rfl, Nat.le_of_ble_eq_true rfl⟩) ⟨fun a U g mk q => by obtain ⟨q0, q1, qP, qK, qD, qN⟩ := q; exact ⟨q0, q1, qP, va_K.moved (u := U) (U := U.calling g mk a) (Vm.Alike.refl U.vm) qK, qD, qN.same rfl⟩, va_recv hK hP (ci := 16) (q0 := h0) rfl (Wd_ob kg_3 sg_3 (by decide)), fun U hU hW => ⟨rfl, by rw [hU], by rw [hU]; exact hP, va_K.moved hW.alike hK, hD.weaken (fun _ _ _ _ => trivial), hN.warm hW⟩⟩ rfl rfl hl.1 rfl (lv_room (Nat.le_of_ble_eq_true rfl)) dX16_lookInstruction_23 ⟨Nat.le_of_ble_eq_true rfl, Nat.le_of_ble_eq_true rfl⟩) hS (fun q _ h => hFc q h) hFc (fun rr u t H_66 locs ht hvm hw hB hz1 hk1 hS2 => ?_)
      rw [hw]
      clear hw
      obtain ⟨hP1, -, hD1⟩ := hB
      rw [ht] at hP1
      replace hD := hD1.weaken (fun _ _ _ h => hFc _ h)
      replace hP := hP1
      replace hS := hS2
      clear hP1 hD1 hS2 hFc hfc hz1 hk1 hvm ht
      refine lv_iload_n hx hb dX16_lookInstruction_26 rfl (lv_at hl 4 rfl) ?_
      refine lv_icmp_lt (tgt := 253) hx hb dX16_lookInstruction_27 (by decide) (fun c_67 => ?_) (fun c_67 => ?_)
      · skip
        rw [if_pos c_67] at hf
        obtain ⟨h8, h9⟩ := ret_some hf
        rw [h8]
        exact W.vret hx hb hr (fun t ht hW => ⟨⟨(), rfl, trivial, by rw [ht]; exact hP, va_K.moved hW.alike hK, hD⟩, hS.F ht⟩) hS.2.2 dX16_lookInstruction_253
      · skip
        rw [if_neg c_67] at hf
        refine lv_aload_n hx hb dX16_lookInstruction_30 rfl (lv_at hl 1 rfl) ?_
        refine lv_bipush (v := 13) hx hb dX16_lookInstruction_31 (by decide) ?_
        refine lv_iload_n hx hb dX16_lookInstruction_33 rfl (lv_at hl 2 rfl) ?_
        refine lv_iconst (v := 1) hx hb dX16_lookInstruction_34 (by decide) ?_
        refine lv_iadd hx hb dX16_lookInstruction_35 ?_
        obtain ⟨z_68, _u, hfc, hf⟩ := cal_some hf
        have hFc := de_free hD hS hA
        refine va_callv (va_runV (As := [.int 13, .int (x0 + 1)]) (rest := []) ⟨hx, hb, hml, hown, hts⟩ (de_X16_fail l dC dI cy a sh n H_66.size F z_64 h0 13 (x0 + 1) hfc) (cwV 2 hts gX16_lookInstruction_X16_fail rfl rfl rfl (by decide +kernel) ⟨Nat.le_of_ble_eq_true rfl, Nat.le_of_ble_eq_true rfl⟩) ⟨fun a U g mk q => by obtain ⟨q0, q1, qP, qK, qD, qN⟩ := q; exact ⟨q0, q1, qP, va_K.moved (u := U) (U := U.calling g mk a) (Vm.Alike.refl U.vm) qK, qD, qN.same rfl⟩, va_recv hK hP (ci := 16) (q0 := h0) rfl (Wd_ob kg_3 sg_3 (by decide)), fun U hU hW => ⟨rfl, by rw [hU], by rw [hU]; exact hP, va_K.moved hW.alike hK, hD.weaken (fun _ _ _ _ => trivial), hN.warm hW⟩⟩ rfl rfl hl.1 rfl (lv_room (Nat.le_of_ble_eq_true rfl)) dX16_lookInstruction_36 ⟨Nat.le_of_ble_eq_true rfl, Nat.le_of_ble_eq_true rfl⟩) hS (fun q _ h => hFc q h) hFc (fun u t H_69 locs ht hvm hw hB hz1 hk1 hS2 => ?_)
        obtain ⟨hP1, -, hD1⟩ := hB
        rw [ht] at hP1
        replace hD := hD1.weaken (fun _ _ _ h => hFc _ h)
        replace hP := hP1
        replace hS := hS2
        clear hP1 hD1 hS2 hFc hfc hz1 hk1 hvm ht
        refine lv_goto (tgt := 253) hx hb dX16_lookInstruction_39 (by decide) ?_
        obtain ⟨h8, h9⟩ := ret_some hf
        rw [h8]
        exact W.vret hx hb hr (fun t ht hW => ⟨⟨(), rfl, trivial, by rw [ht]; exact hP, va_K.moved hW.alike hK, hD⟩, hS.F ht⟩) hS.2.2 dX16_lookInstruction_253

theorem md_X14_put_1 : (.fieldLink RX14 39 "ResourceLedgerModel$Roots" "count" "I" : Cond) ∈ wsX14_put := List.mem_of_getElem? (i := 1) rfl
theorem iwd_X14_put_X14 : ∀ w ∈ wsX140, w ∈ wsX14_put := fun _ h => List.mem_cons_of_mem _ (List.mem_append_right _ h)
theorem md_X14_put_4 : (.fieldLink RX14 16 "ResourceLedgerModel$Roots" "sorts" "[I" : Cond) ∈ wsX14_put := List.mem_of_getElem? (i := 4) rfl
theorem md_X14_put_5 : (.fieldLink RX14 20 "ResourceLedgerModel$Roots" "addresses" "[J" : Cond) ∈ wsX14_put := List.mem_of_getElem? (i := 5) rfl
theorem md_X14_put_6 : (.fieldLink RX14 23 "ResourceLedgerModel$Roots" "kinds" "[I" : Cond) ∈ wsX14_put := List.mem_of_getElem? (i := 6) rfl
theorem md_X14_put_2 : (.fieldLink RX14 7 "ResourceLedgerModel$Roots" "keys" "[J" : Cond) ∈ wsX14_put := List.mem_of_getElem? (i := 2) rfl
theorem md_X14_put_3 : (.fieldLink RX14 13 "ResourceLedgerModel$Roots" "values" "[J" : Cond) ∈ wsX14_put := List.mem_of_getElem? (i := 3) rfl
set_option maxHeartbeats 4000000 in
set_option maxRecDepth 100000 in
theorem de_X14_put (l : Launch) (dC : Nat → ClassId) (dI : Nat → Nat → Nat) (cy : Nat → ClassId) (a : Nat → Nat) (sh : Nat → Nat × Nat) (n sz : Nat) (F : Nat) (z : St) (h0 : Nat) (x0 : Nat) (x1 : Nat) (x2 : Int32) (x3 : Int64) (x4 : Int32) {z8 : St} {r8 : Unit} (hf : fn_X14_put F sh n z h0 x0 x1 x2 x3 x4 = some (z8, r8)) : Met l yX14_put wsX14_put ({ frames := 2, cells := 0, slots := 0, locals := 48 }) (va_Pc [.ref (a h0), .ref (a x0), .ref (a x1), .int x2, .long x3, .int x4] (fun U => U.heap.size = sz ∧ va_P (dC, dI) vwCl (Wd cy a sh n z) U.heap ∧ va_K (dC, dI) vwCl (TYS cy) U ∧ va_D (fun _ => True) (Wd cy a sh n z) ∧ NK U)) (va_Qv (fun u : Unit => True) (fun u t => va_P (dC, dI) vwCl (Wd cy a sh n z8) t.heap ∧ va_K (dC, dI) vwCl (TYS cy) t ∧ va_D (va_A (Wd cy a sh n z) sz) (Wd cy a sh n z8)) (va_A (Wd cy a sh n z) sz)) 0 0 (va_A (Wd cy a sh n z) sz) := by
  refine Met.ofW (cc := cX14_put) (maxL := 10) (ret := none) (by decide) rfl ?_
  intro p e s m args below meth c s₁ B hml hv
  obtain ⟨rfl, hsz, hP, hK, hD0, hN⟩ := hv
  have hx := B.exec
  have hb := B.bytes
  have hr := B.returns
  have hts := atoms_spec (ws := wsX14_put) B.pre
  have hown : s.vm.findClass RX14 = some m.cls := findClass_of_methodNamed B.named
  have hlocks := B.notSynchronized
  subst hsz
  have hD := hD0.self (sz := s.heap.size)
  clear hD0
  generalize hAe : va_A (Wd cy a sh n z) s.heap.size = A at hD ⊢
  have hA : ∀ q : Nat, s.heap.size ≤ q → A q := fun q h => by rw [← hAe]; exact Or.inr h
  clear hAe
  have hS : va_S A s.heap s.heap [] := va_S.rf
  have hl := lv_entry ([.ref (a h0), .ref (a x0), .ref (a x1), .int x2, .long x3, .int x4]) (n := 10) (Nat.le_of_ble_eq_true rfl)
  rw [lg_entry_eq]
  generalize (lg_sl ([.ref (a h0), .ref (a x0), .ref (a x1), .int x2, .long x3, .int x4]) ++ List.replicate (10 - (lg_sl ([.ref (a h0), .ref (a x0), .ref (a x1), .int x2, .long x3, .int x4])).length) Slot.unset).toArray = ls at hl ⊢
  replace hl : lv_has ls 10 [(0, .ref (a h0)), (1, .ref (a x0)), (2, .ref (a x1)), (3, .int x2), (4, .long x3), (6, .int x4)] := hl
  unfold fn_X14_put at hf
  refine de_start hS hP (fun H locs hS hP => ?_)
  refine lv_aload_n hx hb dX14_put_0 rfl (lv_at hl 0 rfl) ?_
  obtain ⟨g_1, hf⟩ := grd_some hf
  obtain ⟨kg_1, sg_1⟩ := okO_at g_1
  refine va_get (D := (dC, dI)) (ci := 14) (v := .int (z.1 h0 5)) (C := RX14) (T := TX14) (N := 11) hx hb hts iwd_X14_put_X14 hown hK hP h0 (Wd_ob kg_1 sg_1 (by decide)) rfl 5 (by decide) (hts _ md_X14_put_1) (fun _ h9 => h9) (fl_at (t := 0) rfl) dX14_put_1 ?_
  refine lv_topi (fun v_2 ev_2 => ?_)
  replace hf := lt_at ev_2 hf
  clear ev_2
  refine lv_istore (lv' := [(7, .int v_2), (0, .ref (a h0)), (1, .ref (a x0)), (2, .ref (a x1)), (3, .int x2), (4, .long x3), (6, .int x4)]) hx hb dX14_put_4 hl (by decide) rfl (fun ls hl2 => ?_)
  replace hl := hl2
  clear hl2
  have hl0 : lv_has ls 10 [(7, .int v_2), (0, .ref (a h0)), (1, .ref (a x0)), (2, .ref (a x1)), (3, .int x2), (4, .long x3), (6, .int x4)] := lv_sub hl [0, 1, 2, 3, 4, 5, 6] rfl
  refine de_loop (h := 6) (fun (x : St × Int32) ls H locs => lv_has ls 10 [(7, .int x.2), (0, .ref (a h0)), (1, .ref (a x0)), (2, .ref (a x1)), (3, .int x2), (4, .long x3), (6, .int x4)] ∧ va_P (dC, dI) vwCl (Wd cy a sh n x.1) H ∧ va_D A (Wd cy a sh n x.1) ∧ va_S A s.heap H locs) (fun f x => fn_X14_put_L6 F sh n h0 x0 x1 x2 x3 x4 f x.1 x.2) (z8, r8) ?_ (fun _ => rfl) F (z, v_2) ls H locs ⟨hl0, hP, hD, hS⟩ hf
  intro f_5 x ls H locs ih6 hI hf
  obtain ⟨z_4, p_3⟩ := x
  obtain ⟨hl2, hP2, hD2, hS2⟩ := hI
  replace hl : lv_has ls 10 [(7, .int p_3), (0, .ref (a h0)), (1, .ref (a x0)), (2, .ref (a x1)), (3, .int x2), (4, .long x3), (6, .int x4)] := hl2
  replace hP := hP2
  replace hD := hD2
  replace hS := hS2
  clear hl2 hP2 hD2 hS2 hl0
  replace hf := fn_X14_put_L6_s hf
  refine lv_iload hx hb dX14_put_6 (lv_at hl 0 rfl) ?_
  refine de_cut (h := 29) (fun (x : St × Int32) => []) (fun x ls H locs => lv_has ls 10 [(7, .int x.2), (0, .ref (a h0)), (1, .ref (a x0)), (2, .ref (a x1)), (3, .int x2), (4, .long x3), (6, .int x4)] ∧ va_P (dC, dI) vwCl (Wd cy a sh n x.1) H ∧ va_D A (Wd cy a sh n x.1) ∧ va_S A s.heap H locs) (fun x => fn_X14_put_B29 F sh n h0 x0 x1 x2 x3 x4 x.1 x.2) (z8, r8) ?_ (fun B29 => ?_)
  · intro x ls H locs hI hf
    obtain ⟨z_7, p_6⟩ := x
    obtain ⟨hl2, hP2, hD2, hS2⟩ := hI
    replace hl : lv_has ls 10 [(7, .int p_6), (0, .ref (a h0)), (1, .ref (a x0)), (2, .ref (a x1)), (3, .int x2), (4, .long x3), (6, .int x4)] := hl2
    replace hP := hP2
    replace hD := hD2
    replace hS := hS2
    clear hl2 hP2 hD2 hS2
    replace hf := fn_X14_put_B29_s hf
    refine W.eq (g2 := F0 m 29 ls []) rfl ?_
    refine lv_iload hx hb dX14_put_29 (lv_at hl 0 rfl) ?_
    refine de_cut (h := 78) (fun (x : St) => []) (fun x ls H locs => lv_has ls 10 [(7, .int p_6), (0, .ref (a h0)), (1, .ref (a x0)), (2, .ref (a x1)), (3, .int x2), (4, .long x3), (6, .int x4)] ∧ va_P (dC, dI) vwCl (Wd cy a sh n x) H ∧ va_D A (Wd cy a sh n x) ∧ va_S A s.heap H locs) (fun x => fn_X14_put_B78 F sh n h0 p_6 x0 x1 x2 x3 x4 x) (z8, r8) ?_ (fun B78 => ?_)
    · intro x ls H locs hI hf
      obtain ⟨z_8, ez⟩ : ∃ w, w = x := ⟨_, rfl⟩
      subst ez
      obtain ⟨hl2, hP2, hD2, hS2⟩ := hI
      replace hl : lv_has ls 10 [(7, .int p_6), (0, .ref (a h0)), (1, .ref (a x0)), (2, .ref (a x1)), (3, .int x2), (4, .long x3), (6, .int x4)] := hl2
      replace hP := hP2
      replace hD := hD2
      replace hS := hS2
      clear hl2 hP2 hD2 hS2
      replace hf := fn_X14_put_B78_s hf
      refine W.eq (g2 := F0 m 78 ls []) rfl ?_
      refine lv_aload_n hx hb dX14_put_78 rfl (lv_at hl 1 rfl) ?_
      refine va_get (D := (dC, dI)) (ci := 14) (v := .int (z_8.1 h0 5)) (C := RX14) (T := TX14) (N := 11) hx hb hts iwd_X14_put_X14 hown hK hP h0 (Wd_ob kg_1 sg_1 (by decide)) rfl 5 (by decide) (hts _ md_X14_put_1) (fun _ h9 => h9) (fl_at (t := 0) rfl) dX14_put_79 ?_
      refine lv_topi (fun v_9 ev_9 => ?_)
      replace hf := lt_at ev_9 hf
      clear ev_9
      refine lv_istore (lv' := [(8, .int v_9), (7, .int p_6), (0, .ref (a h0)), (1, .ref (a x0)), (2, .ref (a x1)), (3, .int x2), (4, .long x3), (6, .int x4)]) hx hb dX14_put_82 hl (by decide) rfl (fun ls hl2 => ?_)
      replace hl := hl2
      clear hl2
      have hl0 : lv_has ls 10 [(8, .int v_9), (7, .int p_6), (0, .ref (a h0)), (1, .ref (a x0)), (2, .ref (a x1)), (3, .int x2), (4, .long x3), (6, .int x4)] := lv_sub hl [0, 1, 2, 3, 4, 5, 6, 7] rfl
      refine de_loop (h := 84) (fun (x : St × Int32) ls H locs => lv_has ls 10 [(8, .int x.2), (7, .int p_6), (0, .ref (a h0)), (1, .ref (a x0)), (2, .ref (a x1)), (3, .int x2), (4, .long x3), (6, .int x4)] ∧ va_P (dC, dI) vwCl (Wd cy a sh n x.1) H ∧ va_D A (Wd cy a sh n x.1) ∧ va_S A s.heap H locs) (fun f x => fn_X14_put_L84 F sh n p_6 h0 x0 x1 x2 x3 x4 f x.1 x.2) (z8, r8) ?_ (fun _ => rfl) F (z_8, v_9) ls H locs ⟨hl0, hP, hD, hS⟩ hf
      intro f_12 x ls H locs ih84 hI hf
      obtain ⟨z_11, p_10⟩ := x
      obtain ⟨hl2, hP2, hD2, hS2⟩ := hI
      replace hl : lv_has ls 10 [(8, .int p_10), (7, .int p_6), (0, .ref (a h0)), (1, .ref (a x0)), (2, .ref (a x1)), (3, .int x2), (4, .long x3), (6, .int x4)] := hl2
      replace hP := hP2
      replace hD := hD2
      replace hS := hS2
      clear hl2 hP2 hD2 hS2 hl0
      replace hf := fn_X14_put_L84_s hf
      refine lv_iload hx hb dX14_put_84 (lv_at hl 0 rfl) ?_
      refine lv_iload hx hb dX14_put_86 (lv_at hl 1 rfl) ?_
      refine lv_icmp_le (tgt := 212) hx hb dX14_put_88 (by decide) (fun c_13 => ?_) (fun c_13 => ?_)
      · skip
        rw [if_pos c_13] at hf
        refine lv_aload_n hx hb dX14_put_212 rfl (lv_at hl 2 rfl) ?_
        refine lv_iload hx hb dX14_put_213 (lv_at hl 1 rfl) ?_
        refine lv_aload_n hx hb dX14_put_215 rfl (lv_at hl 3 rfl) ?_
        refine lv_aload_n hx hb dX14_put_216 rfl (lv_at hl 4 rfl) ?_
        refine lv_iload_n hx hb dX14_put_217 rfl (lv_at hl 5 rfl) ?_
        refine lv_lload hx hb dX14_put_218 (lv_at hl 6 rfl) ?_
        refine lv_iload hx hb dX14_put_220 (lv_at hl 7 rfl) ?_
        obtain ⟨z_14, _u, hfc, hf⟩ := cal_some hf
        have hFc := de_free hD hS hA
        refine va_callv (va_runV (As := [.int p_6, .ref (a x0), .ref (a x1), .int x2, .long x3, .int x4]) (rest := []) ⟨hx, hb, hml, hown, hts⟩ (de_X14_keep l dC dI cy a sh n H.size F z_11 h0 p_6 x0 x1 x2 x3 x4 hfc) (cwV 6 hts gX14_put_X14_keep rfl rfl rfl (by decide +kernel) ⟨Nat.le_of_ble_eq_true rfl, Nat.le_of_ble_eq_true rfl⟩) ⟨fun a U g mk q => by obtain ⟨q0, q1, qP, qK, qD, qN⟩ := q; exact ⟨q0, q1, qP, va_K.moved (u := U) (U := U.calling g mk a) (Vm.Alike.refl U.vm) qK, qD, qN.same rfl⟩, va_recv hK hP (ci := 14) (q0 := h0) rfl (Wd_ob kg_1 sg_1 (by decide)), fun U hU hW => ⟨rfl, by rw [hU], by rw [hU]; exact hP, va_K.moved hW.alike hK, hD.weaken (fun _ _ _ _ => trivial), hN.warm hW⟩⟩ rfl rfl hl.1 rfl (lv_room (Nat.le_of_ble_eq_true rfl)) dX14_put_222 ⟨Nat.le_of_ble_eq_true rfl, Nat.le_of_ble_eq_true rfl⟩) hS (fun q _ h => hFc q h) hFc (fun u t H_15 locs ht hvm hw hB hz1 hk1 hS2 => ?_)
        obtain ⟨hP1, -, hD1⟩ := hB
        rw [ht] at hP1
        replace hD := hD1.weaken (fun _ _ _ h => hFc _ h)
        replace hP := hP1
        replace hS := hS2
        clear hP1 hD1 hS2 hFc hfc hz1 hk1 hvm ht
        refine lv_aload_n hx hb dX14_put_225 rfl (lv_at hl 2 rfl) ?_
        refine lv_dup hx hb dX14_put_226 rfl ?_
        refine va_get (D := (dC, dI)) (ci := 14) (v := .int (z_14.1 h0 5)) (C := RX14) (T := TX14) (N := 11) hx hb hts iwd_X14_put_X14 hown hK hP h0 (Wd_ob kg_1 sg_1 (by decide)) rfl 5 (by decide) (hts _ md_X14_put_1) (fun _ h9 => h9) (fl_at (t := 0) rfl) dX14_put_227 ?_
        refine lv_iconst (v := 1) hx hb dX14_put_230 (by decide) ?_
        refine lv_iadd hx hb dX14_put_231 ?_
        refine va_put (D := (dC, dI)) (ci := 14) (v := .int ((z_14.1 h0 5) + 1)) (ty := .int) (C := RX14) (T := TX14) (N := 11) hx hb hts iwd_X14_put_X14 tyX14 tyX14_ok nmX14 hown hK hP hD hS h0 (Wd_ob kg_1 sg_1 (by decide)) rfl 5 (by decide) (hts _ md_X14_put_1) (fun _ h9 => h9) rfl (by decide +kernel) rfl rfl (by rw [fl_len]; decide) dX14_put_232 (fun H_16 locs hP2 hD2 hS2 => ?_)
        rw [Wd_si sg_1 (by decide) rfl] at hP2 hD2
        obtain ⟨z_17, ez_17⟩ : ∃ w, w = si z_14 h0 5 ((z_14.1 h0 5) + 1) := ⟨_, rfl⟩
        rw [← ez_17] at hP2 hD2
        replace hf := lt_at ez_17 hf
        clear ez_17
        replace hP := hP2
        replace hD := hD2
        replace hS := hS2
        clear hP2 hD2 hS2
        obtain ⟨h8, h9⟩ := ret_some hf
        rw [h8]
        exact W.vret hx hb hr (fun t ht hW => ⟨⟨(), rfl, trivial, by rw [ht]; exact hP, va_K.moved hW.alike hK, hD⟩, hS.F ht⟩) hS.2.2 dX14_put_235
      · skip
        rw [if_neg c_13] at hf
        refine lv_iconst (v := 0) hx hb dX14_put_91 (by decide) ?_
        refine lv_istore (lv' := [(9, .int 0), (8, .int p_10), (7, .int p_6), (0, .ref (a h0)), (1, .ref (a x0)), (2, .ref (a x1)), (3, .int x2), (4, .long x3), (6, .int x4)]) hx hb dX14_put_92 hl (by decide) rfl (fun ls hl2 => ?_)
        replace hl := hl2
        clear hl2
        have hl0 : lv_has ls 10 [(9, .int 0), (8, .int p_10), (7, .int p_6), (0, .ref (a h0)), (1, .ref (a x0)), (2, .ref (a x1)), (3, .int x2), (4, .long x3), (6, .int x4)] := lv_sub hl [0, 1, 2, 3, 4, 5, 6, 7, 8] rfl
        refine de_loop (h := 94) (fun (x : St × Int32) ls H locs => lv_has ls 10 [(9, .int x.2), (8, .int p_10), (7, .int p_6), (0, .ref (a h0)), (1, .ref (a x0)), (2, .ref (a x1)), (3, .int x2), (4, .long x3), (6, .int x4)] ∧ va_P (dC, dI) vwCl (Wd cy a sh n x.1) H ∧ va_D A (Wd cy a sh n x.1) ∧ va_S A s.heap H locs) (fun f x => fn_X14_put_L94 F sh n h0 p_10 (fun z9 q8 => fn_X14_put_L84 F sh n p_6 h0 x0 x1 x2 x3 x4 f_12 z9 q8) f x.1 x.2) (z8, r8) ?_ (fun _ => rfl) F (z_11, 0) ls H locs ⟨hl0, hP, hD, hS⟩ hf
        intro f_20 x ls H locs ih94 hI hf
        obtain ⟨z_19, p_18⟩ := x
        obtain ⟨hl2, hP2, hD2, hS2⟩ := hI
        replace hl : lv_has ls 10 [(9, .int p_18), (8, .int p_10), (7, .int p_6), (0, .ref (a h0)), (1, .ref (a x0)), (2, .ref (a x1)), (3, .int x2), (4, .long x3), (6, .int x4)] := hl2
        replace hP := hP2
        replace hD := hD2
        replace hS := hS2
        clear hl2 hP2 hD2 hS2 hl0
        replace hf := fn_X14_put_L94_s hf
        refine lv_iload hx hb dX14_put_94 (lv_at hl 0 rfl) ?_
        refine lv_iconst (v := 4) hx hb dX14_put_96 (by decide) ?_
        refine lv_icmp_ge (tgt := 158) hx hb dX14_put_97 (by decide) (fun c_21 => ?_) (fun c_21 => ?_)
        · skip
          rw [if_pos c_21] at hf
          refine lv_aload_n hx hb dX14_put_158 rfl (lv_at hl 3 rfl) ?_
          obtain ⟨k_22, ek_22, hf⟩ := lnk_some hf
          refine va_get (D := (dC, dI)) (ci := 14) (v := .ref (a k_22)) (C := RX14) (T := TX14) (N := 11) hx hb hts iwd_X14_put_X14 hown hK hP h0 (Wd_ob kg_1 sg_1 (by decide)) rfl 2 (by decide) (hts _ md_X14_put_4) (fun _ h9 => h9) (fl_q rfl ek_22) dX14_put_159 ?_
          refine lv_iload hx hb dX14_put_162 (lv_at hl 1 rfl) ?_
          refine lv_aload_n hx hb dX14_put_164 rfl (lv_at hl 3 rfl) ?_
          obtain ⟨k_23, ek_23, hf⟩ := lnk_some hf
          refine va_get (D := (dC, dI)) (ci := 14) (v := .ref (a k_23)) (C := RX14) (T := TX14) (N := 11) hx hb hts iwd_X14_put_X14 hown hK hP h0 (Wd_ob kg_1 sg_1 (by decide)) rfl 2 (by decide) (hts _ md_X14_put_4) (fun _ h9 => h9) (fl_q rfl ek_23) dX14_put_165 ?_
          refine lv_iload hx hb dX14_put_168 (lv_at hl 1 rfl) ?_
          refine lv_iconst (v := 1) hx hb dX14_put_170 (by decide) ?_
          refine lv_isub hx hb dX14_put_171 ?_
          obtain ⟨g_24, hf⟩ := grd_some hf
          obtain ⟨kg_24, sg_24, ig_24⟩ := okA_at g_24
          refine va_iald hx hb hK hP k_23 1 (Wd_ai kg_24 sg_24) rfl ig_24 dX14_put_172 ?_
          obtain ⟨g_25, hf⟩ := grd_some hf
          obtain ⟨kg_25, sg_25, ig_25⟩ := okA_at g_25
          refine va_iast hx hb hK hP hD hS k_22 1 (Wd_ai kg_25 sg_25) rfl ig_25 dX14_put_173 (fun H_26 locs hP2 hD2 hS2 => ?_)
          rw [Wd_ti sg_25] at hP2 hD2
          obtain ⟨z_27, ez_27⟩ : ∃ w, w = si z_19 k_22 p_10.toNatClampNeg (z_19.1 k_23 (p_10 - 1).toNatClampNeg) := ⟨_, rfl⟩
          rw [← ez_27] at hP2 hD2
          replace hf := lt_at ez_27 hf
          clear ez_27
          replace hP := hP2
          replace hD := hD2
          replace hS := hS2
          clear hP2 hD2 hS2
          refine lv_aload_n hx hb dX14_put_174 rfl (lv_at hl 3 rfl) ?_
          obtain ⟨k_28, ek_28, hf⟩ := lnk_some hf
          refine va_get (D := (dC, dI)) (ci := 14) (v := .ref (a k_28)) (C := RX14) (T := TX14) (N := 11) hx hb hts iwd_X14_put_X14 hown hK hP h0 (Wd_ob kg_1 sg_1 (by decide)) rfl 3 (by decide) (hts _ md_X14_put_5) (fun _ h9 => h9) (fl_q rfl ek_28) dX14_put_175 ?_
          refine lv_iload hx hb dX14_put_178 (lv_at hl 1 rfl) ?_
          refine lv_aload_n hx hb dX14_put_180 rfl (lv_at hl 3 rfl) ?_
          obtain ⟨k_29, ek_29, hf⟩ := lnk_some hf
          refine va_get (D := (dC, dI)) (ci := 14) (v := .ref (a k_29)) (C := RX14) (T := TX14) (N := 11) hx hb hts iwd_X14_put_X14 hown hK hP h0 (Wd_ob kg_1 sg_1 (by decide)) rfl 3 (by decide) (hts _ md_X14_put_5) (fun _ h9 => h9) (fl_q rfl ek_29) dX14_put_181 ?_
          refine lv_iload hx hb dX14_put_184 (lv_at hl 1 rfl) ?_
          refine lv_iconst (v := 1) hx hb dX14_put_186 (by decide) ?_
          refine lv_isub hx hb dX14_put_187 ?_
          obtain ⟨g_30, hf⟩ := grd_some hf
          obtain ⟨kg_30, sg_30, ig_30⟩ := okA_at g_30
          refine va_lald hx hb hK hP k_29 2 (Wd_al kg_30 sg_30) rfl ig_30 dX14_put_188 ?_
          obtain ⟨g_31, hf⟩ := grd_some hf
          obtain ⟨kg_31, sg_31, ig_31⟩ := okA_at g_31
          refine va_last hx hb hK hP hD hS k_28 2 (Wd_al kg_31 sg_31) rfl ig_31 dX14_put_189 (fun H_32 locs hP2 hD2 hS2 => ?_)
          rw [Wd_tl sg_31] at hP2 hD2
          obtain ⟨z_33, ez_33⟩ : ∃ w, w = sl z_27 k_28 p_10.toNatClampNeg (z_27.2.1 k_29 (p_10 - 1).toNatClampNeg) := ⟨_, rfl⟩
          rw [← ez_33] at hP2 hD2
          replace hf := lt_at ez_33 hf
          clear ez_33
          replace hP := hP2
          replace hD := hD2
          replace hS := hS2
          clear hP2 hD2 hS2
          refine lv_aload_n hx hb dX14_put_190 rfl (lv_at hl 3 rfl) ?_
          obtain ⟨k_34, ek_34, hf⟩ := lnk_some hf
          refine va_get (D := (dC, dI)) (ci := 14) (v := .ref (a k_34)) (C := RX14) (T := TX14) (N := 11) hx hb hts iwd_X14_put_X14 hown hK hP h0 (Wd_ob kg_1 sg_1 (by decide)) rfl 4 (by decide) (hts _ md_X14_put_6) (fun _ h9 => h9) (fl_q rfl ek_34) dX14_put_191 ?_
          refine lv_iload hx hb dX14_put_194 (lv_at hl 1 rfl) ?_
          refine lv_aload_n hx hb dX14_put_196 rfl (lv_at hl 3 rfl) ?_
          obtain ⟨k_35, ek_35, hf⟩ := lnk_some hf
          refine va_get (D := (dC, dI)) (ci := 14) (v := .ref (a k_35)) (C := RX14) (T := TX14) (N := 11) hx hb hts iwd_X14_put_X14 hown hK hP h0 (Wd_ob kg_1 sg_1 (by decide)) rfl 4 (by decide) (hts _ md_X14_put_6) (fun _ h9 => h9) (fl_q rfl ek_35) dX14_put_197 ?_
          refine lv_iload hx hb dX14_put_200 (lv_at hl 1 rfl) ?_
          refine lv_iconst (v := 1) hx hb dX14_put_202 (by decide) ?_
          refine lv_isub hx hb dX14_put_203 ?_
          obtain ⟨g_36, hf⟩ := grd_some hf
          obtain ⟨kg_36, sg_36, ig_36⟩ := okA_at g_36
          refine va_iald hx hb hK hP k_35 1 (Wd_ai kg_36 sg_36) rfl ig_36 dX14_put_204 ?_
          obtain ⟨g_37, hf⟩ := grd_some hf
          obtain ⟨kg_37, sg_37, ig_37⟩ := okA_at g_37
          refine va_iast hx hb hK hP hD hS k_34 1 (Wd_ai kg_37 sg_37) rfl ig_37 dX14_put_205 (fun H_38 locs hP2 hD2 hS2 => ?_)
          rw [Wd_ti sg_37] at hP2 hD2
          obtain ⟨z_39, ez_39⟩ : ∃ w, w = si z_33 k_34 p_10.toNatClampNeg (z_33.1 k_35 (p_10 - 1).toNatClampNeg) := ⟨_, rfl⟩
          rw [← ez_39] at hP2 hD2
          replace hf := lt_at ez_39 hf
          clear ez_39
          replace hP := hP2
          replace hD := hD2
          replace hS := hS2
          clear hP2 hD2 hS2
          refine lv_iinc (v := (p_10 + (-1))) (lv' := [(8, .int (p_10 + (-1))), (9, .int p_18), (7, .int p_6), (0, .ref (a h0)), (1, .ref (a x0)), (2, .ref (a x1)), (3, .int x2), (4, .long x3), (6, .int x4)]) hx hb dX14_put_206 hl (k := 1) rfl rfl (by decide) rfl (fun ls hl2 => ?_)
          replace hl := hl2
          clear hl2
          refine lv_goto (tgt := 84) hx hb dX14_put_209 (by decide) ?_
          exact ih84 (z_39, (p_10 + (-1))) ls H_38 locs ⟨lv_sub hl [0, 2, 3, 4, 5, 6, 7, 8] rfl, hP, hD, hS⟩ hf
        · skip
          rw [if_neg c_21] at hf
          refine lv_aload_n hx hb dX14_put_100 rfl (lv_at hl 3 rfl) ?_
          obtain ⟨k_40, ek_40, hf⟩ := lnk_some hf
          refine va_get (D := (dC, dI)) (ci := 14) (v := .ref (a k_40)) (C := RX14) (T := TX14) (N := 11) hx hb hts iwd_X14_put_X14 hown hK hP h0 (Wd_ob kg_1 sg_1 (by decide)) rfl 0 (by decide) (hts _ md_X14_put_2) (fun _ h9 => h9) (fl_q rfl ek_40) dX14_put_101 ?_
          refine lv_iconst (v := 4) hx hb dX14_put_104 (by decide) ?_
          refine lv_iload hx hb dX14_put_105 (lv_at hl 1 rfl) ?_
          refine lv_imul hx hb dX14_put_107 ?_
          refine lv_iload hx hb dX14_put_108 (lv_at hl 0 rfl) ?_
          refine lv_iadd hx hb dX14_put_110 ?_
          refine lv_aload_n hx hb dX14_put_111 rfl (lv_at hl 3 rfl) ?_
          obtain ⟨k_41, ek_41, hf⟩ := lnk_some hf
          refine va_get (D := (dC, dI)) (ci := 14) (v := .ref (a k_41)) (C := RX14) (T := TX14) (N := 11) hx hb hts iwd_X14_put_X14 hown hK hP h0 (Wd_ob kg_1 sg_1 (by decide)) rfl 0 (by decide) (hts _ md_X14_put_2) (fun _ h9 => h9) (fl_q rfl ek_41) dX14_put_112 ?_
          refine lv_iconst (v := 4) hx hb dX14_put_115 (by decide) ?_
          refine lv_iload hx hb dX14_put_116 (lv_at hl 1 rfl) ?_
          refine lv_imul hx hb dX14_put_118 ?_
          refine lv_iconst (v := 4) hx hb dX14_put_119 (by decide) ?_
          refine lv_isub hx hb dX14_put_120 ?_
          refine lv_iload hx hb dX14_put_121 (lv_at hl 0 rfl) ?_
          refine lv_iadd hx hb dX14_put_123 ?_
          obtain ⟨g_42, hf⟩ := grd_some hf
          obtain ⟨kg_42, sg_42, ig_42⟩ := okA_at g_42
          refine va_lald hx hb hK hP k_41 2 (Wd_al kg_42 sg_42) rfl ig_42 dX14_put_124 ?_
          obtain ⟨g_43, hf⟩ := grd_some hf
          obtain ⟨kg_43, sg_43, ig_43⟩ := okA_at g_43
          refine va_last hx hb hK hP hD hS k_40 2 (Wd_al kg_43 sg_43) rfl ig_43 dX14_put_125 (fun H_44 locs hP2 hD2 hS2 => ?_)
          rw [Wd_tl sg_43] at hP2 hD2
          obtain ⟨z_45, ez_45⟩ : ∃ w, w = sl z_19 k_40 ((4 * p_10) + p_18).toNatClampNeg (z_19.2.1 k_41 (((4 * p_10) - 4) + p_18).toNatClampNeg) := ⟨_, rfl⟩
          rw [← ez_45] at hP2 hD2
          replace hf := lt_at ez_45 hf
          clear ez_45
          replace hP := hP2
          replace hD := hD2
          replace hS := hS2
          clear hP2 hD2 hS2
          refine lv_aload_n hx hb dX14_put_126 rfl (lv_at hl 3 rfl) ?_
          obtain ⟨k_46, ek_46, hf⟩ := lnk_some hf
          refine va_get (D := (dC, dI)) (ci := 14) (v := .ref (a k_46)) (C := RX14) (T := TX14) (N := 11) hx hb hts iwd_X14_put_X14 hown hK hP h0 (Wd_ob kg_1 sg_1 (by decide)) rfl 1 (by decide) (hts _ md_X14_put_3) (fun _ h9 => h9) (fl_q rfl ek_46) dX14_put_127 ?_
          refine lv_iconst (v := 4) hx hb dX14_put_130 (by decide) ?_
          refine lv_iload hx hb dX14_put_131 (lv_at hl 1 rfl) ?_
          refine lv_imul hx hb dX14_put_133 ?_
          refine lv_iload hx hb dX14_put_134 (lv_at hl 0 rfl) ?_
          refine lv_iadd hx hb dX14_put_136 ?_
          refine lv_aload_n hx hb dX14_put_137 rfl (lv_at hl 3 rfl) ?_
          obtain ⟨k_47, ek_47, hf⟩ := lnk_some hf
          refine va_get (D := (dC, dI)) (ci := 14) (v := .ref (a k_47)) (C := RX14) (T := TX14) (N := 11) hx hb hts iwd_X14_put_X14 hown hK hP h0 (Wd_ob kg_1 sg_1 (by decide)) rfl 1 (by decide) (hts _ md_X14_put_3) (fun _ h9 => h9) (fl_q rfl ek_47) dX14_put_138 ?_
          refine lv_iconst (v := 4) hx hb dX14_put_141 (by decide) ?_
          refine lv_iload hx hb dX14_put_142 (lv_at hl 1 rfl) ?_
          refine lv_imul hx hb dX14_put_144 ?_
          refine lv_iconst (v := 4) hx hb dX14_put_145 (by decide) ?_
          refine lv_isub hx hb dX14_put_146 ?_
          refine lv_iload hx hb dX14_put_147 (lv_at hl 0 rfl) ?_
          refine lv_iadd hx hb dX14_put_149 ?_
          obtain ⟨g_48, hf⟩ := grd_some hf
          obtain ⟨kg_48, sg_48, ig_48⟩ := okA_at g_48
          refine va_lald hx hb hK hP k_47 2 (Wd_al kg_48 sg_48) rfl ig_48 dX14_put_150 ?_
          obtain ⟨g_49, hf⟩ := grd_some hf
          obtain ⟨kg_49, sg_49, ig_49⟩ := okA_at g_49
          refine va_last hx hb hK hP hD hS k_46 2 (Wd_al kg_49 sg_49) rfl ig_49 dX14_put_151 (fun H_50 locs hP2 hD2 hS2 => ?_)
          rw [Wd_tl sg_49] at hP2 hD2
          obtain ⟨z_51, ez_51⟩ : ∃ w, w = sl z_45 k_46 ((4 * p_10) + p_18).toNatClampNeg (z_45.2.1 k_47 (((4 * p_10) - 4) + p_18).toNatClampNeg) := ⟨_, rfl⟩
          rw [← ez_51] at hP2 hD2
          replace hf := lt_at ez_51 hf
          clear ez_51
          replace hP := hP2
          replace hD := hD2
          replace hS := hS2
          clear hP2 hD2 hS2
          refine lv_iinc (v := (p_18 + 1)) (lv' := [(9, .int (p_18 + 1)), (8, .int p_10), (7, .int p_6), (0, .ref (a h0)), (1, .ref (a x0)), (2, .ref (a x1)), (3, .int x2), (4, .long x3), (6, .int x4)]) hx hb dX14_put_152 hl (k := 0) rfl rfl (by decide) rfl (fun ls hl2 => ?_)
          replace hl := hl2
          clear hl2
          refine lv_goto (tgt := 94) hx hb dX14_put_155 (by decide) ?_
          exact ih94 (z_51, (p_18 + 1)) ls H_50 locs ⟨lv_sub hl [0, 1, 2, 3, 4, 5, 6, 7, 8] rfl, hP, hD, hS⟩ hf
    refine lv_if_le (tgt := 78) hx hb dX14_put_31 (by decide) (fun c_52 => ?_) (fun c_52 => ?_)
    · skip
      rw [if_pos c_52] at hf
      exact B78 (z_7) ls H locs ⟨lv_sub hl [0, 1, 2, 3, 4, 5, 6] rfl, hP, hD, hS⟩ hf
    · skip
      rw [if_neg c_52] at hf
      refine lv_aload_n hx hb dX14_put_34 rfl (lv_at hl 1 rfl) ?_
      refine lv_iload hx hb dX14_put_35 (lv_at hl 0 rfl) ?_
      refine lv_iconst (v := 1) hx hb dX14_put_37 (by decide) ?_
      refine lv_isub hx hb dX14_put_38 ?_
      refine lv_aload_n hx hb dX14_put_39 rfl (lv_at hl 2 rfl) ?_
      obtain ⟨z_53, r_54, hfc, hf⟩ := cal_some hf
      have hFc := de_free hD hS hA
      refine va_calli (va_runV (As := [.int (p_6 - 1), .ref (a x0)]) (rest := []) ⟨hx, hb, hml, hown, hts⟩ (de_X14_isAt l dC dI cy a sh n H.size F z_7 h0 (p_6 - 1) x0 hfc) (cwV 2 hts gX14_put_X14_isAt rfl rfl rfl (by decide +kernel) ⟨Nat.le_of_ble_eq_true rfl, Nat.le_of_ble_eq_true rfl⟩) ⟨fun a U g mk q => by obtain ⟨q0, q1, qP, qK, qD, qN⟩ := q; exact ⟨q0, q1, qP, va_K.moved (u := U) (U := U.calling g mk a) (Vm.Alike.refl U.vm) qK, qD, qN.same rfl⟩, va_recv hK hP (ci := 14) (q0 := h0) rfl (Wd_ob kg_1 sg_1 (by decide)), fun U hU hW => ⟨rfl, by rw [hU], by rw [hU]; exact hP, va_K.moved hW.alike hK, hD.weaken (fun _ _ _ _ => trivial), hN.warm hW⟩⟩ rfl rfl hl.1 rfl (lv_room (Nat.le_of_ble_eq_true rfl)) dX14_put_40 ⟨Nat.le_of_ble_eq_true rfl, Nat.le_of_ble_eq_true rfl⟩) hS (fun q _ h => hFc q h) hFc (fun rr u t H_55 locs ht hvm hw hB hz1 hk1 hS2 => ?_)
      rw [hw]
      clear hw
      obtain ⟨hP1, -, hD1⟩ := hB
      rw [ht] at hP1
      replace hD := hD1.weaken (fun _ _ _ h => hFc _ h)
      replace hP := hP1
      replace hS := hS2
      clear hP1 hD1 hS2 hFc hfc hz1 hk1 hvm ht
      refine lv_if_eq (tgt := 78) hx hb dX14_put_43 (by decide) (fun c_56 => ?_) (fun c_56 => ?_)
      · skip
        rw [if_pos c_56] at hf
        exact B78 (z_53) ls H_55 locs ⟨lv_sub hl [0, 1, 2, 3, 4, 5, 6] rfl, hP, hD, hS⟩ hf
      · skip
        rw [if_neg c_56] at hf
        refine lv_aload_n hx hb dX14_put_46 rfl (lv_at hl 1 rfl) ?_
        refine lv_iload hx hb dX14_put_47 (lv_at hl 0 rfl) ?_
        refine lv_iconst (v := 1) hx hb dX14_put_49 (by decide) ?_
        refine lv_isub hx hb dX14_put_50 ?_
        refine lv_iload_n hx hb dX14_put_51 rfl (lv_at hl 4 rfl) ?_
        refine lv_lload hx hb dX14_put_52 (lv_at hl 5 rfl) ?_
        refine lv_iload hx hb dX14_put_54 (lv_at hl 6 rfl) ?_
        obtain ⟨z_57, r_58, hfc, hf⟩ := cal_some hf
        have hFc := de_free hD hS hA
        refine va_calli (va_runV (As := [.int (p_6 - 1), .int x2, .long x3, .int x4]) (rest := []) ⟨hx, hb, hml, hown, hts⟩ (de_X14_isLess l dC dI cy a sh n H_55.size F z_53 h0 (p_6 - 1) x2 x3 x4 hfc) (cwV 4 hts gX14_put_X14_isLess rfl rfl rfl (by decide +kernel) ⟨Nat.le_of_ble_eq_true rfl, Nat.le_of_ble_eq_true rfl⟩) ⟨fun a U g mk q => by obtain ⟨q0, q1, qP, qK, qD, qN⟩ := q; exact ⟨q0, q1, qP, va_K.moved (u := U) (U := U.calling g mk a) (Vm.Alike.refl U.vm) qK, qD, qN.same rfl⟩, va_recv hK hP (ci := 14) (q0 := h0) rfl (Wd_ob kg_1 sg_1 (by decide)), fun U hU hW => ⟨rfl, by rw [hU], by rw [hU]; exact hP, va_K.moved hW.alike hK, hD.weaken (fun _ _ _ _ => trivial), hN.warm hW⟩⟩ rfl rfl hl.1 rfl (lv_room (Nat.le_of_ble_eq_true rfl)) dX14_put_56 ⟨Nat.le_of_ble_eq_true rfl, Nat.le_of_ble_eq_true rfl⟩) hS (fun q _ h => hFc q h) hFc (fun rr u t H_59 locs ht hvm hw hB hz1 hk1 hS2 => ?_)
        rw [hw]
        clear hw
        obtain ⟨hP1, -, hD1⟩ := hB
        rw [ht] at hP1
        replace hD := hD1.weaken (fun _ _ _ h => hFc _ h)
        replace hP := hP1
        replace hS := hS2
        clear hP1 hD1 hS2 hFc hfc hz1 hk1 hvm ht
        refine lv_if_ne (tgt := 77) hx hb dX14_put_59 (by decide) (fun c_60 => ?_) (fun c_60 => ?_)
        · skip
          rw [if_neg c_60] at hf
          obtain ⟨h8, h9⟩ := ret_some hf
          rw [h8]
          exact W.vret hx hb hr (fun t ht hW => ⟨⟨(), rfl, trivial, by rw [ht]; exact hP, va_K.moved hW.alike hK, hD⟩, hS.F ht⟩) hS.2.2 dX14_put_77
        · skip
          rw [if_pos c_60] at hf
          refine lv_aload_n hx hb dX14_put_62 rfl (lv_at hl 1 rfl) ?_
          refine lv_iload hx hb dX14_put_63 (lv_at hl 0 rfl) ?_
          refine lv_iconst (v := 1) hx hb dX14_put_65 (by decide) ?_
          refine lv_isub hx hb dX14_put_66 ?_
          refine lv_aload_n hx hb dX14_put_67 rfl (lv_at hl 2 rfl) ?_
          refine lv_aload_n hx hb dX14_put_68 rfl (lv_at hl 3 rfl) ?_
          refine lv_iload_n hx hb dX14_put_69 rfl (lv_at hl 4 rfl) ?_
          refine lv_lload hx hb dX14_put_70 (lv_at hl 5 rfl) ?_
          refine lv_iload hx hb dX14_put_72 (lv_at hl 6 rfl) ?_
          obtain ⟨z_61, _u, hfc, hf⟩ := cal_some hf
          have hFc := de_free hD hS hA
          refine va_callv (va_runV (As := [.int (p_6 - 1), .ref (a x0), .ref (a x1), .int x2, .long x3, .int x4]) (rest := []) ⟨hx, hb, hml, hown, hts⟩ (de_X14_keep l dC dI cy a sh n H_59.size F z_57 h0 (p_6 - 1) x0 x1 x2 x3 x4 hfc) (cwV 6 hts gX14_put_X14_keep rfl rfl rfl (by decide +kernel) ⟨Nat.le_of_ble_eq_true rfl, Nat.le_of_ble_eq_true rfl⟩) ⟨fun a U g mk q => by obtain ⟨q0, q1, qP, qK, qD, qN⟩ := q; exact ⟨q0, q1, qP, va_K.moved (u := U) (U := U.calling g mk a) (Vm.Alike.refl U.vm) qK, qD, qN.same rfl⟩, va_recv hK hP (ci := 14) (q0 := h0) rfl (Wd_ob kg_1 sg_1 (by decide)), fun U hU hW => ⟨rfl, by rw [hU], by rw [hU]; exact hP, va_K.moved hW.alike hK, hD.weaken (fun _ _ _ _ => trivial), hN.warm hW⟩⟩ rfl rfl hl.1 rfl (lv_room (Nat.le_of_ble_eq_true rfl)) dX14_put_74 ⟨Nat.le_of_ble_eq_true rfl, Nat.le_of_ble_eq_true rfl⟩) hS (fun q _ h => hFc q h) hFc (fun u t H_62 locs ht hvm hw hB hz1 hk1 hS2 => ?_)
          obtain ⟨hP1, -, hD1⟩ := hB
          rw [ht] at hP1
          replace hD := hD1.weaken (fun _ _ _ h => hFc _ h)
          replace hP := hP1
          replace hS := hS2
          clear hP1 hD1 hS2 hFc hfc hz1 hk1 hvm ht
          obtain ⟨h8, h9⟩ := ret_some hf
          rw [h8]
          exact W.vret hx hb hr (fun t ht hW => ⟨⟨(), rfl, trivial, by rw [ht]; exact hP, va_K.moved hW.alike hK, hD⟩, hS.F ht⟩) hS.2.2 dX14_put_77
  refine lv_if_le (tgt := 29) hx hb dX14_put_8 (by decide) (fun c_63 => ?_) (fun c_63 => ?_)
  · skip
    rw [if_pos c_63] at hf
    exact B29 (z_4, p_3) ls H locs ⟨lv_sub hl [0, 1, 2, 3, 4, 5, 6] rfl, hP, hD, hS⟩ hf
  · skip
    rw [if_neg c_63] at hf
    refine lv_aload_n hx hb dX14_put_11 rfl (lv_at hl 1 rfl) ?_
    refine lv_iload hx hb dX14_put_12 (lv_at hl 0 rfl) ?_
    refine lv_iconst (v := 1) hx hb dX14_put_14 (by decide) ?_
    refine lv_isub hx hb dX14_put_15 ?_
    refine lv_aload_n hx hb dX14_put_16 rfl (lv_at hl 2 rfl) ?_
    obtain ⟨z_64, r_65, hfc, hf⟩ := cal_some hf
    have hFc := de_free hD hS hA
    refine va_calli (va_runV (As := [.int (p_3 - 1), .ref (a x0)]) (rest := []) ⟨hx, hb, hml, hown, hts⟩ (de_X14_isBehind l dC dI cy a sh n H.size F z_4 h0 (p_3 - 1) x0 hfc) (cwV 2 hts gX14_put_X14_isBehind rfl rfl rfl (by decide +kernel) ⟨Nat.le_of_ble_eq_true rfl, Nat.le_of_ble_eq_true rfl⟩) ⟨fun a U g mk q => by obtain ⟨q0, q1, qP, qK, qD, qN⟩ := q; exact ⟨q0, q1, qP, va_K.moved (u := U) (U := U.calling g mk a) (Vm.Alike.refl U.vm) qK, qD, qN.same rfl⟩, va_recv hK hP (ci := 14) (q0 := h0) rfl (Wd_ob kg_1 sg_1 (by decide)), fun U hU hW => ⟨rfl, by rw [hU], by rw [hU]; exact hP, va_K.moved hW.alike hK, hD.weaken (fun _ _ _ _ => trivial), hN.warm hW⟩⟩ rfl rfl hl.1 rfl (lv_room (Nat.le_of_ble_eq_true rfl)) dX14_put_17 ⟨Nat.le_of_ble_eq_true rfl, Nat.le_of_ble_eq_true rfl⟩) hS (fun q _ h => hFc q h) hFc (fun rr u t H_66 locs ht hvm hw hB hz1 hk1 hS2 => ?_)
    rw [hw]
    clear hw
    obtain ⟨hP1, -, hD1⟩ := hB
    rw [ht] at hP1
    replace hD := hD1.weaken (fun _ _ _ h => hFc _ h)
    replace hP := hP1
    replace hS := hS2
    clear hP1 hD1 hS2 hFc hfc hz1 hk1 hvm ht
    refine lv_if_eq (tgt := 29) hx hb dX14_put_20 (by decide) (fun c_67 => ?_) (fun c_67 => ?_)
    · skip
      rw [if_pos c_67] at hf
      exact B29 (z_64, p_3) ls H_66 locs ⟨lv_sub hl [0, 1, 2, 3, 4, 5, 6] rfl, hP, hD, hS⟩ hf
    · skip
      rw [if_neg c_67] at hf
      refine lv_iinc (v := (p_3 + (-1))) (lv' := [(7, .int (p_3 + (-1))), (0, .ref (a h0)), (1, .ref (a x0)), (2, .ref (a x1)), (3, .int x2), (4, .long x3), (6, .int x4)]) hx hb dX14_put_23 hl (k := 0) rfl rfl (by decide) rfl (fun ls hl2 => ?_)
      replace hl := hl2
      clear hl2
      refine lv_goto (tgt := 6) hx hb dX14_put_26 (by decide) ?_
      exact ih6 (z_64, (p_3 + (-1))) ls H_66 locs ⟨lv_sub hl [0, 1, 2, 3, 4, 5, 6] rfl, hP, hD, hS⟩ hf

set_option maxHeartbeats 4000000 in
set_option maxRecDepth 100000 in
theorem de_X13_give (l : Launch) (dC : Nat → ClassId) (dI : Nat → Nat → Nat) (cy : Nat → ClassId) (a : Nat → Nat) (sh : Nat → Nat × Nat) (n sz : Nat) (F : Nat) (z : St) (h0 : Nat) (x0 : Int64) {z8 : St} {r8 : Unit} (hf : fn_X13_give F sh n z h0 x0 = some (z8, r8)) : Met l yX13_give wsX13_give ({ frames := 3, cells := 0, slots := 0, locals := 69 }) (va_Pc [.ref (a h0), .long x0] (fun U => U.heap.size = sz ∧ va_P (dC, dI) vwCl (Wd cy a sh n z) U.heap ∧ va_K (dC, dI) vwCl (TYS cy) U ∧ va_D (fun _ => True) (Wd cy a sh n z) ∧ NK U)) (va_Qv (fun u : Unit => True) (fun u t => va_P (dC, dI) vwCl (Wd cy a sh n z8) t.heap ∧ va_K (dC, dI) vwCl (TYS cy) t ∧ va_D (va_A (Wd cy a sh n z) sz) (Wd cy a sh n z8)) (va_A (Wd cy a sh n z) sz)) 0 0 (va_A (Wd cy a sh n z) sz) := by
  refine Met.ofW (cc := cX13_give) (maxL := 3) (ret := none) (by decide) rfl ?_
  intro p e s m args below meth c s₁ B hml hv
  obtain ⟨rfl, hsz, hP, hK, hD0, hN⟩ := hv
  have hx := B.exec
  have hb := B.bytes
  have hr := B.returns
  have hts := atoms_spec (ws := wsX13_give) B.pre
  have hown : s.vm.findClass RX13 = some m.cls := findClass_of_methodNamed B.named
  have hlocks := B.notSynchronized
  subst hsz
  have hD := hD0.self (sz := s.heap.size)
  clear hD0
  generalize hAe : va_A (Wd cy a sh n z) s.heap.size = A at hD ⊢
  have hA : ∀ q : Nat, s.heap.size ≤ q → A q := fun q h => by rw [← hAe]; exact Or.inr h
  clear hAe
  have hS : va_S A s.heap s.heap [] := va_S.rf
  have hl := lv_entry ([.ref (a h0), .long x0]) (n := 3) (Nat.le_of_ble_eq_true rfl)
  rw [lg_entry_eq]
  generalize (lg_sl ([.ref (a h0), .long x0]) ++ List.replicate (3 - (lg_sl ([.ref (a h0), .long x0])).length) Slot.unset).toArray = ls at hl ⊢
  replace hl : lv_has ls 3 [(0, .ref (a h0)), (1, .long x0)] := hl
  unfold fn_X13_give at hf
  refine de_start hS hP (fun H locs hS hP => ?_)
  refine lv_aload_n hx hb dX13_give_0 rfl (lv_at hl 0 rfl) ?_
  refine lv_lload_n hx hb dX13_give_1 rfl (lv_at hl 1 rfl) ?_
  refine lv_lconst (v := 0) hx hb dX13_give_2 (by decide) ?_
  refine lv_iconst (v := 0) hx hb dX13_give_3 (by decide) ?_
  obtain ⟨g_2, hf⟩ := grd_some hf
  obtain ⟨kg_2, sg_2⟩ := okO_at g_2
  obtain ⟨z_1, _u, hfc, hf⟩ := cal_some hf
  have hFc := de_free hD hS hA
  refine va_callv (va_runV (As := [.long x0, .long 0, .int 0]) (rest := []) ⟨hx, hb, hml, hown, hts⟩ (de_X13_push l dC dI cy a sh n H.size F z h0 x0 0 0 hfc) (cwV 3 hts gX13_give_X13_push rfl rfl rfl (by decide +kernel) ⟨Nat.le_of_ble_eq_true rfl, Nat.le_of_ble_eq_true rfl⟩) ⟨fun a U g mk q => by obtain ⟨q0, q1, qP, qK, qD, qN⟩ := q; exact ⟨q0, q1, qP, va_K.moved (u := U) (U := U.calling g mk a) (Vm.Alike.refl U.vm) qK, qD, qN.same rfl⟩, va_recv hK hP (ci := 13) (q0 := h0) rfl (Wd_ob kg_2 sg_2 (by decide)), fun U hU hW => ⟨rfl, by rw [hU], by rw [hU]; exact hP, va_K.moved hW.alike hK, hD.weaken (fun _ _ _ _ => trivial), hN.warm hW⟩⟩ rfl rfl hl.1 rfl (lv_room (Nat.le_of_ble_eq_true rfl)) dX13_give_4 ⟨Nat.le_of_ble_eq_true rfl, Nat.le_of_ble_eq_true rfl⟩) hS (fun q _ h => hFc q h) hFc (fun u t H_3 locs ht hvm hw hB hz1 hk1 hS2 => ?_)
  obtain ⟨hP1, -, hD1⟩ := hB
  rw [ht] at hP1
  replace hD := hD1.weaken (fun _ _ _ h => hFc _ h)
  replace hP := hP1
  replace hS := hS2
  clear hP1 hD1 hS2 hFc hfc hz1 hk1 hvm ht
  obtain ⟨h8, h9⟩ := ret_some hf
  rw [h8]
  exact W.vret hx hb hr (fun t ht hW => ⟨⟨(), rfl, trivial, by rw [ht]; exact hP, va_K.moved hW.alike hK, hD⟩, hS.F ht⟩) hS.2.2 dX13_give_7

theorem md_X16_element_1 : (.fieldLink RX16 20 "ResourceLedgerModel$Unit" "elementAt" "[I" : Cond) ∈ wsX16_element := List.mem_of_getElem? (i := 1) rfl
theorem iwd_X16_element_X16 : ∀ w ∈ wsX160, w ∈ wsX16_element := fun _ h => List.mem_cons_of_mem _ (List.mem_append_right _ h)
set_option maxHeartbeats 4000000 in
set_option maxRecDepth 100000 in
theorem de_X16_element (l : Launch) (dC : Nat → ClassId) (dI : Nat → Nat → Nat) (cy : Nat → ClassId) (a : Nat → Nat) (sh : Nat → Nat × Nat) (n sz : Nat) (F : Nat) (z : St) (h0 : Nat) (x0 : Int32) {z8 : St} {r8 : Int64} (hf : fn_X16_element F sh n z h0 x0 = some (z8, r8)) : Met l yX16_element wsX16_element ({ frames := 3, cells := 0, slots := 0, locals := 67 }) (va_Pc [.ref (a h0), .int x0] (fun U => U.heap.size = sz ∧ va_P (dC, dI) vwCl (Wd cy a sh n z) U.heap ∧ va_K (dC, dI) vwCl (TYS cy) U ∧ va_D (fun _ => True) (Wd cy a sh n z) ∧ NK U)) (va_Ql (fun (r9 : Int64) (u : Unit) => r9 = r8) (fun u t => va_P (dC, dI) vwCl (Wd cy a sh n z8) t.heap ∧ va_K (dC, dI) vwCl (TYS cy) t ∧ va_D (va_A (Wd cy a sh n z) sz) (Wd cy a sh n z8)) (va_A (Wd cy a sh n z) sz)) 0 0 (va_A (Wd cy a sh n z) sz) := by
  refine Met.ofW (cc := cX16_element) (maxL := 2) (ret := (some .long)) (by decide) rfl ?_
  intro p e s m args below meth c s₁ B hml hv
  obtain ⟨rfl, hsz, hP, hK, hD0, hN⟩ := hv
  have hx := B.exec
  have hb := B.bytes
  have hr := B.returns
  have hts := atoms_spec (ws := wsX16_element) B.pre
  have hown : s.vm.findClass RX16 = some m.cls := findClass_of_methodNamed B.named
  have hlocks := B.notSynchronized
  subst hsz
  have hD := hD0.self (sz := s.heap.size)
  clear hD0
  generalize hAe : va_A (Wd cy a sh n z) s.heap.size = A at hD ⊢
  have hA : ∀ q : Nat, s.heap.size ≤ q → A q := fun q h => by rw [← hAe]; exact Or.inr h
  clear hAe
  have hS : va_S A s.heap s.heap [] := va_S.rf
  have hl := lv_entry ([.ref (a h0), .int x0]) (n := 2) (Nat.le_of_ble_eq_true rfl)
  rw [lg_entry_eq]
  generalize (lg_sl ([.ref (a h0), .int x0]) ++ List.replicate (2 - (lg_sl ([.ref (a h0), .int x0])).length) Slot.unset).toArray = ls at hl ⊢
  replace hl : lv_has ls 2 [(0, .ref (a h0)), (1, .int x0)] := hl
  unfold fn_X16_element at hf
  refine de_start hS hP (fun H locs hS hP => ?_)
  refine lv_aload_n hx hb dX16_element_0 rfl (lv_at hl 0 rfl) ?_
  refine lv_aload_n hx hb dX16_element_1 rfl (lv_at hl 0 rfl) ?_
  obtain ⟨g_1, hf⟩ := grd_some hf
  obtain ⟨kg_1, sg_1⟩ := okO_at g_1
  obtain ⟨k_2, ek_2, hf⟩ := lnk_some hf
  refine va_get (D := (dC, dI)) (ci := 16) (v := .ref (a k_2)) (C := RX16) (T := TX16) (N := 18) hx hb hts iwd_X16_element_X16 hown hK hP h0 (Wd_ob kg_1 sg_1 (by decide)) rfl 13 (by decide) (hts _ md_X16_element_1) (fun _ h9 => h9) (fl_q rfl ek_2) dX16_element_2 ?_
  refine lv_iload_n hx hb dX16_element_5 rfl (lv_at hl 1 rfl) ?_
  obtain ⟨g_3, hf⟩ := grd_some hf
  obtain ⟨kg_3, sg_3, ig_3⟩ := okA_at g_3
  refine va_iald hx hb hK hP k_2 1 (Wd_ai kg_3 sg_3) rfl ig_3 dX16_element_6 ?_
  obtain ⟨z_4, r_5, hfc, hf⟩ := cal_some hf
  have hFc := de_free hD hS hA
  refine va_calll (va_runV (As := [.int (z.1 k_2 x0.toNatClampNeg)]) (rest := []) ⟨hx, hb, hml, hown, hts⟩ (de_X16_typeAt l dC dI cy a sh n H.size F z h0 (z.1 k_2 x0.toNatClampNeg) hfc) (cwV 1 hts gX16_element_X16_typeAt rfl rfl rfl (by decide +kernel) ⟨Nat.le_of_ble_eq_true rfl, Nat.le_of_ble_eq_true rfl⟩) ⟨fun a U g mk q => by obtain ⟨q0, q1, qP, qK, qD, qN⟩ := q; exact ⟨q0, q1, qP, va_K.moved (u := U) (U := U.calling g mk a) (Vm.Alike.refl U.vm) qK, qD, qN.same rfl⟩, va_recv hK hP (ci := 16) (q0 := h0) rfl (Wd_ob kg_1 sg_1 (by decide)), fun U hU hW => ⟨rfl, by rw [hU], by rw [hU]; exact hP, va_K.moved hW.alike hK, hD.weaken (fun _ _ _ _ => trivial), hN.warm hW⟩⟩ rfl rfl hl.1 rfl (lv_room (Nat.le_of_ble_eq_true rfl)) dX16_element_7 ⟨Nat.le_of_ble_eq_true rfl, Nat.le_of_ble_eq_true rfl⟩) hS (fun q _ h => hFc q h) hFc (fun rr u t H_6 locs ht hvm hw hB hz1 hk1 hS2 => ?_)
  rw [hw]
  clear hw
  obtain ⟨hP1, -, hD1⟩ := hB
  rw [ht] at hP1
  replace hD := hD1.weaken (fun _ _ _ h => hFc _ h)
  replace hP := hP1
  replace hS := hS2
  clear hP1 hD1 hS2 hFc hfc hz1 hk1 hvm ht
  obtain ⟨h8, h9⟩ := ret_some hf
  rw [h8, h9]
  exact W.lret (v := r_5) hx hb hr (fun t ht hW => ⟨⟨r_5, (), rfl, rfl, by rw [ht]; exact hP, va_K.moved hW.alike hK, hD⟩, hS.F ht⟩) hS.2.2 dX16_element_10

theorem md_X18_addBytes_1 : (.fieldLink RX18 34 "ResourceLedgerModel" "rowAt" "I" : Cond) ∈ wsX18_addBytes := List.mem_of_getElem? (i := 1) rfl
theorem iwd_X18_addBytes_X18 : ∀ w ∈ wsX180, w ∈ wsX18_addBytes := fun _ h => List.mem_cons_of_mem _ (List.mem_append_left _ (List.mem_append_right _ h))
set_option maxHeartbeats 4000000 in
set_option maxRecDepth 100000 in
theorem de_X18_addBytes (l : Launch) (dC : Nat → ClassId) (dI : Nat → Nat → Nat) (cy : Nat → ClassId) (a : Nat → Nat) (sh : Nat → Nat × Nat) (n sz : Nat) (F : Nat) (z : St) (h0 : Nat) (x0 : Int32) {z8 : St} {r8 : Unit} (hf : fn_X18_addBytes F sh n z h0 x0 = some (z8, r8)) : Met l yX18_addBytes wsX18_addBytes ({ frames := 51, cells := 0, slots := 0, locals := 1123 }) (va_Pc [.ref (a h0), .int x0] (fun U => U.heap.size = sz ∧ va_P (dC, dI) vwCl (Wd cy a sh n z) U.heap ∧ va_K (dC, dI) vwCl (TYS cy) U ∧ va_D (fun _ => True) (Wd cy a sh n z) ∧ NK U)) (va_Qv (fun u : Unit => True) (fun u t => va_P (dC, dI) vwCl (Wd cy a sh n z8) t.heap ∧ va_K (dC, dI) vwCl (TYS cy) t ∧ va_D (va_A (Wd cy a sh n z) sz) (Wd cy a sh n z8)) (va_A (Wd cy a sh n z) sz)) 0 0 (va_A (Wd cy a sh n z) sz) := by
  refine Met.ofW (cc := cX18_addBytes) (maxL := 2) (ret := none) (by decide) rfl ?_
  intro p e s m args below meth c s₁ B hml hv
  obtain ⟨rfl, hsz, hP, hK, hD0, hN⟩ := hv
  have hx := B.exec
  have hb := B.bytes
  have hr := B.returns
  have hts := atoms_spec (ws := wsX18_addBytes) B.pre
  have hown : s.vm.findClass RX18 = some m.cls := findClass_of_methodNamed B.named
  have hlocks := B.notSynchronized
  subst hsz
  have hD := hD0.self (sz := s.heap.size)
  clear hD0
  generalize hAe : va_A (Wd cy a sh n z) s.heap.size = A at hD ⊢
  have hA : ∀ q : Nat, s.heap.size ≤ q → A q := fun q h => by rw [← hAe]; exact Or.inr h
  clear hAe
  have hS : va_S A s.heap s.heap [] := va_S.rf
  have hl := lv_entry ([.ref (a h0), .int x0]) (n := 2) (Nat.le_of_ble_eq_true rfl)
  rw [lg_entry_eq]
  generalize (lg_sl ([.ref (a h0), .int x0]) ++ List.replicate (2 - (lg_sl ([.ref (a h0), .int x0])).length) Slot.unset).toArray = ls at hl ⊢
  replace hl : lv_has ls 2 [(0, .ref (a h0)), (1, .int x0)] := hl
  unfold fn_X18_addBytes at hf
  refine de_start hS hP (fun H locs hS hP => ?_)
  refine lv_aload_n hx hb dX18_addBytes_0 rfl (lv_at hl 0 rfl) ?_
  refine lv_bipush (v := 64) hx hb dX18_addBytes_1 (by decide) ?_
  refine lv_iload_n hx hb dX18_addBytes_3 rfl (lv_at hl 1 rfl) ?_
  refine lv_imul hx hb dX18_addBytes_4 ?_
  obtain ⟨g_1, hf⟩ := grd_some hf
  obtain ⟨kg_1, sg_1⟩ := okO_at g_1
  refine va_put (D := (dC, dI)) (ci := 18) (v := .int (64 * x0)) (ty := .int) (C := RX18) (T := TX18) (N := 78) hx hb hts iwd_X18_addBytes_X18 tyX18 tyX18_ok nmX18 hown hK hP hD hS h0 (Wd_ob kg_1 sg_1 (by decide)) rfl 14 (by decide) (hts _ md_X18_addBytes_1) (fun _ h9 => h9) rfl (by decide +kernel) rfl rfl (by rw [fl_len]; decide) dX18_addBytes_5 (fun H_2 locs hP2 hD2 hS2 => ?_)
  rw [Wd_si sg_1 (by decide) rfl] at hP2 hD2
  obtain ⟨z_3, ez_3⟩ : ∃ w, w = si z h0 14 (64 * x0) := ⟨_, rfl⟩
  rw [← ez_3] at hP2 hD2
  replace hf := lt_at ez_3 hf
  clear ez_3
  replace hP := hP2
  replace hD := hD2
  replace hS := hS2
  clear hP2 hD2 hS2
  refine lv_aload_n hx hb dX18_addBytes_8 rfl (lv_at hl 0 rfl) ?_
  obtain ⟨z_4, _u, hfc, hf⟩ := cal_some hf
  have hFc := de_free hD hS hA
  refine va_callv (va_runV (As := []) (rest := []) ⟨hx, hb, hml, hown, hts⟩ (de_X18_addOne l dC dI cy a sh n F 48 H_2.size z_3 h0 hfc) (cwV 0 hts gX18_addBytes_X18_addOne rfl rfl rfl (by decide +kernel) ⟨Nat.le_of_ble_eq_true rfl, Nat.le_of_ble_eq_true rfl⟩) ⟨fun a U g mk q => by obtain ⟨q0, q1, qP, qK, qD, qN⟩ := q; exact ⟨q0, q1, qP, va_K.moved (u := U) (U := U.calling g mk a) (Vm.Alike.refl U.vm) qK, qD, qN.same rfl⟩, va_recv hK hP (ci := 18) (q0 := h0) rfl (Wd_ob kg_1 sg_1 (by decide)), fun U hU hW => ⟨rfl, by rw [hU], by rw [hU]; exact hP, va_K.moved hW.alike hK, hD.weaken (fun _ _ _ _ => trivial), hN.warm hW⟩⟩ rfl rfl hl.1 rfl (lv_room (Nat.le_of_ble_eq_true rfl)) dX18_addBytes_9 ⟨Nat.le_of_ble_eq_true rfl, Nat.le_of_ble_eq_true rfl⟩) hS (fun q _ h => hFc q h) hFc (fun u t H_5 locs ht hvm hw hB hz1 hk1 hS2 => ?_)
  obtain ⟨hP1, -, hD1⟩ := hB
  rw [ht] at hP1
  replace hD := hD1.weaken (fun _ _ _ h => hFc _ h)
  replace hP := hP1
  replace hS := hS2
  clear hP1 hD1 hS2 hFc hfc hz1 hk1 hvm ht
  obtain ⟨h8, h9⟩ := ret_some hf
  rw [h8]
  exact W.vret hx hb hr (fun t ht hW => ⟨⟨(), rfl, trivial, by rw [ht]; exact hP, va_K.moved hW.alike hK, hD⟩, hS.F ht⟩) hS.2.2 dX18_addBytes_12

set_option maxHeartbeats 4000000 in
set_option maxRecDepth 100000 in
theorem de_X13_has (l : Launch) (dC : Nat → ClassId) (dI : Nat → Nat → Nat) (cy : Nat → ClassId) (a : Nat → Nat) (sh : Nat → Nat × Nat) (n sz : Nat) (F : Nat) (z : St) (h0 : Nat) (x0 : Int64) (x1 : Int32) {z8 : St} {r8 : Int32} (hf : fn_X13_has F sh n z h0 x0 x1 = some (z8, r8)) : Met l yX13_has wsX13_has ({ frames := 3, cells := 0, slots := 0, locals := 71 }) (va_Pc [.ref (a h0), .long x0, .int x1] (fun U => U.heap.size = sz ∧ va_P (dC, dI) vwCl (Wd cy a sh n z) U.heap ∧ va_K (dC, dI) vwCl (TYS cy) U ∧ va_D (fun _ => True) (Wd cy a sh n z) ∧ NK U)) (va_Qi (fun (r9 : Int32) (u : Unit) => r9 = r8) (fun u t => va_P (dC, dI) vwCl (Wd cy a sh n z8) t.heap ∧ va_K (dC, dI) vwCl (TYS cy) t ∧ va_D (va_A (Wd cy a sh n z) sz) (Wd cy a sh n z8)) (va_A (Wd cy a sh n z) sz)) 0 0 (va_A (Wd cy a sh n z) sz) := by
  refine Met.ofW (cc := cX13_has) (maxL := 4) (ret := (some .boolean)) (by decide) rfl ?_
  intro p e s m args below meth c s₁ B hml hv
  obtain ⟨rfl, hsz, hP, hK, hD0, hN⟩ := hv
  have hx := B.exec
  have hb := B.bytes
  have hr := B.returns
  have hts := atoms_spec (ws := wsX13_has) B.pre
  have hown : s.vm.findClass RX13 = some m.cls := findClass_of_methodNamed B.named
  have hlocks := B.notSynchronized
  subst hsz
  have hD := hD0.self (sz := s.heap.size)
  clear hD0
  generalize hAe : va_A (Wd cy a sh n z) s.heap.size = A at hD ⊢
  have hA : ∀ q : Nat, s.heap.size ≤ q → A q := fun q h => by rw [← hAe]; exact Or.inr h
  clear hAe
  have hS : va_S A s.heap s.heap [] := va_S.rf
  have hl := lv_entry ([.ref (a h0), .long x0, .int x1]) (n := 4) (Nat.le_of_ble_eq_true rfl)
  rw [lg_entry_eq]
  generalize (lg_sl ([.ref (a h0), .long x0, .int x1]) ++ List.replicate (4 - (lg_sl ([.ref (a h0), .long x0, .int x1])).length) Slot.unset).toArray = ls at hl ⊢
  replace hl : lv_has ls 4 [(0, .ref (a h0)), (1, .long x0), (3, .int x1)] := hl
  unfold fn_X13_has at hf
  refine de_start hS hP (fun H locs hS hP => ?_)
  refine lv_aload_n hx hb dX13_has_0 rfl (lv_at hl 0 rfl) ?_
  refine lv_lload_n hx hb dX13_has_1 rfl (lv_at hl 1 rfl) ?_
  obtain ⟨g_3, hf⟩ := grd_some hf
  obtain ⟨kg_3, sg_3⟩ := okO_at g_3
  obtain ⟨z_1, r_2, hfc, hf⟩ := cal_some hf
  have hFc := de_free hD hS hA
  refine va_calli (va_runV (As := [.long x0]) (rest := []) ⟨hx, hb, hml, hown, hts⟩ (de_X13_abilitiesFor l dC dI cy a sh n H.size F z h0 x0 hfc) (cwV 1 hts gX13_has_X13_abilitiesFor rfl rfl rfl (by decide +kernel) ⟨Nat.le_of_ble_eq_true rfl, Nat.le_of_ble_eq_true rfl⟩) ⟨fun a U g mk q => by obtain ⟨q0, q1, qP, qK, qD, qN⟩ := q; exact ⟨q0, q1, qP, va_K.moved (u := U) (U := U.calling g mk a) (Vm.Alike.refl U.vm) qK, qD, qN.same rfl⟩, va_recv hK hP (ci := 13) (q0 := h0) rfl (Wd_ob kg_3 sg_3 (by decide)), fun U hU hW => ⟨rfl, by rw [hU], by rw [hU]; exact hP, va_K.moved hW.alike hK, hD.weaken (fun _ _ _ _ => trivial), hN.warm hW⟩⟩ rfl rfl hl.1 rfl (lv_room (Nat.le_of_ble_eq_true rfl)) dX13_has_2 ⟨Nat.le_of_ble_eq_true rfl, Nat.le_of_ble_eq_true rfl⟩) hS (fun q _ h => hFc q h) hFc (fun rr u t H_4 locs ht hvm hw hB hz1 hk1 hS2 => ?_)
  rw [hw]
  clear hw
  obtain ⟨hP1, -, hD1⟩ := hB
  rw [ht] at hP1
  replace hD := hD1.weaken (fun _ _ _ h => hFc _ h)
  replace hP := hP1
  replace hS := hS2
  clear hP1 hD1 hS2 hFc hfc hz1 hk1 hvm ht
  refine lv_iload_n hx hb dX13_has_5 rfl (lv_at hl 2 rfl) ?_
  refine lv_iand hx hb dX13_has_6 ?_
  refine lv_if_eq (tgt := 14) hx hb dX13_has_7 (by decide) (fun c_5 => ?_) (fun c_5 => ?_)
  · skip
    rw [if_pos c_5] at hf
    refine lv_iconst (v := 0) hx hb dX13_has_14 (by decide) ?_
    obtain ⟨h8, h9⟩ := ret_some hf
    rw [h8, h9]
    exact W.zret (v := 0) hx hb hr rfl (fun t ht hW => ⟨⟨0, (), rfl, rfl, by rw [ht]; exact hP, va_K.moved hW.alike hK, hD⟩, hS.F ht⟩) hS.2.2 dX13_has_15
  · skip
    rw [if_neg c_5] at hf
    refine lv_iconst (v := 1) hx hb dX13_has_10 (by decide) ?_
    refine lv_goto (tgt := 15) hx hb dX13_has_11 (by decide) ?_
    obtain ⟨h8, h9⟩ := ret_some hf
    rw [h8, h9]
    exact W.zret (v := 1) hx hb hr rfl (fun t ht hW => ⟨⟨1, (), rfl, rfl, by rw [ht]; exact hP, va_K.moved hW.alike hK, hD⟩, hS.F ht⟩) hS.2.2 dX13_has_15

theorem md_X9_keepValue_1 : (.fieldLink RX9 18 "ResourceLedger$Tree" "digest" "LResourceLedger$Digest;" : Cond) ∈ wsX9_keepValue := List.mem_of_getElem? (i := 1) rfl
theorem iwd_X9_keepValue_X9 : ∀ w ∈ wsX90, w ∈ wsX9_keepValue := fun _ h => List.mem_cons_of_mem _ (List.mem_append_left _ (List.mem_append_right _ h))
theorem md_X9_keepValue_2 : (.fieldLink RX9 28 "ResourceLedger$Tree" "value" "[J" : Cond) ∈ wsX9_keepValue := List.mem_of_getElem? (i := 2) rfl
set_option maxHeartbeats 4000000 in
set_option maxRecDepth 100000 in
theorem de_X9_keepValue (l : Launch) (dC : Nat → ClassId) (dI : Nat → Nat → Nat) (cy : Nat → ClassId) (a : Nat → Nat) (sh : Nat → Nat × Nat) (n sz : Nat) (F : Nat) (sk : Nat → Nat) (z : St) (h0 : Nat) {z8 : St} {r8 : Unit} (hf : fn_X9_keepValue F sh n z h0 = some (z8, r8)) : Met l yX9_keepValue wsX9_keepValue ({ frames := 3, cells := 0, slots := 0, locals := 76 }) (va_Pc [.ref (a h0)] (fun U => U.heap.size = sz ∧ va_P (dC, dI) vwCl (Wd cy a sh n z) U.heap ∧ va_K (dC, dI) vwCl (TYS cy) U ∧ va_D (fun _ => True) (Wd cy a sh n z) ∧ NK U ∧ SKs sk (a CBK) (va_A (Wd cy a sh n z) sz) U U.heap)) (va_Qv (fun u : Unit => True) (fun u t => va_P (dC, dI) vwCl (Wd cy a sh n z8) t.heap ∧ va_K (dC, dI) vwCl (TYS cy) t ∧ va_D (va_A (Wd cy a sh n z) sz) (Wd cy a sh n z8)) (va_A (Wd cy a sh n z) sz)) 0 0 (va_A (Wd cy a sh n z) sz) := by
  refine Met.ofW (cc := cX9_keepValue) (maxL := 1) (ret := none) (by decide) rfl ?_
  intro p e s m args below meth c s₁ B hml hv
  obtain ⟨rfl, hsz, hP, hK, hD0, hN, hSK⟩ := hv
  have hx := B.exec
  have hb := B.bytes
  have hr := B.returns
  have hts := atoms_spec (ws := wsX9_keepValue) B.pre
  have hown : s.vm.findClass RX9 = some m.cls := findClass_of_methodNamed B.named
  have hlocks := B.notSynchronized
  subst hsz
  have hD := hD0.self (sz := s.heap.size)
  clear hD0
  generalize hAe : va_A (Wd cy a sh n z) s.heap.size = A at hD hSK ⊢
  have hA : ∀ q : Nat, s.heap.size ≤ q → A q := fun q h => by rw [← hAe]; exact Or.inr h
  clear hAe
  have hS : va_S A s.heap s.heap [] := va_S.rf
  have hl := lv_entry ([.ref (a h0)]) (n := 1) (Nat.le_of_ble_eq_true rfl)
  rw [lg_entry_eq]
  generalize (lg_sl ([.ref (a h0)]) ++ List.replicate (1 - (lg_sl ([.ref (a h0)])).length) Slot.unset).toArray = ls at hl ⊢
  replace hl : lv_has ls 1 [(0, .ref (a h0))] := hl
  unfold fn_X9_keepValue at hf
  refine de_start hS hP (fun H locs hS hP => ?_)
  refine lv_aload_n hx hb dX9_keepValue_0 rfl (lv_at hl 0 rfl) ?_
  obtain ⟨g_1, hf⟩ := grd_some hf
  obtain ⟨kg_1, sg_1⟩ := okO_at g_1
  obtain ⟨k_2, ek_2, hf⟩ := lnk_some hf
  refine va_get (D := (dC, dI)) (ci := 9) (v := .ref (a k_2)) (C := RX9) (T := TX9) (N := 13) hx hb hts iwd_X9_keepValue_X9 hown hK hP h0 (Wd_ob kg_1 sg_1 (by decide)) rfl 2 (by decide) (hts _ md_X9_keepValue_1) (fun _ h9 => h9) (fl_q rfl ek_2) dX9_keepValue_1 ?_
  obtain ⟨g_4, hf⟩ := grd_some hf
  obtain ⟨kg_4, sg_4⟩ := okO_at g_4
  obtain ⟨z_3, _u, hfc, hf⟩ := cal_some hf
  have hFc := de_free hD hS hA
  refine va_callv (va_runV (As := []) (rest := []) ⟨hx, hb, hml, hown, hts⟩ (de_X0_finish l dC dI cy a sh n H.size F sk z k_2 hfc) (cwV 0 hts gX9_keepValue_X0_finish rfl rfl rfl (by decide +kernel) ⟨Nat.le_of_ble_eq_true rfl, Nat.le_of_ble_eq_true rfl⟩) ⟨fun a U g mk q => by obtain ⟨q0, q1, qP, qK, qD, qN, qS⟩ := q; exact ⟨q0, q1, qP, va_K.moved (u := U) (U := U.calling g mk a) (Vm.Alike.refl U.vm) qK, qD, qN.same rfl, SKs.moved (u := U) (U := U.calling g mk a) (Vm.Alike.refl U.vm) qS⟩, va_recv hK hP (ci := 0) (q0 := k_2) rfl (Wd_ob kg_4 sg_4 (by decide)), fun U hU hW => ⟨rfl, by rw [hU], by rw [hU]; exact hP, va_K.moved hW.alike hK, hD.weaken (fun _ _ _ _ => trivial), hN.warm hW, by rw [hU]; exact ((hSK.kept hS.2.1).narrow hFc).moved hW.alike⟩⟩ rfl rfl hl.1 rfl (lv_room (Nat.le_of_ble_eq_true rfl)) dX9_keepValue_4 ⟨Nat.le_of_ble_eq_true rfl, Nat.le_of_ble_eq_true rfl⟩) hS (fun q _ h => hFc q h) hFc (fun u t H_5 locs ht hvm hw hB hz1 hk1 hS2 => ?_)
  obtain ⟨hP1, -, hD1⟩ := hB
  rw [ht] at hP1
  replace hD := hD1.weaken (fun _ _ _ h => hFc _ h)
  replace hP := hP1
  replace hS := hS2
  clear hP1 hD1 hS2 hFc hfc hz1 hk1 hvm ht
  refine lv_aload_n hx hb dX9_keepValue_7 rfl (lv_at hl 0 rfl) ?_
  obtain ⟨k_6, ek_6, hf⟩ := lnk_some hf
  refine va_get (D := (dC, dI)) (ci := 9) (v := .ref (a k_6)) (C := RX9) (T := TX9) (N := 13) hx hb hts iwd_X9_keepValue_X9 hown hK hP h0 (Wd_ob kg_1 sg_1 (by decide)) rfl 2 (by decide) (hts _ md_X9_keepValue_1) (fun _ h9 => h9) (fl_q rfl ek_6) dX9_keepValue_8 ?_
  refine lv_aload_n hx hb dX9_keepValue_11 rfl (lv_at hl 0 rfl) ?_
  obtain ⟨k_7, ek_7, hf⟩ := lnk_some hf
  refine va_get (D := (dC, dI)) (ci := 9) (v := .ref (a k_7)) (C := RX9) (T := TX9) (N := 13) hx hb hts iwd_X9_keepValue_X9 hown hK hP h0 (Wd_ob kg_1 sg_1 (by decide)) rfl 5 (by decide) (hts _ md_X9_keepValue_2) (fun _ h9 => h9) (fl_q rfl ek_7) dX9_keepValue_12 ?_
  refine lv_iconst (v := 0) hx hb dX9_keepValue_15 (by decide) ?_
  obtain ⟨g_9, hf⟩ := grd_some hf
  obtain ⟨kg_9, sg_9⟩ := okO_at g_9
  obtain ⟨z_8, _u, hfc, hf⟩ := cal_some hf
  have hFc := de_free hD hS hA
  refine va_callv (va_runV (As := [.ref (a k_7), .int 0]) (rest := []) ⟨hx, hb, hml, hown, hts⟩ (de_X0_copyTo l dC dI cy a sh n H_5.size F z_3 k_6 k_7 0 hfc) (cwV 2 hts gX9_keepValue_X0_copyTo rfl rfl rfl (by decide +kernel) ⟨Nat.le_of_ble_eq_true rfl, Nat.le_of_ble_eq_true rfl⟩) ⟨fun a U g mk q => by obtain ⟨q0, q1, qP, qK, qD, qN⟩ := q; exact ⟨q0, q1, qP, va_K.moved (u := U) (U := U.calling g mk a) (Vm.Alike.refl U.vm) qK, qD, qN.same rfl⟩, va_recv hK hP (ci := 0) (q0 := k_6) rfl (Wd_ob kg_9 sg_9 (by decide)), fun U hU hW => ⟨rfl, by rw [hU], by rw [hU]; exact hP, va_K.moved hW.alike hK, hD.weaken (fun _ _ _ _ => trivial), hN.warm hW⟩⟩ rfl rfl hl.1 rfl (lv_room (Nat.le_of_ble_eq_true rfl)) dX9_keepValue_16 ⟨Nat.le_of_ble_eq_true rfl, Nat.le_of_ble_eq_true rfl⟩) hS (fun q _ h => hFc q h) hFc (fun u t H_10 locs ht hvm hw hB hz1 hk1 hS2 => ?_)
  obtain ⟨hP1, -, hD1⟩ := hB
  rw [ht] at hP1
  replace hD := hD1.weaken (fun _ _ _ h => hFc _ h)
  replace hP := hP1
  replace hS := hS2
  clear hP1 hD1 hS2 hFc hfc hz1 hk1 hvm ht
  obtain ⟨h8, h9⟩ := ret_some hf
  rw [h8]
  exact W.vret hx hb hr (fun t ht hW => ⟨⟨(), rfl, trivial, by rw [ht]; exact hP, va_K.moved hW.alike hK, hD⟩, hS.F ht⟩) hS.2.2 dX9_keepValue_19

set_option maxHeartbeats 4000000 in
set_option maxRecDepth 100000 in
theorem de_X6_readList (l : Launch) (dC : Nat → ClassId) (dI : Nat → Nat → Nat) (cy : Nat → ClassId) (a : Nat → Nat) (sh : Nat → Nat × Nat) (n sz : Nat) (F : Nat) (sk : Nat → Nat) (z : St) (h0 : Nat) (x0 : Int32) {z8 : St} {r8 : Int32} (hf : fn_X6_readList F sh n z h0 x0 = some (z8, r8)) : Met l yX6_readList wsX6_readList ({ frames := 3, cells := 0, slots := 0, locals := 71 }) (va_Pc [.ref (a h0), .int x0] (fun U => U.heap.size = sz ∧ va_P (dC, dI) vwCl (Wd cy a sh n z) U.heap ∧ va_K (dC, dI) vwCl (TYS cy) U ∧ va_D (fun _ => True) (Wd cy a sh n z) ∧ NK U ∧ SKs sk (a CBK) (va_A (Wd cy a sh n z) sz) U U.heap)) (va_Qi (fun (r9 : Int32) (u : Unit) => r9 = r8) (fun u t => va_P (dC, dI) vwCl (Wd cy a sh n z8) t.heap ∧ va_K (dC, dI) vwCl (TYS cy) t ∧ va_D (va_A (Wd cy a sh n z) sz) (Wd cy a sh n z8)) (va_A (Wd cy a sh n z) sz)) 0 0 (va_A (Wd cy a sh n z) sz) := by
  refine Met.ofW (cc := cX6_readList) (maxL := 3) (ret := (some .int)) (by decide) rfl ?_
  intro p e s m args below meth c s₁ B hml hv
  obtain ⟨rfl, hsz, hP, hK, hD0, hN, hSK⟩ := hv
  have hx := B.exec
  have hb := B.bytes
  have hr := B.returns
  have hts := atoms_spec (ws := wsX6_readList) B.pre
  have hown : s.vm.findClass RX6 = some m.cls := findClass_of_methodNamed B.named
  have hlocks := B.notSynchronized
  subst hsz
  have hD := hD0.self (sz := s.heap.size)
  clear hD0
  generalize hAe : va_A (Wd cy a sh n z) s.heap.size = A at hD hSK ⊢
  have hA : ∀ q : Nat, s.heap.size ≤ q → A q := fun q h => by rw [← hAe]; exact Or.inr h
  clear hAe
  have hS : va_S A s.heap s.heap [] := va_S.rf
  have hl := lv_entry ([.ref (a h0), .int x0]) (n := 3) (Nat.le_of_ble_eq_true rfl)
  rw [lg_entry_eq]
  generalize (lg_sl ([.ref (a h0), .int x0]) ++ List.replicate (3 - (lg_sl ([.ref (a h0), .int x0])).length) Slot.unset).toArray = ls at hl ⊢
  replace hl : lv_has ls 3 [(0, .ref (a h0)), (1, .int x0)] := hl
  unfold fn_X6_readList at hf
  refine de_start hS hP (fun H locs hS hP => ?_)
  refine lv_aload_n hx hb dX6_readList_0 rfl (lv_at hl 0 rfl) ?_
  refine lv_iconst (v := 0) hx hb dX6_readList_1 (by decide) ?_
  refine lv_iload_n hx hb dX6_readList_2 rfl (lv_at hl 1 rfl) ?_
  obtain ⟨g_3, hf⟩ := grd_some hf
  obtain ⟨kg_3, sg_3⟩ := okO_at g_3
  obtain ⟨z_1, r_2, hfc, hf⟩ := cal_some hf
  have hFc := de_free hD hS hA
  refine va_calli (va_runV (As := [.int 0, .int x0]) (rest := []) ⟨hx, hb, hml, hown, hts⟩ (de_X6_readNumber l dC dI cy a sh n H.size F sk z h0 0 x0 hfc) (cwV 2 hts gX6_readList_X6_readNumber rfl rfl rfl (by decide +kernel) ⟨Nat.le_of_ble_eq_true rfl, Nat.le_of_ble_eq_true rfl⟩) ⟨fun a U g mk q => by obtain ⟨q0, q1, qP, qK, qD, qN, qS⟩ := q; exact ⟨q0, q1, qP, va_K.moved (u := U) (U := U.calling g mk a) (Vm.Alike.refl U.vm) qK, qD, qN.same rfl, SKs.moved (u := U) (U := U.calling g mk a) (Vm.Alike.refl U.vm) qS⟩, va_recv hK hP (ci := 6) (q0 := h0) rfl (Wd_ob kg_3 sg_3 (by decide)), fun U hU hW => ⟨rfl, by rw [hU], by rw [hU]; exact hP, va_K.moved hW.alike hK, hD.weaken (fun _ _ _ _ => trivial), hN.warm hW, by rw [hU]; exact ((hSK.kept hS.2.1).narrow hFc).moved hW.alike⟩⟩ rfl rfl hl.1 rfl (lv_room (Nat.le_of_ble_eq_true rfl)) dX6_readList_3 ⟨Nat.le_of_ble_eq_true rfl, Nat.le_of_ble_eq_true rfl⟩) hS (fun q _ h => hFc q h) hFc (fun rr u t H_4 locs ht hvm hw hB hz1 hk1 hS2 => ?_)
  rw [hw]
  clear hw
  obtain ⟨hP1, -, hD1⟩ := hB
  rw [ht] at hP1
  replace hD := hD1.weaken (fun _ _ _ h => hFc _ h)
  replace hP := hP1
  replace hS := hS2
  clear hP1 hD1 hS2 hFc hfc hz1 hk1 hvm ht
  refine lv_istore_n (lv' := [(2, .int r_2), (0, .ref (a h0)), (1, .int x0)]) hx hb dX6_readList_6 rfl hl (by decide) rfl (fun ls hl2 => ?_)
  replace hl := hl2
  clear hl2
  refine lv_aload_n hx hb dX6_readList_7 rfl (lv_at hl 1 rfl) ?_
  refine lv_iload_n hx hb dX6_readList_8 rfl (lv_at hl 0 rfl) ?_
  refine lv_iconst (v := 1) hx hb dX6_readList_9 (by decide) ?_
  obtain ⟨z_5, _u, hfc, hf⟩ := cal_some hf
  have hFc := de_free hD hS hA
  refine va_callv (va_runV (As := [.int r_2, .int 1]) (rest := []) ⟨hx, hb, hml, hown, hts⟩ (de_X6_readTypes l dC dI cy a sh n H_4.size F sk z_1 h0 r_2 1 hfc) (cwV 2 hts gX6_readList_X6_readTypes rfl rfl rfl (by decide +kernel) ⟨Nat.le_of_ble_eq_true rfl, Nat.le_of_ble_eq_true rfl⟩) ⟨fun a U g mk q => by obtain ⟨q0, q1, qP, qK, qD, qN, qS⟩ := q; exact ⟨q0, q1, qP, va_K.moved (u := U) (U := U.calling g mk a) (Vm.Alike.refl U.vm) qK, qD, qN.same rfl, SKs.moved (u := U) (U := U.calling g mk a) (Vm.Alike.refl U.vm) qS⟩, va_recv hK hP (ci := 6) (q0 := h0) rfl (Wd_ob kg_3 sg_3 (by decide)), fun U hU hW => ⟨rfl, by rw [hU], by rw [hU]; exact hP, va_K.moved hW.alike hK, hD.weaken (fun _ _ _ _ => trivial), hN.warm hW, by rw [hU]; exact ((hSK.kept hS.2.1).narrow hFc).moved hW.alike⟩⟩ rfl rfl hl.1 rfl (lv_room (Nat.le_of_ble_eq_true rfl)) dX6_readList_10 ⟨Nat.le_of_ble_eq_true rfl, Nat.le_of_ble_eq_true rfl⟩) hS (fun q _ h => hFc q h) hFc (fun u t H_6 locs ht hvm hw hB hz1 hk1 hS2 => ?_)
  obtain ⟨hP1, -, hD1⟩ := hB
  rw [ht] at hP1
  replace hD := hD1.weaken (fun _ _ _ h => hFc _ h)
  replace hP := hP1
  replace hS := hS2
  clear hP1 hD1 hS2 hFc hfc hz1 hk1 hvm ht
  refine lv_iload_n hx hb dX6_readList_13 rfl (lv_at hl 0 rfl) ?_
  obtain ⟨h8, h9⟩ := ret_some hf
  rw [h8, h9]
  exact W.iret (v := r_2) hx hb hr (fun t ht hW => ⟨⟨r_2, (), rfl, rfl, by rw [ht]; exact hP, va_K.moved hW.alike hK, hD⟩, hS.F ht⟩) hS.2.2 dX6_readList_14

theorem md_X9_putNothing_1 : (.fieldLink RX9 18 "ResourceLedger$Tree" "digest" "LResourceLedger$Digest;" : Cond) ∈ wsX9_putNothing := List.mem_of_getElem? (i := 1) rfl
theorem iwd_X9_putNothing_X9 : ∀ w ∈ wsX90, w ∈ wsX9_putNothing := fun _ h => List.mem_cons_of_mem _ (List.mem_append_left _ (List.mem_append_right _ h))
set_option maxHeartbeats 4000000 in
set_option maxRecDepth 100000 in
theorem de_X9_putNothing (l : Launch) (dC : Nat → ClassId) (dI : Nat → Nat → Nat) (cy : Nat → ClassId) (a : Nat → Nat) (sh : Nat → Nat × Nat) (n sz : Nat) (F : Nat) (sk : Nat → Nat) (z : St) (h0 : Nat) {z8 : St} {r8 : Unit} (hf : fn_X9_putNothing F sh n z h0 = some (z8, r8)) : Met l yX9_putNothing wsX9_putNothing ({ frames := 3, cells := 0, slots := 0, locals := 76 }) (va_Pc [.ref (a h0)] (fun U => U.heap.size = sz ∧ va_P (dC, dI) vwCl (Wd cy a sh n z) U.heap ∧ va_K (dC, dI) vwCl (TYS cy) U ∧ va_D (fun _ => True) (Wd cy a sh n z) ∧ NK U ∧ SKs sk (a CBK) (va_A (Wd cy a sh n z) sz) U U.heap)) (va_Qv (fun u : Unit => True) (fun u t => va_P (dC, dI) vwCl (Wd cy a sh n z8) t.heap ∧ va_K (dC, dI) vwCl (TYS cy) t ∧ va_D (va_A (Wd cy a sh n z) sz) (Wd cy a sh n z8)) (va_A (Wd cy a sh n z) sz)) 0 0 (va_A (Wd cy a sh n z) sz) := by
  refine Met.ofW (cc := cX9_putNothing) (maxL := 2) (ret := none) (by decide) rfl ?_
  intro p e s m args below meth c s₁ B hml hv
  obtain ⟨rfl, hsz, hP, hK, hD0, hN, hSK⟩ := hv
  have hx := B.exec
  have hb := B.bytes
  have hr := B.returns
  have hts := atoms_spec (ws := wsX9_putNothing) B.pre
  have hown : s.vm.findClass RX9 = some m.cls := findClass_of_methodNamed B.named
  have hlocks := B.notSynchronized
  subst hsz
  have hD := hD0.self (sz := s.heap.size)
  clear hD0
  generalize hAe : va_A (Wd cy a sh n z) s.heap.size = A at hD hSK ⊢
  have hA : ∀ q : Nat, s.heap.size ≤ q → A q := fun q h => by rw [← hAe]; exact Or.inr h
  clear hAe
  have hS : va_S A s.heap s.heap [] := va_S.rf
  have hl := lv_entry ([.ref (a h0)]) (n := 2) (Nat.le_of_ble_eq_true rfl)
  rw [lg_entry_eq]
  generalize (lg_sl ([.ref (a h0)]) ++ List.replicate (2 - (lg_sl ([.ref (a h0)])).length) Slot.unset).toArray = ls at hl ⊢
  replace hl : lv_has ls 2 [(0, .ref (a h0))] := hl
  unfold fn_X9_putNothing at hf
  refine de_start hS hP (fun H locs hS hP => ?_)
  refine lv_iconst (v := 0) hx hb dX9_putNothing_0 (by decide) ?_
  refine lv_istore_n (lv' := [(1, .int 0), (0, .ref (a h0))]) hx hb dX9_putNothing_1 rfl hl (by decide) rfl (fun ls hl2 => ?_)
  replace hl := hl2
  clear hl2
  have hl0 : lv_has ls 2 [(1, .int 0), (0, .ref (a h0))] := lv_sub hl [0, 1] rfl
  refine de_loop (h := 2) (fun (x : St × Int32) ls H locs => lv_has ls 2 [(1, .int x.2), (0, .ref (a h0))] ∧ va_P (dC, dI) vwCl (Wd cy a sh n x.1) H ∧ va_D A (Wd cy a sh n x.1) ∧ va_S A s.heap H locs) (fun f x => fn_X9_putNothing_L2 F sh n h0 f x.1 x.2) (z8, r8) ?_ (fun _ => rfl) F (z, 0) ls H locs ⟨hl0, hP, hD, hS⟩ hf
  intro f_3 x ls H locs ih2 hI hf
  obtain ⟨z_2, p_1⟩ := x
  obtain ⟨hl2, hP2, hD2, hS2⟩ := hI
  replace hl : lv_has ls 2 [(1, .int p_1), (0, .ref (a h0))] := hl2
  replace hP := hP2
  replace hD := hD2
  replace hS := hS2
  clear hl2 hP2 hD2 hS2 hl0
  replace hf := fn_X9_putNothing_L2_s hf
  refine lv_iload_n hx hb dX9_putNothing_2 rfl (lv_at hl 0 rfl) ?_
  refine lv_iconst (v := 4) hx hb dX9_putNothing_3 (by decide) ?_
  refine lv_icmp_ge (tgt := 21) hx hb dX9_putNothing_4 (by decide) (fun c_4 => ?_) (fun c_4 => ?_)
  · skip
    rw [if_pos c_4] at hf
    obtain ⟨h8, h9⟩ := ret_some hf
    rw [h8]
    exact W.vret hx hb hr (fun t ht hW => ⟨⟨(), rfl, trivial, by rw [ht]; exact hP, va_K.moved hW.alike hK, hD⟩, hS.F ht⟩) hS.2.2 dX9_putNothing_21
  · skip
    rw [if_neg c_4] at hf
    refine lv_aload_n hx hb dX9_putNothing_7 rfl (lv_at hl 1 rfl) ?_
    obtain ⟨g_5, hf⟩ := grd_some hf
    obtain ⟨kg_5, sg_5⟩ := okO_at g_5
    obtain ⟨k_6, ek_6, hf⟩ := lnk_some hf
    refine va_get (D := (dC, dI)) (ci := 9) (v := .ref (a k_6)) (C := RX9) (T := TX9) (N := 13) hx hb hts iwd_X9_putNothing_X9 hown hK hP h0 (Wd_ob kg_5 sg_5 (by decide)) rfl 2 (by decide) (hts _ md_X9_putNothing_1) (fun _ h9 => h9) (fl_q rfl ek_6) dX9_putNothing_8 ?_
    refine lv_lconst (v := 0) hx hb dX9_putNothing_11 (by decide) ?_
    obtain ⟨g_8, hf⟩ := grd_some hf
    obtain ⟨kg_8, sg_8⟩ := okO_at g_8
    obtain ⟨z_7, _u, hfc, hf⟩ := cal_some hf
    have hFc := de_free hD hS hA
    refine va_callv (va_runV (As := [.long 0]) (rest := []) ⟨hx, hb, hml, hown, hts⟩ (de_X0_putLong l dC dI cy a sh n H.size F sk z_2 k_6 0 hfc) (cwV 1 hts gX9_putNothing_X0_putLong rfl rfl rfl (by decide +kernel) ⟨Nat.le_of_ble_eq_true rfl, Nat.le_of_ble_eq_true rfl⟩) ⟨fun a U g mk q => by obtain ⟨q0, q1, qP, qK, qD, qN, qS⟩ := q; exact ⟨q0, q1, qP, va_K.moved (u := U) (U := U.calling g mk a) (Vm.Alike.refl U.vm) qK, qD, qN.same rfl, SKs.moved (u := U) (U := U.calling g mk a) (Vm.Alike.refl U.vm) qS⟩, va_recv hK hP (ci := 0) (q0 := k_6) rfl (Wd_ob kg_8 sg_8 (by decide)), fun U hU hW => ⟨rfl, by rw [hU], by rw [hU]; exact hP, va_K.moved hW.alike hK, hD.weaken (fun _ _ _ _ => trivial), hN.warm hW, by rw [hU]; exact ((hSK.kept hS.2.1).narrow hFc).moved hW.alike⟩⟩ rfl rfl hl.1 rfl (lv_room (Nat.le_of_ble_eq_true rfl)) dX9_putNothing_12 ⟨Nat.le_of_ble_eq_true rfl, Nat.le_of_ble_eq_true rfl⟩) hS (fun q _ h => hFc q h) hFc (fun u t H_9 locs ht hvm hw hB hz1 hk1 hS2 => ?_)
    obtain ⟨hP1, -, hD1⟩ := hB
    rw [ht] at hP1
    replace hD := hD1.weaken (fun _ _ _ h => hFc _ h)
    replace hP := hP1
    replace hS := hS2
    clear hP1 hD1 hS2 hFc hfc hz1 hk1 hvm ht
    refine lv_iinc (v := (p_1 + 1)) (lv' := [(1, .int (p_1 + 1)), (0, .ref (a h0))]) hx hb dX9_putNothing_15 hl (k := 0) rfl rfl (by decide) rfl (fun ls hl2 => ?_)
    replace hl := hl2
    clear hl2
    refine lv_goto (tgt := 2) hx hb dX9_putNothing_18 (by decide) ?_
    exact ih2 (z_7, (p_1 + 1)) ls H_9 locs ⟨lv_sub hl [0, 1] rfl, hP, hD, hS⟩ hf

set_option maxHeartbeats 4000000 in
set_option maxRecDepth 100000 in
theorem de_X1_store (l : Launch) (dC : Nat → ClassId) (dI : Nat → Nat → Nat) (cy : Nat → ClassId) (a : Nat → Nat) (sh : Nat → Nat × Nat) (n sz : Nat) (F : Nat) (z : St) (h0 : Nat) (x0 : Int32) (x1 : Nat) (x2 : Int32) {z8 : St} {r8 : Int32} (hf : fn_X1_store F sh n z h0 x0 x1 x2 = some (z8, r8)) : Met l yX1_store wsX1_store ({ frames := 51, cells := 0, slots := 0, locals := 1369 }) (va_Pc [.ref (a h0), .int x0, .ref (a x1), .int x2] (fun U => U.heap.size = sz ∧ va_P (dC, dI) vwCl (Wd cy a sh n z) U.heap ∧ va_K (dC, dI) vwCl (TYS cy) U ∧ va_D (fun _ => True) (Wd cy a sh n z) ∧ NK U)) (va_Qi (fun (r9 : Int32) (u : Unit) => r9 = r8) (fun u t => va_P (dC, dI) vwCl (Wd cy a sh n z8) t.heap ∧ va_K (dC, dI) vwCl (TYS cy) t ∧ va_D (va_A (Wd cy a sh n z) sz) (Wd cy a sh n z8)) (va_A (Wd cy a sh n z) sz)) 0 0 (va_A (Wd cy a sh n z) sz) := by
  refine Met.ofW (cc := cX1_store) (maxL := 4) (ret := (some .int)) (by decide) rfl ?_
  intro p e s m args below meth c s₁ B hml hv
  obtain ⟨rfl, hsz, hP, hK, hD0, hN⟩ := hv
  have hx := B.exec
  have hb := B.bytes
  have hr := B.returns
  have hts := atoms_spec (ws := wsX1_store) B.pre
  have hown : s.vm.findClass RX1 = some m.cls := findClass_of_methodNamed B.named
  have hlocks := B.notSynchronized
  subst hsz
  have hD := hD0.self (sz := s.heap.size)
  clear hD0
  generalize hAe : va_A (Wd cy a sh n z) s.heap.size = A at hD ⊢
  have hA : ∀ q : Nat, s.heap.size ≤ q → A q := fun q h => by rw [← hAe]; exact Or.inr h
  clear hAe
  have hS : va_S A s.heap s.heap [] := va_S.rf
  have hl := lv_entry ([.ref (a h0), .int x0, .ref (a x1), .int x2]) (n := 4) (Nat.le_of_ble_eq_true rfl)
  rw [lg_entry_eq]
  generalize (lg_sl ([.ref (a h0), .int x0, .ref (a x1), .int x2]) ++ List.replicate (4 - (lg_sl ([.ref (a h0), .int x0, .ref (a x1), .int x2])).length) Slot.unset).toArray = ls at hl ⊢
  replace hl : lv_has ls 4 [(0, .ref (a h0)), (1, .int x0), (2, .ref (a x1)), (3, .int x2)] := hl
  unfold fn_X1_store at hf
  refine de_start hS hP (fun H locs hS hP => ?_)
  refine lv_aload_n hx hb dX1_store_0 rfl (lv_at hl 0 rfl) ?_
  refine lv_iload_n hx hb dX1_store_1 rfl (lv_at hl 1 rfl) ?_
  refine lv_aload_n hx hb dX1_store_2 rfl (lv_at hl 2 rfl) ?_
  refine lv_iload_n hx hb dX1_store_3 rfl (lv_at hl 3 rfl) ?_
  refine lv_bipush (v := 64) hx hb dX1_store_4 (by decide) ?_
  refine lv_imul hx hb dX1_store_6 ?_
  refine lv_iconst (v := 0) hx hb dX1_store_7 (by decide) ?_
  obtain ⟨g_3, hf⟩ := grd_some hf
  obtain ⟨kg_3, sg_3⟩ := okO_at g_3
  obtain ⟨z_1, r_2, hfc, hf⟩ := cal_some hf
  have hFc := de_free hD hS hA
  refine va_calli (va_runV (As := [.int x0, .ref (a x1), .int (x2 * 64), .int 0]) (rest := []) ⟨hx, hb, hml, hown, hts⟩ (de_X1_storeNode l dC dI cy a sh n F 48 H.size z h0 x0 x1 (x2 * 64) 0 hfc) (cwV 4 hts gX1_store_X1_storeNode rfl rfl rfl (by decide +kernel) ⟨Nat.le_of_ble_eq_true rfl, Nat.le_of_ble_eq_true rfl⟩) ⟨fun a U g mk q => by obtain ⟨q0, q1, qP, qK, qD, qN⟩ := q; exact ⟨q0, q1, qP, va_K.moved (u := U) (U := U.calling g mk a) (Vm.Alike.refl U.vm) qK, qD, qN.same rfl⟩, va_recv hK hP (ci := 1) (q0 := h0) rfl (Wd_ob kg_3 sg_3 (by decide)), fun U hU hW => ⟨rfl, by rw [hU], by rw [hU]; exact hP, va_K.moved hW.alike hK, hD.weaken (fun _ _ _ _ => trivial), hN.warm hW⟩⟩ rfl rfl hl.1 rfl (lv_room (Nat.le_of_ble_eq_true rfl)) dX1_store_8 ⟨Nat.le_of_ble_eq_true rfl, Nat.le_of_ble_eq_true rfl⟩) hS (fun q _ h => hFc q h) hFc (fun rr u t H_4 locs ht hvm hw hB hz1 hk1 hS2 => ?_)
  rw [hw]
  clear hw
  obtain ⟨hP1, -, hD1⟩ := hB
  rw [ht] at hP1
  replace hD := hD1.weaken (fun _ _ _ h => hFc _ h)
  replace hP := hP1
  replace hS := hS2
  clear hP1 hD1 hS2 hFc hfc hz1 hk1 hvm ht
  refine lv_iload_n hx hb dX1_store_11 rfl (lv_at hl 3 rfl) ?_
  refine lv_bipush (v := 64) hx hb dX1_store_12 (by decide) ?_
  refine lv_imul hx hb dX1_store_14 ?_
  refine lv_isub hx hb dX1_store_15 ?_
  obtain ⟨h8, h9⟩ := ret_some hf
  rw [h8, h9]
  exact W.iret (v := (r_2 - (x2 * 64))) hx hb hr (fun t ht hW => ⟨⟨(r_2 - (x2 * 64)), (), rfl, rfl, by rw [ht]; exact hP, va_K.moved hW.alike hK, hD⟩, hS.F ht⟩) hS.2.2 dX1_store_16

theorem md_X4_pushCopy_1 : (.fieldLink RX4 12 "ResourceLedger$Machine" "heap" "LResourceLedger$Heap;" : Cond) ∈ wsX4_pushCopy := List.mem_of_getElem? (i := 1) rfl
theorem iwd_X4_pushCopy_X4 : ∀ w ∈ wsX40, w ∈ wsX4_pushCopy := fun _ h => List.mem_cons_of_mem _ (List.mem_append_left _ (List.mem_append_left _ (List.mem_append_right _ h)))
set_option maxHeartbeats 4000000 in
set_option maxRecDepth 100000 in
theorem de_X4_pushCopy (l : Launch) (dC : Nat → ClassId) (dI : Nat → Nat → Nat) (cy : Nat → ClassId) (a : Nat → Nat) (sh : Nat → Nat × Nat) (n sz : Nat) (F : Nat) (z : St) (h0 : Nat) (x0 : Int32) {z8 : St} {r8 : Unit} (hf : fn_X4_pushCopy F sh n z h0 x0 = some (z8, r8)) : Met l yX4_pushCopy wsX4_pushCopy ({ frames := 51, cells := 0, slots := 0, locals := 1418 }) (va_Pc [.ref (a h0), .int x0] (fun U => U.heap.size = sz ∧ va_P (dC, dI) vwCl (Wd cy a sh n z) U.heap ∧ va_K (dC, dI) vwCl (TYS cy) U ∧ va_D (fun _ => True) (Wd cy a sh n z) ∧ NK U)) (va_Qv (fun u : Unit => True) (fun u t => va_P (dC, dI) vwCl (Wd cy a sh n z8) t.heap ∧ va_K (dC, dI) vwCl (TYS cy) t ∧ va_D (va_A (Wd cy a sh n z) sz) (Wd cy a sh n z8)) (va_A (Wd cy a sh n z) sz)) 0 0 (va_A (Wd cy a sh n z) sz) := by
  refine Met.ofW (cc := cX4_pushCopy) (maxL := 2) (ret := none) (by decide) rfl ?_
  intro p e s m args below meth c s₁ B hml hv
  obtain ⟨rfl, hsz, hP, hK, hD0, hN⟩ := hv
  have hx := B.exec
  have hb := B.bytes
  have hr := B.returns
  have hts := atoms_spec (ws := wsX4_pushCopy) B.pre
  have hown : s.vm.findClass RX4 = some m.cls := findClass_of_methodNamed B.named
  have hlocks := B.notSynchronized
  subst hsz
  have hD := hD0.self (sz := s.heap.size)
  clear hD0
  generalize hAe : va_A (Wd cy a sh n z) s.heap.size = A at hD ⊢
  have hA : ∀ q : Nat, s.heap.size ≤ q → A q := fun q h => by rw [← hAe]; exact Or.inr h
  clear hAe
  have hS : va_S A s.heap s.heap [] := va_S.rf
  have hl := lv_entry ([.ref (a h0), .int x0]) (n := 2) (Nat.le_of_ble_eq_true rfl)
  rw [lg_entry_eq]
  generalize (lg_sl ([.ref (a h0), .int x0]) ++ List.replicate (2 - (lg_sl ([.ref (a h0), .int x0])).length) Slot.unset).toArray = ls at hl ⊢
  replace hl : lv_has ls 2 [(0, .ref (a h0)), (1, .int x0)] := hl
  unfold fn_X4_pushCopy at hf
  refine de_start hS hP (fun H locs hS hP => ?_)
  refine lv_aload_n hx hb dX4_pushCopy_0 rfl (lv_at hl 0 rfl) ?_
  refine lv_aload_n hx hb dX4_pushCopy_1 rfl (lv_at hl 0 rfl) ?_
  obtain ⟨g_1, hf⟩ := grd_some hf
  obtain ⟨kg_1, sg_1⟩ := okO_at g_1
  obtain ⟨k_2, ek_2, hf⟩ := lnk_some hf
  refine va_get (D := (dC, dI)) (ci := 4) (v := .ref (a k_2)) (C := RX4) (T := TX4) (N := 18) hx hb hts iwd_X4_pushCopy_X4 hown hK hP h0 (Wd_ob kg_1 sg_1 (by decide)) rfl 1 (by decide) (hts _ md_X4_pushCopy_1) (fun _ h9 => h9) (fl_q rfl ek_2) dX4_pushCopy_2 ?_
  refine lv_iload_n hx hb dX4_pushCopy_5 rfl (lv_at hl 1 rfl) ?_
  obtain ⟨g_5, hf⟩ := grd_some hf
  obtain ⟨kg_5, sg_5⟩ := okO_at g_5
  obtain ⟨z_3, r_4, hfc, hf⟩ := cal_some hf
  have hFc := de_free hD hS hA
  refine va_calli (va_runV (As := [.int x0]) (rest := [.ref (a h0)]) ⟨hx, hb, hml, hown, hts⟩ (de_X1_sizeOf l dC dI cy a sh n H.size F z k_2 x0 hfc) (cwV 1 hts gX4_pushCopy_X1_sizeOf rfl rfl rfl (by decide +kernel) ⟨Nat.le_of_ble_eq_true rfl, Nat.le_of_ble_eq_true rfl⟩) ⟨fun a U g mk q => by obtain ⟨q0, q1, qP, qK, qD, qN⟩ := q; exact ⟨q0, q1, qP, va_K.moved (u := U) (U := U.calling g mk a) (Vm.Alike.refl U.vm) qK, qD, qN.same rfl⟩, va_recv hK hP (ci := 1) (q0 := k_2) rfl (Wd_ob kg_5 sg_5 (by decide)), fun U hU hW => ⟨rfl, by rw [hU], by rw [hU]; exact hP, va_K.moved hW.alike hK, hD.weaken (fun _ _ _ _ => trivial), hN.warm hW⟩⟩ rfl rfl hl.1 rfl (lv_room (Nat.le_of_ble_eq_true rfl)) dX4_pushCopy_6 ⟨Nat.le_of_ble_eq_true rfl, Nat.le_of_ble_eq_true rfl⟩) hS (fun q _ h => hFc q h) hFc (fun rr u t H_6 locs ht hvm hw hB hz1 hk1 hS2 => ?_)
  rw [hw]
  clear hw
  obtain ⟨hP1, -, hD1⟩ := hB
  rw [ht] at hP1
  replace hD := hD1.weaken (fun _ _ _ h => hFc _ h)
  replace hP := hP1
  replace hS := hS2
  clear hP1 hD1 hS2 hFc hfc hz1 hk1 hvm ht
  obtain ⟨z_7, r_8, hfc, hf⟩ := cal_some hf
  have hFc := de_free hD hS hA
  refine va_calli (va_runV (As := [.int r_4]) (rest := []) ⟨hx, hb, hml, hown, hts⟩ (de_X4_pay l dC dI cy a sh n H_6.size F z_3 h0 r_4 hfc) (cwV 1 hts gX4_pushCopy_X4_pay rfl rfl rfl (by decide +kernel) ⟨Nat.le_of_ble_eq_true rfl, Nat.le_of_ble_eq_true rfl⟩) ⟨fun a U g mk q => by obtain ⟨q0, q1, qP, qK, qD, qN⟩ := q; exact ⟨q0, q1, qP, va_K.moved (u := U) (U := U.calling g mk a) (Vm.Alike.refl U.vm) qK, qD, qN.same rfl⟩, va_recv hK hP (ci := 4) (q0 := h0) rfl (Wd_ob kg_1 sg_1 (by decide)), fun U hU hW => ⟨rfl, by rw [hU], by rw [hU]; exact hP, va_K.moved hW.alike hK, hD.weaken (fun _ _ _ _ => trivial), hN.warm hW⟩⟩ rfl rfl hl.1 rfl (lv_room (Nat.le_of_ble_eq_true rfl)) dX4_pushCopy_9 ⟨Nat.le_of_ble_eq_true rfl, Nat.le_of_ble_eq_true rfl⟩) hS (fun q _ h => hFc q h) hFc (fun rr u t H_9 locs ht hvm hw hB hz1 hk1 hS2 => ?_)
  rw [hw]
  clear hw
  obtain ⟨hP1, -, hD1⟩ := hB
  rw [ht] at hP1
  replace hD := hD1.weaken (fun _ _ _ h => hFc _ h)
  replace hP := hP1
  replace hS := hS2
  clear hP1 hD1 hS2 hFc hfc hz1 hk1 hvm ht
  refine lv_if_eq (tgt := 27) hx hb dX4_pushCopy_12 (by decide) (fun c_10 => ?_) (fun c_10 => ?_)
  · skip
    rw [if_pos c_10] at hf
    obtain ⟨h8, h9⟩ := ret_some hf
    rw [h8]
    exact W.vret hx hb hr (fun t ht hW => ⟨⟨(), rfl, trivial, by rw [ht]; exact hP, va_K.moved hW.alike hK, hD⟩, hS.F ht⟩) hS.2.2 dX4_pushCopy_27
  · skip
    rw [if_neg c_10] at hf
    refine lv_aload_n hx hb dX4_pushCopy_15 rfl (lv_at hl 0 rfl) ?_
    refine lv_aload_n hx hb dX4_pushCopy_16 rfl (lv_at hl 0 rfl) ?_
    obtain ⟨k_11, ek_11, hf⟩ := lnk_some hf
    refine va_get (D := (dC, dI)) (ci := 4) (v := .ref (a k_11)) (C := RX4) (T := TX4) (N := 18) hx hb hts iwd_X4_pushCopy_X4 hown hK hP h0 (Wd_ob kg_1 sg_1 (by decide)) rfl 1 (by decide) (hts _ md_X4_pushCopy_1) (fun _ h9 => h9) (fl_q rfl ek_11) dX4_pushCopy_17 ?_
    refine lv_iload_n hx hb dX4_pushCopy_20 rfl (lv_at hl 1 rfl) ?_
    obtain ⟨g_14, hf⟩ := grd_some hf
    obtain ⟨kg_14, sg_14⟩ := okO_at g_14
    obtain ⟨z_12, r_13, hfc, hf⟩ := cal_some hf
    have hFc := de_free hD hS hA
    refine va_calli (va_runV (As := [.int x0]) (rest := [.ref (a h0)]) ⟨hx, hb, hml, hown, hts⟩ (de_X1_copyOf l dC dI cy a sh n H_9.size F z_7 k_11 x0 hfc) (cwV 1 hts gX4_pushCopy_X1_copyOf rfl rfl rfl (by decide +kernel) ⟨Nat.le_of_ble_eq_true rfl, Nat.le_of_ble_eq_true rfl⟩) ⟨fun a U g mk q => by obtain ⟨q0, q1, qP, qK, qD, qN⟩ := q; exact ⟨q0, q1, qP, va_K.moved (u := U) (U := U.calling g mk a) (Vm.Alike.refl U.vm) qK, qD, qN.same rfl⟩, va_recv hK hP (ci := 1) (q0 := k_11) rfl (Wd_ob kg_14 sg_14 (by decide)), fun U hU hW => ⟨rfl, by rw [hU], by rw [hU]; exact hP, va_K.moved hW.alike hK, hD.weaken (fun _ _ _ _ => trivial), hN.warm hW⟩⟩ rfl rfl hl.1 rfl (lv_room (Nat.le_of_ble_eq_true rfl)) dX4_pushCopy_21 ⟨Nat.le_of_ble_eq_true rfl, Nat.le_of_ble_eq_true rfl⟩) hS (fun q _ h => hFc q h) hFc (fun rr u t H_15 locs ht hvm hw hB hz1 hk1 hS2 => ?_)
    rw [hw]
    clear hw
    obtain ⟨hP1, -, hD1⟩ := hB
    rw [ht] at hP1
    replace hD := hD1.weaken (fun _ _ _ h => hFc _ h)
    replace hP := hP1
    replace hS := hS2
    clear hP1 hD1 hS2 hFc hfc hz1 hk1 hvm ht
    obtain ⟨z_16, _u, hfc, hf⟩ := cal_some hf
    have hFc := de_free hD hS hA
    refine va_callv (va_runV (As := [.int r_13]) (rest := []) ⟨hx, hb, hml, hown, hts⟩ (de_X4_push l dC dI cy a sh n H_15.size F z_12 h0 r_13 hfc) (cwV 1 hts gX4_pushCopy_X4_push rfl rfl rfl (by decide +kernel) ⟨Nat.le_of_ble_eq_true rfl, Nat.le_of_ble_eq_true rfl⟩) ⟨fun a U g mk q => by obtain ⟨q0, q1, qP, qK, qD, qN⟩ := q; exact ⟨q0, q1, qP, va_K.moved (u := U) (U := U.calling g mk a) (Vm.Alike.refl U.vm) qK, qD, qN.same rfl⟩, va_recv hK hP (ci := 4) (q0 := h0) rfl (Wd_ob kg_1 sg_1 (by decide)), fun U hU hW => ⟨rfl, by rw [hU], by rw [hU]; exact hP, va_K.moved hW.alike hK, hD.weaken (fun _ _ _ _ => trivial), hN.warm hW⟩⟩ rfl rfl hl.1 rfl (lv_room (Nat.le_of_ble_eq_true rfl)) dX4_pushCopy_24 ⟨Nat.le_of_ble_eq_true rfl, Nat.le_of_ble_eq_true rfl⟩) hS (fun q _ h => hFc q h) hFc (fun u t H_17 locs ht hvm hw hB hz1 hk1 hS2 => ?_)
    obtain ⟨hP1, -, hD1⟩ := hB
    rw [ht] at hP1
    replace hD := hD1.weaken (fun _ _ _ h => hFc _ h)
    replace hP := hP1
    replace hS := hS2
    clear hP1 hD1 hS2 hFc hfc hz1 hk1 hvm ht
    obtain ⟨h8, h9⟩ := ret_some hf
    rw [h8]
    exact W.vret hx hb hr (fun t ht hW => ⟨⟨(), rfl, trivial, by rw [ht]; exact hP, va_K.moved hW.alike hK, hD⟩, hS.F ht⟩) hS.2.2 dX4_pushCopy_27

set_option maxHeartbeats 4000000 in
set_option maxRecDepth 100000 in
theorem de_X0_putLongs (l : Launch) (dC : Nat → ClassId) (dI : Nat → Nat → Nat) (cy : Nat → ClassId) (a : Nat → Nat) (sh : Nat → Nat × Nat) (n sz : Nat) (F : Nat) (sk : Nat → Nat) (z : St) (h0 : Nat) (x0 : Nat) (x1 : Int32) {z8 : St} {r8 : Unit} (hf : fn_X0_putLongs F sh n z h0 x0 x1 = some (z8, r8)) : Met l yX0_putLongs wsX0_putLongs ({ frames := 3, cells := 0, slots := 0, locals := 76 }) (va_Pc [.ref (a h0), .ref (a x0), .int x1] (fun U => U.heap.size = sz ∧ va_P (dC, dI) vwCl (Wd cy a sh n z) U.heap ∧ va_K (dC, dI) vwCl (TYS cy) U ∧ va_D (fun _ => True) (Wd cy a sh n z) ∧ NK U ∧ SKs sk (a CBK) (va_A (Wd cy a sh n z) sz) U U.heap)) (va_Qv (fun u : Unit => True) (fun u t => va_P (dC, dI) vwCl (Wd cy a sh n z8) t.heap ∧ va_K (dC, dI) vwCl (TYS cy) t ∧ va_D (va_A (Wd cy a sh n z) sz) (Wd cy a sh n z8)) (va_A (Wd cy a sh n z) sz)) 0 0 (va_A (Wd cy a sh n z) sz) := by
  refine Met.ofW (cc := cX0_putLongs) (maxL := 4) (ret := none) (by decide) rfl ?_
  intro p e s m args below meth c s₁ B hml hv
  obtain ⟨rfl, hsz, hP, hK, hD0, hN, hSK⟩ := hv
  have hx := B.exec
  have hb := B.bytes
  have hr := B.returns
  have hts := atoms_spec (ws := wsX0_putLongs) B.pre
  have hown : s.vm.findClass RX0 = some m.cls := findClass_of_methodNamed B.named
  have hlocks := B.notSynchronized
  subst hsz
  have hD := hD0.self (sz := s.heap.size)
  clear hD0
  generalize hAe : va_A (Wd cy a sh n z) s.heap.size = A at hD hSK ⊢
  have hA : ∀ q : Nat, s.heap.size ≤ q → A q := fun q h => by rw [← hAe]; exact Or.inr h
  clear hAe
  have hS : va_S A s.heap s.heap [] := va_S.rf
  have hl := lv_entry ([.ref (a h0), .ref (a x0), .int x1]) (n := 4) (Nat.le_of_ble_eq_true rfl)
  rw [lg_entry_eq]
  generalize (lg_sl ([.ref (a h0), .ref (a x0), .int x1]) ++ List.replicate (4 - (lg_sl ([.ref (a h0), .ref (a x0), .int x1])).length) Slot.unset).toArray = ls at hl ⊢
  replace hl : lv_has ls 4 [(0, .ref (a h0)), (1, .ref (a x0)), (2, .int x1)] := hl
  unfold fn_X0_putLongs at hf
  refine de_start hS hP (fun H locs hS hP => ?_)
  refine lv_iconst (v := 0) hx hb dX0_putLongs_0 (by decide) ?_
  refine lv_istore_n (lv' := [(3, .int 0), (0, .ref (a h0)), (1, .ref (a x0)), (2, .int x1)]) hx hb dX0_putLongs_1 rfl hl (by decide) rfl (fun ls hl2 => ?_)
  replace hl := hl2
  clear hl2
  have hl0 : lv_has ls 4 [(3, .int 0), (0, .ref (a h0)), (1, .ref (a x0)), (2, .int x1)] := lv_sub hl [0, 1, 2, 3] rfl
  refine de_loop (h := 2) (fun (x : St × Int32) ls H locs => lv_has ls 4 [(3, .int x.2), (0, .ref (a h0)), (1, .ref (a x0)), (2, .int x1)] ∧ va_P (dC, dI) vwCl (Wd cy a sh n x.1) H ∧ va_D A (Wd cy a sh n x.1) ∧ va_S A s.heap H locs) (fun f x => fn_X0_putLongs_L2 F sh n x0 x1 h0 f x.1 x.2) (z8, r8) ?_ (fun _ => rfl) F (z, 0) ls H locs ⟨hl0, hP, hD, hS⟩ hf
  intro f_3 x ls H locs ih2 hI hf
  obtain ⟨z_2, p_1⟩ := x
  obtain ⟨hl2, hP2, hD2, hS2⟩ := hI
  replace hl : lv_has ls 4 [(3, .int p_1), (0, .ref (a h0)), (1, .ref (a x0)), (2, .int x1)] := hl2
  replace hP := hP2
  replace hD := hD2
  replace hS := hS2
  clear hl2 hP2 hD2 hS2 hl0
  replace hf := fn_X0_putLongs_L2_s hf
  refine lv_iload_n hx hb dX0_putLongs_2 rfl (lv_at hl 0 rfl) ?_
  refine lv_iconst (v := 4) hx hb dX0_putLongs_3 (by decide) ?_
  refine lv_icmp_ge (tgt := 22) hx hb dX0_putLongs_4 (by decide) (fun c_4 => ?_) (fun c_4 => ?_)
  · skip
    rw [if_pos c_4] at hf
    obtain ⟨h8, h9⟩ := ret_some hf
    rw [h8]
    exact W.vret hx hb hr (fun t ht hW => ⟨⟨(), rfl, trivial, by rw [ht]; exact hP, va_K.moved hW.alike hK, hD⟩, hS.F ht⟩) hS.2.2 dX0_putLongs_22
  · skip
    rw [if_neg c_4] at hf
    refine lv_aload_n hx hb dX0_putLongs_7 rfl (lv_at hl 1 rfl) ?_
    refine lv_aload_n hx hb dX0_putLongs_8 rfl (lv_at hl 2 rfl) ?_
    refine lv_iload_n hx hb dX0_putLongs_9 rfl (lv_at hl 3 rfl) ?_
    refine lv_iload_n hx hb dX0_putLongs_10 rfl (lv_at hl 0 rfl) ?_
    refine lv_iadd hx hb dX0_putLongs_11 ?_
    obtain ⟨g_5, hf⟩ := grd_some hf
    obtain ⟨kg_5, sg_5, ig_5⟩ := okA_at g_5
    refine va_lald hx hb hK hP x0 2 (Wd_al kg_5 sg_5) rfl ig_5 dX0_putLongs_12 ?_
    obtain ⟨g_7, hf⟩ := grd_some hf
    obtain ⟨kg_7, sg_7⟩ := okO_at g_7
    obtain ⟨z_6, _u, hfc, hf⟩ := cal_some hf
    have hFc := de_free hD hS hA
    refine va_callv (va_runV (As := [.long (z_2.2.1 x0 (x1 + p_1).toNatClampNeg)]) (rest := []) ⟨hx, hb, hml, hown, hts⟩ (de_X0_putLong l dC dI cy a sh n H.size F sk z_2 h0 (z_2.2.1 x0 (x1 + p_1).toNatClampNeg) hfc) (cwV 1 hts gX0_putLongs_X0_putLong rfl rfl rfl (by decide +kernel) ⟨Nat.le_of_ble_eq_true rfl, Nat.le_of_ble_eq_true rfl⟩) ⟨fun a U g mk q => by obtain ⟨q0, q1, qP, qK, qD, qN, qS⟩ := q; exact ⟨q0, q1, qP, va_K.moved (u := U) (U := U.calling g mk a) (Vm.Alike.refl U.vm) qK, qD, qN.same rfl, SKs.moved (u := U) (U := U.calling g mk a) (Vm.Alike.refl U.vm) qS⟩, va_recv hK hP (ci := 0) (q0 := h0) rfl (Wd_ob kg_7 sg_7 (by decide)), fun U hU hW => ⟨rfl, by rw [hU], by rw [hU]; exact hP, va_K.moved hW.alike hK, hD.weaken (fun _ _ _ _ => trivial), hN.warm hW, by rw [hU]; exact ((hSK.kept hS.2.1).narrow hFc).moved hW.alike⟩⟩ rfl rfl hl.1 rfl (lv_room (Nat.le_of_ble_eq_true rfl)) dX0_putLongs_13 ⟨Nat.le_of_ble_eq_true rfl, Nat.le_of_ble_eq_true rfl⟩) hS (fun q _ h => hFc q h) hFc (fun u t H_8 locs ht hvm hw hB hz1 hk1 hS2 => ?_)
    obtain ⟨hP1, -, hD1⟩ := hB
    rw [ht] at hP1
    replace hD := hD1.weaken (fun _ _ _ h => hFc _ h)
    replace hP := hP1
    replace hS := hS2
    clear hP1 hD1 hS2 hFc hfc hz1 hk1 hvm ht
    refine lv_iinc (v := (p_1 + 1)) (lv' := [(3, .int (p_1 + 1)), (0, .ref (a h0)), (1, .ref (a x0)), (2, .int x1)]) hx hb dX0_putLongs_16 hl (k := 0) rfl rfl (by decide) rfl (fun ls hl2 => ?_)
    replace hl := hl2
    clear hl2
    refine lv_goto (tgt := 2) hx hb dX0_putLongs_19 (by decide) ?_
    exact ih2 (z_6, (p_1 + 1)) ls H_8 locs ⟨lv_sub hl [0, 1, 2, 3] rfl, hP, hD, hS⟩ hf

theorem md_X18_findModule_1 : (.fieldLink RX18 7 "ResourceLedgerModel" "modules" "I" : Cond) ∈ wsX18_findModule := List.mem_of_getElem? (i := 1) rfl
theorem iwd_X18_findModule_X18 : ∀ w ∈ wsX180, w ∈ wsX18_findModule := fun _ h => List.mem_cons_of_mem _ (List.mem_append_left _ (List.mem_append_right _ h))
theorem md_X18_findModule_2 : (.fieldLink RX18 17 "ResourceLedgerModel" "units" "[LResourceLedgerModel$Unit;" : Cond) ∈ wsX18_findModule := List.mem_of_getElem? (i := 2) rfl
set_option maxHeartbeats 4000000 in
set_option maxRecDepth 100000 in
theorem de_X18_findModule (l : Launch) (dC : Nat → ClassId) (dI : Nat → Nat → Nat) (cy : Nat → ClassId) (a : Nat → Nat) (sh : Nat → Nat × Nat) (n sz : Nat) (F : Nat) (z : St) (h0 : Nat) (x0 : Int32) {z8 : St} {r8 : Int32} (hf : fn_X18_findModule F sh n z h0 x0 = some (z8, r8)) : Met l yX18_findModule wsX18_findModule ({ frames := 3, cells := 0, slots := 0, locals := 62 }) (va_Pc [.ref (a h0), .int x0] (fun U => U.heap.size = sz ∧ va_P (dC, dI) vwCl (Wd cy a sh n z) U.heap ∧ va_K (dC, dI) vwCl (TYS cy) U ∧ va_D (fun _ => True) (Wd cy a sh n z) ∧ NK U)) (va_Qi (fun (r9 : Int32) (u : Unit) => r9 = r8) (fun u t => va_P (dC, dI) vwCl (Wd cy a sh n z8) t.heap ∧ va_K (dC, dI) vwCl (TYS cy) t ∧ va_D (va_A (Wd cy a sh n z) sz) (Wd cy a sh n z8)) (va_A (Wd cy a sh n z) sz)) 0 0 (va_A (Wd cy a sh n z) sz) := by
  refine Met.ofW (cc := cX18_findModule) (maxL := 3) (ret := (some .int)) (by decide) rfl ?_
  intro p e s m args below meth c s₁ B hml hv
  obtain ⟨rfl, hsz, hP, hK, hD0, hN⟩ := hv
  have hx := B.exec
  have hb := B.bytes
  have hr := B.returns
  have hts := atoms_spec (ws := wsX18_findModule) B.pre
  have hown : s.vm.findClass RX18 = some m.cls := findClass_of_methodNamed B.named
  have hlocks := B.notSynchronized
  subst hsz
  have hD := hD0.self (sz := s.heap.size)
  clear hD0
  generalize hAe : va_A (Wd cy a sh n z) s.heap.size = A at hD ⊢
  have hA : ∀ q : Nat, s.heap.size ≤ q → A q := fun q h => by rw [← hAe]; exact Or.inr h
  clear hAe
  have hS : va_S A s.heap s.heap [] := va_S.rf
  have hl := lv_entry ([.ref (a h0), .int x0]) (n := 3) (Nat.le_of_ble_eq_true rfl)
  rw [lg_entry_eq]
  generalize (lg_sl ([.ref (a h0), .int x0]) ++ List.replicate (3 - (lg_sl ([.ref (a h0), .int x0])).length) Slot.unset).toArray = ls at hl ⊢
  replace hl : lv_has ls 3 [(0, .ref (a h0)), (1, .int x0)] := hl
  unfold fn_X18_findModule at hf
  refine de_start hS hP (fun H locs hS hP => ?_)
  refine lv_aload_n hx hb dX18_findModule_0 rfl (lv_at hl 0 rfl) ?_
  obtain ⟨g_1, hf⟩ := grd_some hf
  obtain ⟨kg_1, sg_1⟩ := okO_at g_1
  refine va_get (D := (dC, dI)) (ci := 18) (v := .int (z.1 h0 5)) (C := RX18) (T := TX18) (N := 78) hx hb hts iwd_X18_findModule_X18 hown hK hP h0 (Wd_ob kg_1 sg_1 (by decide)) rfl 5 (by decide) (hts _ md_X18_findModule_1) (fun _ h9 => h9) (fl_at (t := 0) rfl) dX18_findModule_1 ?_
  refine lv_topi (fun v_2 ev_2 => ?_)
  replace hf := lt_at ev_2 hf
  clear ev_2
  refine lv_istore_n (lv' := [(2, .int v_2), (0, .ref (a h0)), (1, .int x0)]) hx hb dX18_findModule_4 rfl hl (by decide) rfl (fun ls hl2 => ?_)
  replace hl := hl2
  clear hl2
  have hl0 : lv_has ls 3 [(2, .int v_2), (0, .ref (a h0)), (1, .int x0)] := lv_sub hl [0, 1, 2] rfl
  refine de_loop (h := 5) (fun (x : St × Int32) ls H locs => lv_has ls 3 [(2, .int x.2), (0, .ref (a h0)), (1, .int x0)] ∧ va_P (dC, dI) vwCl (Wd cy a sh n x.1) H ∧ va_D A (Wd cy a sh n x.1) ∧ va_S A s.heap H locs) (fun f x => fn_X18_findModule_L5 F sh n h0 x0 f x.1 x.2) (z8, r8) ?_ (fun _ => rfl) F (z, v_2) ls H locs ⟨hl0, hP, hD, hS⟩ hf
  intro f_5 x ls H locs ih5 hI hf
  obtain ⟨z_4, p_3⟩ := x
  obtain ⟨hl2, hP2, hD2, hS2⟩ := hI
  replace hl : lv_has ls 3 [(2, .int p_3), (0, .ref (a h0)), (1, .int x0)] := hl2
  replace hP := hP2
  replace hD := hD2
  replace hS := hS2
  clear hl2 hP2 hD2 hS2 hl0
  replace hf := fn_X18_findModule_L5_s hf
  refine lv_iload_n hx hb dX18_findModule_5 rfl (lv_at hl 0 rfl) ?_
  refine lv_if_le (tgt := 28) hx hb dX18_findModule_6 (by decide) (fun c_6 => ?_) (fun c_6 => ?_)
  · skip
    rw [if_pos c_6] at hf
    refine lv_iload_n hx hb dX18_findModule_28 rfl (lv_at hl 0 rfl) ?_
    obtain ⟨h8, h9⟩ := ret_some hf
    rw [h8, h9]
    exact W.iret (v := p_3) hx hb hr (fun t ht hW => ⟨⟨p_3, (), rfl, rfl, by rw [ht]; exact hP, va_K.moved hW.alike hK, hD⟩, hS.F ht⟩) hS.2.2 dX18_findModule_29
  · skip
    rw [if_neg c_6] at hf
    refine lv_aload_n hx hb dX18_findModule_9 rfl (lv_at hl 1 rfl) ?_
    obtain ⟨k_7, ek_7, hf⟩ := lnk_some hf
    refine va_get (D := (dC, dI)) (ci := 18) (v := .ref (a k_7)) (C := RX18) (T := TX18) (N := 78) hx hb hts iwd_X18_findModule_X18 hown hK hP h0 (Wd_ob kg_1 sg_1 (by decide)) rfl 4 (by decide) (hts _ md_X18_findModule_2) (fun _ h9 => h9) (fl_q rfl ek_7) dX18_findModule_10 ?_
    refine lv_iload_n hx hb dX18_findModule_13 rfl (lv_at hl 0 rfl) ?_
    obtain ⟨g_8, hf⟩ := grd_some hf
    obtain ⟨kg_8, sg_8, ig_8⟩ := okA_at g_8
    obtain ⟨k_9, ek_9, hf⟩ := lnk_some hf
    refine va_aldq (C := RX16) hx hb hK hP k_7 6 (Wd_aq kg_8 sg_8 (by decide)) rfl ig_8 dX18_findModule_14 ?_
    refine W.eq (g2 := F0 m 15 ls [.ref (a k_9)]) (by rw [ek_9]; rfl) ?_
    obtain ⟨g_12, hf⟩ := grd_some hf
    obtain ⟨kg_12, sg_12⟩ := okO_at g_12
    obtain ⟨z_10, r_11, hfc, hf⟩ := cal_some hf
    have hFc := de_free hD hS hA
    refine va_calli (va_runV (As := []) (rest := []) ⟨hx, hb, hml, hown, hts⟩ (de_X16_number l dC dI cy a sh n H.size F z_4 k_9 hfc) (cwV 0 hts gX18_findModule_X16_number rfl rfl rfl (by decide +kernel) ⟨Nat.le_of_ble_eq_true rfl, Nat.le_of_ble_eq_true rfl⟩) ⟨fun a U g mk q => by obtain ⟨q0, q1, qP, qK, qD, qN⟩ := q; exact ⟨q0, q1, qP, va_K.moved (u := U) (U := U.calling g mk a) (Vm.Alike.refl U.vm) qK, qD, qN.same rfl⟩, va_recv hK hP (ci := 16) (q0 := k_9) rfl (Wd_ob kg_12 sg_12 (by decide)), fun U hU hW => ⟨rfl, by rw [hU], by rw [hU]; exact hP, va_K.moved hW.alike hK, hD.weaken (fun _ _ _ _ => trivial), hN.warm hW⟩⟩ rfl rfl hl.1 rfl (lv_room (Nat.le_of_ble_eq_true rfl)) dX18_findModule_15 ⟨Nat.le_of_ble_eq_true rfl, Nat.le_of_ble_eq_true rfl⟩) hS (fun q _ h => hFc q h) hFc (fun rr u t H_13 locs ht hvm hw hB hz1 hk1 hS2 => ?_)
    rw [hw]
    clear hw
    obtain ⟨hP1, -, hD1⟩ := hB
    rw [ht] at hP1
    replace hD := hD1.weaken (fun _ _ _ h => hFc _ h)
    replace hP := hP1
    replace hS := hS2
    clear hP1 hD1 hS2 hFc hfc hz1 hk1 hvm ht
    refine lv_iload_n hx hb dX18_findModule_18 rfl (lv_at hl 2 rfl) ?_
    refine lv_icmp_eq (tgt := 28) hx hb dX18_findModule_19 (by decide) (fun c_14 => ?_) (fun c_14 => ?_)
    · skip
      rw [if_pos c_14] at hf
      refine lv_iload_n hx hb dX18_findModule_28 rfl (lv_at hl 0 rfl) ?_
      obtain ⟨h8, h9⟩ := ret_some hf
      rw [h8, h9]
      exact W.iret (v := p_3) hx hb hr (fun t ht hW => ⟨⟨p_3, (), rfl, rfl, by rw [ht]; exact hP, va_K.moved hW.alike hK, hD⟩, hS.F ht⟩) hS.2.2 dX18_findModule_29
    · skip
      rw [if_neg c_14] at hf
      refine lv_iinc (v := (p_3 + (-1))) (lv' := [(2, .int (p_3 + (-1))), (0, .ref (a h0)), (1, .int x0)]) hx hb dX18_findModule_22 hl (k := 0) rfl rfl (by decide) rfl (fun ls hl2 => ?_)
      replace hl := hl2
      clear hl2
      refine lv_goto (tgt := 5) hx hb dX18_findModule_25 (by decide) ?_
      exact ih5 (z_10, (p_3 + (-1))) ls H_13 locs ⟨lv_sub hl [0, 1, 2] rfl, hP, hD, hS⟩ hf

theorem md_X18_take_1 : (.fieldLink RX18 40 "ResourceLedgerModel" "trees" "LResourceLedgerModel$Trees;" : Cond) ∈ wsX18_take := List.mem_of_getElem? (i := 1) rfl
theorem iwd_X18_take_X18 : ∀ w ∈ wsX180, w ∈ wsX18_take := fun _ h => List.mem_cons_of_mem _ (List.mem_append_left _ (List.mem_append_right _ h))
theorem iwd_X18_take_X15 : ∀ w ∈ wsX150, w ∈ wsX18_take := fun _ h => List.mem_cons_of_mem _ (List.mem_append_right _ h)
set_option maxHeartbeats 4000000 in
set_option maxRecDepth 100000 in
theorem de_X18_take (l : Launch) (dC : Nat → ClassId) (dI : Nat → Nat → Nat) (cy : Nat → ClassId) (a : Nat → Nat) (sh : Nat → Nat × Nat) (n sz : Nat) (F : Nat) (z : St) (h0 : Nat) (x0 : Int32) {z8 : St} {r8 : Int32} (hf : fn_X18_take F sh n z h0 x0 = some (z8, r8)) : Met l yX18_take wsX18_take ({ frames := 3, cells := 0, slots := 0, locals := 64 }) (va_Pc [.ref (a h0), .int x0] (fun U => U.heap.size = sz ∧ va_P (dC, dI) vwCl (Wd cy a sh n z) U.heap ∧ va_K (dC, dI) vwCl (TYS cy) U ∧ va_D (fun _ => True) (Wd cy a sh n z) ∧ NK U)) (va_Qi (fun (r9 : Int32) (u : Unit) => r9 = r8) (fun u t => va_P (dC, dI) vwCl (Wd cy a sh n z8) t.heap ∧ va_K (dC, dI) vwCl (TYS cy) t ∧ va_D (va_A (Wd cy a sh n z) sz) (Wd cy a sh n z8)) (va_A (Wd cy a sh n z) sz)) 0 0 (va_A (Wd cy a sh n z) sz) := by
  refine Met.ofW (cc := cX18_take) (maxL := 3) (ret := (some .int)) (by decide) rfl ?_
  intro p e s m args below meth c s₁ B hml hv
  obtain ⟨rfl, hsz, hP, hK, hD0, hN⟩ := hv
  have hx := B.exec
  have hb := B.bytes
  have hr := B.returns
  have hts := atoms_spec (ws := wsX18_take) B.pre
  have hown : s.vm.findClass RX18 = some m.cls := findClass_of_methodNamed B.named
  have hlocks := B.notSynchronized
  subst hsz
  have hD := hD0.self (sz := s.heap.size)
  clear hD0
  generalize hAe : va_A (Wd cy a sh n z) s.heap.size = A at hD ⊢
  have hA : ∀ q : Nat, s.heap.size ≤ q → A q := fun q h => by rw [← hAe]; exact Or.inr h
  clear hAe
  have hS : va_S A s.heap s.heap [] := va_S.rf
  have hl := lv_entry ([.ref (a h0), .int x0]) (n := 3) (Nat.le_of_ble_eq_true rfl)
  rw [lg_entry_eq]
  generalize (lg_sl ([.ref (a h0), .int x0]) ++ List.replicate (3 - (lg_sl ([.ref (a h0), .int x0])).length) Slot.unset).toArray = ls at hl ⊢
  replace hl : lv_has ls 3 [(0, .ref (a h0)), (1, .int x0)] := hl
  unfold fn_X18_take at hf
  refine de_start hS hP (fun H locs hS hP => ?_)
  refine lv_aload_n hx hb dX18_take_0 rfl (lv_at hl 0 rfl) ?_
  refine lv_iconst (v := 0) hx hb dX18_take_1 (by decide) ?_
  obtain ⟨g_3, hf⟩ := grd_some hf
  obtain ⟨kg_3, sg_3⟩ := okO_at g_3
  obtain ⟨z_1, r_2, hfc, hf⟩ := cal_some hf
  have hFc := de_free hD hS hA
  refine va_calli (va_runV (As := [.int 0]) (rest := []) ⟨hx, hb, hml, hown, hts⟩ (de_X18_takeAny l dC dI cy a sh n H.size F z h0 0 hfc) (cwV 1 hts gX18_take_X18_takeAny rfl rfl rfl (by decide +kernel) ⟨Nat.le_of_ble_eq_true rfl, Nat.le_of_ble_eq_true rfl⟩) ⟨fun a U g mk q => by obtain ⟨q0, q1, qP, qK, qD, qN⟩ := q; exact ⟨q0, q1, qP, va_K.moved (u := U) (U := U.calling g mk a) (Vm.Alike.refl U.vm) qK, qD, qN.same rfl⟩, va_recv hK hP (ci := 18) (q0 := h0) rfl (Wd_ob kg_3 sg_3 (by decide)), fun U hU hW => ⟨rfl, by rw [hU], by rw [hU]; exact hP, va_K.moved hW.alike hK, hD.weaken (fun _ _ _ _ => trivial), hN.warm hW⟩⟩ rfl rfl hl.1 rfl (lv_room (Nat.le_of_ble_eq_true rfl)) dX18_take_2 ⟨Nat.le_of_ble_eq_true rfl, Nat.le_of_ble_eq_true rfl⟩) hS (fun q _ h => hFc q h) hFc (fun rr u t H_4 locs ht hvm hw hB hz1 hk1 hS2 => ?_)
  rw [hw]
  clear hw
  obtain ⟨hP1, -, hD1⟩ := hB
  rw [ht] at hP1
  replace hD := hD1.weaken (fun _ _ _ h => hFc _ h)
  replace hP := hP1
  replace hS := hS2
  clear hP1 hD1 hS2 hFc hfc hz1 hk1 hvm ht
  refine lv_istore_n (lv' := [(2, .int r_2), (0, .ref (a h0)), (1, .int x0)]) hx hb dX18_take_5 rfl hl (by decide) rfl (fun ls hl2 => ?_)
  replace hl := hl2
  clear hl2
  refine lv_aload_n hx hb dX18_take_6 rfl (lv_at hl 1 rfl) ?_
  obtain ⟨z_5, r_6, hfc, hf⟩ := cal_some hf
  have hFc := de_free hD hS hA
  refine va_calli (va_runV (As := []) (rest := []) ⟨hx, hb, hml, hown, hts⟩ (de_X18_goesOn l dC dI cy a sh n H_4.size F z_1 h0 hfc) (cwV 0 hts gX18_take_X18_goesOn rfl rfl rfl (by decide +kernel) ⟨Nat.le_of_ble_eq_true rfl, Nat.le_of_ble_eq_true rfl⟩) ⟨fun a U g mk q => by obtain ⟨q0, q1, qP, qK, qD, qN⟩ := q; exact ⟨q0, q1, qP, va_K.moved (u := U) (U := U.calling g mk a) (Vm.Alike.refl U.vm) qK, qD, qN.same rfl⟩, va_recv hK hP (ci := 18) (q0 := h0) rfl (Wd_ob kg_3 sg_3 (by decide)), fun U hU hW => ⟨rfl, by rw [hU], by rw [hU]; exact hP, va_K.moved hW.alike hK, hD.weaken (fun _ _ _ _ => trivial), hN.warm hW⟩⟩ rfl rfl hl.1 rfl (lv_room (Nat.le_of_ble_eq_true rfl)) dX18_take_7 ⟨Nat.le_of_ble_eq_true rfl, Nat.le_of_ble_eq_true rfl⟩) hS (fun q _ h => hFc q h) hFc (fun rr u t H_7 locs ht hvm hw hB hz1 hk1 hS2 => ?_)
  rw [hw]
  clear hw
  obtain ⟨hP1, -, hD1⟩ := hB
  rw [ht] at hP1
  replace hD := hD1.weaken (fun _ _ _ h => hFc _ h)
  replace hP := hP1
  replace hS := hS2
  clear hP1 hD1 hS2 hFc hfc hz1 hk1 hvm ht
  refine lv_if_eq (tgt := 30) hx hb dX18_take_10 (by decide) (fun c_8 => ?_) (fun c_8 => ?_)
  · skip
    rw [if_pos c_8] at hf
    refine lv_iload_n hx hb dX18_take_30 rfl (lv_at hl 0 rfl) ?_
    obtain ⟨h8, h9⟩ := ret_some hf
    rw [h8, h9]
    exact W.iret (v := r_2) hx hb hr (fun t ht hW => ⟨⟨r_2, (), rfl, rfl, by rw [ht]; exact hP, va_K.moved hW.alike hK, hD⟩, hS.F ht⟩) hS.2.2 dX18_take_31
  · skip
    rw [if_neg c_8] at hf
    refine lv_aload_n hx hb dX18_take_13 rfl (lv_at hl 1 rfl) ?_
    obtain ⟨k_9, ek_9, hf⟩ := lnk_some hf
    refine va_get (D := (dC, dI)) (ci := 18) (v := .ref (a k_9)) (C := RX18) (T := TX18) (N := 78) hx hb hts iwd_X18_take_X18 hown hK hP h0 (Wd_ob kg_3 sg_3 (by decide)) rfl 15 (by decide) (hts _ md_X18_take_1) (fun _ h9 => h9) (fl_q rfl ek_9) dX18_take_14 ?_
    obtain ⟨g_10, hf⟩ := grd_some hf
    obtain ⟨kg_10, sg_10⟩ := okO_at g_10
    obtain ⟨k_11, ek_11, hf⟩ := lnk_some hf
    refine va_getN (D := (dC, dI)) (ci := 15) (v := .ref (a k_11)) (C := RX15) (T := TX15) (N := 6) hx hb hts iwd_X18_take_X15 hown hK hP k_9 (Wd_ob kg_10 sg_10 (by decide)) rfl 0 (by decide) (va_Nw.use rfl (NK_f_X18_71 hN)) (fun _ h9 => h9) (fl_q rfl ek_11) dX18_take_17 ?_
    refine lv_iload_n hx hb dX18_take_20 rfl (lv_at hl 0 rfl) ?_
    obtain ⟨g_12, hf⟩ := grd_some hf
    obtain ⟨kg_12, sg_12, ig_12⟩ := okA_at g_12
    refine va_bald hx hb hK hP k_11 0 (Wd_ab kg_12 sg_12) rfl ig_12 dX18_take_21 ?_
    refine lv_iload_n hx hb dX18_take_22 rfl (lv_at hl 2 rfl) ?_
    refine lv_icmp_eq (tgt := 30) hx hb dX18_take_23 (by decide) (fun c_13 => ?_) (fun c_13 => ?_)
    · skip
      rw [if_pos c_13] at hf
      refine lv_iload_n hx hb dX18_take_30 rfl (lv_at hl 0 rfl) ?_
      obtain ⟨h8, h9⟩ := ret_some hf
      rw [h8, h9]
      exact W.iret (v := r_2) hx hb hr (fun t ht hW => ⟨⟨r_2, (), rfl, rfl, by rw [ht]; exact hP, va_K.moved hW.alike hK, hD⟩, hS.F ht⟩) hS.2.2 dX18_take_31
    · skip
      rw [if_neg c_13] at hf
      refine lv_aload_n hx hb dX18_take_26 rfl (lv_at hl 1 rfl) ?_
      obtain ⟨z_14, _u, hfc, hf⟩ := cal_some hf
      have hFc := de_free hD hS hA
      refine va_callv (va_runV (As := []) (rest := []) ⟨hx, hb, hml, hown, hts⟩ (de_X18_slip l dC dI cy a sh n H_7.size F z_5 h0 hfc) (cwV 0 hts gX18_take_X18_slip rfl rfl rfl (by decide +kernel) ⟨Nat.le_of_ble_eq_true rfl, Nat.le_of_ble_eq_true rfl⟩) ⟨fun a U g mk q => by obtain ⟨q0, q1, qP, qK, qD, qN⟩ := q; exact ⟨q0, q1, qP, va_K.moved (u := U) (U := U.calling g mk a) (Vm.Alike.refl U.vm) qK, qD, qN.same rfl⟩, va_recv hK hP (ci := 18) (q0 := h0) rfl (Wd_ob kg_3 sg_3 (by decide)), fun U hU hW => ⟨rfl, by rw [hU], by rw [hU]; exact hP, va_K.moved hW.alike hK, hD.weaken (fun _ _ _ _ => trivial), hN.warm hW⟩⟩ rfl rfl hl.1 rfl (lv_room (Nat.le_of_ble_eq_true rfl)) dX18_take_27 ⟨Nat.le_of_ble_eq_true rfl, Nat.le_of_ble_eq_true rfl⟩) hS (fun q _ h => hFc q h) hFc (fun u t H_15 locs ht hvm hw hB hz1 hk1 hS2 => ?_)
      obtain ⟨hP1, -, hD1⟩ := hB
      rw [ht] at hP1
      replace hD := hD1.weaken (fun _ _ _ h => hFc _ h)
      replace hP := hP1
      replace hS := hS2
      clear hP1 hD1 hS2 hFc hfc hz1 hk1 hvm ht
      refine lv_iload_n hx hb dX18_take_30 rfl (lv_at hl 0 rfl) ?_
      obtain ⟨h8, h9⟩ := ret_some hf
      rw [h8, h9]
      exact W.iret (v := r_2) hx hb hr (fun t ht hW => ⟨⟨r_2, (), rfl, rfl, by rw [ht]; exact hP, va_K.moved hW.alike hK, hD⟩, hS.F ht⟩) hS.2.2 dX18_take_31

set_option maxHeartbeats 4000000 in
set_option maxRecDepth 100000 in
theorem de_X16_overList (l : Launch) (dC : Nat → ClassId) (dI : Nat → Nat → Nat) (cy : Nat → ClassId) (a : Nat → Nat) (sh : Nat → Nat × Nat) (n sz : Nat) (F : Nat) (z : St) (h0 : Nat) (x0 : Int32) (x1 : Int32) {z8 : St} {r8 : Unit} (hf : fn_X16_overList F sh n z h0 x0 x1 = some (z8, r8)) : Met l yX16_overList wsX16_overList ({ frames := 3, cells := 0, slots := 0, locals := 68 }) (va_Pc [.ref (a h0), .int x0, .int x1] (fun U => U.heap.size = sz ∧ va_P (dC, dI) vwCl (Wd cy a sh n z) U.heap ∧ va_K (dC, dI) vwCl (TYS cy) U ∧ va_D (fun _ => True) (Wd cy a sh n z) ∧ NK U)) (va_Qv (fun u : Unit => True) (fun u t => va_P (dC, dI) vwCl (Wd cy a sh n z8) t.heap ∧ va_K (dC, dI) vwCl (TYS cy) t ∧ va_D (va_A (Wd cy a sh n z) sz) (Wd cy a sh n z8)) (va_A (Wd cy a sh n z) sz)) 0 0 (va_A (Wd cy a sh n z) sz) := by
  refine Met.ofW (cc := cX16_overList) (maxL := 5) (ret := none) (by decide) rfl ?_
  intro p e s m args below meth c s₁ B hml hv
  obtain ⟨rfl, hsz, hP, hK, hD0, hN⟩ := hv
  have hx := B.exec
  have hb := B.bytes
  have hr := B.returns
  have hts := atoms_spec (ws := wsX16_overList) B.pre
  have hown : s.vm.findClass RX16 = some m.cls := findClass_of_methodNamed B.named
  have hlocks := B.notSynchronized
  subst hsz
  have hD := hD0.self (sz := s.heap.size)
  clear hD0
  generalize hAe : va_A (Wd cy a sh n z) s.heap.size = A at hD ⊢
  have hA : ∀ q : Nat, s.heap.size ≤ q → A q := fun q h => by rw [← hAe]; exact Or.inr h
  clear hAe
  have hS : va_S A s.heap s.heap [] := va_S.rf
  have hl := lv_entry ([.ref (a h0), .int x0, .int x1]) (n := 5) (Nat.le_of_ble_eq_true rfl)
  rw [lg_entry_eq]
  generalize (lg_sl ([.ref (a h0), .int x0, .int x1]) ++ List.replicate (5 - (lg_sl ([.ref (a h0), .int x0, .int x1])).length) Slot.unset).toArray = ls at hl ⊢
  replace hl : lv_has ls 5 [(0, .ref (a h0)), (1, .int x0), (2, .int x1)] := hl
  unfold fn_X16_overList at hf
  refine de_start hS hP (fun H locs hS hP => ?_)
  refine lv_aload_n hx hb dX16_overList_0 rfl (lv_at hl 0 rfl) ?_
  refine lv_iconst (v := 0) hx hb dX16_overList_1 (by decide) ?_
  refine lv_iload_n hx hb dX16_overList_2 rfl (lv_at hl 1 rfl) ?_
  obtain ⟨g_3, hf⟩ := grd_some hf
  obtain ⟨kg_3, sg_3⟩ := okO_at g_3
  obtain ⟨z_1, r_2, hfc, hf⟩ := cal_some hf
  have hFc := de_free hD hS hA
  refine va_calli (va_runV (As := [.int 0, .int x0]) (rest := []) ⟨hx, hb, hml, hown, hts⟩ (de_X16_count l dC dI cy a sh n H.size F z h0 0 x0 hfc) (cwV 2 hts gX16_overList_X16_count rfl rfl rfl (by decide +kernel) ⟨Nat.le_of_ble_eq_true rfl, Nat.le_of_ble_eq_true rfl⟩) ⟨fun a U g mk q => by obtain ⟨q0, q1, qP, qK, qD, qN⟩ := q; exact ⟨q0, q1, qP, va_K.moved (u := U) (U := U.calling g mk a) (Vm.Alike.refl U.vm) qK, qD, qN.same rfl⟩, va_recv hK hP (ci := 16) (q0 := h0) rfl (Wd_ob kg_3 sg_3 (by decide)), fun U hU hW => ⟨rfl, by rw [hU], by rw [hU]; exact hP, va_K.moved hW.alike hK, hD.weaken (fun _ _ _ _ => trivial), hN.warm hW⟩⟩ rfl rfl hl.1 rfl (lv_room (Nat.le_of_ble_eq_true rfl)) dX16_overList_3 ⟨Nat.le_of_ble_eq_true rfl, Nat.le_of_ble_eq_true rfl⟩) hS (fun q _ h => hFc q h) hFc (fun rr u t H_4 locs ht hvm hw hB hz1 hk1 hS2 => ?_)
  rw [hw]
  clear hw
  obtain ⟨hP1, -, hD1⟩ := hB
  rw [ht] at hP1
  replace hD := hD1.weaken (fun _ _ _ h => hFc _ h)
  replace hP := hP1
  replace hS := hS2
  clear hP1 hD1 hS2 hFc hfc hz1 hk1 hvm ht
  refine lv_istore_n (lv' := [(3, .int r_2), (0, .ref (a h0)), (1, .int x0), (2, .int x1)]) hx hb dX16_overList_6 rfl hl (by decide) rfl (fun ls hl2 => ?_)
  replace hl := hl2
  clear hl2
  refine lv_iconst (v := 0) hx hb dX16_overList_7 (by decide) ?_
  refine lv_istore (lv' := [(4, .int 0), (3, .int r_2), (0, .ref (a h0)), (1, .int x0), (2, .int x1)]) hx hb dX16_overList_8 hl (by decide) rfl (fun ls hl2 => ?_)
  replace hl := hl2
  clear hl2
  have hl0 : lv_has ls 5 [(4, .int 0), (3, .int r_2), (0, .ref (a h0)), (2, .int x1)] := lv_sub hl [0, 1, 2, 4] rfl
  refine de_loop (h := 10) (fun (x : St × Int32) ls H locs => lv_has ls 5 [(4, .int x.2), (3, .int r_2), (0, .ref (a h0)), (2, .int x1)] ∧ va_P (dC, dI) vwCl (Wd cy a sh n x.1) H ∧ va_D A (Wd cy a sh n x.1) ∧ va_S A s.heap H locs) (fun f x => fn_X16_overList_L10 F sh n r_2 h0 x1 f x.1 x.2) (z8, r8) ?_ (fun _ => rfl) F (z_1, 0) ls H_4 locs ⟨hl0, hP, hD, hS⟩ hf
  intro f_7 x ls H locs ih10 hI hf
  obtain ⟨z_6, p_5⟩ := x
  obtain ⟨hl2, hP2, hD2, hS2⟩ := hI
  replace hl : lv_has ls 5 [(4, .int p_5), (3, .int r_2), (0, .ref (a h0)), (2, .int x1)] := hl2
  replace hP := hP2
  replace hD := hD2
  replace hS := hS2
  clear hl2 hP2 hD2 hS2 hl0
  replace hf := fn_X16_overList_L10_s hf
  refine lv_iload hx hb dX16_overList_10 (lv_at hl 0 rfl) ?_
  refine lv_iload_n hx hb dX16_overList_12 rfl (lv_at hl 1 rfl) ?_
  refine lv_icmp_ge (tgt := 34) hx hb dX16_overList_13 (by decide) (fun c_8 => ?_) (fun c_8 => ?_)
  · skip
    rw [if_pos c_8] at hf
    obtain ⟨h8, h9⟩ := ret_some hf
    rw [h8]
    exact W.vret hx hb hr (fun t ht hW => ⟨⟨(), rfl, trivial, by rw [ht]; exact hP, va_K.moved hW.alike hK, hD⟩, hS.F ht⟩) hS.2.2 dX16_overList_34
  · skip
    rw [if_neg c_8] at hf
    refine lv_aload_n hx hb dX16_overList_16 rfl (lv_at hl 2 rfl) ?_
    obtain ⟨z_9, r_10, hfc, hf⟩ := cal_some hf
    have hFc := de_free hD hS hA
    refine va_calli (va_runV (As := []) (rest := []) ⟨hx, hb, hml, hown, hts⟩ (de_X16_isGood l dC dI cy a sh n H.size F z_6 h0 hfc) (cwV 0 hts gX16_overList_X16_isGood rfl rfl rfl (by decide +kernel) ⟨Nat.le_of_ble_eq_true rfl, Nat.le_of_ble_eq_true rfl⟩) ⟨fun a U g mk q => by obtain ⟨q0, q1, qP, qK, qD, qN⟩ := q; exact ⟨q0, q1, qP, va_K.moved (u := U) (U := U.calling g mk a) (Vm.Alike.refl U.vm) qK, qD, qN.same rfl⟩, va_recv hK hP (ci := 16) (q0 := h0) rfl (Wd_ob kg_3 sg_3 (by decide)), fun U hU hW => ⟨rfl, by rw [hU], by rw [hU]; exact hP, va_K.moved hW.alike hK, hD.weaken (fun _ _ _ _ => trivial), hN.warm hW⟩⟩ rfl rfl hl.1 rfl (lv_room (Nat.le_of_ble_eq_true rfl)) dX16_overList_17 ⟨Nat.le_of_ble_eq_true rfl, Nat.le_of_ble_eq_true rfl⟩) hS (fun q _ h => hFc q h) hFc (fun rr u t H_11 locs ht hvm hw hB hz1 hk1 hS2 => ?_)
    rw [hw]
    clear hw
    obtain ⟨hP1, -, hD1⟩ := hB
    rw [ht] at hP1
    replace hD := hD1.weaken (fun _ _ _ h => hFc _ h)
    replace hP := hP1
    replace hS := hS2
    clear hP1 hD1 hS2 hFc hfc hz1 hk1 hvm ht
    refine lv_if_eq (tgt := 34) hx hb dX16_overList_20 (by decide) (fun c_12 => ?_) (fun c_12 => ?_)
    · skip
      rw [if_pos c_12] at hf
      obtain ⟨h8, h9⟩ := ret_some hf
      rw [h8]
      exact W.vret hx hb hr (fun t ht hW => ⟨⟨(), rfl, trivial, by rw [ht]; exact hP, va_K.moved hW.alike hK, hD⟩, hS.F ht⟩) hS.2.2 dX16_overList_34
    · skip
      rw [if_neg c_12] at hf
      refine lv_aload_n hx hb dX16_overList_23 rfl (lv_at hl 2 rfl) ?_
      refine lv_iload_n hx hb dX16_overList_24 rfl (lv_at hl 3 rfl) ?_
      obtain ⟨z_13, _u, hfc, hf⟩ := cal_some hf
      have hFc := de_free hD hS hA
      refine va_callv (va_runV (As := [.int x1]) (rest := []) ⟨hx, hb, hml, hown, hts⟩ (de_X16_overType l dC dI cy a sh n H_11.size F z_9 h0 x1 hfc) (cwV 1 hts gX16_overList_X16_overType rfl rfl rfl (by decide +kernel) ⟨Nat.le_of_ble_eq_true rfl, Nat.le_of_ble_eq_true rfl⟩) ⟨fun a U g mk q => by obtain ⟨q0, q1, qP, qK, qD, qN⟩ := q; exact ⟨q0, q1, qP, va_K.moved (u := U) (U := U.calling g mk a) (Vm.Alike.refl U.vm) qK, qD, qN.same rfl⟩, va_recv hK hP (ci := 16) (q0 := h0) rfl (Wd_ob kg_3 sg_3 (by decide)), fun U hU hW => ⟨rfl, by rw [hU], by rw [hU]; exact hP, va_K.moved hW.alike hK, hD.weaken (fun _ _ _ _ => trivial), hN.warm hW⟩⟩ rfl rfl hl.1 rfl (lv_room (Nat.le_of_ble_eq_true rfl)) dX16_overList_25 ⟨Nat.le_of_ble_eq_true rfl, Nat.le_of_ble_eq_true rfl⟩) hS (fun q _ h => hFc q h) hFc (fun u t H_14 locs ht hvm hw hB hz1 hk1 hS2 => ?_)
      obtain ⟨hP1, -, hD1⟩ := hB
      rw [ht] at hP1
      replace hD := hD1.weaken (fun _ _ _ h => hFc _ h)
      replace hP := hP1
      replace hS := hS2
      clear hP1 hD1 hS2 hFc hfc hz1 hk1 hvm ht
      refine lv_iinc (v := (p_5 + 1)) (lv' := [(4, .int (p_5 + 1)), (3, .int r_2), (0, .ref (a h0)), (2, .int x1)]) hx hb dX16_overList_28 hl (k := 0) rfl rfl (by decide) rfl (fun ls hl2 => ?_)
      replace hl := hl2
      clear hl2
      refine lv_goto (tgt := 10) hx hb dX16_overList_31 (by decide) ?_
      exact ih10 (z_13, (p_5 + 1)) ls H_14 locs ⟨lv_sub hl [0, 1, 2, 3] rfl, hP, hD, hS⟩ hf

theorem md_X16_listAt_1 : (.fieldLink RX16 23 "ResourceLedgerModel$Unit" "functionAt" "[I" : Cond) ∈ wsX16_listAt := List.mem_of_getElem? (i := 1) rfl
theorem iwd_X16_listAt_X16 : ∀ w ∈ wsX160, w ∈ wsX16_listAt := fun _ h => List.mem_cons_of_mem _ (List.mem_append_right _ h)
set_option maxHeartbeats 4000000 in
set_option maxRecDepth 100000 in
theorem de_X16_listAt (l : Launch) (dC : Nat → ClassId) (dI : Nat → Nat → Nat) (cy : Nat → ClassId) (a : Nat → Nat) (sh : Nat → Nat × Nat) (n sz : Nat) (F : Nat) (z : St) (h0 : Nat) (x0 : Int32) (x1 : Int32) {z8 : St} {r8 : Int32} (hf : fn_X16_listAt F sh n z h0 x0 x1 = some (z8, r8)) : Met l yX16_listAt wsX16_listAt ({ frames := 3, cells := 0, slots := 0, locals := 67 }) (va_Pc [.ref (a h0), .int x0, .int x1] (fun U => U.heap.size = sz ∧ va_P (dC, dI) vwCl (Wd cy a sh n z) U.heap ∧ va_K (dC, dI) vwCl (TYS cy) U ∧ va_D (fun _ => True) (Wd cy a sh n z) ∧ NK U)) (va_Qi (fun (r9 : Int32) (u : Unit) => r9 = r8) (fun u t => va_P (dC, dI) vwCl (Wd cy a sh n z8) t.heap ∧ va_K (dC, dI) vwCl (TYS cy) t ∧ va_D (va_A (Wd cy a sh n z) sz) (Wd cy a sh n z8)) (va_A (Wd cy a sh n z) sz)) 0 0 (va_A (Wd cy a sh n z) sz) := by
  refine Met.ofW (cc := cX16_listAt) (maxL := 5) (ret := (some .int)) (by decide) rfl ?_
  intro p e s m args below meth c s₁ B hml hv
  obtain ⟨rfl, hsz, hP, hK, hD0, hN⟩ := hv
  have hx := B.exec
  have hb := B.bytes
  have hr := B.returns
  have hts := atoms_spec (ws := wsX16_listAt) B.pre
  have hown : s.vm.findClass RX16 = some m.cls := findClass_of_methodNamed B.named
  have hlocks := B.notSynchronized
  subst hsz
  have hD := hD0.self (sz := s.heap.size)
  clear hD0
  generalize hAe : va_A (Wd cy a sh n z) s.heap.size = A at hD ⊢
  have hA : ∀ q : Nat, s.heap.size ≤ q → A q := fun q h => by rw [← hAe]; exact Or.inr h
  clear hAe
  have hS : va_S A s.heap s.heap [] := va_S.rf
  have hl := lv_entry ([.ref (a h0), .int x0, .int x1]) (n := 5) (Nat.le_of_ble_eq_true rfl)
  rw [lg_entry_eq]
  generalize (lg_sl ([.ref (a h0), .int x0, .int x1]) ++ List.replicate (5 - (lg_sl ([.ref (a h0), .int x0, .int x1])).length) Slot.unset).toArray = ls at hl ⊢
  replace hl : lv_has ls 5 [(0, .ref (a h0)), (1, .int x0), (2, .int x1)] := hl
  unfold fn_X16_listAt at hf
  refine de_start hS hP (fun H locs hS hP => ?_)
  refine lv_aload_n hx hb dX16_listAt_0 rfl (lv_at hl 0 rfl) ?_
  obtain ⟨g_1, hf⟩ := grd_some hf
  obtain ⟨kg_1, sg_1⟩ := okO_at g_1
  obtain ⟨k_2, ek_2, hf⟩ := lnk_some hf
  refine va_get (D := (dC, dI)) (ci := 16) (v := .ref (a k_2)) (C := RX16) (T := TX16) (N := 18) hx hb hts iwd_X16_listAt_X16 hown hK hP h0 (Wd_ob kg_1 sg_1 (by decide)) rfl 14 (by decide) (hts _ md_X16_listAt_1) (fun _ h9 => h9) (fl_q rfl ek_2) dX16_listAt_1 ?_
  refine lv_iload_n hx hb dX16_listAt_4 rfl (lv_at hl 1 rfl) ?_
  obtain ⟨g_3, hf⟩ := grd_some hf
  obtain ⟨kg_3, sg_3, ig_3⟩ := okA_at g_3
  refine va_iald hx hb hK hP k_2 1 (Wd_ai kg_3 sg_3) rfl ig_3 dX16_listAt_5 ?_
  refine lv_iconst (v := 1) hx hb dX16_listAt_6 (by decide) ?_
  refine lv_iadd hx hb dX16_listAt_7 ?_
  refine lv_topi (fun v_4 ev_4 => ?_)
  replace hf := lt_at ev_4 hf
  clear ev_4
  refine lv_istore_n (lv' := [(3, .int v_4), (0, .ref (a h0)), (1, .int x0), (2, .int x1)]) hx hb dX16_listAt_8 rfl hl (by decide) rfl (fun ls hl2 => ?_)
  replace hl := hl2
  clear hl2
  refine lv_iconst (v := 0) hx hb dX16_listAt_9 (by decide) ?_
  refine lv_istore (lv' := [(4, .int 0), (3, .int v_4), (0, .ref (a h0)), (1, .int x0), (2, .int x1)]) hx hb dX16_listAt_10 hl (by decide) rfl (fun ls hl2 => ?_)
  replace hl := hl2
  clear hl2
  have hl0 : lv_has ls 5 [(4, .int 0), (3, .int v_4), (0, .ref (a h0)), (2, .int x1)] := lv_sub hl [0, 1, 2, 4] rfl
  refine de_loop (h := 12) (fun (x : St × Int32 × Int32) ls H locs => lv_has ls 5 [(4, .int x.2.2), (3, .int x.2.1), (0, .ref (a h0)), (2, .int x1)] ∧ va_P (dC, dI) vwCl (Wd cy a sh n x.1) H ∧ va_D A (Wd cy a sh n x.1) ∧ va_S A s.heap H locs) (fun f x => fn_X16_listAt_L12 F sh n x1 h0 f x.1 x.2.1 x.2.2) (z8, r8) ?_ (fun _ => rfl) F (z, v_4, 0) ls H locs ⟨hl0, hP, hD, hS⟩ hf
  intro f_8 x ls H locs ih12 hI hf
  obtain ⟨z_7, p_5, p_6⟩ := x
  obtain ⟨hl2, hP2, hD2, hS2⟩ := hI
  replace hl : lv_has ls 5 [(4, .int p_6), (3, .int p_5), (0, .ref (a h0)), (2, .int x1)] := hl2
  replace hP := hP2
  replace hD := hD2
  replace hS := hS2
  clear hl2 hP2 hD2 hS2 hl0
  replace hf := fn_X16_listAt_L12_s hf
  refine lv_iload hx hb dX16_listAt_12 (lv_at hl 0 rfl) ?_
  refine lv_iload_n hx hb dX16_listAt_14 rfl (lv_at hl 3 rfl) ?_
  refine lv_icmp_ge (tgt := 30) hx hb dX16_listAt_15 (by decide) (fun c_9 => ?_) (fun c_9 => ?_)
  · skip
    rw [if_pos c_9] at hf
    refine lv_iload_n hx hb dX16_listAt_30 rfl (lv_at hl 1 rfl) ?_
    obtain ⟨h8, h9⟩ := ret_some hf
    rw [h8, h9]
    exact W.iret (v := p_5) hx hb hr (fun t ht hW => ⟨⟨p_5, (), rfl, rfl, by rw [ht]; exact hP, va_K.moved hW.alike hK, hD⟩, hS.F ht⟩) hS.2.2 dX16_listAt_31
  · skip
    rw [if_neg c_9] at hf
    refine lv_aload_n hx hb dX16_listAt_18 rfl (lv_at hl 2 rfl) ?_
    refine lv_iload_n hx hb dX16_listAt_19 rfl (lv_at hl 1 rfl) ?_
    obtain ⟨z_10, r_11, hfc, hf⟩ := cal_some hf
    have hFc := de_free hD hS hA
    refine va_calli (va_runV (As := [.int p_5]) (rest := []) ⟨hx, hb, hml, hown, hts⟩ (de_X16_listEnd l dC dI cy a sh n H.size F z_7 h0 p_5 hfc) (cwV 1 hts gX16_listAt_X16_listEnd rfl rfl rfl (by decide +kernel) ⟨Nat.le_of_ble_eq_true rfl, Nat.le_of_ble_eq_true rfl⟩) ⟨fun a U g mk q => by obtain ⟨q0, q1, qP, qK, qD, qN⟩ := q; exact ⟨q0, q1, qP, va_K.moved (u := U) (U := U.calling g mk a) (Vm.Alike.refl U.vm) qK, qD, qN.same rfl⟩, va_recv hK hP (ci := 16) (q0 := h0) rfl (Wd_ob kg_1 sg_1 (by decide)), fun U hU hW => ⟨rfl, by rw [hU], by rw [hU]; exact hP, va_K.moved hW.alike hK, hD.weaken (fun _ _ _ _ => trivial), hN.warm hW⟩⟩ rfl rfl hl.1 rfl (lv_room (Nat.le_of_ble_eq_true rfl)) dX16_listAt_20 ⟨Nat.le_of_ble_eq_true rfl, Nat.le_of_ble_eq_true rfl⟩) hS (fun q _ h => hFc q h) hFc (fun rr u t H_12 locs ht hvm hw hB hz1 hk1 hS2 => ?_)
    rw [hw]
    clear hw
    obtain ⟨hP1, -, hD1⟩ := hB
    rw [ht] at hP1
    replace hD := hD1.weaken (fun _ _ _ h => hFc _ h)
    replace hP := hP1
    replace hS := hS2
    clear hP1 hD1 hS2 hFc hfc hz1 hk1 hvm ht
    refine lv_istore_n (lv' := [(3, .int r_11), (4, .int p_6), (0, .ref (a h0)), (2, .int x1)]) hx hb dX16_listAt_23 rfl hl (by decide) rfl (fun ls hl2 => ?_)
    replace hl := hl2
    clear hl2
    refine lv_iinc (v := (p_6 + 1)) (lv' := [(4, .int (p_6 + 1)), (3, .int r_11), (0, .ref (a h0)), (2, .int x1)]) hx hb dX16_listAt_24 hl (k := 1) rfl rfl (by decide) rfl (fun ls hl2 => ?_)
    replace hl := hl2
    clear hl2
    refine lv_goto (tgt := 12) hx hb dX16_listAt_27 (by decide) ?_
    exact ih12 (z_10, r_11, (p_6 + 1)) ls H_12 locs ⟨lv_sub hl [0, 1, 2, 3] rfl, hP, hD, hS⟩ hf

set_option maxHeartbeats 4000000 in
set_option maxRecDepth 100000 in
theorem de_X16_lookList (l : Launch) (dC : Nat → ClassId) (dI : Nat → Nat → Nat) (cy : Nat → ClassId) (a : Nat → Nat) (sh : Nat → Nat × Nat) (n sz : Nat) (F : Nat) (z : St) (h0 : Nat) (x0 : Int32) {z8 : St} {r8 : Int32} (hf : fn_X16_lookList F sh n z h0 x0 = some (z8, r8)) : Met l yX16_lookList wsX16_lookList ({ frames := 3, cells := 0, slots := 0, locals := 65 }) (va_Pc [.ref (a h0), .int x0] (fun U => U.heap.size = sz ∧ va_P (dC, dI) vwCl (Wd cy a sh n z) U.heap ∧ va_K (dC, dI) vwCl (TYS cy) U ∧ va_D (fun _ => True) (Wd cy a sh n z) ∧ NK U)) (va_Qi (fun (r9 : Int32) (u : Unit) => r9 = r8) (fun u t => va_P (dC, dI) vwCl (Wd cy a sh n z8) t.heap ∧ va_K (dC, dI) vwCl (TYS cy) t ∧ va_D (va_A (Wd cy a sh n z) sz) (Wd cy a sh n z8)) (va_A (Wd cy a sh n z) sz)) 0 0 (va_A (Wd cy a sh n z) sz) := by
  refine Met.ofW (cc := cX16_lookList) (maxL := 5) (ret := (some .int)) (by decide) rfl ?_
  intro p e s m args below meth c s₁ B hml hv
  obtain ⟨rfl, hsz, hP, hK, hD0, hN⟩ := hv
  have hx := B.exec
  have hb := B.bytes
  have hr := B.returns
  have hts := atoms_spec (ws := wsX16_lookList) B.pre
  have hown : s.vm.findClass RX16 = some m.cls := findClass_of_methodNamed B.named
  have hlocks := B.notSynchronized
  subst hsz
  have hD := hD0.self (sz := s.heap.size)
  clear hD0
  generalize hAe : va_A (Wd cy a sh n z) s.heap.size = A at hD ⊢
  have hA : ∀ q : Nat, s.heap.size ≤ q → A q := fun q h => by rw [← hAe]; exact Or.inr h
  clear hAe
  have hS : va_S A s.heap s.heap [] := va_S.rf
  have hl := lv_entry ([.ref (a h0), .int x0]) (n := 5) (Nat.le_of_ble_eq_true rfl)
  rw [lg_entry_eq]
  generalize (lg_sl ([.ref (a h0), .int x0]) ++ List.replicate (5 - (lg_sl ([.ref (a h0), .int x0])).length) Slot.unset).toArray = ls at hl ⊢
  replace hl : lv_has ls 5 [(0, .ref (a h0)), (1, .int x0)] := hl
  unfold fn_X16_lookList at hf
  refine de_start hS hP (fun H locs hS hP => ?_)
  refine lv_aload_n hx hb dX16_lookList_0 rfl (lv_at hl 0 rfl) ?_
  refine lv_iload_n hx hb dX16_lookList_1 rfl (lv_at hl 1 rfl) ?_
  obtain ⟨g_3, hf⟩ := grd_some hf
  obtain ⟨kg_3, sg_3⟩ := okO_at g_3
  obtain ⟨z_1, r_2, hfc, hf⟩ := cal_some hf
  have hFc := de_free hD hS hA
  refine va_calli (va_runV (As := [.int x0]) (rest := []) ⟨hx, hb, hml, hown, hts⟩ (de_X16_byteAt l dC dI cy a sh n H.size F z h0 x0 hfc) (cwV 1 hts gX16_lookList_X16_byteAt rfl rfl rfl (by decide +kernel) ⟨Nat.le_of_ble_eq_true rfl, Nat.le_of_ble_eq_true rfl⟩) ⟨fun a U g mk q => by obtain ⟨q0, q1, qP, qK, qD, qN⟩ := q; exact ⟨q0, q1, qP, va_K.moved (u := U) (U := U.calling g mk a) (Vm.Alike.refl U.vm) qK, qD, qN.same rfl⟩, va_recv hK hP (ci := 16) (q0 := h0) rfl (Wd_ob kg_3 sg_3 (by decide)), fun U hU hW => ⟨rfl, by rw [hU], by rw [hU]; exact hP, va_K.moved hW.alike hK, hD.weaken (fun _ _ _ _ => trivial), hN.warm hW⟩⟩ rfl rfl hl.1 rfl (lv_room (Nat.le_of_ble_eq_true rfl)) dX16_lookList_2 ⟨Nat.le_of_ble_eq_true rfl, Nat.le_of_ble_eq_true rfl⟩) hS (fun q _ h => hFc q h) hFc (fun rr u t H_4 locs ht hvm hw hB hz1 hk1 hS2 => ?_)
  rw [hw]
  clear hw
  obtain ⟨hP1, -, hD1⟩ := hB
  rw [ht] at hP1
  replace hD := hD1.weaken (fun _ _ _ h => hFc _ h)
  replace hP := hP1
  replace hS := hS2
  clear hP1 hD1 hS2 hFc hfc hz1 hk1 hvm ht
  refine lv_istore_n (lv' := [(2, .int r_2), (0, .ref (a h0)), (1, .int x0)]) hx hb dX16_lookList_5 rfl hl (by decide) rfl (fun ls hl2 => ?_)
  replace hl := hl2
  clear hl2
  refine lv_iload_n hx hb dX16_lookList_6 rfl (lv_at hl 2 rfl) ?_
  refine lv_iconst (v := 1) hx hb dX16_lookList_7 (by decide) ?_
  refine lv_iadd hx hb dX16_lookList_8 ?_
  refine lv_topi (fun v_5 ev_5 => ?_)
  replace hf := lt_at ev_5 hf
  clear ev_5
  refine lv_istore_n (lv' := [(3, .int v_5), (2, .int r_2), (0, .ref (a h0)), (1, .int x0)]) hx hb dX16_lookList_9 rfl hl (by decide) rfl (fun ls hl2 => ?_)
  replace hl := hl2
  clear hl2
  refine lv_iconst (v := 0) hx hb dX16_lookList_10 (by decide) ?_
  refine lv_istore (lv' := [(4, .int 0), (3, .int v_5), (2, .int r_2), (0, .ref (a h0)), (1, .int x0)]) hx hb dX16_lookList_11 hl (by decide) rfl (fun ls hl2 => ?_)
  replace hl := hl2
  clear hl2
  have hl0 : lv_has ls 5 [(4, .int 0), (3, .int v_5), (2, .int r_2), (0, .ref (a h0))] := lv_sub hl [0, 1, 2, 3] rfl
  refine de_loop (h := 13) (fun (x : St × Int32 × Int32) ls H locs => lv_has ls 5 [(4, .int x.2.2), (3, .int x.2.1), (2, .int r_2), (0, .ref (a h0))] ∧ va_P (dC, dI) vwCl (Wd cy a sh n x.1) H ∧ va_D A (Wd cy a sh n x.1) ∧ va_S A s.heap H locs) (fun f x => fn_X16_lookList_L13 F sh n r_2 h0 f x.1 x.2.1 x.2.2) (z8, r8) ?_ (fun _ => rfl) F (z_1, v_5, 0) ls H_4 locs ⟨hl0, hP, hD, hS⟩ hf
  intro f_9 x ls H locs ih13 hI hf
  obtain ⟨z_8, p_6, p_7⟩ := x
  obtain ⟨hl2, hP2, hD2, hS2⟩ := hI
  replace hl : lv_has ls 5 [(4, .int p_7), (3, .int p_6), (2, .int r_2), (0, .ref (a h0))] := hl2
  replace hP := hP2
  replace hD := hD2
  replace hS := hS2
  clear hl2 hP2 hD2 hS2 hl0
  replace hf := fn_X16_lookList_L13_s hf
  refine lv_iload hx hb dX16_lookList_13 (lv_at hl 0 rfl) ?_
  refine lv_iload_n hx hb dX16_lookList_15 rfl (lv_at hl 2 rfl) ?_
  refine lv_icmp_ge (tgt := 31) hx hb dX16_lookList_16 (by decide) (fun c_10 => ?_) (fun c_10 => ?_)
  · skip
    rw [if_pos c_10] at hf
    refine lv_iload_n hx hb dX16_lookList_31 rfl (lv_at hl 1 rfl) ?_
    obtain ⟨h8, h9⟩ := ret_some hf
    rw [h8, h9]
    exact W.iret (v := p_6) hx hb hr (fun t ht hW => ⟨⟨p_6, (), rfl, rfl, by rw [ht]; exact hP, va_K.moved hW.alike hK, hD⟩, hS.F ht⟩) hS.2.2 dX16_lookList_32
  · skip
    rw [if_neg c_10] at hf
    refine lv_aload_n hx hb dX16_lookList_19 rfl (lv_at hl 3 rfl) ?_
    refine lv_iload_n hx hb dX16_lookList_20 rfl (lv_at hl 1 rfl) ?_
    obtain ⟨z_11, r_12, hfc, hf⟩ := cal_some hf
    have hFc := de_free hD hS hA
    refine va_calli (va_runV (As := [.int p_6]) (rest := []) ⟨hx, hb, hml, hown, hts⟩ (de_X16_lookType l dC dI cy a sh n H.size F z_8 h0 p_6 hfc) (cwV 1 hts gX16_lookList_X16_lookType rfl rfl rfl (by decide +kernel) ⟨Nat.le_of_ble_eq_true rfl, Nat.le_of_ble_eq_true rfl⟩) ⟨fun a U g mk q => by obtain ⟨q0, q1, qP, qK, qD, qN⟩ := q; exact ⟨q0, q1, qP, va_K.moved (u := U) (U := U.calling g mk a) (Vm.Alike.refl U.vm) qK, qD, qN.same rfl⟩, va_recv hK hP (ci := 16) (q0 := h0) rfl (Wd_ob kg_3 sg_3 (by decide)), fun U hU hW => ⟨rfl, by rw [hU], by rw [hU]; exact hP, va_K.moved hW.alike hK, hD.weaken (fun _ _ _ _ => trivial), hN.warm hW⟩⟩ rfl rfl hl.1 rfl (lv_room (Nat.le_of_ble_eq_true rfl)) dX16_lookList_21 ⟨Nat.le_of_ble_eq_true rfl, Nat.le_of_ble_eq_true rfl⟩) hS (fun q _ h => hFc q h) hFc (fun rr u t H_13 locs ht hvm hw hB hz1 hk1 hS2 => ?_)
    rw [hw]
    clear hw
    obtain ⟨hP1, -, hD1⟩ := hB
    rw [ht] at hP1
    replace hD := hD1.weaken (fun _ _ _ h => hFc _ h)
    replace hP := hP1
    replace hS := hS2
    clear hP1 hD1 hS2 hFc hfc hz1 hk1 hvm ht
    refine lv_istore_n (lv' := [(3, .int r_12), (4, .int p_7), (2, .int r_2), (0, .ref (a h0))]) hx hb dX16_lookList_24 rfl hl (by decide) rfl (fun ls hl2 => ?_)
    replace hl := hl2
    clear hl2
    refine lv_iinc (v := (p_7 + 1)) (lv' := [(4, .int (p_7 + 1)), (3, .int r_12), (2, .int r_2), (0, .ref (a h0))]) hx hb dX16_lookList_25 hl (k := 1) rfl rfl (by decide) rfl (fun ls hl2 => ?_)
    replace hl := hl2
    clear hl2
    refine lv_goto (tgt := 13) hx hb dX16_lookList_28 (by decide) ?_
    exact ih13 (z_11, r_12, (p_7 + 1)) ls H_13 locs ⟨lv_sub hl [0, 1, 2, 3] rfl, hP, hD, hS⟩ hf

theorem md_X18_keepFour_1 : (.fieldLink RX18 94 "ResourceLedgerModel" "digester" "LResourceLedgerModel$Digester;" : Cond) ∈ wsX18_keepFour := List.mem_of_getElem? (i := 1) rfl
theorem iwd_X18_keepFour_X18 : ∀ w ∈ wsX180, w ∈ wsX18_keepFour := fun _ h => List.mem_cons_of_mem _ (List.mem_append_left _ (List.mem_append_right _ h))
set_option maxHeartbeats 4000000 in
set_option maxRecDepth 100000 in
theorem de_X18_keepFour (l : Launch) (dC : Nat → ClassId) (dI : Nat → Nat → Nat) (cy : Nat → ClassId) (a : Nat → Nat) (sh : Nat → Nat × Nat) (n sz : Nat) (F : Nat) (sk : Nat → Nat) (z : St) (h0 : Nat) (x0 : Nat) {z8 : St} {r8 : Unit} (hf : fn_X18_keepFour F sh n z h0 x0 = some (z8, r8)) : Met l yX18_keepFour wsX18_keepFour ({ frames := 3, cells := 0, slots := 0, locals := 86 }) (va_Pc [.ref (a h0), .ref (a x0)] (fun U => U.heap.size = sz ∧ va_P (dC, dI) vwCl (Wd cy a sh n z) U.heap ∧ va_K (dC, dI) vwCl (TYS cy) U ∧ va_D (fun _ => True) (Wd cy a sh n z) ∧ NK U ∧ SKs sk (a CBK) (va_A (Wd cy a sh n z) sz) U U.heap)) (va_Qv (fun u : Unit => True) (fun u t => va_P (dC, dI) vwCl (Wd cy a sh n z8) t.heap ∧ va_K (dC, dI) vwCl (TYS cy) t ∧ va_D (va_A (Wd cy a sh n z) sz) (Wd cy a sh n z8)) (va_A (Wd cy a sh n z) sz)) 0 0 (va_A (Wd cy a sh n z) sz) := by
  refine Met.ofW (cc := cX18_keepFour) (maxL := 3) (ret := none) (by decide) rfl ?_
  intro p e s m args below meth c s₁ B hml hv
  obtain ⟨rfl, hsz, hP, hK, hD0, hN, hSK⟩ := hv
  have hx := B.exec
  have hb := B.bytes
  have hr := B.returns
  have hts := atoms_spec (ws := wsX18_keepFour) B.pre
  have hown : s.vm.findClass RX18 = some m.cls := findClass_of_methodNamed B.named
  have hlocks := B.notSynchronized
  subst hsz
  have hD := hD0.self (sz := s.heap.size)
  clear hD0
  generalize hAe : va_A (Wd cy a sh n z) s.heap.size = A at hD hSK ⊢
  have hA : ∀ q : Nat, s.heap.size ≤ q → A q := fun q h => by rw [← hAe]; exact Or.inr h
  clear hAe
  have hS : va_S A s.heap s.heap [] := va_S.rf
  have hl := lv_entry ([.ref (a h0), .ref (a x0)]) (n := 3) (Nat.le_of_ble_eq_true rfl)
  rw [lg_entry_eq]
  generalize (lg_sl ([.ref (a h0), .ref (a x0)]) ++ List.replicate (3 - (lg_sl ([.ref (a h0), .ref (a x0)])).length) Slot.unset).toArray = ls at hl ⊢
  replace hl : lv_has ls 3 [(0, .ref (a h0)), (1, .ref (a x0))] := hl
  unfold fn_X18_keepFour at hf
  refine de_start hS hP (fun H locs hS hP => ?_)
  refine lv_aload_n hx hb dX18_keepFour_0 rfl (lv_at hl 0 rfl) ?_
  obtain ⟨g_1, hf⟩ := grd_some hf
  obtain ⟨kg_1, sg_1⟩ := okO_at g_1
  obtain ⟨k_2, ek_2, hf⟩ := lnk_some hf
  refine va_get (D := (dC, dI)) (ci := 18) (v := .ref (a k_2)) (C := RX18) (T := TX18) (N := 78) hx hb hts iwd_X18_keepFour_X18 hown hK hP h0 (Wd_ob kg_1 sg_1 (by decide)) rfl 18 (by decide) (hts _ md_X18_keepFour_1) (fun _ h9 => h9) (fl_q rfl ek_2) dX18_keepFour_1 ?_
  obtain ⟨g_4, hf⟩ := grd_some hf
  obtain ⟨kg_4, sg_4⟩ := okO_at g_4
  obtain ⟨z_3, _u, hfc, hf⟩ := cal_some hf
  have hFc := de_free hD hS hA
  refine va_callv (va_runV (As := []) (rest := []) ⟨hx, hb, hml, hown, hts⟩ (de_X12_end l dC dI cy a sh n H.size F sk z k_2 hfc) (cwV 0 hts gX18_keepFour_X12_end rfl rfl rfl (by decide +kernel) ⟨Nat.le_of_ble_eq_true rfl, Nat.le_of_ble_eq_true rfl⟩) ⟨fun a U g mk q => by obtain ⟨q0, q1, qP, qK, qD, qN, qS⟩ := q; exact ⟨q0, q1, qP, va_K.moved (u := U) (U := U.calling g mk a) (Vm.Alike.refl U.vm) qK, qD, qN.same rfl, SKs.moved (u := U) (U := U.calling g mk a) (Vm.Alike.refl U.vm) qS⟩, va_recv hK hP (ci := 12) (q0 := k_2) rfl (Wd_ob kg_4 sg_4 (by decide)), fun U hU hW => ⟨rfl, by rw [hU], by rw [hU]; exact hP, va_K.moved hW.alike hK, hD.weaken (fun _ _ _ _ => trivial), hN.warm hW, by rw [hU]; exact ((hSK.kept hS.2.1).narrow hFc).moved hW.alike⟩⟩ rfl rfl hl.1 rfl (lv_room (Nat.le_of_ble_eq_true rfl)) dX18_keepFour_4 ⟨Nat.le_of_ble_eq_true rfl, Nat.le_of_ble_eq_true rfl⟩) hS (fun q _ h => hFc q h) hFc (fun u t H_5 locs ht hvm hw hB hz1 hk1 hS2 => ?_)
  obtain ⟨hP1, -, hD1⟩ := hB
  rw [ht] at hP1
  replace hD := hD1.weaken (fun _ _ _ h => hFc _ h)
  replace hP := hP1
  replace hS := hS2
  clear hP1 hD1 hS2 hFc hfc hz1 hk1 hvm ht
  refine lv_iconst (v := 0) hx hb dX18_keepFour_7 (by decide) ?_
  refine lv_istore_n (lv' := [(2, .int 0), (0, .ref (a h0)), (1, .ref (a x0))]) hx hb dX18_keepFour_8 rfl hl (by decide) rfl (fun ls hl2 => ?_)
  replace hl := hl2
  clear hl2
  have hl0 : lv_has ls 3 [(2, .int 0), (0, .ref (a h0)), (1, .ref (a x0))] := lv_sub hl [0, 1, 2] rfl
  refine de_loop (h := 9) (fun (x : St × Int32) ls H locs => lv_has ls 3 [(2, .int x.2), (0, .ref (a h0)), (1, .ref (a x0))] ∧ va_P (dC, dI) vwCl (Wd cy a sh n x.1) H ∧ va_D A (Wd cy a sh n x.1) ∧ va_S A s.heap H locs) (fun f x => fn_X18_keepFour_L9 F sh n h0 x0 f x.1 x.2) (z8, r8) ?_ (fun _ => rfl) F (z_3, 0) ls H_5 locs ⟨hl0, hP, hD, hS⟩ hf
  intro f_8 x ls H locs ih9 hI hf
  obtain ⟨z_7, p_6⟩ := x
  obtain ⟨hl2, hP2, hD2, hS2⟩ := hI
  replace hl : lv_has ls 3 [(2, .int p_6), (0, .ref (a h0)), (1, .ref (a x0))] := hl2
  replace hP := hP2
  replace hD := hD2
  replace hS := hS2
  clear hl2 hP2 hD2 hS2 hl0
  replace hf := fn_X18_keepFour_L9_s hf
  refine lv_iload_n hx hb dX18_keepFour_9 rfl (lv_at hl 0 rfl) ?_
  refine lv_iconst (v := 4) hx hb dX18_keepFour_10 (by decide) ?_
  refine lv_icmp_ge (tgt := 31) hx hb dX18_keepFour_11 (by decide) (fun c_9 => ?_) (fun c_9 => ?_)
  · skip
    rw [if_pos c_9] at hf
    refine lv_aload_n hx hb dX18_keepFour_31 rfl (lv_at hl 1 rfl) ?_
    obtain ⟨k_10, ek_10, hf⟩ := lnk_some hf
    refine va_get (D := (dC, dI)) (ci := 18) (v := .ref (a k_10)) (C := RX18) (T := TX18) (N := 78) hx hb hts iwd_X18_keepFour_X18 hown hK hP h0 (Wd_ob kg_1 sg_1 (by decide)) rfl 18 (by decide) (hts _ md_X18_keepFour_1) (fun _ h9 => h9) (fl_q rfl ek_10) dX18_keepFour_32 ?_
    obtain ⟨g_12, hf⟩ := grd_some hf
    obtain ⟨kg_12, sg_12⟩ := okO_at g_12
    obtain ⟨z_11, _u, hfc, hf⟩ := cal_some hf
    have hFc := de_free hD hS hA
    refine va_callv (va_runV (As := []) (rest := []) ⟨hx, hb, hml, hown, hts⟩ (de_X12_begin l dC dI cy a sh n H.size F z_7 k_10 hfc) (cwV 0 hts gX18_keepFour_X12_begin rfl rfl rfl (by decide +kernel) ⟨Nat.le_of_ble_eq_true rfl, Nat.le_of_ble_eq_true rfl⟩) ⟨fun a U g mk q => by obtain ⟨q0, q1, qP, qK, qD, qN⟩ := q; exact ⟨q0, q1, qP, va_K.moved (u := U) (U := U.calling g mk a) (Vm.Alike.refl U.vm) qK, qD, qN.same rfl⟩, va_recv hK hP (ci := 12) (q0 := k_10) rfl (Wd_ob kg_12 sg_12 (by decide)), fun U hU hW => ⟨rfl, by rw [hU], by rw [hU]; exact hP, va_K.moved hW.alike hK, hD.weaken (fun _ _ _ _ => trivial), hN.warm hW⟩⟩ rfl rfl hl.1 rfl (lv_room (Nat.le_of_ble_eq_true rfl)) dX18_keepFour_35 ⟨Nat.le_of_ble_eq_true rfl, Nat.le_of_ble_eq_true rfl⟩) hS (fun q _ h => hFc q h) hFc (fun u t H_13 locs ht hvm hw hB hz1 hk1 hS2 => ?_)
    obtain ⟨hP1, -, hD1⟩ := hB
    rw [ht] at hP1
    replace hD := hD1.weaken (fun _ _ _ h => hFc _ h)
    replace hP := hP1
    replace hS := hS2
    clear hP1 hD1 hS2 hFc hfc hz1 hk1 hvm ht
    obtain ⟨h8, h9⟩ := ret_some hf
    rw [h8]
    exact W.vret hx hb hr (fun t ht hW => ⟨⟨(), rfl, trivial, by rw [ht]; exact hP, va_K.moved hW.alike hK, hD⟩, hS.F ht⟩) hS.2.2 dX18_keepFour_38
  · skip
    rw [if_neg c_9] at hf
    refine lv_aload_n hx hb dX18_keepFour_14 rfl (lv_at hl 2 rfl) ?_
    refine lv_iload_n hx hb dX18_keepFour_15 rfl (lv_at hl 0 rfl) ?_
    refine lv_aload_n hx hb dX18_keepFour_16 rfl (lv_at hl 1 rfl) ?_
    obtain ⟨k_14, ek_14, hf⟩ := lnk_some hf
    refine va_get (D := (dC, dI)) (ci := 18) (v := .ref (a k_14)) (C := RX18) (T := TX18) (N := 78) hx hb hts iwd_X18_keepFour_X18 hown hK hP h0 (Wd_ob kg_1 sg_1 (by decide)) rfl 18 (by decide) (hts _ md_X18_keepFour_1) (fun _ h9 => h9) (fl_q rfl ek_14) dX18_keepFour_17 ?_
    refine lv_iload_n hx hb dX18_keepFour_20 rfl (lv_at hl 0 rfl) ?_
    obtain ⟨g_17, hf⟩ := grd_some hf
    obtain ⟨kg_17, sg_17⟩ := okO_at g_17
    obtain ⟨z_15, r_16, hfc, hf⟩ := cal_some hf
    have hFc := de_free hD hS hA
    refine va_calll (va_runV (As := [.int p_6]) (rest := [.int p_6, .ref (a x0)]) ⟨hx, hb, hml, hown, hts⟩ (de_X12_four l dC dI cy a sh n H.size F z_7 k_14 p_6 hfc) (cwV 1 hts gX18_keepFour_X12_four rfl rfl rfl (by decide +kernel) ⟨Nat.le_of_ble_eq_true rfl, Nat.le_of_ble_eq_true rfl⟩) ⟨fun a U g mk q => by obtain ⟨q0, q1, qP, qK, qD, qN⟩ := q; exact ⟨q0, q1, qP, va_K.moved (u := U) (U := U.calling g mk a) (Vm.Alike.refl U.vm) qK, qD, qN.same rfl⟩, va_recv hK hP (ci := 12) (q0 := k_14) rfl (Wd_ob kg_17 sg_17 (by decide)), fun U hU hW => ⟨rfl, by rw [hU], by rw [hU]; exact hP, va_K.moved hW.alike hK, hD.weaken (fun _ _ _ _ => trivial), hN.warm hW⟩⟩ rfl rfl hl.1 rfl (lv_room (Nat.le_of_ble_eq_true rfl)) dX18_keepFour_21 ⟨Nat.le_of_ble_eq_true rfl, Nat.le_of_ble_eq_true rfl⟩) hS (fun q _ h => hFc q h) hFc (fun rr u t H_18 locs ht hvm hw hB hz1 hk1 hS2 => ?_)
    rw [hw]
    clear hw
    obtain ⟨hP1, -, hD1⟩ := hB
    rw [ht] at hP1
    replace hD := hD1.weaken (fun _ _ _ h => hFc _ h)
    replace hP := hP1
    replace hS := hS2
    clear hP1 hD1 hS2 hFc hfc hz1 hk1 hvm ht
    obtain ⟨g_19, hf⟩ := grd_some hf
    obtain ⟨kg_19, sg_19, ig_19⟩ := okA_at g_19
    refine va_last hx hb hK hP hD hS x0 2 (Wd_al kg_19 sg_19) rfl ig_19 dX18_keepFour_24 (fun H_20 locs hP2 hD2 hS2 => ?_)
    rw [Wd_tl sg_19] at hP2 hD2
    obtain ⟨z_21, ez_21⟩ : ∃ w, w = sl z_15 x0 p_6.toNatClampNeg r_16 := ⟨_, rfl⟩
    rw [← ez_21] at hP2 hD2
    replace hf := lt_at ez_21 hf
    clear ez_21
    replace hP := hP2
    replace hD := hD2
    replace hS := hS2
    clear hP2 hD2 hS2
    refine lv_iinc (v := (p_6 + 1)) (lv' := [(2, .int (p_6 + 1)), (0, .ref (a h0)), (1, .ref (a x0))]) hx hb dX18_keepFour_25 hl (k := 0) rfl rfl (by decide) rfl (fun ls hl2 => ?_)
    replace hl := hl2
    clear hl2
    refine lv_goto (tgt := 9) hx hb dX18_keepFour_28 (by decide) ?_
    exact ih9 (z_21, (p_6 + 1)) ls H_20 locs ⟨lv_sub hl [0, 1, 2] rfl, hP, hD, hS⟩ hf

theorem md_X16_field_1 : (.fieldLink RX16 13 "ResourceLedgerModel$Unit" "structureAt" "[I" : Cond) ∈ wsX16_field := List.mem_of_getElem? (i := 1) rfl
theorem iwd_X16_field_X16 : ∀ w ∈ wsX160, w ∈ wsX16_field := fun _ h => List.mem_cons_of_mem _ (List.mem_append_right _ h)
set_option maxHeartbeats 4000000 in
set_option maxRecDepth 100000 in
theorem de_X16_field (l : Launch) (dC : Nat → ClassId) (dI : Nat → Nat → Nat) (cy : Nat → ClassId) (a : Nat → Nat) (sh : Nat → Nat × Nat) (n sz : Nat) (F : Nat) (z : St) (h0 : Nat) (x0 : Int32) (x1 : Int32) {z8 : St} {r8 : Int64} (hf : fn_X16_field F sh n z h0 x0 x1 = some (z8, r8)) : Met l yX16_field wsX16_field ({ frames := 3, cells := 0, slots := 0, locals := 67 }) (va_Pc [.ref (a h0), .int x0, .int x1] (fun U => U.heap.size = sz ∧ va_P (dC, dI) vwCl (Wd cy a sh n z) U.heap ∧ va_K (dC, dI) vwCl (TYS cy) U ∧ va_D (fun _ => True) (Wd cy a sh n z) ∧ NK U)) (va_Ql (fun (r9 : Int64) (u : Unit) => r9 = r8) (fun u t => va_P (dC, dI) vwCl (Wd cy a sh n z8) t.heap ∧ va_K (dC, dI) vwCl (TYS cy) t ∧ va_D (va_A (Wd cy a sh n z) sz) (Wd cy a sh n z8)) (va_A (Wd cy a sh n z) sz)) 0 0 (va_A (Wd cy a sh n z) sz) := by
  refine Met.ofW (cc := cX16_field) (maxL := 5) (ret := (some .long)) (by decide) rfl ?_
  intro p e s m args below meth c s₁ B hml hv
  obtain ⟨rfl, hsz, hP, hK, hD0, hN⟩ := hv
  have hx := B.exec
  have hb := B.bytes
  have hr := B.returns
  have hts := atoms_spec (ws := wsX16_field) B.pre
  have hown : s.vm.findClass RX16 = some m.cls := findClass_of_methodNamed B.named
  have hlocks := B.notSynchronized
  subst hsz
  have hD := hD0.self (sz := s.heap.size)
  clear hD0
  generalize hAe : va_A (Wd cy a sh n z) s.heap.size = A at hD ⊢
  have hA : ∀ q : Nat, s.heap.size ≤ q → A q := fun q h => by rw [← hAe]; exact Or.inr h
  clear hAe
  have hS : va_S A s.heap s.heap [] := va_S.rf
  have hl := lv_entry ([.ref (a h0), .int x0, .int x1]) (n := 5) (Nat.le_of_ble_eq_true rfl)
  rw [lg_entry_eq]
  generalize (lg_sl ([.ref (a h0), .int x0, .int x1]) ++ List.replicate (5 - (lg_sl ([.ref (a h0), .int x0, .int x1])).length) Slot.unset).toArray = ls at hl ⊢
  replace hl : lv_has ls 5 [(0, .ref (a h0)), (1, .int x0), (2, .int x1)] := hl
  unfold fn_X16_field at hf
  refine de_start hS hP (fun H locs hS hP => ?_)
  refine lv_aload_n hx hb dX16_field_0 rfl (lv_at hl 0 rfl) ?_
  obtain ⟨g_1, hf⟩ := grd_some hf
  obtain ⟨kg_1, sg_1⟩ := okO_at g_1
  obtain ⟨k_2, ek_2, hf⟩ := lnk_some hf
  refine va_get (D := (dC, dI)) (ci := 16) (v := .ref (a k_2)) (C := RX16) (T := TX16) (N := 18) hx hb hts iwd_X16_field_X16 hown hK hP h0 (Wd_ob kg_1 sg_1 (by decide)) rfl 11 (by decide) (hts _ md_X16_field_1) (fun _ h9 => h9) (fl_q rfl ek_2) dX16_field_1 ?_
  refine lv_iload_n hx hb dX16_field_4 rfl (lv_at hl 1 rfl) ?_
  obtain ⟨g_3, hf⟩ := grd_some hf
  obtain ⟨kg_3, sg_3, ig_3⟩ := okA_at g_3
  refine va_iald hx hb hK hP k_2 1 (Wd_ai kg_3 sg_3) rfl ig_3 dX16_field_5 ?_
  refine lv_iconst (v := 2) hx hb dX16_field_6 (by decide) ?_
  refine lv_iadd hx hb dX16_field_7 ?_
  refine lv_topi (fun v_4 ev_4 => ?_)
  replace hf := lt_at ev_4 hf
  clear ev_4
  refine lv_istore_n (lv' := [(3, .int v_4), (0, .ref (a h0)), (1, .int x0), (2, .int x1)]) hx hb dX16_field_8 rfl hl (by decide) rfl (fun ls hl2 => ?_)
  replace hl := hl2
  clear hl2
  refine lv_iconst (v := 0) hx hb dX16_field_9 (by decide) ?_
  refine lv_istore (lv' := [(4, .int 0), (3, .int v_4), (0, .ref (a h0)), (1, .int x0), (2, .int x1)]) hx hb dX16_field_10 hl (by decide) rfl (fun ls hl2 => ?_)
  replace hl := hl2
  clear hl2
  have hl0 : lv_has ls 5 [(4, .int 0), (3, .int v_4), (0, .ref (a h0)), (2, .int x1)] := lv_sub hl [0, 1, 2, 4] rfl
  refine de_loop (h := 12) (fun (x : St × Int32 × Int32) ls H locs => lv_has ls 5 [(4, .int x.2.2), (3, .int x.2.1), (0, .ref (a h0)), (2, .int x1)] ∧ va_P (dC, dI) vwCl (Wd cy a sh n x.1) H ∧ va_D A (Wd cy a sh n x.1) ∧ va_S A s.heap H locs) (fun f x => fn_X16_field_L12 F sh n x1 h0 f x.1 x.2.1 x.2.2) (z8, r8) ?_ (fun _ => rfl) F (z, v_4, 0) ls H locs ⟨hl0, hP, hD, hS⟩ hf
  intro f_8 x ls H locs ih12 hI hf
  obtain ⟨z_7, p_5, p_6⟩ := x
  obtain ⟨hl2, hP2, hD2, hS2⟩ := hI
  replace hl : lv_has ls 5 [(4, .int p_6), (3, .int p_5), (0, .ref (a h0)), (2, .int x1)] := hl2
  replace hP := hP2
  replace hD := hD2
  replace hS := hS2
  clear hl2 hP2 hD2 hS2 hl0
  replace hf := fn_X16_field_L12_s hf
  refine lv_iload hx hb dX16_field_12 (lv_at hl 0 rfl) ?_
  refine lv_iload_n hx hb dX16_field_14 rfl (lv_at hl 3 rfl) ?_
  refine lv_icmp_ge (tgt := 30) hx hb dX16_field_15 (by decide) (fun c_9 => ?_) (fun c_9 => ?_)
  · skip
    rw [if_pos c_9] at hf
    refine lv_aload_n hx hb dX16_field_30 rfl (lv_at hl 2 rfl) ?_
    refine lv_iload_n hx hb dX16_field_31 rfl (lv_at hl 1 rfl) ?_
    obtain ⟨z_10, r_11, hfc, hf⟩ := cal_some hf
    have hFc := de_free hD hS hA
    refine va_calll (va_runV (As := [.int p_5]) (rest := []) ⟨hx, hb, hml, hown, hts⟩ (de_X16_typeAt l dC dI cy a sh n H.size F z_7 h0 p_5 hfc) (cwV 1 hts gX16_field_X16_typeAt rfl rfl rfl (by decide +kernel) ⟨Nat.le_of_ble_eq_true rfl, Nat.le_of_ble_eq_true rfl⟩) ⟨fun a U g mk q => by obtain ⟨q0, q1, qP, qK, qD, qN⟩ := q; exact ⟨q0, q1, qP, va_K.moved (u := U) (U := U.calling g mk a) (Vm.Alike.refl U.vm) qK, qD, qN.same rfl⟩, va_recv hK hP (ci := 16) (q0 := h0) rfl (Wd_ob kg_1 sg_1 (by decide)), fun U hU hW => ⟨rfl, by rw [hU], by rw [hU]; exact hP, va_K.moved hW.alike hK, hD.weaken (fun _ _ _ _ => trivial), hN.warm hW⟩⟩ rfl rfl hl.1 rfl (lv_room (Nat.le_of_ble_eq_true rfl)) dX16_field_32 ⟨Nat.le_of_ble_eq_true rfl, Nat.le_of_ble_eq_true rfl⟩) hS (fun q _ h => hFc q h) hFc (fun rr u t H_12 locs ht hvm hw hB hz1 hk1 hS2 => ?_)
    rw [hw]
    clear hw
    obtain ⟨hP1, -, hD1⟩ := hB
    rw [ht] at hP1
    replace hD := hD1.weaken (fun _ _ _ h => hFc _ h)
    replace hP := hP1
    replace hS := hS2
    clear hP1 hD1 hS2 hFc hfc hz1 hk1 hvm ht
    obtain ⟨h8, h9⟩ := ret_some hf
    rw [h8, h9]
    exact W.lret (v := r_11) hx hb hr (fun t ht hW => ⟨⟨r_11, (), rfl, rfl, by rw [ht]; exact hP, va_K.moved hW.alike hK, hD⟩, hS.F ht⟩) hS.2.2 dX16_field_35
  · skip
    rw [if_neg c_9] at hf
    refine lv_aload_n hx hb dX16_field_18 rfl (lv_at hl 2 rfl) ?_
    refine lv_iload_n hx hb dX16_field_19 rfl (lv_at hl 1 rfl) ?_
    obtain ⟨z_13, r_14, hfc, hf⟩ := cal_some hf
    have hFc := de_free hD hS hA
    refine va_calli (va_runV (As := [.int p_5]) (rest := []) ⟨hx, hb, hml, hown, hts⟩ (de_X16_typeEnd l dC dI cy a sh n H.size F z_7 h0 p_5 hfc) (cwV 1 hts gX16_field_X16_typeEnd rfl rfl rfl (by decide +kernel) ⟨Nat.le_of_ble_eq_true rfl, Nat.le_of_ble_eq_true rfl⟩) ⟨fun a U g mk q => by obtain ⟨q0, q1, qP, qK, qD, qN⟩ := q; exact ⟨q0, q1, qP, va_K.moved (u := U) (U := U.calling g mk a) (Vm.Alike.refl U.vm) qK, qD, qN.same rfl⟩, va_recv hK hP (ci := 16) (q0 := h0) rfl (Wd_ob kg_1 sg_1 (by decide)), fun U hU hW => ⟨rfl, by rw [hU], by rw [hU]; exact hP, va_K.moved hW.alike hK, hD.weaken (fun _ _ _ _ => trivial), hN.warm hW⟩⟩ rfl rfl hl.1 rfl (lv_room (Nat.le_of_ble_eq_true rfl)) dX16_field_20 ⟨Nat.le_of_ble_eq_true rfl, Nat.le_of_ble_eq_true rfl⟩) hS (fun q _ h => hFc q h) hFc (fun rr u t H_15 locs ht hvm hw hB hz1 hk1 hS2 => ?_)
    rw [hw]
    clear hw
    obtain ⟨hP1, -, hD1⟩ := hB
    rw [ht] at hP1
    replace hD := hD1.weaken (fun _ _ _ h => hFc _ h)
    replace hP := hP1
    replace hS := hS2
    clear hP1 hD1 hS2 hFc hfc hz1 hk1 hvm ht
    refine lv_istore_n (lv' := [(3, .int r_14), (4, .int p_6), (0, .ref (a h0)), (2, .int x1)]) hx hb dX16_field_23 rfl hl (by decide) rfl (fun ls hl2 => ?_)
    replace hl := hl2
    clear hl2
    refine lv_iinc (v := (p_6 + 1)) (lv' := [(4, .int (p_6 + 1)), (3, .int r_14), (0, .ref (a h0)), (2, .int x1)]) hx hb dX16_field_24 hl (k := 1) rfl rfl (by decide) rfl (fun ls hl2 => ?_)
    replace hl := hl2
    clear hl2
    refine lv_goto (tgt := 12) hx hb dX16_field_27 (by decide) ?_
    exact ih12 (z_13, r_14, (p_6 + 1)) ls H_15 locs ⟨lv_sub hl [0, 1, 2, 3] rfl, hP, hD, hS⟩ hf

theorem md_X14_keepHash_1 : (.fieldLink RX14 35 "ResourceLedgerModel$Roots" "digester" "LResourceLedgerModel$Digester;" : Cond) ∈ wsX14_keepHash := List.mem_of_getElem? (i := 1) rfl
theorem iwd_X14_keepHash_X14 : ∀ w ∈ wsX140, w ∈ wsX14_keepHash := fun _ h => List.mem_cons_of_mem _ (List.mem_append_left _ (List.mem_append_right _ h))
theorem md_X14_keepHash_2 : (.fieldLink RX14 26 "ResourceLedgerModel$Roots" "hashes" "[J" : Cond) ∈ wsX14_keepHash := List.mem_of_getElem? (i := 2) rfl
set_option maxHeartbeats 4000000 in
set_option maxRecDepth 100000 in
theorem de_X14_keepHash (l : Launch) (dC : Nat → ClassId) (dI : Nat → Nat → Nat) (cy : Nat → ClassId) (a : Nat → Nat) (sh : Nat → Nat × Nat) (n sz : Nat) (F : Nat) (sk : Nat → Nat) (z : St) (h0 : Nat) (x0 : Int32) {z8 : St} {r8 : Unit} (hf : fn_X14_keepHash F sh n z h0 x0 = some (z8, r8)) : Met l yX14_keepHash wsX14_keepHash ({ frames := 3, cells := 0, slots := 0, locals := 86 }) (va_Pc [.ref (a h0), .int x0] (fun U => U.heap.size = sz ∧ va_P (dC, dI) vwCl (Wd cy a sh n z) U.heap ∧ va_K (dC, dI) vwCl (TYS cy) U ∧ va_D (fun _ => True) (Wd cy a sh n z) ∧ NK U ∧ SKs sk (a CBK) (va_A (Wd cy a sh n z) sz) U U.heap)) (va_Qv (fun u : Unit => True) (fun u t => va_P (dC, dI) vwCl (Wd cy a sh n z8) t.heap ∧ va_K (dC, dI) vwCl (TYS cy) t ∧ va_D (va_A (Wd cy a sh n z) sz) (Wd cy a sh n z8)) (va_A (Wd cy a sh n z) sz)) 0 0 (va_A (Wd cy a sh n z) sz) := by
  refine Met.ofW (cc := cX14_keepHash) (maxL := 3) (ret := none) (by decide) rfl ?_
  intro p e s m args below meth c s₁ B hml hv
  obtain ⟨rfl, hsz, hP, hK, hD0, hN, hSK⟩ := hv
  have hx := B.exec
  have hb := B.bytes
  have hr := B.returns
  have hts := atoms_spec (ws := wsX14_keepHash) B.pre
  have hown : s.vm.findClass RX14 = some m.cls := findClass_of_methodNamed B.named
  have hlocks := B.notSynchronized
  subst hsz
  have hD := hD0.self (sz := s.heap.size)
  clear hD0
  generalize hAe : va_A (Wd cy a sh n z) s.heap.size = A at hD hSK ⊢
  have hA : ∀ q : Nat, s.heap.size ≤ q → A q := fun q h => by rw [← hAe]; exact Or.inr h
  clear hAe
  have hS : va_S A s.heap s.heap [] := va_S.rf
  have hl := lv_entry ([.ref (a h0), .int x0]) (n := 3) (Nat.le_of_ble_eq_true rfl)
  rw [lg_entry_eq]
  generalize (lg_sl ([.ref (a h0), .int x0]) ++ List.replicate (3 - (lg_sl ([.ref (a h0), .int x0])).length) Slot.unset).toArray = ls at hl ⊢
  replace hl : lv_has ls 3 [(0, .ref (a h0)), (1, .int x0)] := hl
  unfold fn_X14_keepHash at hf
  refine de_start hS hP (fun H locs hS hP => ?_)
  refine lv_aload_n hx hb dX14_keepHash_0 rfl (lv_at hl 0 rfl) ?_
  obtain ⟨g_1, hf⟩ := grd_some hf
  obtain ⟨kg_1, sg_1⟩ := okO_at g_1
  obtain ⟨k_2, ek_2, hf⟩ := lnk_some hf
  refine va_get (D := (dC, dI)) (ci := 14) (v := .ref (a k_2)) (C := RX14) (T := TX14) (N := 11) hx hb hts iwd_X14_keepHash_X14 hown hK hP h0 (Wd_ob kg_1 sg_1 (by decide)) rfl 10 (by decide) (hts _ md_X14_keepHash_1) (fun _ h9 => h9) (fl_q rfl ek_2) dX14_keepHash_1 ?_
  obtain ⟨g_4, hf⟩ := grd_some hf
  obtain ⟨kg_4, sg_4⟩ := okO_at g_4
  obtain ⟨z_3, _u, hfc, hf⟩ := cal_some hf
  have hFc := de_free hD hS hA
  refine va_callv (va_runV (As := []) (rest := []) ⟨hx, hb, hml, hown, hts⟩ (de_X12_end l dC dI cy a sh n H.size F sk z k_2 hfc) (cwV 0 hts gX14_keepHash_X12_end rfl rfl rfl (by decide +kernel) ⟨Nat.le_of_ble_eq_true rfl, Nat.le_of_ble_eq_true rfl⟩) ⟨fun a U g mk q => by obtain ⟨q0, q1, qP, qK, qD, qN, qS⟩ := q; exact ⟨q0, q1, qP, va_K.moved (u := U) (U := U.calling g mk a) (Vm.Alike.refl U.vm) qK, qD, qN.same rfl, SKs.moved (u := U) (U := U.calling g mk a) (Vm.Alike.refl U.vm) qS⟩, va_recv hK hP (ci := 12) (q0 := k_2) rfl (Wd_ob kg_4 sg_4 (by decide)), fun U hU hW => ⟨rfl, by rw [hU], by rw [hU]; exact hP, va_K.moved hW.alike hK, hD.weaken (fun _ _ _ _ => trivial), hN.warm hW, by rw [hU]; exact ((hSK.kept hS.2.1).narrow hFc).moved hW.alike⟩⟩ rfl rfl hl.1 rfl (lv_room (Nat.le_of_ble_eq_true rfl)) dX14_keepHash_4 ⟨Nat.le_of_ble_eq_true rfl, Nat.le_of_ble_eq_true rfl⟩) hS (fun q _ h => hFc q h) hFc (fun u t H_5 locs ht hvm hw hB hz1 hk1 hS2 => ?_)
  obtain ⟨hP1, -, hD1⟩ := hB
  rw [ht] at hP1
  replace hD := hD1.weaken (fun _ _ _ h => hFc _ h)
  replace hP := hP1
  replace hS := hS2
  clear hP1 hD1 hS2 hFc hfc hz1 hk1 hvm ht
  refine lv_iconst (v := 0) hx hb dX14_keepHash_7 (by decide) ?_
  refine lv_istore_n (lv' := [(2, .int 0), (0, .ref (a h0)), (1, .int x0)]) hx hb dX14_keepHash_8 rfl hl (by decide) rfl (fun ls hl2 => ?_)
  replace hl := hl2
  clear hl2
  have hl0 : lv_has ls 3 [(2, .int 0), (0, .ref (a h0)), (1, .int x0)] := lv_sub hl [0, 1, 2] rfl
  refine de_loop (h := 9) (fun (x : St × Int32) ls H locs => lv_has ls 3 [(2, .int x.2), (0, .ref (a h0)), (1, .int x0)] ∧ va_P (dC, dI) vwCl (Wd cy a sh n x.1) H ∧ va_D A (Wd cy a sh n x.1) ∧ va_S A s.heap H locs) (fun f x => fn_X14_keepHash_L9 F sh n h0 x0 f x.1 x.2) (z8, r8) ?_ (fun _ => rfl) F (z_3, 0) ls H_5 locs ⟨hl0, hP, hD, hS⟩ hf
  intro f_8 x ls H locs ih9 hI hf
  obtain ⟨z_7, p_6⟩ := x
  obtain ⟨hl2, hP2, hD2, hS2⟩ := hI
  replace hl : lv_has ls 3 [(2, .int p_6), (0, .ref (a h0)), (1, .int x0)] := hl2
  replace hP := hP2
  replace hD := hD2
  replace hS := hS2
  clear hl2 hP2 hD2 hS2 hl0
  replace hf := fn_X14_keepHash_L9_s hf
  refine lv_iload_n hx hb dX14_keepHash_9 rfl (lv_at hl 0 rfl) ?_
  refine lv_iconst (v := 4) hx hb dX14_keepHash_10 (by decide) ?_
  refine lv_icmp_ge (tgt := 38) hx hb dX14_keepHash_11 (by decide) (fun c_9 => ?_) (fun c_9 => ?_)
  · skip
    rw [if_pos c_9] at hf
    obtain ⟨h8, h9⟩ := ret_some hf
    rw [h8]
    exact W.vret hx hb hr (fun t ht hW => ⟨⟨(), rfl, trivial, by rw [ht]; exact hP, va_K.moved hW.alike hK, hD⟩, hS.F ht⟩) hS.2.2 dX14_keepHash_38
  · skip
    rw [if_neg c_9] at hf
    refine lv_aload_n hx hb dX14_keepHash_14 rfl (lv_at hl 1 rfl) ?_
    obtain ⟨k_10, ek_10, hf⟩ := lnk_some hf
    refine va_get (D := (dC, dI)) (ci := 14) (v := .ref (a k_10)) (C := RX14) (T := TX14) (N := 11) hx hb hts iwd_X14_keepHash_X14 hown hK hP h0 (Wd_ob kg_1 sg_1 (by decide)) rfl 6 (by decide) (hts _ md_X14_keepHash_2) (fun _ h9 => h9) (fl_q rfl ek_10) dX14_keepHash_15 ?_
    refine lv_iconst (v := 4) hx hb dX14_keepHash_18 (by decide) ?_
    refine lv_iload_n hx hb dX14_keepHash_19 rfl (lv_at hl 2 rfl) ?_
    refine lv_imul hx hb dX14_keepHash_20 ?_
    refine lv_iload_n hx hb dX14_keepHash_21 rfl (lv_at hl 0 rfl) ?_
    refine lv_iadd hx hb dX14_keepHash_22 ?_
    refine lv_aload_n hx hb dX14_keepHash_23 rfl (lv_at hl 1 rfl) ?_
    obtain ⟨k_11, ek_11, hf⟩ := lnk_some hf
    refine va_get (D := (dC, dI)) (ci := 14) (v := .ref (a k_11)) (C := RX14) (T := TX14) (N := 11) hx hb hts iwd_X14_keepHash_X14 hown hK hP h0 (Wd_ob kg_1 sg_1 (by decide)) rfl 10 (by decide) (hts _ md_X14_keepHash_1) (fun _ h9 => h9) (fl_q rfl ek_11) dX14_keepHash_24 ?_
    refine lv_iload_n hx hb dX14_keepHash_27 rfl (lv_at hl 0 rfl) ?_
    obtain ⟨g_14, hf⟩ := grd_some hf
    obtain ⟨kg_14, sg_14⟩ := okO_at g_14
    obtain ⟨z_12, r_13, hfc, hf⟩ := cal_some hf
    have hFc := de_free hD hS hA
    refine va_calll (va_runV (As := [.int p_6]) (rest := [.int ((4 * x0) + p_6), .ref (a k_10)]) ⟨hx, hb, hml, hown, hts⟩ (de_X12_four l dC dI cy a sh n H.size F z_7 k_11 p_6 hfc) (cwV 1 hts gX14_keepHash_X12_four rfl rfl rfl (by decide +kernel) ⟨Nat.le_of_ble_eq_true rfl, Nat.le_of_ble_eq_true rfl⟩) ⟨fun a U g mk q => by obtain ⟨q0, q1, qP, qK, qD, qN⟩ := q; exact ⟨q0, q1, qP, va_K.moved (u := U) (U := U.calling g mk a) (Vm.Alike.refl U.vm) qK, qD, qN.same rfl⟩, va_recv hK hP (ci := 12) (q0 := k_11) rfl (Wd_ob kg_14 sg_14 (by decide)), fun U hU hW => ⟨rfl, by rw [hU], by rw [hU]; exact hP, va_K.moved hW.alike hK, hD.weaken (fun _ _ _ _ => trivial), hN.warm hW⟩⟩ rfl rfl hl.1 rfl (lv_room (Nat.le_of_ble_eq_true rfl)) dX14_keepHash_28 ⟨Nat.le_of_ble_eq_true rfl, Nat.le_of_ble_eq_true rfl⟩) hS (fun q _ h => hFc q h) hFc (fun rr u t H_15 locs ht hvm hw hB hz1 hk1 hS2 => ?_)
    rw [hw]
    clear hw
    obtain ⟨hP1, -, hD1⟩ := hB
    rw [ht] at hP1
    replace hD := hD1.weaken (fun _ _ _ h => hFc _ h)
    replace hP := hP1
    replace hS := hS2
    clear hP1 hD1 hS2 hFc hfc hz1 hk1 hvm ht
    obtain ⟨g_16, hf⟩ := grd_some hf
    obtain ⟨kg_16, sg_16, ig_16⟩ := okA_at g_16
    refine va_last hx hb hK hP hD hS k_10 2 (Wd_al kg_16 sg_16) rfl ig_16 dX14_keepHash_31 (fun H_17 locs hP2 hD2 hS2 => ?_)
    rw [Wd_tl sg_16] at hP2 hD2
    obtain ⟨z_18, ez_18⟩ : ∃ w, w = sl z_12 k_10 ((4 * x0) + p_6).toNatClampNeg r_13 := ⟨_, rfl⟩
    rw [← ez_18] at hP2 hD2
    replace hf := lt_at ez_18 hf
    clear ez_18
    replace hP := hP2
    replace hD := hD2
    replace hS := hS2
    clear hP2 hD2 hS2
    refine lv_iinc (v := (p_6 + 1)) (lv' := [(2, .int (p_6 + 1)), (0, .ref (a h0)), (1, .int x0)]) hx hb dX14_keepHash_32 hl (k := 0) rfl rfl (by decide) rfl (fun ls hl2 => ?_)
    replace hl := hl2
    clear hl2
    refine lv_goto (tgt := 9) hx hb dX14_keepHash_35 (by decide) ?_
    exact ih9 (z_18, (p_6 + 1)) ls H_17 locs ⟨lv_sub hl [0, 1, 2] rfl, hP, hD, hS⟩ hf

theorem md_X3_set_1 : (.constantLong RX3 190 (2) : Cond) ∈ wsX3_set := List.mem_of_getElem? (i := 1) rfl
theorem md_X3_set_2 : (.constantLong RX3 219 (3) : Cond) ∈ wsX3_set := List.mem_of_getElem? (i := 2) rfl
theorem md_X3_set_3 : (.constantLong RX3 192 (4) : Cond) ∈ wsX3_set := List.mem_of_getElem? (i := 3) rfl
theorem md_X3_set_4 : (.constantLong RX3 236 (5) : Cond) ∈ wsX3_set := List.mem_of_getElem? (i := 4) rfl
set_option maxHeartbeats 4000000 in
set_option maxRecDepth 100000 in
theorem de_X3_set (l : Launch) (dC : Nat → ClassId) (dI : Nat → Nat → Nat) (cy : Nat → ClassId) (a : Nat → Nat) (sh : Nat → Nat × Nat) (n sz : Nat) (F : Nat) (z : St) (h0 : Nat) (x0 : Int32) {z8 : St} {r8 : Unit} (hf : fn_X3_set F sh n z h0 x0 = some (z8, r8)) : Met l yX3_set wsX3_set ({ frames := 3, cells := 0, slots := 0, locals := 68 }) (va_Pc [.ref (a h0), .int x0] (fun U => U.heap.size = sz ∧ va_P (dC, dI) vwCl (Wd cy a sh n z) U.heap ∧ va_K (dC, dI) vwCl (TYS cy) U ∧ va_D (fun _ => True) (Wd cy a sh n z) ∧ NK U)) (va_Qv (fun u : Unit => True) (fun u t => va_P (dC, dI) vwCl (Wd cy a sh n z8) t.heap ∧ va_K (dC, dI) vwCl (TYS cy) t ∧ va_D (va_A (Wd cy a sh n z) sz) (Wd cy a sh n z8)) (va_A (Wd cy a sh n z) sz)) 0 0 (va_A (Wd cy a sh n z) sz) := by
  refine Met.ofW (cc := cX3_set) (maxL := 2) (ret := none) (by decide) rfl ?_
  intro p e s m args below meth c s₁ B hml hv
  obtain ⟨rfl, hsz, hP, hK, hD0, hN⟩ := hv
  have hx := B.exec
  have hb := B.bytes
  have hr := B.returns
  have hts := atoms_spec (ws := wsX3_set) B.pre
  have hown : s.vm.findClass RX3 = some m.cls := findClass_of_methodNamed B.named
  have hlocks := B.notSynchronized
  subst hsz
  have hD := hD0.self (sz := s.heap.size)
  clear hD0
  generalize hAe : va_A (Wd cy a sh n z) s.heap.size = A at hD ⊢
  have hA : ∀ q : Nat, s.heap.size ≤ q → A q := fun q h => by rw [← hAe]; exact Or.inr h
  clear hAe
  have hS : va_S A s.heap s.heap [] := va_S.rf
  have hl := lv_entry ([.ref (a h0), .int x0]) (n := 2) (Nat.le_of_ble_eq_true rfl)
  rw [lg_entry_eq]
  generalize (lg_sl ([.ref (a h0), .int x0]) ++ List.replicate (2 - (lg_sl ([.ref (a h0), .int x0])).length) Slot.unset).toArray = ls at hl ⊢
  replace hl : lv_has ls 2 [(0, .ref (a h0)), (1, .int x0)] := hl
  unfold fn_X3_set at hf
  refine de_start hS hP (fun H locs hS hP => ?_)
  refine lv_iload_n hx hb dX3_set_0 rfl (lv_at hl 1 rfl) ?_
  by_cases c_1 : x0 = 5
  · skip
    rw [if_pos c_1] at hf
    refine lv_lookup (tgt := 68) hx hb dX3_set_1 (by decide) (by rw [c_1]) (by decide) ?_
    refine lv_aload_n hx hb dX3_set_68 rfl (lv_at hl 0 rfl) ?_
    refine lv_ldc2 hx hb hown (hts _ md_X3_set_1) dX3_set_69 ?_
    obtain ⟨g_3, hf⟩ := grd_some hf
    obtain ⟨kg_3, sg_3⟩ := okO_at g_3
    obtain ⟨z_2, _u, hfc, hf⟩ := cal_some hf
    have hFc := de_free hD hS hA
    refine va_callv (va_runV (As := [.long 2]) (rest := []) ⟨hx, hb, hml, hown, hts⟩ (de_X3_put l dC dI cy a sh n H.size F z h0 2 hfc) (cwV 1 hts gX3_set_X3_put rfl rfl rfl (by decide +kernel) ⟨Nat.le_of_ble_eq_true rfl, Nat.le_of_ble_eq_true rfl⟩) ⟨fun a U g mk q => by obtain ⟨q0, q1, qP, qK, qD, qN⟩ := q; exact ⟨q0, q1, qP, va_K.moved (u := U) (U := U.calling g mk a) (Vm.Alike.refl U.vm) qK, qD, qN.same rfl⟩, va_recv hK hP (ci := 3) (q0 := h0) rfl (Wd_ob kg_3 sg_3 (by decide)), fun U hU hW => ⟨rfl, by rw [hU], by rw [hU]; exact hP, va_K.moved hW.alike hK, hD.weaken (fun _ _ _ _ => trivial), hN.warm hW⟩⟩ rfl rfl hl.1 rfl (lv_room (Nat.le_of_ble_eq_true rfl)) dX3_set_72 ⟨Nat.le_of_ble_eq_true rfl, Nat.le_of_ble_eq_true rfl⟩) hS (fun q _ h => hFc q h) hFc (fun u t H_4 locs ht hvm hw hB hz1 hk1 hS2 => ?_)
    obtain ⟨hP1, -, hD1⟩ := hB
    rw [ht] at hP1
    replace hD := hD1.weaken (fun _ _ _ h => hFc _ h)
    replace hP := hP1
    replace hS := hS2
    clear hP1 hD1 hS2 hFc hfc hz1 hk1 hvm ht
    refine lv_goto (tgt := 116) hx hb dX3_set_75 (by decide) ?_
    obtain ⟨h8, h9⟩ := ret_some hf
    rw [h8]
    exact W.vret hx hb hr (fun t ht hW => ⟨⟨(), rfl, trivial, by rw [ht]; exact hP, va_K.moved hW.alike hK, hD⟩, hS.F ht⟩) hS.2.2 dX3_set_116
  rw [if_neg c_1] at hf
  by_cases c_5 : x0 = 6
  · skip
    rw [if_pos c_5] at hf
    refine lv_lookup (tgt := 78) hx hb dX3_set_1 (by decide) (by rw [c_5]) (by decide) ?_
    refine lv_aload_n hx hb dX3_set_78 rfl (lv_at hl 0 rfl) ?_
    refine lv_ldc2 hx hb hown (hts _ md_X3_set_2) dX3_set_79 ?_
    obtain ⟨g_7, hf⟩ := grd_some hf
    obtain ⟨kg_7, sg_7⟩ := okO_at g_7
    obtain ⟨z_6, _u, hfc, hf⟩ := cal_some hf
    have hFc := de_free hD hS hA
    refine va_callv (va_runV (As := [.long 3]) (rest := []) ⟨hx, hb, hml, hown, hts⟩ (de_X3_put l dC dI cy a sh n H.size F z h0 3 hfc) (cwV 1 hts gX3_set_X3_put rfl rfl rfl (by decide +kernel) ⟨Nat.le_of_ble_eq_true rfl, Nat.le_of_ble_eq_true rfl⟩) ⟨fun a U g mk q => by obtain ⟨q0, q1, qP, qK, qD, qN⟩ := q; exact ⟨q0, q1, qP, va_K.moved (u := U) (U := U.calling g mk a) (Vm.Alike.refl U.vm) qK, qD, qN.same rfl⟩, va_recv hK hP (ci := 3) (q0 := h0) rfl (Wd_ob kg_7 sg_7 (by decide)), fun U hU hW => ⟨rfl, by rw [hU], by rw [hU]; exact hP, va_K.moved hW.alike hK, hD.weaken (fun _ _ _ _ => trivial), hN.warm hW⟩⟩ rfl rfl hl.1 rfl (lv_room (Nat.le_of_ble_eq_true rfl)) dX3_set_82 ⟨Nat.le_of_ble_eq_true rfl, Nat.le_of_ble_eq_true rfl⟩) hS (fun q _ h => hFc q h) hFc (fun u t H_8 locs ht hvm hw hB hz1 hk1 hS2 => ?_)
    obtain ⟨hP1, -, hD1⟩ := hB
    rw [ht] at hP1
    replace hD := hD1.weaken (fun _ _ _ h => hFc _ h)
    replace hP := hP1
    replace hS := hS2
    clear hP1 hD1 hS2 hFc hfc hz1 hk1 hvm ht
    refine lv_goto (tgt := 116) hx hb dX3_set_85 (by decide) ?_
    obtain ⟨h8, h9⟩ := ret_some hf
    rw [h8]
    exact W.vret hx hb hr (fun t ht hW => ⟨⟨(), rfl, trivial, by rw [ht]; exact hP, va_K.moved hW.alike hK, hD⟩, hS.F ht⟩) hS.2.2 dX3_set_116
  rw [if_neg c_5] at hf
  by_cases c_9 : x0 = 7
  · skip
    rw [if_pos c_9] at hf
    refine lv_lookup (tgt := 88) hx hb dX3_set_1 (by decide) (by rw [c_9]) (by decide) ?_
    refine lv_aload_n hx hb dX3_set_88 rfl (lv_at hl 0 rfl) ?_
    refine lv_ldc2 hx hb hown (hts _ md_X3_set_3) dX3_set_89 ?_
    obtain ⟨g_11, hf⟩ := grd_some hf
    obtain ⟨kg_11, sg_11⟩ := okO_at g_11
    obtain ⟨z_10, _u, hfc, hf⟩ := cal_some hf
    have hFc := de_free hD hS hA
    refine va_callv (va_runV (As := [.long 4]) (rest := []) ⟨hx, hb, hml, hown, hts⟩ (de_X3_put l dC dI cy a sh n H.size F z h0 4 hfc) (cwV 1 hts gX3_set_X3_put rfl rfl rfl (by decide +kernel) ⟨Nat.le_of_ble_eq_true rfl, Nat.le_of_ble_eq_true rfl⟩) ⟨fun a U g mk q => by obtain ⟨q0, q1, qP, qK, qD, qN⟩ := q; exact ⟨q0, q1, qP, va_K.moved (u := U) (U := U.calling g mk a) (Vm.Alike.refl U.vm) qK, qD, qN.same rfl⟩, va_recv hK hP (ci := 3) (q0 := h0) rfl (Wd_ob kg_11 sg_11 (by decide)), fun U hU hW => ⟨rfl, by rw [hU], by rw [hU]; exact hP, va_K.moved hW.alike hK, hD.weaken (fun _ _ _ _ => trivial), hN.warm hW⟩⟩ rfl rfl hl.1 rfl (lv_room (Nat.le_of_ble_eq_true rfl)) dX3_set_92 ⟨Nat.le_of_ble_eq_true rfl, Nat.le_of_ble_eq_true rfl⟩) hS (fun q _ h => hFc q h) hFc (fun u t H_12 locs ht hvm hw hB hz1 hk1 hS2 => ?_)
    obtain ⟨hP1, -, hD1⟩ := hB
    rw [ht] at hP1
    replace hD := hD1.weaken (fun _ _ _ h => hFc _ h)
    replace hP := hP1
    replace hS := hS2
    clear hP1 hD1 hS2 hFc hfc hz1 hk1 hvm ht
    refine lv_goto (tgt := 116) hx hb dX3_set_95 (by decide) ?_
    obtain ⟨h8, h9⟩ := ret_some hf
    rw [h8]
    exact W.vret hx hb hr (fun t ht hW => ⟨⟨(), rfl, trivial, by rw [ht]; exact hP, va_K.moved hW.alike hK, hD⟩, hS.F ht⟩) hS.2.2 dX3_set_116
  rw [if_neg c_9] at hf
  by_cases c_13 : x0 = 8
  · skip
    rw [if_pos c_13] at hf
    refine lv_lookup (tgt := 98) hx hb dX3_set_1 (by decide) (by rw [c_13]) (by decide) ?_
    refine lv_aload_n hx hb dX3_set_98 rfl (lv_at hl 0 rfl) ?_
    refine lv_lconst (v := 1) hx hb dX3_set_99 (by decide) ?_
    obtain ⟨g_15, hf⟩ := grd_some hf
    obtain ⟨kg_15, sg_15⟩ := okO_at g_15
    obtain ⟨z_14, _u, hfc, hf⟩ := cal_some hf
    have hFc := de_free hD hS hA
    refine va_callv (va_runV (As := [.long 1]) (rest := []) ⟨hx, hb, hml, hown, hts⟩ (de_X3_put l dC dI cy a sh n H.size F z h0 1 hfc) (cwV 1 hts gX3_set_X3_put rfl rfl rfl (by decide +kernel) ⟨Nat.le_of_ble_eq_true rfl, Nat.le_of_ble_eq_true rfl⟩) ⟨fun a U g mk q => by obtain ⟨q0, q1, qP, qK, qD, qN⟩ := q; exact ⟨q0, q1, qP, va_K.moved (u := U) (U := U.calling g mk a) (Vm.Alike.refl U.vm) qK, qD, qN.same rfl⟩, va_recv hK hP (ci := 3) (q0 := h0) rfl (Wd_ob kg_15 sg_15 (by decide)), fun U hU hW => ⟨rfl, by rw [hU], by rw [hU]; exact hP, va_K.moved hW.alike hK, hD.weaken (fun _ _ _ _ => trivial), hN.warm hW⟩⟩ rfl rfl hl.1 rfl (lv_room (Nat.le_of_ble_eq_true rfl)) dX3_set_100 ⟨Nat.le_of_ble_eq_true rfl, Nat.le_of_ble_eq_true rfl⟩) hS (fun q _ h => hFc q h) hFc (fun u t H_16 locs ht hvm hw hB hz1 hk1 hS2 => ?_)
    obtain ⟨hP1, -, hD1⟩ := hB
    rw [ht] at hP1
    replace hD := hD1.weaken (fun _ _ _ h => hFc _ h)
    replace hP := hP1
    replace hS := hS2
    clear hP1 hD1 hS2 hFc hfc hz1 hk1 hvm ht
    refine lv_goto (tgt := 116) hx hb dX3_set_103 (by decide) ?_
    obtain ⟨h8, h9⟩ := ret_some hf
    rw [h8]
    exact W.vret hx hb hr (fun t ht hW => ⟨⟨(), rfl, trivial, by rw [ht]; exact hP, va_K.moved hW.alike hK, hD⟩, hS.F ht⟩) hS.2.2 dX3_set_116
  rw [if_neg c_13] at hf
  by_cases c_17 : x0 = 9
  · skip
    rw [if_pos c_17] at hf
    refine lv_lookup (tgt := 98) hx hb dX3_set_1 (by decide) (by rw [c_17]) (by decide) ?_
    refine lv_aload_n hx hb dX3_set_98 rfl (lv_at hl 0 rfl) ?_
    refine lv_lconst (v := 1) hx hb dX3_set_99 (by decide) ?_
    obtain ⟨g_19, hf⟩ := grd_some hf
    obtain ⟨kg_19, sg_19⟩ := okO_at g_19
    obtain ⟨z_18, _u, hfc, hf⟩ := cal_some hf
    have hFc := de_free hD hS hA
    refine va_callv (va_runV (As := [.long 1]) (rest := []) ⟨hx, hb, hml, hown, hts⟩ (de_X3_put l dC dI cy a sh n H.size F z h0 1 hfc) (cwV 1 hts gX3_set_X3_put rfl rfl rfl (by decide +kernel) ⟨Nat.le_of_ble_eq_true rfl, Nat.le_of_ble_eq_true rfl⟩) ⟨fun a U g mk q => by obtain ⟨q0, q1, qP, qK, qD, qN⟩ := q; exact ⟨q0, q1, qP, va_K.moved (u := U) (U := U.calling g mk a) (Vm.Alike.refl U.vm) qK, qD, qN.same rfl⟩, va_recv hK hP (ci := 3) (q0 := h0) rfl (Wd_ob kg_19 sg_19 (by decide)), fun U hU hW => ⟨rfl, by rw [hU], by rw [hU]; exact hP, va_K.moved hW.alike hK, hD.weaken (fun _ _ _ _ => trivial), hN.warm hW⟩⟩ rfl rfl hl.1 rfl (lv_room (Nat.le_of_ble_eq_true rfl)) dX3_set_100 ⟨Nat.le_of_ble_eq_true rfl, Nat.le_of_ble_eq_true rfl⟩) hS (fun q _ h => hFc q h) hFc (fun u t H_20 locs ht hvm hw hB hz1 hk1 hS2 => ?_)
    obtain ⟨hP1, -, hD1⟩ := hB
    rw [ht] at hP1
    replace hD := hD1.weaken (fun _ _ _ h => hFc _ h)
    replace hP := hP1
    replace hS := hS2
    clear hP1 hD1 hS2 hFc hfc hz1 hk1 hvm ht
    refine lv_goto (tgt := 116) hx hb dX3_set_103 (by decide) ?_
    obtain ⟨h8, h9⟩ := ret_some hf
    rw [h8]
    exact W.vret hx hb hr (fun t ht hW => ⟨⟨(), rfl, trivial, by rw [ht]; exact hP, va_K.moved hW.alike hK, hD⟩, hS.F ht⟩) hS.2.2 dX3_set_116
  rw [if_neg c_17] at hf
  by_cases c_21 : x0 = 10
  · skip
    rw [if_pos c_21] at hf
    refine lv_lookup (tgt := 106) hx hb dX3_set_1 (by decide) (by rw [c_21]) (by decide) ?_
    refine lv_aload_n hx hb dX3_set_106 rfl (lv_at hl 0 rfl) ?_
    refine lv_ldc2 hx hb hown (hts _ md_X3_set_4) dX3_set_107 ?_
    obtain ⟨g_23, hf⟩ := grd_some hf
    obtain ⟨kg_23, sg_23⟩ := okO_at g_23
    obtain ⟨z_22, _u, hfc, hf⟩ := cal_some hf
    have hFc := de_free hD hS hA
    refine va_callv (va_runV (As := [.long 5]) (rest := []) ⟨hx, hb, hml, hown, hts⟩ (de_X3_put l dC dI cy a sh n H.size F z h0 5 hfc) (cwV 1 hts gX3_set_X3_put rfl rfl rfl (by decide +kernel) ⟨Nat.le_of_ble_eq_true rfl, Nat.le_of_ble_eq_true rfl⟩) ⟨fun a U g mk q => by obtain ⟨q0, q1, qP, qK, qD, qN⟩ := q; exact ⟨q0, q1, qP, va_K.moved (u := U) (U := U.calling g mk a) (Vm.Alike.refl U.vm) qK, qD, qN.same rfl⟩, va_recv hK hP (ci := 3) (q0 := h0) rfl (Wd_ob kg_23 sg_23 (by decide)), fun U hU hW => ⟨rfl, by rw [hU], by rw [hU]; exact hP, va_K.moved hW.alike hK, hD.weaken (fun _ _ _ _ => trivial), hN.warm hW⟩⟩ rfl rfl hl.1 rfl (lv_room (Nat.le_of_ble_eq_true rfl)) dX3_set_110 ⟨Nat.le_of_ble_eq_true rfl, Nat.le_of_ble_eq_true rfl⟩) hS (fun q _ h => hFc q h) hFc (fun u t H_24 locs ht hvm hw hB hz1 hk1 hS2 => ?_)
    obtain ⟨hP1, -, hD1⟩ := hB
    rw [ht] at hP1
    replace hD := hD1.weaken (fun _ _ _ h => hFc _ h)
    replace hP := hP1
    replace hS := hS2
    clear hP1 hD1 hS2 hFc hfc hz1 hk1 hvm ht
    refine lv_goto (tgt := 116) hx hb dX3_set_113 (by decide) ?_
    obtain ⟨h8, h9⟩ := ret_some hf
    rw [h8]
    exact W.vret hx hb hr (fun t ht hW => ⟨⟨(), rfl, trivial, by rw [ht]; exact hP, va_K.moved hW.alike hK, hD⟩, hS.F ht⟩) hS.2.2 dX3_set_116
  rw [if_neg c_21] at hf
  by_cases c_25 : x0 = 46
  · skip
    rw [if_pos c_25] at hf
    refine lv_lookup (tgt := 106) hx hb dX3_set_1 (by decide) (by rw [c_25]) (by decide) ?_
    refine lv_aload_n hx hb dX3_set_106 rfl (lv_at hl 0 rfl) ?_
    refine lv_ldc2 hx hb hown (hts _ md_X3_set_4) dX3_set_107 ?_
    obtain ⟨g_27, hf⟩ := grd_some hf
    obtain ⟨kg_27, sg_27⟩ := okO_at g_27
    obtain ⟨z_26, _u, hfc, hf⟩ := cal_some hf
    have hFc := de_free hD hS hA
    refine va_callv (va_runV (As := [.long 5]) (rest := []) ⟨hx, hb, hml, hown, hts⟩ (de_X3_put l dC dI cy a sh n H.size F z h0 5 hfc) (cwV 1 hts gX3_set_X3_put rfl rfl rfl (by decide +kernel) ⟨Nat.le_of_ble_eq_true rfl, Nat.le_of_ble_eq_true rfl⟩) ⟨fun a U g mk q => by obtain ⟨q0, q1, qP, qK, qD, qN⟩ := q; exact ⟨q0, q1, qP, va_K.moved (u := U) (U := U.calling g mk a) (Vm.Alike.refl U.vm) qK, qD, qN.same rfl⟩, va_recv hK hP (ci := 3) (q0 := h0) rfl (Wd_ob kg_27 sg_27 (by decide)), fun U hU hW => ⟨rfl, by rw [hU], by rw [hU]; exact hP, va_K.moved hW.alike hK, hD.weaken (fun _ _ _ _ => trivial), hN.warm hW⟩⟩ rfl rfl hl.1 rfl (lv_room (Nat.le_of_ble_eq_true rfl)) dX3_set_110 ⟨Nat.le_of_ble_eq_true rfl, Nat.le_of_ble_eq_true rfl⟩) hS (fun q _ h => hFc q h) hFc (fun u t H_28 locs ht hvm hw hB hz1 hk1 hS2 => ?_)
    obtain ⟨hP1, -, hD1⟩ := hB
    rw [ht] at hP1
    replace hD := hD1.weaken (fun _ _ _ h => hFc _ h)
    replace hP := hP1
    replace hS := hS2
    clear hP1 hD1 hS2 hFc hfc hz1 hk1 hvm ht
    refine lv_goto (tgt := 116) hx hb dX3_set_113 (by decide) ?_
    obtain ⟨h8, h9⟩ := ret_some hf
    rw [h8]
    exact W.vret hx hb hr (fun t ht hW => ⟨⟨(), rfl, trivial, by rw [ht]; exact hP, va_K.moved hW.alike hK, hD⟩, hS.F ht⟩) hS.2.2 dX3_set_116
  rw [if_neg c_25] at hf
  refine lv_lookup (tgt := 116) (off := 115) hx hb dX3_set_1 (by decide) ((lv_osw c_1 rfl).trans ((lv_osw c_5 rfl).trans ((lv_osw c_9 rfl).trans ((lv_osw c_13 rfl).trans ((lv_osw c_17 rfl).trans ((lv_osw c_21 rfl).trans ((lv_osw c_25 rfl).trans (rfl)))))))) (by decide) ?_
  obtain ⟨h8, h9⟩ := ret_some hf
  rw [h8]
  exact W.vret hx hb hr (fun t ht hW => ⟨⟨(), rfl, trivial, by rw [ht]; exact hP, va_K.moved hW.alike hK, hD⟩, hS.F ht⟩) hS.2.2 dX3_set_116

theorem md_X5_givesPlain_1 : (.constantLong RX5 97 (5) : Cond) ∈ wsX5_givesPlain := List.mem_of_getElem? (i := 1) rfl
set_option maxHeartbeats 4000000 in
set_option maxRecDepth 100000 in
theorem de_X5_givesPlain (l : Launch) (dC : Nat → ClassId) (dI : Nat → Nat → Nat) (cy : Nat → ClassId) (a : Nat → Nat) (sh : Nat → Nat × Nat) (n sz : Nat) (F : Nat) (z : St) (h0 : Nat) (x0 : Int32) {z8 : St} {r8 : Int32} (hf : fn_X5_givesPlain F sh n z h0 x0 = some (z8, r8)) : Met l yX5_givesPlain wsX5_givesPlain ({ frames := 3, cells := 0, slots := 0, locals := 66 }) (va_Pc [.ref (a h0), .int x0] (fun U => U.heap.size = sz ∧ va_P (dC, dI) vwCl (Wd cy a sh n z) U.heap ∧ va_K (dC, dI) vwCl (TYS cy) U ∧ va_D (fun _ => True) (Wd cy a sh n z) ∧ NK U)) (va_Qi (fun (r9 : Int32) (u : Unit) => r9 = r8) (fun u t => va_P (dC, dI) vwCl (Wd cy a sh n z8) t.heap ∧ va_K (dC, dI) vwCl (TYS cy) t ∧ va_D (va_A (Wd cy a sh n z) sz) (Wd cy a sh n z8)) (va_A (Wd cy a sh n z) sz)) 0 0 (va_A (Wd cy a sh n z) sz) := by
  refine Met.ofW (cc := cX5_givesPlain) (maxL := 5) (ret := (some .boolean)) (by decide) rfl ?_
  intro p e s m args below meth c s₁ B hml hv
  obtain ⟨rfl, hsz, hP, hK, hD0, hN⟩ := hv
  have hx := B.exec
  have hb := B.bytes
  have hr := B.returns
  have hts := atoms_spec (ws := wsX5_givesPlain) B.pre
  have hown : s.vm.findClass RX5 = some m.cls := findClass_of_methodNamed B.named
  have hlocks := B.notSynchronized
  subst hsz
  have hD := hD0.self (sz := s.heap.size)
  clear hD0
  generalize hAe : va_A (Wd cy a sh n z) s.heap.size = A at hD ⊢
  have hA : ∀ q : Nat, s.heap.size ≤ q → A q := fun q h => by rw [← hAe]; exact Or.inr h
  clear hAe
  have hS : va_S A s.heap s.heap [] := va_S.rf
  have hl := lv_entry ([.ref (a h0), .int x0]) (n := 5) (Nat.le_of_ble_eq_true rfl)
  rw [lg_entry_eq]
  generalize (lg_sl ([.ref (a h0), .int x0]) ++ List.replicate (5 - (lg_sl ([.ref (a h0), .int x0])).length) Slot.unset).toArray = ls at hl ⊢
  replace hl : lv_has ls 5 [(0, .ref (a h0)), (1, .int x0)] := hl
  unfold fn_X5_givesPlain at hf
  refine de_start hS hP (fun H locs hS hP => ?_)
  refine lv_iconst (v := 0) hx hb dX5_givesPlain_0 (by decide) ?_
  refine lv_istore_n (lv' := [(2, .int 0), (0, .ref (a h0)), (1, .int x0)]) hx hb dX5_givesPlain_1 rfl hl (by decide) rfl (fun ls hl2 => ?_)
  replace hl := hl2
  clear hl2
  have hl0 : lv_has ls 5 [(2, .int 0), (0, .ref (a h0)), (1, .int x0)] := lv_sub hl [0, 1, 2] rfl
  refine de_loop (h := 2) (fun (x : St × Int32) ls H locs => lv_has ls 5 [(2, .int x.2), (0, .ref (a h0)), (1, .int x0)] ∧ va_P (dC, dI) vwCl (Wd cy a sh n x.1) H ∧ va_D A (Wd cy a sh n x.1) ∧ va_S A s.heap H locs) (fun f x => fn_X5_givesPlain_L2 F sh n h0 x0 f x.1 x.2) (z8, r8) ?_ (fun _ => rfl) F (z, 0) ls H locs ⟨hl0, hP, hD, hS⟩ hf
  intro f_3 x ls H locs ih2 hI hf
  obtain ⟨z_2, p_1⟩ := x
  obtain ⟨hl2, hP2, hD2, hS2⟩ := hI
  replace hl : lv_has ls 5 [(2, .int p_1), (0, .ref (a h0)), (1, .int x0)] := hl2
  replace hP := hP2
  replace hD := hD2
  replace hS := hS2
  clear hl2 hP2 hD2 hS2 hl0
  replace hf := fn_X5_givesPlain_L2_s hf
  refine lv_iload_n hx hb dX5_givesPlain_2 rfl (lv_at hl 0 rfl) ?_
  refine lv_aload_n hx hb dX5_givesPlain_3 rfl (lv_at hl 1 rfl) ?_
  refine lv_iload_n hx hb dX5_givesPlain_4 rfl (lv_at hl 2 rfl) ?_
  obtain ⟨g_6, hf⟩ := grd_some hf
  obtain ⟨kg_6, sg_6⟩ := okO_at g_6
  obtain ⟨z_4, r_5, hfc, hf⟩ := cal_some hf
  have hFc := de_free hD hS hA
  refine va_calli (va_runV (As := [.int x0]) (rest := [.int p_1]) ⟨hx, hb, hml, hown, hts⟩ (de_X5_gives l dC dI cy a sh n H.size F z_2 h0 x0 hfc) (cwV 1 hts gX5_givesPlain_X5_gives rfl rfl rfl (by decide +kernel) ⟨Nat.le_of_ble_eq_true rfl, Nat.le_of_ble_eq_true rfl⟩) ⟨fun a U g mk q => by obtain ⟨q0, q1, qP, qK, qD, qN⟩ := q; exact ⟨q0, q1, qP, va_K.moved (u := U) (U := U.calling g mk a) (Vm.Alike.refl U.vm) qK, qD, qN.same rfl⟩, va_recv hK hP (ci := 5) (q0 := h0) rfl (Wd_ob kg_6 sg_6 (by decide)), fun U hU hW => ⟨rfl, by rw [hU], by rw [hU]; exact hP, va_K.moved hW.alike hK, hD.weaken (fun _ _ _ _ => trivial), hN.warm hW⟩⟩ rfl rfl hl.1 rfl (lv_room (Nat.le_of_ble_eq_true rfl)) dX5_givesPlain_5 ⟨Nat.le_of_ble_eq_true rfl, Nat.le_of_ble_eq_true rfl⟩) hS (fun q _ h => hFc q h) hFc (fun rr u t H_7 locs ht hvm hw hB hz1 hk1 hS2 => ?_)
  rw [hw]
  clear hw
  obtain ⟨hP1, -, hD1⟩ := hB
  rw [ht] at hP1
  replace hD := hD1.weaken (fun _ _ _ h => hFc _ h)
  replace hP := hP1
  replace hS := hS2
  clear hP1 hD1 hS2 hFc hfc hz1 hk1 hvm ht
  refine lv_icmp_ge (tgt := 40) hx hb dX5_givesPlain_8 (by decide) (fun c_8 => ?_) (fun c_8 => ?_)
  · skip
    rw [if_pos c_8] at hf
    refine lv_iconst (v := 1) hx hb dX5_givesPlain_40 (by decide) ?_
    obtain ⟨h8, h9⟩ := ret_some hf
    rw [h8, h9]
    exact W.zret (v := 1) hx hb hr rfl (fun t ht hW => ⟨⟨1, (), rfl, rfl, by rw [ht]; exact hP, va_K.moved hW.alike hK, hD⟩, hS.F ht⟩) hS.2.2 dX5_givesPlain_41
  · skip
    rw [if_neg c_8] at hf
    refine lv_aload_n hx hb dX5_givesPlain_11 rfl (lv_at hl 1 rfl) ?_
    refine lv_iload_n hx hb dX5_givesPlain_12 rfl (lv_at hl 2 rfl) ?_
    refine lv_iload_n hx hb dX5_givesPlain_13 rfl (lv_at hl 0 rfl) ?_
    obtain ⟨z_9, r_10, hfc, hf⟩ := cal_some hf
    have hFc := de_free hD hS hA
    refine va_calll (va_runV (As := [.int x0, .int p_1]) (rest := []) ⟨hx, hb, hml, hown, hts⟩ (de_X5_givenType l dC dI cy a sh n H_7.size F z_4 h0 x0 p_1 hfc) (cwV 2 hts gX5_givesPlain_X5_givenType rfl rfl rfl (by decide +kernel) ⟨Nat.le_of_ble_eq_true rfl, Nat.le_of_ble_eq_true rfl⟩) ⟨fun a U g mk q => by obtain ⟨q0, q1, qP, qK, qD, qN⟩ := q; exact ⟨q0, q1, qP, va_K.moved (u := U) (U := U.calling g mk a) (Vm.Alike.refl U.vm) qK, qD, qN.same rfl⟩, va_recv hK hP (ci := 5) (q0 := h0) rfl (Wd_ob kg_6 sg_6 (by decide)), fun U hU hW => ⟨rfl, by rw [hU], by rw [hU]; exact hP, va_K.moved hW.alike hK, hD.weaken (fun _ _ _ _ => trivial), hN.warm hW⟩⟩ rfl rfl hl.1 rfl (lv_room (Nat.le_of_ble_eq_true rfl)) dX5_givesPlain_14 ⟨Nat.le_of_ble_eq_true rfl, Nat.le_of_ble_eq_true rfl⟩) hS (fun q _ h => hFc q h) hFc (fun rr u t H_11 locs ht hvm hw hB hz1 hk1 hS2 => ?_)
    rw [hw]
    clear hw
    obtain ⟨hP1, -, hD1⟩ := hB
    rw [ht] at hP1
    replace hD := hD1.weaken (fun _ _ _ h => hFc _ h)
    replace hP := hP1
    replace hS := hS2
    clear hP1 hD1 hS2 hFc hfc hz1 hk1 hvm ht
    refine lv_lstore_n (lv' := [(3, .long r_10), (2, .int p_1), (0, .ref (a h0)), (1, .int x0)]) hx hb dX5_givesPlain_17 rfl hl (by decide) rfl (fun ls hl2 => ?_)
    replace hl := hl2
    clear hl2
    refine lv_lload_n hx hb dX5_givesPlain_18 rfl (lv_at hl 0 rfl) ?_
    refine lv_lconst (v := 1) hx hb dX5_givesPlain_19 (by decide) ?_
    refine W.lcmp hx hb dX5_givesPlain_20 ?_
    refine lv_if_lt (tgt := 32) hx hb dX5_givesPlain_21 (by decide) (fun c_12 => ?_) (fun c_12 => ?_)
    · skip
      rw [lg_cmp_lt] at c_12
      rw [if_pos c_12] at hf
      refine lv_iconst (v := 0) hx hb dX5_givesPlain_32 (by decide) ?_
      obtain ⟨h8, h9⟩ := ret_some hf
      rw [h8, h9]
      exact W.zret (v := 0) hx hb hr rfl (fun t ht hW => ⟨⟨0, (), rfl, rfl, by rw [ht]; exact hP, va_K.moved hW.alike hK, hD⟩, hS.F ht⟩) hS.2.2 dX5_givesPlain_33
    · skip
      rw [lg_cmp_lt] at c_12
      rw [if_neg c_12] at hf
      refine lv_lload_n hx hb dX5_givesPlain_24 rfl (lv_at hl 0 rfl) ?_
      refine lv_ldc2 hx hb hown (hts _ md_X5_givesPlain_1) dX5_givesPlain_25 ?_
      refine W.lcmp hx hb dX5_givesPlain_28 ?_
      refine lv_if_le (tgt := 34) hx hb dX5_givesPlain_29 (by decide) (fun c_13 => ?_) (fun c_13 => ?_)
      · skip
        rw [lg_cmp_le] at c_13
        rw [if_pos c_13] at hf
        refine lv_iinc (v := (p_1 + 1)) (lv' := [(2, .int (p_1 + 1)), (3, .long r_10), (0, .ref (a h0)), (1, .int x0)]) hx hb dX5_givesPlain_34 hl (k := 1) rfl rfl (by decide) rfl (fun ls hl2 => ?_)
        replace hl := hl2
        clear hl2
        refine lv_goto (tgt := 2) hx hb dX5_givesPlain_37 (by decide) ?_
        exact ih2 (z_9, (p_1 + 1)) ls H_11 locs ⟨lv_sub hl [0, 2, 3] rfl, hP, hD, hS⟩ hf
      · skip
        rw [lg_cmp_le] at c_13
        rw [if_neg c_13] at hf
        refine lv_iconst (v := 0) hx hb dX5_givesPlain_32 (by decide) ?_
        obtain ⟨h8, h9⟩ := ret_some hf
        rw [h8, h9]
        exact W.zret (v := 0) hx hb hr rfl (fun t ht hW => ⟨⟨0, (), rfl, rfl, by rw [ht]; exact hP, va_K.moved hW.alike hK, hD⟩, hS.F ht⟩) hS.2.2 dX5_givesPlain_33

theorem md_X13_takeNumbers_1 : (.fieldLink RX13 48 "ResourceLedgerModel$Looker" "fault" "I" : Cond) ∈ wsX13_takeNumbers := List.mem_of_getElem? (i := 1) rfl
theorem iwd_X13_takeNumbers_X13 : ∀ w ∈ wsX130, w ∈ wsX13_takeNumbers := fun _ h => List.mem_cons_of_mem _ (List.mem_append_right _ h)
theorem md_X13_takeNumbers_2 : (.fieldLink RX13 99 "ResourceLedgerModel$Looker" "taken" "J" : Cond) ∈ wsX13_takeNumbers := List.mem_of_getElem? (i := 2) rfl
set_option maxHeartbeats 4000000 in
set_option maxRecDepth 100000 in
theorem de_X13_takeNumbers (l : Launch) (dC : Nat → ClassId) (dI : Nat → Nat → Nat) (cy : Nat → ClassId) (a : Nat → Nat) (sh : Nat → Nat × Nat) (n sz : Nat) (F : Nat) (z : St) (h0 : Nat) (x0 : Int32) {z8 : St} {r8 : Unit} (hf : fn_X13_takeNumbers F sh n z h0 x0 = some (z8, r8)) : Met l yX13_takeNumbers wsX13_takeNumbers ({ frames := 3, cells := 0, slots := 0, locals := 63 }) (va_Pc [.ref (a h0), .int x0] (fun U => U.heap.size = sz ∧ va_P (dC, dI) vwCl (Wd cy a sh n z) U.heap ∧ va_K (dC, dI) vwCl (TYS cy) U ∧ va_D (fun _ => True) (Wd cy a sh n z) ∧ NK U)) (va_Qv (fun u : Unit => True) (fun u t => va_P (dC, dI) vwCl (Wd cy a sh n z8) t.heap ∧ va_K (dC, dI) vwCl (TYS cy) t ∧ va_D (va_A (Wd cy a sh n z) sz) (Wd cy a sh n z8)) (va_A (Wd cy a sh n z) sz)) 0 0 (va_A (Wd cy a sh n z) sz) := by
  refine Met.ofW (cc := cX13_takeNumbers) (maxL := 2) (ret := none) (by decide) rfl ?_
  intro p e s m args below meth c s₁ B hml hv
  obtain ⟨rfl, hsz, hP, hK, hD0, hN⟩ := hv
  have hx := B.exec
  have hb := B.bytes
  have hr := B.returns
  have hts := atoms_spec (ws := wsX13_takeNumbers) B.pre
  have hown : s.vm.findClass RX13 = some m.cls := findClass_of_methodNamed B.named
  have hlocks := B.notSynchronized
  subst hsz
  have hD := hD0.self (sz := s.heap.size)
  clear hD0
  generalize hAe : va_A (Wd cy a sh n z) s.heap.size = A at hD ⊢
  have hA : ∀ q : Nat, s.heap.size ≤ q → A q := fun q h => by rw [← hAe]; exact Or.inr h
  clear hAe
  have hS : va_S A s.heap s.heap [] := va_S.rf
  have hl := lv_entry ([.ref (a h0), .int x0]) (n := 2) (Nat.le_of_ble_eq_true rfl)
  rw [lg_entry_eq]
  generalize (lg_sl ([.ref (a h0), .int x0]) ++ List.replicate (2 - (lg_sl ([.ref (a h0), .int x0])).length) Slot.unset).toArray = ls at hl ⊢
  replace hl : lv_has ls 2 [(0, .ref (a h0)), (1, .int x0)] := hl
  unfold fn_X13_takeNumbers at hf
  refine de_start hS hP (fun H locs hS hP => ?_)
  refine lv_aload_n hx hb dX13_takeNumbers_0 rfl (lv_at hl 0 rfl) ?_
  obtain ⟨g_2, hf⟩ := grd_some hf
  obtain ⟨kg_2, sg_2⟩ := okO_at g_2
  obtain ⟨z_1, _u, hfc, hf⟩ := cal_some hf
  have hFc := de_free hD hS hA
  refine va_callv (va_runV (As := []) (rest := []) ⟨hx, hb, hml, hown, hts⟩ (de_X13_take l dC dI cy a sh n H.size F z h0 hfc) (cwV 0 hts gX13_takeNumbers_X13_take rfl rfl rfl (by decide +kernel) ⟨Nat.le_of_ble_eq_true rfl, Nat.le_of_ble_eq_true rfl⟩) ⟨fun a U g mk q => by obtain ⟨q0, q1, qP, qK, qD, qN⟩ := q; exact ⟨q0, q1, qP, va_K.moved (u := U) (U := U.calling g mk a) (Vm.Alike.refl U.vm) qK, qD, qN.same rfl⟩, va_recv hK hP (ci := 13) (q0 := h0) rfl (Wd_ob kg_2 sg_2 (by decide)), fun U hU hW => ⟨rfl, by rw [hU], by rw [hU]; exact hP, va_K.moved hW.alike hK, hD.weaken (fun _ _ _ _ => trivial), hN.warm hW⟩⟩ rfl rfl hl.1 rfl (lv_room (Nat.le_of_ble_eq_true rfl)) dX13_takeNumbers_1 ⟨Nat.le_of_ble_eq_true rfl, Nat.le_of_ble_eq_true rfl⟩) hS (fun q _ h => hFc q h) hFc (fun u t H_3 locs ht hvm hw hB hz1 hk1 hS2 => ?_)
  obtain ⟨hP1, -, hD1⟩ := hB
  rw [ht] at hP1
  replace hD := hD1.weaken (fun _ _ _ h => hFc _ h)
  replace hP := hP1
  replace hS := hS2
  clear hP1 hD1 hS2 hFc hfc hz1 hk1 hvm ht
  refine lv_aload_n hx hb dX13_takeNumbers_4 rfl (lv_at hl 0 rfl) ?_
  refine va_get (D := (dC, dI)) (ci := 13) (v := .int (z_1.1 h0 18)) (C := RX13) (T := TX13) (N := 22) hx hb hts iwd_X13_takeNumbers_X13 hown hK hP h0 (Wd_ob kg_2 sg_2 (by decide)) rfl 18 (by decide) (hts _ md_X13_takeNumbers_1) (fun _ h9 => h9) (fl_at (t := 0) rfl) dX13_takeNumbers_5 ?_
  refine lv_if_eq (tgt := 12) hx hb dX13_takeNumbers_8 (by decide) (fun c_4 => ?_) (fun c_4 => ?_)
  · skip
    rw [if_pos c_4] at hf
    refine lv_aload_n hx hb dX13_takeNumbers_12 rfl (lv_at hl 0 rfl) ?_
    refine lv_aload_n hx hb dX13_takeNumbers_13 rfl (lv_at hl 0 rfl) ?_
    refine va_get (D := (dC, dI)) (ci := 13) (v := .long (z_1.2.1 h0 19)) (C := RX13) (T := TX13) (N := 22) hx hb hts iwd_X13_takeNumbers_X13 hown hK hP h0 (Wd_ob kg_2 sg_2 (by decide)) rfl 19 (by decide) (hts _ md_X13_takeNumbers_2) (fun _ h9 => h9) (fl_at (t := 1) rfl) dX13_takeNumbers_14 ?_
    obtain ⟨z_5, r_6, hfc, hf⟩ := cal_some hf
    have hFc := de_free hD hS hA
    refine va_calli (va_runS (As := [.long (z_1.2.1 h0 19)]) (rest := [.ref (a h0)]) ⟨hx, hb, hml, hown, hts⟩ (de_X13_isNumber l dC dI cy a sh n H_3.size F z_1 (z_1.2.1 h0 19) hfc) (va_cwS 1 hts gX13_takeNumbers_X13_isNumber rfl rfl rfl (by decide +kernel) ⟨Nat.le_of_ble_eq_true rfl, Nat.le_of_ble_eq_true rfl⟩) ⟨fun a U g mk q => by obtain ⟨q0, q1, qP, qK, qD, qN⟩ := q; exact ⟨q0, q1, qP, va_K.moved (u := U) (U := U.calling g mk a) (Vm.Alike.refl U.vm) qK, qD, qN.same rfl⟩, fun U hU hW => ⟨rfl, by rw [hU], by rw [hU]; exact hP, va_K.moved hW.alike hK, hD.weaken (fun _ _ _ _ => trivial), hN.warm hW⟩⟩ rfl rfl hl.1 rfl (lv_room (Nat.le_of_ble_eq_true rfl)) dX13_takeNumbers_17 ⟨Nat.le_of_ble_eq_true rfl, Nat.le_of_ble_eq_true rfl⟩) hS (fun q _ h => hFc q h) hFc (fun rr u t H_7 locs ht hvm hw hB hz1 hk1 hS2 => ?_)
    rw [hw]
    clear hw
    obtain ⟨hP1, -, hD1⟩ := hB
    rw [ht] at hP1
    replace hD := hD1.weaken (fun _ _ _ h => hFc _ h)
    replace hP := hP1
    replace hS := hS2
    clear hP1 hD1 hS2 hFc hfc hz1 hk1 hvm ht
    refine de_cut (h := 36) (fun (x : St) => [.ref (a h0)]) (fun x ls H locs => lv_has ls 2 [(0, .ref (a h0))] ∧ va_P (dC, dI) vwCl (Wd cy a sh n x) H ∧ va_D A (Wd cy a sh n x) ∧ va_S A s.heap H locs) (fun x => fn_X13_takeNumbers_B36 F sh n h0 x) (z8, r8) ?_ (fun B36 => ?_)
    · intro x ls H locs hI hf
      obtain ⟨z_8, ez⟩ : ∃ w, w = x := ⟨_, rfl⟩
      subst ez
      obtain ⟨hl2, hP2, hD2, hS2⟩ := hI
      replace hl : lv_has ls 2 [(0, .ref (a h0))] := hl2
      replace hP := hP2
      replace hD := hD2
      replace hS := hS2
      clear hl2 hP2 hD2 hS2
      replace hf := fn_X13_takeNumbers_B36_s hf
      refine W.eq (g2 := F0 m 36 ls [.ref (a h0)]) rfl ?_
      refine lv_iconst (v := 1) hx hb dX13_takeNumbers_36 (by decide) ?_
      refine lv_goto (tgt := 41) hx hb dX13_takeNumbers_37 (by decide) ?_
      refine lv_iconst (v := 3) hx hb dX13_takeNumbers_41 (by decide) ?_
      obtain ⟨z_9, _u, hfc, hf⟩ := cal_some hf
      have hFc := de_free hD hS hA
      refine va_callv (va_runV (As := [.int 1, .int 3]) (rest := []) ⟨hx, hb, hml, hown, hts⟩ (de_X13_need l dC dI cy a sh n H.size F z_8 h0 1 3 hfc) (cwV 2 hts gX13_takeNumbers_X13_need rfl rfl rfl (by decide +kernel) ⟨Nat.le_of_ble_eq_true rfl, Nat.le_of_ble_eq_true rfl⟩) ⟨fun a U g mk q => by obtain ⟨q0, q1, qP, qK, qD, qN⟩ := q; exact ⟨q0, q1, qP, va_K.moved (u := U) (U := U.calling g mk a) (Vm.Alike.refl U.vm) qK, qD, qN.same rfl⟩, va_recv hK hP (ci := 13) (q0 := h0) rfl (Wd_ob kg_2 sg_2 (by decide)), fun U hU hW => ⟨rfl, by rw [hU], by rw [hU]; exact hP, va_K.moved hW.alike hK, hD.weaken (fun _ _ _ _ => trivial), hN.warm hW⟩⟩ rfl rfl hl.1 rfl (lv_room (Nat.le_of_ble_eq_true rfl)) dX13_takeNumbers_42 ⟨Nat.le_of_ble_eq_true rfl, Nat.le_of_ble_eq_true rfl⟩) hS (fun q _ h => hFc q h) hFc (fun u t H_10 locs ht hvm hw hB hz1 hk1 hS2 => ?_)
      obtain ⟨hP1, -, hD1⟩ := hB
      rw [ht] at hP1
      replace hD := hD1.weaken (fun _ _ _ h => hFc _ h)
      replace hP := hP1
      replace hS := hS2
      clear hP1 hD1 hS2 hFc hfc hz1 hk1 hvm ht
      refine lv_aload_n hx hb dX13_takeNumbers_45 rfl (lv_at hl 0 rfl) ?_
      refine lv_aload_n hx hb dX13_takeNumbers_46 rfl (lv_at hl 0 rfl) ?_
      refine va_get (D := (dC, dI)) (ci := 13) (v := .long (z_9.2.1 h0 19)) (C := RX13) (T := TX13) (N := 22) hx hb hts iwd_X13_takeNumbers_X13 hown hK hP h0 (Wd_ob kg_2 sg_2 (by decide)) rfl 19 (by decide) (hts _ md_X13_takeNumbers_2) (fun _ h9 => h9) (fl_at (t := 1) rfl) dX13_takeNumbers_47 ?_
      obtain ⟨z_11, _u, hfc, hf⟩ := cal_some hf
      have hFc := de_free hD hS hA
      refine va_callv (va_runV (As := [.long (z_9.2.1 h0 19)]) (rest := []) ⟨hx, hb, hml, hown, hts⟩ (de_X13_take_ l dC dI cy a sh n H_10.size F z_9 h0 (z_9.2.1 h0 19) hfc) (cwV 1 hts gX13_takeNumbers_X13_take_ rfl rfl rfl (by decide +kernel) ⟨Nat.le_of_ble_eq_true rfl, Nat.le_of_ble_eq_true rfl⟩) ⟨fun a U g mk q => by obtain ⟨q0, q1, qP, qK, qD, qN⟩ := q; exact ⟨q0, q1, qP, va_K.moved (u := U) (U := U.calling g mk a) (Vm.Alike.refl U.vm) qK, qD, qN.same rfl⟩, va_recv hK hP (ci := 13) (q0 := h0) rfl (Wd_ob kg_2 sg_2 (by decide)), fun U hU hW => ⟨rfl, by rw [hU], by rw [hU]; exact hP, va_K.moved hW.alike hK, hD.weaken (fun _ _ _ _ => trivial), hN.warm hW⟩⟩ rfl rfl hl.1 rfl (lv_room (Nat.le_of_ble_eq_true rfl)) dX13_takeNumbers_50 ⟨Nat.le_of_ble_eq_true rfl, Nat.le_of_ble_eq_true rfl⟩) hS (fun q _ h => hFc q h) hFc (fun u t H_12 locs ht hvm hw hB hz1 hk1 hS2 => ?_)
      obtain ⟨hP1, -, hD1⟩ := hB
      rw [ht] at hP1
      replace hD := hD1.weaken (fun _ _ _ h => hFc _ h)
      replace hP := hP1
      replace hS := hS2
      clear hP1 hD1 hS2 hFc hfc hz1 hk1 hvm ht
      obtain ⟨h8, h9⟩ := ret_some hf
      rw [h8]
      exact W.vret hx hb hr (fun t ht hW => ⟨⟨(), rfl, trivial, by rw [ht]; exact hP, va_K.moved hW.alike hK, hD⟩, hS.F ht⟩) hS.2.2 dX13_takeNumbers_53
    refine lv_if_ne (tgt := 36) hx hb dX13_takeNumbers_20 (by decide) (fun c_13 => ?_) (fun c_13 => ?_)
    · skip
      rw [if_neg c_13] at hf
      exact B36 (z_5) ls H_7 locs ⟨lv_sub hl [0] rfl, hP, hD, hS⟩ hf
    · skip
      rw [if_pos c_13] at hf
      refine lv_iload_n hx hb dX13_takeNumbers_23 rfl (lv_at hl 1 rfl) ?_
      refine de_cut (h := 40) (fun (x : St) => [.ref (a h0)]) (fun x ls H locs => lv_has ls 2 [(0, .ref (a h0))] ∧ va_P (dC, dI) vwCl (Wd cy a sh n x) H ∧ va_D A (Wd cy a sh n x) ∧ va_S A s.heap H locs) (fun x => fn_X13_takeNumbers_B40 F sh n h0 x) (z8, r8) ?_ (fun B40 => ?_)
      · intro x ls H locs hI hf
        obtain ⟨z_14, ez⟩ : ∃ w, w = x := ⟨_, rfl⟩
        subst ez
        obtain ⟨hl2, hP2, hD2, hS2⟩ := hI
        replace hl : lv_has ls 2 [(0, .ref (a h0))] := hl2
        replace hP := hP2
        replace hD := hD2
        replace hS := hS2
        clear hl2 hP2 hD2 hS2
        replace hf := fn_X13_takeNumbers_B40_s hf
        refine W.eq (g2 := F0 m 40 ls [.ref (a h0)]) rfl ?_
        refine lv_iconst (v := 0) hx hb dX13_takeNumbers_40 (by decide) ?_
        refine lv_iconst (v := 3) hx hb dX13_takeNumbers_41 (by decide) ?_
        obtain ⟨z_15, _u, hfc, hf⟩ := cal_some hf
        have hFc := de_free hD hS hA
        refine va_callv (va_runV (As := [.int 0, .int 3]) (rest := []) ⟨hx, hb, hml, hown, hts⟩ (de_X13_need l dC dI cy a sh n H.size F z_14 h0 0 3 hfc) (cwV 2 hts gX13_takeNumbers_X13_need rfl rfl rfl (by decide +kernel) ⟨Nat.le_of_ble_eq_true rfl, Nat.le_of_ble_eq_true rfl⟩) ⟨fun a U g mk q => by obtain ⟨q0, q1, qP, qK, qD, qN⟩ := q; exact ⟨q0, q1, qP, va_K.moved (u := U) (U := U.calling g mk a) (Vm.Alike.refl U.vm) qK, qD, qN.same rfl⟩, va_recv hK hP (ci := 13) (q0 := h0) rfl (Wd_ob kg_2 sg_2 (by decide)), fun U hU hW => ⟨rfl, by rw [hU], by rw [hU]; exact hP, va_K.moved hW.alike hK, hD.weaken (fun _ _ _ _ => trivial), hN.warm hW⟩⟩ rfl rfl hl.1 rfl (lv_room (Nat.le_of_ble_eq_true rfl)) dX13_takeNumbers_42 ⟨Nat.le_of_ble_eq_true rfl, Nat.le_of_ble_eq_true rfl⟩) hS (fun q _ h => hFc q h) hFc (fun u t H_16 locs ht hvm hw hB hz1 hk1 hS2 => ?_)
        obtain ⟨hP1, -, hD1⟩ := hB
        rw [ht] at hP1
        replace hD := hD1.weaken (fun _ _ _ h => hFc _ h)
        replace hP := hP1
        replace hS := hS2
        clear hP1 hD1 hS2 hFc hfc hz1 hk1 hvm ht
        refine lv_aload_n hx hb dX13_takeNumbers_45 rfl (lv_at hl 0 rfl) ?_
        refine lv_aload_n hx hb dX13_takeNumbers_46 rfl (lv_at hl 0 rfl) ?_
        refine va_get (D := (dC, dI)) (ci := 13) (v := .long (z_15.2.1 h0 19)) (C := RX13) (T := TX13) (N := 22) hx hb hts iwd_X13_takeNumbers_X13 hown hK hP h0 (Wd_ob kg_2 sg_2 (by decide)) rfl 19 (by decide) (hts _ md_X13_takeNumbers_2) (fun _ h9 => h9) (fl_at (t := 1) rfl) dX13_takeNumbers_47 ?_
        obtain ⟨z_17, _u, hfc, hf⟩ := cal_some hf
        have hFc := de_free hD hS hA
        refine va_callv (va_runV (As := [.long (z_15.2.1 h0 19)]) (rest := []) ⟨hx, hb, hml, hown, hts⟩ (de_X13_take_ l dC dI cy a sh n H_16.size F z_15 h0 (z_15.2.1 h0 19) hfc) (cwV 1 hts gX13_takeNumbers_X13_take_ rfl rfl rfl (by decide +kernel) ⟨Nat.le_of_ble_eq_true rfl, Nat.le_of_ble_eq_true rfl⟩) ⟨fun a U g mk q => by obtain ⟨q0, q1, qP, qK, qD, qN⟩ := q; exact ⟨q0, q1, qP, va_K.moved (u := U) (U := U.calling g mk a) (Vm.Alike.refl U.vm) qK, qD, qN.same rfl⟩, va_recv hK hP (ci := 13) (q0 := h0) rfl (Wd_ob kg_2 sg_2 (by decide)), fun U hU hW => ⟨rfl, by rw [hU], by rw [hU]; exact hP, va_K.moved hW.alike hK, hD.weaken (fun _ _ _ _ => trivial), hN.warm hW⟩⟩ rfl rfl hl.1 rfl (lv_room (Nat.le_of_ble_eq_true rfl)) dX13_takeNumbers_50 ⟨Nat.le_of_ble_eq_true rfl, Nat.le_of_ble_eq_true rfl⟩) hS (fun q _ h => hFc q h) hFc (fun u t H_18 locs ht hvm hw hB hz1 hk1 hS2 => ?_)
        obtain ⟨hP1, -, hD1⟩ := hB
        rw [ht] at hP1
        replace hD := hD1.weaken (fun _ _ _ h => hFc _ h)
        replace hP := hP1
        replace hS := hS2
        clear hP1 hD1 hS2 hFc hfc hz1 hk1 hvm ht
        obtain ⟨h8, h9⟩ := ret_some hf
        rw [h8]
        exact W.vret hx hb hr (fun t ht hW => ⟨⟨(), rfl, trivial, by rw [ht]; exact hP, va_K.moved hW.alike hK, hD⟩, hS.F ht⟩) hS.2.2 dX13_takeNumbers_53
      refine lv_if_eq (tgt := 40) hx hb dX13_takeNumbers_24 (by decide) (fun c_19 => ?_) (fun c_19 => ?_)
      · skip
        rw [if_pos c_19] at hf
        exact B40 (z_5) ls H_7 locs ⟨lv_sub hl [0] rfl, hP, hD, hS⟩ hf
      · skip
        rw [if_neg c_19] at hf
        refine lv_aload_n hx hb dX13_takeNumbers_27 rfl (lv_at hl 0 rfl) ?_
        refine va_get (D := (dC, dI)) (ci := 13) (v := .long (z_5.2.1 h0 19)) (C := RX13) (T := TX13) (N := 22) hx hb hts iwd_X13_takeNumbers_X13 hown hK hP h0 (Wd_ob kg_2 sg_2 (by decide)) rfl 19 (by decide) (hts _ md_X13_takeNumbers_2) (fun _ h9 => h9) (fl_at (t := 1) rfl) dX13_takeNumbers_28 ?_
        refine lv_lconst (v := 1) hx hb dX13_takeNumbers_31 (by decide) ?_
        refine W.lcmp hx hb dX13_takeNumbers_32 ?_
        refine lv_if_ne (tgt := 40) hx hb dX13_takeNumbers_33 (by decide) (fun c_20 => ?_) (fun c_20 => ?_)
        · skip
          rw [lg_cmp_eq] at c_20
          rw [if_neg c_20] at hf
          exact B40 (z_5) ls H_7 locs ⟨lv_sub hl [0] rfl, hP, hD, hS⟩ hf
        · skip
          rw [lg_cmp_eq] at c_20
          rw [if_pos c_20] at hf
          exact B36 (z_5) ls H_7 locs ⟨lv_sub hl [0] rfl, hP, hD, hS⟩ hf
  · skip
    rw [if_neg c_4] at hf
    obtain ⟨h8, h9⟩ := ret_some hf
    rw [h8]
    exact W.vret hx hb hr (fun t ht hW => ⟨⟨(), rfl, trivial, by rw [ht]; exact hP, va_K.moved hW.alike hK, hD⟩, hS.F ht⟩) hS.2.2 dX13_takeNumbers_11

theorem md_X16_identity_1 : (.fieldLink RX16 13 "ResourceLedgerModel$Unit" "structureAt" "[I" : Cond) ∈ wsX16_identity := List.mem_of_getElem? (i := 1) rfl
theorem iwd_X16_identity_X16 : ∀ w ∈ wsX160, w ∈ wsX16_identity := fun _ h => List.mem_cons_of_mem _ (List.mem_append_right _ h)
theorem md_X16_identity_2 : (.fieldLink RX16 92 "ResourceLedgerModel$Unit" "structures" "I" : Cond) ∈ wsX16_identity := List.mem_of_getElem? (i := 2) rfl
set_option maxHeartbeats 4000000 in
set_option maxRecDepth 100000 in
theorem de_X16_identity (l : Launch) (dC : Nat → ClassId) (dI : Nat → Nat → Nat) (cy : Nat → ClassId) (a : Nat → Nat) (sh : Nat → Nat × Nat) (n sz : Nat) (F : Nat) (z : St) (h0 : Nat) (x0 : Int32) {z8 : St} {r8 : Int32} (hf : fn_X16_identity F sh n z h0 x0 = some (z8, r8)) : Met l yX16_identity wsX16_identity ({ frames := 3, cells := 0, slots := 0, locals := 62 }) (va_Pc [.ref (a h0), .int x0] (fun U => U.heap.size = sz ∧ va_P (dC, dI) vwCl (Wd cy a sh n z) U.heap ∧ va_K (dC, dI) vwCl (TYS cy) U ∧ va_D (fun _ => True) (Wd cy a sh n z) ∧ NK U)) (va_Qi (fun (r9 : Int32) (u : Unit) => r9 = r8) (fun u t => va_P (dC, dI) vwCl (Wd cy a sh n z8) t.heap ∧ va_K (dC, dI) vwCl (TYS cy) t ∧ va_D (va_A (Wd cy a sh n z) sz) (Wd cy a sh n z8)) (va_A (Wd cy a sh n z) sz)) 0 0 (va_A (Wd cy a sh n z) sz) := by
  refine Met.ofW (cc := cX16_identity) (maxL := 3) (ret := (some .int)) (by decide) rfl ?_
  intro p e s m args below meth c s₁ B hml hv
  obtain ⟨rfl, hsz, hP, hK, hD0, hN⟩ := hv
  have hx := B.exec
  have hb := B.bytes
  have hr := B.returns
  have hts := atoms_spec (ws := wsX16_identity) B.pre
  have hown : s.vm.findClass RX16 = some m.cls := findClass_of_methodNamed B.named
  have hlocks := B.notSynchronized
  subst hsz
  have hD := hD0.self (sz := s.heap.size)
  clear hD0
  generalize hAe : va_A (Wd cy a sh n z) s.heap.size = A at hD ⊢
  have hA : ∀ q : Nat, s.heap.size ≤ q → A q := fun q h => by rw [← hAe]; exact Or.inr h
  clear hAe
  have hS : va_S A s.heap s.heap [] := va_S.rf
  have hl := lv_entry ([.ref (a h0), .int x0]) (n := 3) (Nat.le_of_ble_eq_true rfl)
  rw [lg_entry_eq]
  generalize (lg_sl ([.ref (a h0), .int x0]) ++ List.replicate (3 - (lg_sl ([.ref (a h0), .int x0])).length) Slot.unset).toArray = ls at hl ⊢
  replace hl : lv_has ls 3 [(0, .ref (a h0)), (1, .int x0)] := hl
  unfold fn_X16_identity at hf
  refine de_start hS hP (fun H locs hS hP => ?_)
  refine lv_aload_n hx hb dX16_identity_0 rfl (lv_at hl 0 rfl) ?_
  obtain ⟨g_1, hf⟩ := grd_some hf
  obtain ⟨kg_1, sg_1⟩ := okO_at g_1
  obtain ⟨k_2, ek_2, hf⟩ := lnk_some hf
  refine va_get (D := (dC, dI)) (ci := 16) (v := .ref (a k_2)) (C := RX16) (T := TX16) (N := 18) hx hb hts iwd_X16_identity_X16 hown hK hP h0 (Wd_ob kg_1 sg_1 (by decide)) rfl 11 (by decide) (hts _ md_X16_identity_1) (fun _ h9 => h9) (fl_q rfl ek_2) dX16_identity_1 ?_
  refine lv_iload_n hx hb dX16_identity_4 rfl (lv_at hl 1 rfl) ?_
  obtain ⟨g_3, hf⟩ := grd_some hf
  obtain ⟨kg_3, sg_3, ig_3⟩ := okA_at g_3
  refine va_iald hx hb hK hP k_2 1 (Wd_ai kg_3 sg_3) rfl ig_3 dX16_identity_5 ?_
  refine lv_topi (fun v_4 ev_4 => ?_)
  replace hf := lt_at ev_4 hf
  clear ev_4
  refine lv_istore_n (lv' := [(2, .int v_4), (0, .ref (a h0)), (1, .int x0)]) hx hb dX16_identity_6 rfl hl (by decide) rfl (fun ls hl2 => ?_)
  replace hl := hl2
  clear hl2
  refine lv_iload_n hx hb dX16_identity_7 rfl (lv_at hl 2 rfl) ?_
  refine lv_aload_n hx hb dX16_identity_8 rfl (lv_at hl 1 rfl) ?_
  refine va_get (D := (dC, dI)) (ci := 16) (v := .int (z.1 h0 5)) (C := RX16) (T := TX16) (N := 18) hx hb hts iwd_X16_identity_X16 hown hK hP h0 (Wd_ob kg_1 sg_1 (by decide)) rfl 5 (by decide) (hts _ md_X16_identity_2) (fun _ h9 => h9) (fl_at (t := 0) rfl) dX16_identity_9 ?_
  refine lv_icmp_ge (tgt := 28) hx hb dX16_identity_12 (by decide) (fun c_5 => ?_) (fun c_5 => ?_)
  · skip
    rw [if_pos c_5] at hf
    refine lv_sipush (v := 256) hx hb dX16_identity_28 (by decide) ?_
    refine lv_aload_n hx hb dX16_identity_31 rfl (lv_at hl 1 rfl) ?_
    refine lv_iload_n hx hb dX16_identity_32 rfl (lv_at hl 0 rfl) ?_
    obtain ⟨z_6, r_7, hfc, hf⟩ := cal_some hf
    have hFc := de_free hD hS hA
    refine va_calli (va_runV (As := [.int v_4]) (rest := [.int 256]) ⟨hx, hb, hml, hown, hts⟩ (de_X16_shortAt l dC dI cy a sh n H.size F z h0 v_4 hfc) (cwV 1 hts gX16_identity_X16_shortAt rfl rfl rfl (by decide +kernel) ⟨Nat.le_of_ble_eq_true rfl, Nat.le_of_ble_eq_true rfl⟩) ⟨fun a U g mk q => by obtain ⟨q0, q1, qP, qK, qD, qN⟩ := q; exact ⟨q0, q1, qP, va_K.moved (u := U) (U := U.calling g mk a) (Vm.Alike.refl U.vm) qK, qD, qN.same rfl⟩, va_recv hK hP (ci := 16) (q0 := h0) rfl (Wd_ob kg_1 sg_1 (by decide)), fun U hU hW => ⟨rfl, by rw [hU], by rw [hU]; exact hP, va_K.moved hW.alike hK, hD.weaken (fun _ _ _ _ => trivial), hN.warm hW⟩⟩ rfl rfl hl.1 rfl (lv_room (Nat.le_of_ble_eq_true rfl)) dX16_identity_33 ⟨Nat.le_of_ble_eq_true rfl, Nat.le_of_ble_eq_true rfl⟩) hS (fun q _ h => hFc q h) hFc (fun rr u t H_8 locs ht hvm hw hB hz1 hk1 hS2 => ?_)
    rw [hw]
    clear hw
    obtain ⟨hP1, -, hD1⟩ := hB
    rw [ht] at hP1
    replace hD := hD1.weaken (fun _ _ _ h => hFc _ h)
    replace hP := hP1
    replace hS := hS2
    clear hP1 hD1 hS2 hFc hfc hz1 hk1 hvm ht
    refine lv_imul hx hb dX16_identity_36 ?_
    refine lv_aload_n hx hb dX16_identity_37 rfl (lv_at hl 1 rfl) ?_
    refine lv_iload_n hx hb dX16_identity_38 rfl (lv_at hl 0 rfl) ?_
    refine lv_iconst (v := 2) hx hb dX16_identity_39 (by decide) ?_
    refine lv_iadd hx hb dX16_identity_40 ?_
    obtain ⟨z_9, r_10, hfc, hf⟩ := cal_some hf
    have hFc := de_free hD hS hA
    refine va_calli (va_runV (As := [.int (v_4 + 2)]) (rest := [.int (256 * r_7)]) ⟨hx, hb, hml, hown, hts⟩ (de_X16_byteAt l dC dI cy a sh n H_8.size F z_6 h0 (v_4 + 2) hfc) (cwV 1 hts gX16_identity_X16_byteAt rfl rfl rfl (by decide +kernel) ⟨Nat.le_of_ble_eq_true rfl, Nat.le_of_ble_eq_true rfl⟩) ⟨fun a U g mk q => by obtain ⟨q0, q1, qP, qK, qD, qN⟩ := q; exact ⟨q0, q1, qP, va_K.moved (u := U) (U := U.calling g mk a) (Vm.Alike.refl U.vm) qK, qD, qN.same rfl⟩, va_recv hK hP (ci := 16) (q0 := h0) rfl (Wd_ob kg_1 sg_1 (by decide)), fun U hU hW => ⟨rfl, by rw [hU], by rw [hU]; exact hP, va_K.moved hW.alike hK, hD.weaken (fun _ _ _ _ => trivial), hN.warm hW⟩⟩ rfl rfl hl.1 rfl (lv_room (Nat.le_of_ble_eq_true rfl)) dX16_identity_41 ⟨Nat.le_of_ble_eq_true rfl, Nat.le_of_ble_eq_true rfl⟩) hS (fun q _ h => hFc q h) hFc (fun rr u t H_11 locs ht hvm hw hB hz1 hk1 hS2 => ?_)
    rw [hw]
    clear hw
    obtain ⟨hP1, -, hD1⟩ := hB
    rw [ht] at hP1
    replace hD := hD1.weaken (fun _ _ _ h => hFc _ h)
    replace hP := hP1
    replace hS := hS2
    clear hP1 hD1 hS2 hFc hfc hz1 hk1 hvm ht
    refine lv_iadd hx hb dX16_identity_44 ?_
    obtain ⟨h8, h9⟩ := ret_some hf
    rw [h8, h9]
    exact W.iret (v := ((256 * r_7) + r_10)) hx hb hr (fun t ht hW => ⟨⟨((256 * r_7) + r_10), (), rfl, rfl, by rw [ht]; exact hP, va_K.moved hW.alike hK, hD⟩, hS.F ht⟩) hS.2.2 dX16_identity_45
  · skip
    rw [if_neg c_5] at hf
    refine lv_sipush (v := 256) hx hb dX16_identity_15 (by decide) ?_
    refine lv_aload_n hx hb dX16_identity_18 rfl (lv_at hl 1 rfl) ?_
    obtain ⟨z_12, r_13, hfc, hf⟩ := cal_some hf
    have hFc := de_free hD hS hA
    refine va_calli (va_runV (As := []) (rest := [.int 256]) ⟨hx, hb, hml, hown, hts⟩ (de_X16_number l dC dI cy a sh n H.size F z h0 hfc) (cwV 0 hts gX16_identity_X16_number rfl rfl rfl (by decide +kernel) ⟨Nat.le_of_ble_eq_true rfl, Nat.le_of_ble_eq_true rfl⟩) ⟨fun a U g mk q => by obtain ⟨q0, q1, qP, qK, qD, qN⟩ := q; exact ⟨q0, q1, qP, va_K.moved (u := U) (U := U.calling g mk a) (Vm.Alike.refl U.vm) qK, qD, qN.same rfl⟩, va_recv hK hP (ci := 16) (q0 := h0) rfl (Wd_ob kg_1 sg_1 (by decide)), fun U hU hW => ⟨rfl, by rw [hU], by rw [hU]; exact hP, va_K.moved hW.alike hK, hD.weaken (fun _ _ _ _ => trivial), hN.warm hW⟩⟩ rfl rfl hl.1 rfl (lv_room (Nat.le_of_ble_eq_true rfl)) dX16_identity_19 ⟨Nat.le_of_ble_eq_true rfl, Nat.le_of_ble_eq_true rfl⟩) hS (fun q _ h => hFc q h) hFc (fun rr u t H_14 locs ht hvm hw hB hz1 hk1 hS2 => ?_)
    rw [hw]
    clear hw
    obtain ⟨hP1, -, hD1⟩ := hB
    rw [ht] at hP1
    replace hD := hD1.weaken (fun _ _ _ h => hFc _ h)
    replace hP := hP1
    replace hS := hS2
    clear hP1 hD1 hS2 hFc hfc hz1 hk1 hvm ht
    refine lv_imul hx hb dX16_identity_22 ?_
    refine lv_iload_n hx hb dX16_identity_23 rfl (lv_at hl 2 rfl) ?_
    refine lv_iadd hx hb dX16_identity_24 ?_
    refine lv_goto (tgt := 45) hx hb dX16_identity_25 (by decide) ?_
    obtain ⟨h8, h9⟩ := ret_some hf
    rw [h8, h9]
    exact W.iret (v := ((256 * r_13) + x0)) hx hb hr (fun t ht hW => ⟨⟨((256 * r_13) + x0), (), rfl, rfl, by rw [ht]; exact hP, va_K.moved hW.alike hK, hD⟩, hS.F ht⟩) hS.2.2 dX16_identity_45

theorem md_X16_reach_1 : (.fieldLink RX16 13 "ResourceLedgerModel$Unit" "structureAt" "[I" : Cond) ∈ wsX16_reach := List.mem_of_getElem? (i := 1) rfl
theorem iwd_X16_reach_X16 : ∀ w ∈ wsX160, w ∈ wsX16_reach := fun _ h => List.mem_cons_of_mem _ (List.mem_append_right _ h)
theorem md_X16_reach_2 : (.fieldLink RX16 32 "ResourceLedgerModel$Unit" "reached" "[Z" : Cond) ∈ wsX16_reach := List.mem_of_getElem? (i := 2) rfl
set_option maxHeartbeats 4000000 in
set_option maxRecDepth 100000 in
theorem de_X16_reach (l : Launch) (dC : Nat → ClassId) (dI : Nat → Nat → Nat) (cy : Nat → ClassId) (a : Nat → Nat) (sh : Nat → Nat × Nat) (n sz : Nat) (F : Nat) (z : St) (h0 : Nat) (x0 : Int32) {z8 : St} {r8 : Unit} (hf : fn_X16_reach F sh n z h0 x0 = some (z8, r8)) : Met l yX16_reach wsX16_reach ({ frames := 3, cells := 0, slots := 0, locals := 65 }) (va_Pc [.ref (a h0), .int x0] (fun U => U.heap.size = sz ∧ va_P (dC, dI) vwCl (Wd cy a sh n z) U.heap ∧ va_K (dC, dI) vwCl (TYS cy) U ∧ va_D (fun _ => True) (Wd cy a sh n z) ∧ NK U)) (va_Qv (fun u : Unit => True) (fun u t => va_P (dC, dI) vwCl (Wd cy a sh n z8) t.heap ∧ va_K (dC, dI) vwCl (TYS cy) t ∧ va_D (va_A (Wd cy a sh n z) sz) (Wd cy a sh n z8)) (va_A (Wd cy a sh n z) sz)) 0 0 (va_A (Wd cy a sh n z) sz) := by
  refine Met.ofW (cc := cX16_reach) (maxL := 4) (ret := none) (by decide) rfl ?_
  intro p e s m args below meth c s₁ B hml hv
  obtain ⟨rfl, hsz, hP, hK, hD0, hN⟩ := hv
  have hx := B.exec
  have hb := B.bytes
  have hr := B.returns
  have hts := atoms_spec (ws := wsX16_reach) B.pre
  have hown : s.vm.findClass RX16 = some m.cls := findClass_of_methodNamed B.named
  have hlocks := B.notSynchronized
  subst hsz
  have hD := hD0.self (sz := s.heap.size)
  clear hD0
  generalize hAe : va_A (Wd cy a sh n z) s.heap.size = A at hD ⊢
  have hA : ∀ q : Nat, s.heap.size ≤ q → A q := fun q h => by rw [← hAe]; exact Or.inr h
  clear hAe
  have hS : va_S A s.heap s.heap [] := va_S.rf
  have hl := lv_entry ([.ref (a h0), .int x0]) (n := 4) (Nat.le_of_ble_eq_true rfl)
  rw [lg_entry_eq]
  generalize (lg_sl ([.ref (a h0), .int x0]) ++ List.replicate (4 - (lg_sl ([.ref (a h0), .int x0])).length) Slot.unset).toArray = ls at hl ⊢
  replace hl : lv_has ls 4 [(0, .ref (a h0)), (1, .int x0)] := hl
  unfold fn_X16_reach at hf
  refine de_start hS hP (fun H locs hS hP => ?_)
  refine lv_aload_n hx hb dX16_reach_0 rfl (lv_at hl 0 rfl) ?_
  obtain ⟨g_1, hf⟩ := grd_some hf
  obtain ⟨kg_1, sg_1⟩ := okO_at g_1
  obtain ⟨k_2, ek_2, hf⟩ := lnk_some hf
  refine va_get (D := (dC, dI)) (ci := 16) (v := .ref (a k_2)) (C := RX16) (T := TX16) (N := 18) hx hb hts iwd_X16_reach_X16 hown hK hP h0 (Wd_ob kg_1 sg_1 (by decide)) rfl 11 (by decide) (hts _ md_X16_reach_1) (fun _ h9 => h9) (fl_q rfl ek_2) dX16_reach_1 ?_
  refine lv_iload_n hx hb dX16_reach_4 rfl (lv_at hl 1 rfl) ?_
  obtain ⟨g_3, hf⟩ := grd_some hf
  obtain ⟨kg_3, sg_3, ig_3⟩ := okA_at g_3
  refine va_iald hx hb hK hP k_2 1 (Wd_ai kg_3 sg_3) rfl ig_3 dX16_reach_5 ?_
  refine lv_iconst (v := 2) hx hb dX16_reach_6 (by decide) ?_
  refine lv_iadd hx hb dX16_reach_7 ?_
  refine lv_topi (fun v_4 ev_4 => ?_)
  replace hf := lt_at ev_4 hf
  clear ev_4
  refine lv_istore_n (lv' := [(2, .int v_4), (0, .ref (a h0)), (1, .int x0)]) hx hb dX16_reach_8 rfl hl (by decide) rfl (fun ls hl2 => ?_)
  replace hl := hl2
  clear hl2
  refine lv_iconst (v := 0) hx hb dX16_reach_9 (by decide) ?_
  refine lv_istore_n (lv' := [(3, .int 0), (2, .int v_4), (0, .ref (a h0)), (1, .int x0)]) hx hb dX16_reach_10 rfl hl (by decide) rfl (fun ls hl2 => ?_)
  replace hl := hl2
  clear hl2
  have hl0 : lv_has ls 4 [(3, .int 0), (2, .int v_4), (0, .ref (a h0)), (1, .int x0)] := lv_sub hl [0, 1, 2, 3] rfl
  refine de_loop (h := 11) (fun (x : St × Int32 × Int32) ls H locs => lv_has ls 4 [(3, .int x.2.2), (2, .int x.2.1), (0, .ref (a h0)), (1, .int x0)] ∧ va_P (dC, dI) vwCl (Wd cy a sh n x.1) H ∧ va_D A (Wd cy a sh n x.1) ∧ va_S A s.heap H locs) (fun f x => fn_X16_reach_L11 F sh n h0 x0 f x.1 x.2.1 x.2.2) (z8, r8) ?_ (fun _ => rfl) F (z, v_4, 0) ls H locs ⟨hl0, hP, hD, hS⟩ hf
  intro f_8 x ls H locs ih11 hI hf
  obtain ⟨z_7, p_5, p_6⟩ := x
  obtain ⟨hl2, hP2, hD2, hS2⟩ := hI
  replace hl : lv_has ls 4 [(3, .int p_6), (2, .int p_5), (0, .ref (a h0)), (1, .int x0)] := hl2
  replace hP := hP2
  replace hD := hD2
  replace hS := hS2
  clear hl2 hP2 hD2 hS2 hl0
  replace hf := fn_X16_reach_L11_s hf
  refine lv_iload_n hx hb dX16_reach_11 rfl (lv_at hl 0 rfl) ?_
  refine lv_aload_n hx hb dX16_reach_12 rfl (lv_at hl 2 rfl) ?_
  refine lv_iload_n hx hb dX16_reach_13 rfl (lv_at hl 3 rfl) ?_
  obtain ⟨z_9, r_10, hfc, hf⟩ := cal_some hf
  have hFc := de_free hD hS hA
  refine va_calli (va_runV (As := [.int x0]) (rest := [.int p_6]) ⟨hx, hb, hml, hown, hts⟩ (de_X16_fieldsOf l dC dI cy a sh n H.size F z_7 h0 x0 hfc) (cwV 1 hts gX16_reach_X16_fieldsOf rfl rfl rfl (by decide +kernel) ⟨Nat.le_of_ble_eq_true rfl, Nat.le_of_ble_eq_true rfl⟩) ⟨fun a U g mk q => by obtain ⟨q0, q1, qP, qK, qD, qN⟩ := q; exact ⟨q0, q1, qP, va_K.moved (u := U) (U := U.calling g mk a) (Vm.Alike.refl U.vm) qK, qD, qN.same rfl⟩, va_recv hK hP (ci := 16) (q0 := h0) rfl (Wd_ob kg_1 sg_1 (by decide)), fun U hU hW => ⟨rfl, by rw [hU], by rw [hU]; exact hP, va_K.moved hW.alike hK, hD.weaken (fun _ _ _ _ => trivial), hN.warm hW⟩⟩ rfl rfl hl.1 rfl (lv_room (Nat.le_of_ble_eq_true rfl)) dX16_reach_14 ⟨Nat.le_of_ble_eq_true rfl, Nat.le_of_ble_eq_true rfl⟩) hS (fun q _ h => hFc q h) hFc (fun rr u t H_11 locs ht hvm hw hB hz1 hk1 hS2 => ?_)
  rw [hw]
  clear hw
  obtain ⟨hP1, -, hD1⟩ := hB
  rw [ht] at hP1
  replace hD := hD1.weaken (fun _ _ _ h => hFc _ h)
  replace hP := hP1
  replace hS := hS2
  clear hP1 hD1 hS2 hFc hfc hz1 hk1 hvm ht
  refine lv_icmp_ge (tgt := 51) hx hb dX16_reach_17 (by decide) (fun c_12 => ?_) (fun c_12 => ?_)
  · skip
    rw [if_pos c_12] at hf
    obtain ⟨h8, h9⟩ := ret_some hf
    rw [h8]
    exact W.vret hx hb hr (fun t ht hW => ⟨⟨(), rfl, trivial, by rw [ht]; exact hP, va_K.moved hW.alike hK, hD⟩, hS.F ht⟩) hS.2.2 dX16_reach_51
  · skip
    rw [if_neg c_12] at hf
    refine lv_aload_n hx hb dX16_reach_20 rfl (lv_at hl 2 rfl) ?_
    refine lv_iload_n hx hb dX16_reach_21 rfl (lv_at hl 1 rfl) ?_
    obtain ⟨z_13, r_14, hfc, hf⟩ := cal_some hf
    have hFc := de_free hD hS hA
    refine va_calli (va_runV (As := [.int p_5]) (rest := []) ⟨hx, hb, hml, hown, hts⟩ (de_X16_ownIn l dC dI cy a sh n H_11.size F z_9 h0 p_5 hfc) (cwV 1 hts gX16_reach_X16_ownIn rfl rfl rfl (by decide +kernel) ⟨Nat.le_of_ble_eq_true rfl, Nat.le_of_ble_eq_true rfl⟩) ⟨fun a U g mk q => by obtain ⟨q0, q1, qP, qK, qD, qN⟩ := q; exact ⟨q0, q1, qP, va_K.moved (u := U) (U := U.calling g mk a) (Vm.Alike.refl U.vm) qK, qD, qN.same rfl⟩, va_recv hK hP (ci := 16) (q0 := h0) rfl (Wd_ob kg_1 sg_1 (by decide)), fun U hU hW => ⟨rfl, by rw [hU], by rw [hU]; exact hP, va_K.moved hW.alike hK, hD.weaken (fun _ _ _ _ => trivial), hN.warm hW⟩⟩ rfl rfl hl.1 rfl (lv_room (Nat.le_of_ble_eq_true rfl)) dX16_reach_22 ⟨Nat.le_of_ble_eq_true rfl, Nat.le_of_ble_eq_true rfl⟩) hS (fun q _ h => hFc q h) hFc (fun rr u t H_15 locs ht hvm hw hB hz1 hk1 hS2 => ?_)
    rw [hw]
    clear hw
    obtain ⟨hP1, -, hD1⟩ := hB
    rw [ht] at hP1
    replace hD := hD1.weaken (fun _ _ _ h => hFc _ h)
    replace hP := hP1
    replace hS := hS2
    clear hP1 hD1 hS2 hFc hfc hz1 hk1 hvm ht
    refine de_cut (h := 39) (fun (x : St) => []) (fun x ls H locs => lv_has ls 4 [(3, .int p_6), (2, .int p_5), (0, .ref (a h0)), (1, .int x0)] ∧ va_P (dC, dI) vwCl (Wd cy a sh n x) H ∧ va_D A (Wd cy a sh n x) ∧ va_S A s.heap H locs) (fun x => fn_X16_reach_B39 F sh n h0 p_5 p_6 (fun z9 q2 q3 => fn_X16_reach_L11 F sh n h0 x0 f_8 z9 q2 q3) x) (z8, r8) ?_ (fun B39 => ?_)
    · intro x ls H locs hI hf
      obtain ⟨z_16, ez⟩ : ∃ w, w = x := ⟨_, rfl⟩
      subst ez
      obtain ⟨hl2, hP2, hD2, hS2⟩ := hI
      replace hl : lv_has ls 4 [(3, .int p_6), (2, .int p_5), (0, .ref (a h0)), (1, .int x0)] := hl2
      replace hP := hP2
      replace hD := hD2
      replace hS := hS2
      clear hl2 hP2 hD2 hS2
      replace hf := fn_X16_reach_B39_s hf
      refine W.eq (g2 := F0 m 39 ls []) rfl ?_
      refine lv_aload_n hx hb dX16_reach_39 rfl (lv_at hl 2 rfl) ?_
      refine lv_iload_n hx hb dX16_reach_40 rfl (lv_at hl 1 rfl) ?_
      obtain ⟨z_17, r_18, hfc, hf⟩ := cal_some hf
      have hFc := de_free hD hS hA
      refine va_calli (va_runV (As := [.int p_5]) (rest := []) ⟨hx, hb, hml, hown, hts⟩ (de_X16_typeEnd l dC dI cy a sh n H.size F z_16 h0 p_5 hfc) (cwV 1 hts gX16_reach_X16_typeEnd rfl rfl rfl (by decide +kernel) ⟨Nat.le_of_ble_eq_true rfl, Nat.le_of_ble_eq_true rfl⟩) ⟨fun a U g mk q => by obtain ⟨q0, q1, qP, qK, qD, qN⟩ := q; exact ⟨q0, q1, qP, va_K.moved (u := U) (U := U.calling g mk a) (Vm.Alike.refl U.vm) qK, qD, qN.same rfl⟩, va_recv hK hP (ci := 16) (q0 := h0) rfl (Wd_ob kg_1 sg_1 (by decide)), fun U hU hW => ⟨rfl, by rw [hU], by rw [hU]; exact hP, va_K.moved hW.alike hK, hD.weaken (fun _ _ _ _ => trivial), hN.warm hW⟩⟩ rfl rfl hl.1 rfl (lv_room (Nat.le_of_ble_eq_true rfl)) dX16_reach_41 ⟨Nat.le_of_ble_eq_true rfl, Nat.le_of_ble_eq_true rfl⟩) hS (fun q _ h => hFc q h) hFc (fun rr u t H_19 locs ht hvm hw hB hz1 hk1 hS2 => ?_)
      rw [hw]
      clear hw
      obtain ⟨hP1, -, hD1⟩ := hB
      rw [ht] at hP1
      replace hD := hD1.weaken (fun _ _ _ h => hFc _ h)
      replace hP := hP1
      replace hS := hS2
      clear hP1 hD1 hS2 hFc hfc hz1 hk1 hvm ht
      refine lv_istore_n (lv' := [(2, .int r_18), (3, .int p_6), (0, .ref (a h0)), (1, .int x0)]) hx hb dX16_reach_44 rfl hl (by decide) rfl (fun ls hl2 => ?_)
      replace hl := hl2
      clear hl2
      refine lv_iinc (v := (p_6 + 1)) (lv' := [(3, .int (p_6 + 1)), (2, .int r_18), (0, .ref (a h0)), (1, .int x0)]) hx hb dX16_reach_45 hl (k := 1) rfl rfl (by decide) rfl (fun ls hl2 => ?_)
      replace hl := hl2
      clear hl2
      refine lv_goto (tgt := 11) hx hb dX16_reach_48 (by decide) ?_
      exact ih11 (z_17, r_18, (p_6 + 1)) ls H_19 locs ⟨lv_sub hl [0, 1, 2, 3] rfl, hP, hD, hS⟩ hf
    refine lv_if_lt (tgt := 39) hx hb dX16_reach_25 (by decide) (fun c_20 => ?_) (fun c_20 => ?_)
    · skip
      rw [if_pos c_20] at hf
      exact B39 (z_13) ls H_15 locs ⟨lv_sub hl [0, 1, 2, 3] rfl, hP, hD, hS⟩ hf
    · skip
      rw [if_neg c_20] at hf
      refine lv_aload_n hx hb dX16_reach_28 rfl (lv_at hl 2 rfl) ?_
      obtain ⟨k_21, ek_21, hf⟩ := lnk_some hf
      refine va_get (D := (dC, dI)) (ci := 16) (v := .ref (a k_21)) (C := RX16) (T := TX16) (N := 18) hx hb hts iwd_X16_reach_X16 hown hK hP h0 (Wd_ob kg_1 sg_1 (by decide)) rfl 17 (by decide) (hts _ md_X16_reach_2) (fun _ h9 => h9) (fl_q rfl ek_21) dX16_reach_29 ?_
      refine lv_aload_n hx hb dX16_reach_32 rfl (lv_at hl 2 rfl) ?_
      refine lv_iload_n hx hb dX16_reach_33 rfl (lv_at hl 1 rfl) ?_
      obtain ⟨z_22, r_23, hfc, hf⟩ := cal_some hf
      have hFc := de_free hD hS hA
      refine va_calli (va_runV (As := [.int p_5]) (rest := [.ref (a k_21)]) ⟨hx, hb, hml, hown, hts⟩ (de_X16_ownIn l dC dI cy a sh n H_15.size F z_13 h0 p_5 hfc) (cwV 1 hts gX16_reach_X16_ownIn rfl rfl rfl (by decide +kernel) ⟨Nat.le_of_ble_eq_true rfl, Nat.le_of_ble_eq_true rfl⟩) ⟨fun a U g mk q => by obtain ⟨q0, q1, qP, qK, qD, qN⟩ := q; exact ⟨q0, q1, qP, va_K.moved (u := U) (U := U.calling g mk a) (Vm.Alike.refl U.vm) qK, qD, qN.same rfl⟩, va_recv hK hP (ci := 16) (q0 := h0) rfl (Wd_ob kg_1 sg_1 (by decide)), fun U hU hW => ⟨rfl, by rw [hU], by rw [hU]; exact hP, va_K.moved hW.alike hK, hD.weaken (fun _ _ _ _ => trivial), hN.warm hW⟩⟩ rfl rfl hl.1 rfl (lv_room (Nat.le_of_ble_eq_true rfl)) dX16_reach_34 ⟨Nat.le_of_ble_eq_true rfl, Nat.le_of_ble_eq_true rfl⟩) hS (fun q _ h => hFc q h) hFc (fun rr u t H_24 locs ht hvm hw hB hz1 hk1 hS2 => ?_)
      rw [hw]
      clear hw
      obtain ⟨hP1, -, hD1⟩ := hB
      rw [ht] at hP1
      replace hD := hD1.weaken (fun _ _ _ h => hFc _ h)
      replace hP := hP1
      replace hS := hS2
      clear hP1 hD1 hS2 hFc hfc hz1 hk1 hvm ht
      refine lv_iconst (v := 1) hx hb dX16_reach_37 (by decide) ?_
      obtain ⟨g_25, hf⟩ := grd_some hf
      obtain ⟨kg_25, sg_25, ig_25⟩ := okA_at g_25
      refine va_zast hx hb hK hP hD hS k_21 3 (Wd_az kg_25 sg_25) rfl ig_25 dX16_reach_38 (fun H_26 locs hP2 hD2 hS2 => ?_)
      rw [Wd_tz sg_25] at hP2 hD2
      obtain ⟨z_27, ez_27⟩ : ∃ w, w = si z_22 k_21 r_23.toNatClampNeg (vp_nar .boolean 1) := ⟨_, rfl⟩
      rw [← ez_27] at hP2 hD2
      replace hf := lt_at ez_27 hf
      clear ez_27
      replace hP := hP2
      replace hD := hD2
      replace hS := hS2
      clear hP2 hD2 hS2
      exact B39 (z_27) ls H_26 locs ⟨lv_sub hl [0, 1, 2, 3] rfl, hP, hD, hS⟩ hf

theorem md_X3_steer_2 : (.fieldLink RX3 95 "ResourceLedger$Looker" "depth" "I" : Cond) ∈ wsX3_steer := List.mem_of_getElem? (i := 2) rfl
theorem iwd_X3_steer_X3 : ∀ w ∈ wsX30, w ∈ wsX3_steer := fun _ h => List.mem_cons_of_mem _ (List.mem_append_left _ (List.mem_append_right _ h))
theorem md_X3_steer_1 : (.constantLong RX3 219 (3) : Cond) ∈ wsX3_steer := List.mem_of_getElem? (i := 1) rfl
set_option maxHeartbeats 4000000 in
set_option maxRecDepth 100000 in
theorem de_X3_steer (l : Launch) (dC : Nat → ClassId) (dI : Nat → Nat → Nat) (cy : Nat → ClassId) (a : Nat → Nat) (sh : Nat → Nat × Nat) (n sz : Nat) (F : Nat) (z : St) (h0 : Nat) (x0 : Int32) {z8 : St} {r8 : Unit} (hf : fn_X3_steer F sh n z h0 x0 = some (z8, r8)) : Met l yX3_steer wsX3_steer ({ frames := 3, cells := 0, slots := 0, locals := 69 }) (va_Pc [.ref (a h0), .int x0] (fun U => U.heap.size = sz ∧ va_P (dC, dI) vwCl (Wd cy a sh n z) U.heap ∧ va_K (dC, dI) vwCl (TYS cy) U ∧ va_D (fun _ => True) (Wd cy a sh n z) ∧ NK U)) (va_Qv (fun u : Unit => True) (fun u t => va_P (dC, dI) vwCl (Wd cy a sh n z8) t.heap ∧ va_K (dC, dI) vwCl (TYS cy) t ∧ va_D (va_A (Wd cy a sh n z) sz) (Wd cy a sh n z8)) (va_A (Wd cy a sh n z) sz)) 0 0 (va_A (Wd cy a sh n z) sz) := by
  refine Met.ofW (cc := cX3_steer) (maxL := 2) (ret := none) (by decide) rfl ?_
  intro p e s m args below meth c s₁ B hml hv
  obtain ⟨rfl, hsz, hP, hK, hD0, hN⟩ := hv
  have hx := B.exec
  have hb := B.bytes
  have hr := B.returns
  have hts := atoms_spec (ws := wsX3_steer) B.pre
  have hown : s.vm.findClass RX3 = some m.cls := findClass_of_methodNamed B.named
  have hlocks := B.notSynchronized
  subst hsz
  have hD := hD0.self (sz := s.heap.size)
  clear hD0
  generalize hAe : va_A (Wd cy a sh n z) s.heap.size = A at hD ⊢
  have hA : ∀ q : Nat, s.heap.size ≤ q → A q := fun q h => by rw [← hAe]; exact Or.inr h
  clear hAe
  have hS : va_S A s.heap s.heap [] := va_S.rf
  have hl := lv_entry ([.ref (a h0), .int x0]) (n := 2) (Nat.le_of_ble_eq_true rfl)
  rw [lg_entry_eq]
  generalize (lg_sl ([.ref (a h0), .int x0]) ++ List.replicate (2 - (lg_sl ([.ref (a h0), .int x0])).length) Slot.unset).toArray = ls at hl ⊢
  replace hl : lv_has ls 2 [(0, .ref (a h0)), (1, .int x0)] := hl
  unfold fn_X3_steer at hf
  refine de_start hS hP (fun H locs hS hP => ?_)
  refine lv_iload_n hx hb dX3_steer_0 rfl (lv_at hl 1 rfl) ?_
  refine lv_if_ne (tgt := 24) hx hb dX3_steer_1 (by decide) (fun c_1 => ?_) (fun c_1 => ?_)
  · skip
    rw [if_neg c_1] at hf
    refine lv_iload_n hx hb dX3_steer_24 rfl (lv_at hl 1 rfl) ?_
    refine lv_bipush (v := 45) hx hb dX3_steer_25 (by decide) ?_
    refine lv_icmp_ne (tgt := 40) hx hb dX3_steer_27 (by decide) (fun c_2 => ?_) (fun c_2 => ?_)
    · skip
      rw [if_neg c_2] at hf
      refine lv_iload_n hx hb dX3_steer_40 rfl (lv_at hl 1 rfl) ?_
      refine lv_iconst (v := 2) hx hb dX3_steer_41 (by decide) ?_
      refine de_cut (h := 50) (fun (x : St) => []) (fun x ls H locs => lv_has ls 2 [(0, .ref (a h0))] ∧ va_P (dC, dI) vwCl (Wd cy a sh n x) H ∧ va_D A (Wd cy a sh n x) ∧ va_S A s.heap H locs) (fun x => fn_X3_steer_B50 F sh n h0 x) (z8, r8) ?_ (fun B50 => ?_)
      · intro x ls H locs hI hf
        obtain ⟨z_3, ez⟩ : ∃ w, w = x := ⟨_, rfl⟩
        subst ez
        obtain ⟨hl2, hP2, hD2, hS2⟩ := hI
        replace hl : lv_has ls 2 [(0, .ref (a h0))] := hl2
        replace hP := hP2
        replace hD := hD2
        replace hS := hS2
        clear hl2 hP2 hD2 hS2
        replace hf := fn_X3_steer_B50_s hf
        refine W.eq (g2 := F0 m 50 ls []) rfl ?_
        refine lv_aload_n hx hb dX3_steer_50 rfl (lv_at hl 0 rfl) ?_
        obtain ⟨g_4, hf⟩ := grd_some hf
        obtain ⟨kg_4, sg_4⟩ := okO_at g_4
        refine va_get (D := (dC, dI)) (ci := 3) (v := .int (z_3.1 h0 8)) (C := RX3) (T := TX3) (N := 22) hx hb hts iwd_X3_steer_X3 hown hK hP h0 (Wd_ob kg_4 sg_4 (by decide)) rfl 8 (by decide) (hts _ md_X3_steer_2) (fun _ h9 => h9) (fl_at (t := 0) rfl) dX3_steer_51 ?_
        refine lv_if_le (tgt := 63) hx hb dX3_steer_54 (by decide) (fun c_5 => ?_) (fun c_5 => ?_)
        · skip
          rw [if_pos c_5] at hf
          obtain ⟨h8, h9⟩ := ret_some hf
          rw [h8]
          exact W.vret hx hb hr (fun t ht hW => ⟨⟨(), rfl, trivial, by rw [ht]; exact hP, va_K.moved hW.alike hK, hD⟩, hS.F ht⟩) hS.2.2 dX3_steer_63
        · skip
          rw [if_neg c_5] at hf
          refine lv_aload_n hx hb dX3_steer_57 rfl (lv_at hl 0 rfl) ?_
          refine lv_bipush (v := 8) hx hb dX3_steer_58 (by decide) ?_
          obtain ⟨z_6, _u, hfc, hf⟩ := cal_some hf
          have hFc := de_free hD hS hA
          refine va_callv (va_runV (As := [.int 8]) (rest := []) ⟨hx, hb, hml, hown, hts⟩ (de_X3_fail l dC dI cy a sh n H.size F z_3 h0 8 hfc) (cwV 1 hts gX3_steer_X3_fail rfl rfl rfl (by decide +kernel) ⟨Nat.le_of_ble_eq_true rfl, Nat.le_of_ble_eq_true rfl⟩) ⟨fun a U g mk q => by obtain ⟨q0, q1, qP, qK, qD, qN⟩ := q; exact ⟨q0, q1, qP, va_K.moved (u := U) (U := U.calling g mk a) (Vm.Alike.refl U.vm) qK, qD, qN.same rfl⟩, va_recv hK hP (ci := 3) (q0 := h0) rfl (Wd_ob kg_4 sg_4 (by decide)), fun U hU hW => ⟨rfl, by rw [hU], by rw [hU]; exact hP, va_K.moved hW.alike hK, hD.weaken (fun _ _ _ _ => trivial), hN.warm hW⟩⟩ rfl rfl hl.1 rfl (lv_room (Nat.le_of_ble_eq_true rfl)) dX3_steer_60 ⟨Nat.le_of_ble_eq_true rfl, Nat.le_of_ble_eq_true rfl⟩) hS (fun q _ h => hFc q h) hFc (fun u t H_7 locs ht hvm hw hB hz1 hk1 hS2 => ?_)
          obtain ⟨hP1, -, hD1⟩ := hB
          rw [ht] at hP1
          replace hD := hD1.weaken (fun _ _ _ h => hFc _ h)
          replace hP := hP1
          replace hS := hS2
          clear hP1 hD1 hS2 hFc hfc hz1 hk1 hvm ht
          obtain ⟨h8, h9⟩ := ret_some hf
          rw [h8]
          exact W.vret hx hb hr (fun t ht hW => ⟨⟨(), rfl, trivial, by rw [ht]; exact hP, va_K.moved hW.alike hK, hD⟩, hS.F ht⟩) hS.2.2 dX3_steer_63
      refine lv_icmp_eq (tgt := 50) hx hb dX3_steer_42 (by decide) (fun c_8 => ?_) (fun c_8 => ?_)
      · skip
        rw [if_pos c_8] at hf
        exact B50 (z) ls H locs ⟨lv_sub hl [0] rfl, hP, hD, hS⟩ hf
      · skip
        rw [if_neg c_8] at hf
        refine lv_aload_n hx hb dX3_steer_45 rfl (lv_at hl 0 rfl) ?_
        refine lv_lconst (v := 1) hx hb dX3_steer_46 (by decide) ?_
        obtain ⟨g_10, hf⟩ := grd_some hf
        obtain ⟨kg_10, sg_10⟩ := okO_at g_10
        obtain ⟨z_9, _u, hfc, hf⟩ := cal_some hf
        have hFc := de_free hD hS hA
        refine va_callv (va_runV (As := [.long 1]) (rest := []) ⟨hx, hb, hml, hown, hts⟩ (de_X3_takeOnly l dC dI cy a sh n H.size F z h0 1 hfc) (cwV 1 hts gX3_steer_X3_takeOnly rfl rfl rfl (by decide +kernel) ⟨Nat.le_of_ble_eq_true rfl, Nat.le_of_ble_eq_true rfl⟩) ⟨fun a U g mk q => by obtain ⟨q0, q1, qP, qK, qD, qN⟩ := q; exact ⟨q0, q1, qP, va_K.moved (u := U) (U := U.calling g mk a) (Vm.Alike.refl U.vm) qK, qD, qN.same rfl⟩, va_recv hK hP (ci := 3) (q0 := h0) rfl (Wd_ob kg_10 sg_10 (by decide)), fun U hU hW => ⟨rfl, by rw [hU], by rw [hU]; exact hP, va_K.moved hW.alike hK, hD.weaken (fun _ _ _ _ => trivial), hN.warm hW⟩⟩ rfl rfl hl.1 rfl (lv_room (Nat.le_of_ble_eq_true rfl)) dX3_steer_47 ⟨Nat.le_of_ble_eq_true rfl, Nat.le_of_ble_eq_true rfl⟩) hS (fun q _ h => hFc q h) hFc (fun u t H_11 locs ht hvm hw hB hz1 hk1 hS2 => ?_)
        obtain ⟨hP1, -, hD1⟩ := hB
        rw [ht] at hP1
        replace hD := hD1.weaken (fun _ _ _ h => hFc _ h)
        replace hP := hP1
        replace hS := hS2
        clear hP1 hD1 hS2 hFc hfc hz1 hk1 hvm ht
        exact B50 (z_9) ls H_11 locs ⟨lv_sub hl [0] rfl, hP, hD, hS⟩ hf
    · skip
      rw [if_pos c_2] at hf
      refine lv_aload_n hx hb dX3_steer_30 rfl (lv_at hl 0 rfl) ?_
      refine lv_ldc2 hx hb hown (hts _ md_X3_steer_1) dX3_steer_31 ?_
      obtain ⟨g_13, hf⟩ := grd_some hf
      obtain ⟨kg_13, sg_13⟩ := okO_at g_13
      obtain ⟨z_12, _u, hfc, hf⟩ := cal_some hf
      have hFc := de_free hD hS hA
      refine va_callv (va_runV (As := [.long 3]) (rest := []) ⟨hx, hb, hml, hown, hts⟩ (de_X3_takeOnly l dC dI cy a sh n H.size F z h0 3 hfc) (cwV 1 hts gX3_steer_X3_takeOnly rfl rfl rfl (by decide +kernel) ⟨Nat.le_of_ble_eq_true rfl, Nat.le_of_ble_eq_true rfl⟩) ⟨fun a U g mk q => by obtain ⟨q0, q1, qP, qK, qD, qN⟩ := q; exact ⟨q0, q1, qP, va_K.moved (u := U) (U := U.calling g mk a) (Vm.Alike.refl U.vm) qK, qD, qN.same rfl⟩, va_recv hK hP (ci := 3) (q0 := h0) rfl (Wd_ob kg_13 sg_13 (by decide)), fun U hU hW => ⟨rfl, by rw [hU], by rw [hU]; exact hP, va_K.moved hW.alike hK, hD.weaken (fun _ _ _ _ => trivial), hN.warm hW⟩⟩ rfl rfl hl.1 rfl (lv_room (Nat.le_of_ble_eq_true rfl)) dX3_steer_34 ⟨Nat.le_of_ble_eq_true rfl, Nat.le_of_ble_eq_true rfl⟩) hS (fun q _ h => hFc q h) hFc (fun u t H_14 locs ht hvm hw hB hz1 hk1 hS2 => ?_)
      obtain ⟨hP1, -, hD1⟩ := hB
      rw [ht] at hP1
      replace hD := hD1.weaken (fun _ _ _ h => hFc _ h)
      replace hP := hP1
      replace hS := hS2
      clear hP1 hD1 hS2 hFc hfc hz1 hk1 hvm ht
      refine lv_goto (tgt := 63) hx hb dX3_steer_37 (by decide) ?_
      obtain ⟨h8, h9⟩ := ret_some hf
      rw [h8]
      exact W.vret hx hb hr (fun t ht hW => ⟨⟨(), rfl, trivial, by rw [ht]; exact hP, va_K.moved hW.alike hK, hD⟩, hS.F ht⟩) hS.2.2 dX3_steer_63
  · skip
    rw [if_pos c_1] at hf
    refine lv_aload_n hx hb dX3_steer_4 rfl (lv_at hl 0 rfl) ?_
    refine lv_aload_n hx hb dX3_steer_5 rfl (lv_at hl 0 rfl) ?_
    obtain ⟨g_17, hf⟩ := grd_some hf
    obtain ⟨kg_17, sg_17⟩ := okO_at g_17
    obtain ⟨z_15, r_16, hfc, hf⟩ := cal_some hf
    have hFc := de_free hD hS hA
    refine va_calll (va_runV (As := []) (rest := [.ref (a h0)]) ⟨hx, hb, hml, hown, hts⟩ (de_X3_take l dC dI cy a sh n H.size F z h0 hfc) (cwV 0 hts gX3_steer_X3_take rfl rfl rfl (by decide +kernel) ⟨Nat.le_of_ble_eq_true rfl, Nat.le_of_ble_eq_true rfl⟩) ⟨fun a U g mk q => by obtain ⟨q0, q1, qP, qK, qD, qN⟩ := q; exact ⟨q0, q1, qP, va_K.moved (u := U) (U := U.calling g mk a) (Vm.Alike.refl U.vm) qK, qD, qN.same rfl⟩, va_recv hK hP (ci := 3) (q0 := h0) rfl (Wd_ob kg_17 sg_17 (by decide)), fun U hU hW => ⟨rfl, by rw [hU], by rw [hU]; exact hP, va_K.moved hW.alike hK, hD.weaken (fun _ _ _ _ => trivial), hN.warm hW⟩⟩ rfl rfl hl.1 rfl (lv_room (Nat.le_of_ble_eq_true rfl)) dX3_steer_6 ⟨Nat.le_of_ble_eq_true rfl, Nat.le_of_ble_eq_true rfl⟩) hS (fun q _ h => hFc q h) hFc (fun rr u t H_18 locs ht hvm hw hB hz1 hk1 hS2 => ?_)
    rw [hw]
    clear hw
    obtain ⟨hP1, -, hD1⟩ := hB
    rw [ht] at hP1
    replace hD := hD1.weaken (fun _ _ _ h => hFc _ h)
    replace hP := hP1
    replace hS := hS2
    clear hP1 hD1 hS2 hFc hfc hz1 hk1 hvm ht
    refine lv_iconst (v := 2) hx hb dX3_steer_9 (by decide) ?_
    obtain ⟨z_19, r_20, hfc, hf⟩ := cal_some hf
    have hFc := de_free hD hS hA
    refine va_calli (va_runV (As := [.long r_16, .int 2]) (rest := []) ⟨hx, hb, hml, hown, hts⟩ (de_X3_has l dC dI cy a sh n H_18.size F z_15 h0 r_16 2 hfc) (cwV 2 hts gX3_steer_X3_has rfl rfl rfl (by decide +kernel) ⟨Nat.le_of_ble_eq_true rfl, Nat.le_of_ble_eq_true rfl⟩) ⟨fun a U g mk q => by obtain ⟨q0, q1, qP, qK, qD, qN⟩ := q; exact ⟨q0, q1, qP, va_K.moved (u := U) (U := U.calling g mk a) (Vm.Alike.refl U.vm) qK, qD, qN.same rfl⟩, va_recv hK hP (ci := 3) (q0 := h0) rfl (Wd_ob kg_17 sg_17 (by decide)), fun U hU hW => ⟨rfl, by rw [hU], by rw [hU]; exact hP, va_K.moved hW.alike hK, hD.weaken (fun _ _ _ _ => trivial), hN.warm hW⟩⟩ rfl rfl hl.1 rfl (lv_room (Nat.le_of_ble_eq_true rfl)) dX3_steer_10 ⟨Nat.le_of_ble_eq_true rfl, Nat.le_of_ble_eq_true rfl⟩) hS (fun q _ h => hFc q h) hFc (fun rr u t H_21 locs ht hvm hw hB hz1 hk1 hS2 => ?_)
    rw [hw]
    clear hw
    obtain ⟨hP1, -, hD1⟩ := hB
    rw [ht] at hP1
    replace hD := hD1.weaken (fun _ _ _ h => hFc _ h)
    replace hP := hP1
    replace hS := hS2
    clear hP1 hD1 hS2 hFc hfc hz1 hk1 hvm ht
    refine lv_if_ne (tgt := 63) hx hb dX3_steer_13 (by decide) (fun c_22 => ?_) (fun c_22 => ?_)
    · skip
      rw [if_neg c_22] at hf
      obtain ⟨h8, h9⟩ := ret_some hf
      rw [h8]
      exact W.vret hx hb hr (fun t ht hW => ⟨⟨(), rfl, trivial, by rw [ht]; exact hP, va_K.moved hW.alike hK, hD⟩, hS.F ht⟩) hS.2.2 dX3_steer_63
    · skip
      rw [if_pos c_22] at hf
      refine lv_aload_n hx hb dX3_steer_16 rfl (lv_at hl 0 rfl) ?_
      refine lv_iconst (v := 4) hx hb dX3_steer_17 (by decide) ?_
      obtain ⟨z_23, _u, hfc, hf⟩ := cal_some hf
      have hFc := de_free hD hS hA
      refine va_callv (va_runV (As := [.int 4]) (rest := []) ⟨hx, hb, hml, hown, hts⟩ (de_X3_fail l dC dI cy a sh n H_21.size F z_19 h0 4 hfc) (cwV 1 hts gX3_steer_X3_fail rfl rfl rfl (by decide +kernel) ⟨Nat.le_of_ble_eq_true rfl, Nat.le_of_ble_eq_true rfl⟩) ⟨fun a U g mk q => by obtain ⟨q0, q1, qP, qK, qD, qN⟩ := q; exact ⟨q0, q1, qP, va_K.moved (u := U) (U := U.calling g mk a) (Vm.Alike.refl U.vm) qK, qD, qN.same rfl⟩, va_recv hK hP (ci := 3) (q0 := h0) rfl (Wd_ob kg_17 sg_17 (by decide)), fun U hU hW => ⟨rfl, by rw [hU], by rw [hU]; exact hP, va_K.moved hW.alike hK, hD.weaken (fun _ _ _ _ => trivial), hN.warm hW⟩⟩ rfl rfl hl.1 rfl (lv_room (Nat.le_of_ble_eq_true rfl)) dX3_steer_18 ⟨Nat.le_of_ble_eq_true rfl, Nat.le_of_ble_eq_true rfl⟩) hS (fun q _ h => hFc q h) hFc (fun u t H_24 locs ht hvm hw hB hz1 hk1 hS2 => ?_)
      obtain ⟨hP1, -, hD1⟩ := hB
      rw [ht] at hP1
      replace hD := hD1.weaken (fun _ _ _ h => hFc _ h)
      replace hP := hP1
      replace hS := hS2
      clear hP1 hD1 hS2 hFc hfc hz1 hk1 hvm ht
      refine lv_goto (tgt := 63) hx hb dX3_steer_21 (by decide) ?_
      obtain ⟨h8, h9⟩ := ret_some hf
      rw [h8]
      exact W.vret hx hb hr (fun t ht hW => ⟨⟨(), rfl, trivial, by rw [ht]; exact hP, va_K.moved hW.alike hK, hD⟩, hS.F ht⟩) hS.2.2 dX3_steer_63

theorem md_X4_shift_1 : (.fieldLink RX4 21 "ResourceLedger$Machine" "wide" "LResourceLedger$Wide;" : Cond) ∈ wsX4_shift := List.mem_of_getElem? (i := 1) rfl
theorem iwd_X4_shift_X4 : ∀ w ∈ wsX40, w ∈ wsX4_shift := fun _ h => List.mem_cons_of_mem _ (List.mem_append_left _ (List.mem_append_left _ (List.mem_append_right _ h)))
set_option maxHeartbeats 4000000 in
set_option maxRecDepth 100000 in
theorem de_X4_shift (l : Launch) (dC : Nat → ClassId) (dI : Nat → Nat → Nat) (cy : Nat → ClassId) (a : Nat → Nat) (sh : Nat → Nat × Nat) (n sz : Nat) (F : Nat) (z : St) (h0 : Nat) (x0 : Int32) (x1 : Int64) (x2 : Int32) {z8 : St} {r8 : Unit} (hf : fn_X4_shift F sh n z h0 x0 x1 x2 = some (z8, r8)) : Met l yX4_shift wsX4_shift ({ frames := 3, cells := 0, slots := 0, locals := 71 }) (va_Pc [.ref (a h0), .int x0, .long x1, .int x2] (fun U => U.heap.size = sz ∧ va_P (dC, dI) vwCl (Wd cy a sh n z) U.heap ∧ va_K (dC, dI) vwCl (TYS cy) U ∧ va_D (fun _ => True) (Wd cy a sh n z) ∧ NK U)) (va_Qv (fun u : Unit => True) (fun u t => va_P (dC, dI) vwCl (Wd cy a sh n z8) t.heap ∧ va_K (dC, dI) vwCl (TYS cy) t ∧ va_D (va_A (Wd cy a sh n z) sz) (Wd cy a sh n z8)) (va_A (Wd cy a sh n z) sz)) 0 0 (va_A (Wd cy a sh n z) sz) := by
  refine Met.ofW (cc := cX4_shift) (maxL := 5) (ret := none) (by decide) rfl ?_
  intro p e s m args below meth c s₁ B hml hv
  obtain ⟨rfl, hsz, hP, hK, hD0, hN⟩ := hv
  have hx := B.exec
  have hb := B.bytes
  have hr := B.returns
  have hts := atoms_spec (ws := wsX4_shift) B.pre
  have hown : s.vm.findClass RX4 = some m.cls := findClass_of_methodNamed B.named
  have hlocks := B.notSynchronized
  subst hsz
  have hD := hD0.self (sz := s.heap.size)
  clear hD0
  generalize hAe : va_A (Wd cy a sh n z) s.heap.size = A at hD ⊢
  have hA : ∀ q : Nat, s.heap.size ≤ q → A q := fun q h => by rw [← hAe]; exact Or.inr h
  clear hAe
  have hS : va_S A s.heap s.heap [] := va_S.rf
  have hl := lv_entry ([.ref (a h0), .int x0, .long x1, .int x2]) (n := 5) (Nat.le_of_ble_eq_true rfl)
  rw [lg_entry_eq]
  generalize (lg_sl ([.ref (a h0), .int x0, .long x1, .int x2]) ++ List.replicate (5 - (lg_sl ([.ref (a h0), .int x0, .long x1, .int x2])).length) Slot.unset).toArray = ls at hl ⊢
  replace hl : lv_has ls 5 [(0, .ref (a h0)), (1, .int x0), (2, .long x1), (4, .int x2)] := hl
  unfold fn_X4_shift at hf
  refine de_start hS hP (fun H locs hS hP => ?_)
  refine lv_lload_n hx hb dX4_shift_0 rfl (lv_at hl 2 rfl) ?_
  refine lv_iload hx hb dX4_shift_1 (lv_at hl 3 rfl) ?_
  obtain ⟨z_1, r_2, hfc, hf⟩ := cal_some hf
  have hFc := de_free hD hS hA
  refine va_calli (va_runS (As := [.int x2]) (rest := [.long x1]) ⟨hx, hb, hml, hown, hts⟩ (de_X10_bitsOf l dC dI cy a sh n H.size F z x2 hfc) (va_cwS 1 hts gX4_shift_X10_bitsOf rfl rfl rfl (by decide +kernel) ⟨Nat.le_of_ble_eq_true rfl, Nat.le_of_ble_eq_true rfl⟩) ⟨fun a U g mk q => by obtain ⟨q0, q1, qP, qK, qD, qN⟩ := q; exact ⟨q0, q1, qP, va_K.moved (u := U) (U := U.calling g mk a) (Vm.Alike.refl U.vm) qK, qD, qN.same rfl⟩, fun U hU hW => ⟨rfl, by rw [hU], by rw [hU]; exact hP, va_K.moved hW.alike hK, hD.weaken (fun _ _ _ _ => trivial), hN.warm hW⟩⟩ rfl rfl hl.1 rfl (lv_room (Nat.le_of_ble_eq_true rfl)) dX4_shift_3 ⟨Nat.le_of_ble_eq_true rfl, Nat.le_of_ble_eq_true rfl⟩) hS (fun q _ h => hFc q h) hFc (fun rr u t H_3 locs ht hvm hw hB hz1 hk1 hS2 => ?_)
  rw [hw]
  clear hw
  obtain ⟨hP1, -, hD1⟩ := hB
  rw [ht] at hP1
  replace hD := hD1.weaken (fun _ _ _ h => hFc _ h)
  replace hP := hP1
  replace hS := hS2
  clear hP1 hD1 hS2 hFc hfc hz1 hk1 hvm ht
  refine lv_i2l (v := (r_2 : Int32).toInt64) hx hb dX4_shift_6 rfl ?_
  refine W.lcmp hx hb dX4_shift_7 ?_
  refine lv_if_lt (tgt := 18) hx hb dX4_shift_8 (by decide) (fun c_4 => ?_) (fun c_4 => ?_)
  · skip
    rw [lg_cmp_lt] at c_4
    rw [if_pos c_4] at hf
    refine lv_iload_n hx hb dX4_shift_18 rfl (lv_at hl 1 rfl) ?_
    refine lv_if_eq (tgt := 43) hx hb dX4_shift_19 (by decide) (fun c_5 => ?_) (fun c_5 => ?_)
    · skip
      rw [if_pos c_5] at hf
      refine lv_aload_n hx hb dX4_shift_43 rfl (lv_at hl 0 rfl) ?_
      obtain ⟨g_6, hf⟩ := grd_some hf
      obtain ⟨kg_6, sg_6⟩ := okO_at g_6
      obtain ⟨k_7, ek_7, hf⟩ := lnk_some hf
      refine va_get (D := (dC, dI)) (ci := 4) (v := .ref (a k_7)) (C := RX4) (T := TX4) (N := 18) hx hb hts iwd_X4_shift_X4 hown hK hP h0 (Wd_ob kg_6 sg_6 (by decide)) rfl 3 (by decide) (hts _ md_X4_shift_1) (fun _ h9 => h9) (fl_q rfl ek_7) dX4_shift_44 ?_
      refine lv_lload_n hx hb dX4_shift_47 rfl (lv_at hl 2 rfl) ?_
      refine lv_l2i (v := (x1 : Int64).toInt32) hx hb dX4_shift_48 rfl ?_
      obtain ⟨g_9, hf⟩ := grd_some hf
      obtain ⟨kg_9, sg_9⟩ := okO_at g_9
      obtain ⟨z_8, _u, hfc, hf⟩ := cal_some hf
      have hFc := de_free hD hS hA
      refine va_callv (va_runV (As := [.int ((x1 : Int64).toInt32)]) (rest := []) ⟨hx, hb, hml, hown, hts⟩ (de_X10_shiftDown l dC dI cy a sh n H_3.size F z_1 k_7 ((x1 : Int64).toInt32) hfc) (cwV 1 hts gX4_shift_X10_shiftDown rfl rfl rfl (by decide +kernel) ⟨Nat.le_of_ble_eq_true rfl, Nat.le_of_ble_eq_true rfl⟩) ⟨fun a U g mk q => by obtain ⟨q0, q1, qP, qK, qD, qN⟩ := q; exact ⟨q0, q1, qP, va_K.moved (u := U) (U := U.calling g mk a) (Vm.Alike.refl U.vm) qK, qD, qN.same rfl⟩, va_recv hK hP (ci := 10) (q0 := k_7) rfl (Wd_ob kg_9 sg_9 (by decide)), fun U hU hW => ⟨rfl, by rw [hU], by rw [hU]; exact hP, va_K.moved hW.alike hK, hD.weaken (fun _ _ _ _ => trivial), hN.warm hW⟩⟩ rfl rfl hl.1 rfl (lv_room (Nat.le_of_ble_eq_true rfl)) dX4_shift_49 ⟨Nat.le_of_ble_eq_true rfl, Nat.le_of_ble_eq_true rfl⟩) hS (fun q _ h => hFc q h) hFc (fun u t H_10 locs ht hvm hw hB hz1 hk1 hS2 => ?_)
      obtain ⟨hP1, -, hD1⟩ := hB
      rw [ht] at hP1
      replace hD := hD1.weaken (fun _ _ _ h => hFc _ h)
      replace hP := hP1
      replace hS := hS2
      clear hP1 hD1 hS2 hFc hfc hz1 hk1 hvm ht
      refine lv_aload_n hx hb dX4_shift_52 rfl (lv_at hl 0 rfl) ?_
      refine lv_iload hx hb dX4_shift_53 (lv_at hl 3 rfl) ?_
      obtain ⟨z_11, _u, hfc, hf⟩ := cal_some hf
      have hFc := de_free hD hS hA
      refine va_callv (va_runV (As := [.int x2]) (rest := []) ⟨hx, hb, hml, hown, hts⟩ (de_X4_pushWide l dC dI cy a sh n H_10.size F z_8 h0 x2 hfc) (cwV 1 hts gX4_shift_X4_pushWide rfl rfl rfl (by decide +kernel) ⟨Nat.le_of_ble_eq_true rfl, Nat.le_of_ble_eq_true rfl⟩) ⟨fun a U g mk q => by obtain ⟨q0, q1, qP, qK, qD, qN⟩ := q; exact ⟨q0, q1, qP, va_K.moved (u := U) (U := U.calling g mk a) (Vm.Alike.refl U.vm) qK, qD, qN.same rfl⟩, va_recv hK hP (ci := 4) (q0 := h0) rfl (Wd_ob kg_6 sg_6 (by decide)), fun U hU hW => ⟨rfl, by rw [hU], by rw [hU]; exact hP, va_K.moved hW.alike hK, hD.weaken (fun _ _ _ _ => trivial), hN.warm hW⟩⟩ rfl rfl hl.1 rfl (lv_room (Nat.le_of_ble_eq_true rfl)) dX4_shift_55 ⟨Nat.le_of_ble_eq_true rfl, Nat.le_of_ble_eq_true rfl⟩) hS (fun q _ h => hFc q h) hFc (fun u t H_12 locs ht hvm hw hB hz1 hk1 hS2 => ?_)
      obtain ⟨hP1, -, hD1⟩ := hB
      rw [ht] at hP1
      replace hD := hD1.weaken (fun _ _ _ h => hFc _ h)
      replace hP := hP1
      replace hS := hS2
      clear hP1 hD1 hS2 hFc hfc hz1 hk1 hvm ht
      obtain ⟨h8, h9⟩ := ret_some hf
      rw [h8]
      exact W.vret hx hb hr (fun t ht hW => ⟨⟨(), rfl, trivial, by rw [ht]; exact hP, va_K.moved hW.alike hK, hD⟩, hS.F ht⟩) hS.2.2 dX4_shift_58
    · skip
      rw [if_neg c_5] at hf
      refine lv_aload_n hx hb dX4_shift_22 rfl (lv_at hl 0 rfl) ?_
      obtain ⟨g_13, hf⟩ := grd_some hf
      obtain ⟨kg_13, sg_13⟩ := okO_at g_13
      obtain ⟨k_14, ek_14, hf⟩ := lnk_some hf
      refine va_get (D := (dC, dI)) (ci := 4) (v := .ref (a k_14)) (C := RX4) (T := TX4) (N := 18) hx hb hts iwd_X4_shift_X4 hown hK hP h0 (Wd_ob kg_13 sg_13 (by decide)) rfl 3 (by decide) (hts _ md_X4_shift_1) (fun _ h9 => h9) (fl_q rfl ek_14) dX4_shift_23 ?_
      refine lv_lload_n hx hb dX4_shift_26 rfl (lv_at hl 2 rfl) ?_
      refine lv_l2i (v := (x1 : Int64).toInt32) hx hb dX4_shift_27 rfl ?_
      obtain ⟨g_16, hf⟩ := grd_some hf
      obtain ⟨kg_16, sg_16⟩ := okO_at g_16
      obtain ⟨z_15, _u, hfc, hf⟩ := cal_some hf
      have hFc := de_free hD hS hA
      refine va_callv (va_runV (As := [.int ((x1 : Int64).toInt32)]) (rest := []) ⟨hx, hb, hml, hown, hts⟩ (de_X10_shiftUp l dC dI cy a sh n H_3.size F z_1 k_14 ((x1 : Int64).toInt32) hfc) (cwV 1 hts gX4_shift_X10_shiftUp rfl rfl rfl (by decide +kernel) ⟨Nat.le_of_ble_eq_true rfl, Nat.le_of_ble_eq_true rfl⟩) ⟨fun a U g mk q => by obtain ⟨q0, q1, qP, qK, qD, qN⟩ := q; exact ⟨q0, q1, qP, va_K.moved (u := U) (U := U.calling g mk a) (Vm.Alike.refl U.vm) qK, qD, qN.same rfl⟩, va_recv hK hP (ci := 10) (q0 := k_14) rfl (Wd_ob kg_16 sg_16 (by decide)), fun U hU hW => ⟨rfl, by rw [hU], by rw [hU]; exact hP, va_K.moved hW.alike hK, hD.weaken (fun _ _ _ _ => trivial), hN.warm hW⟩⟩ rfl rfl hl.1 rfl (lv_room (Nat.le_of_ble_eq_true rfl)) dX4_shift_28 ⟨Nat.le_of_ble_eq_true rfl, Nat.le_of_ble_eq_true rfl⟩) hS (fun q _ h => hFc q h) hFc (fun u t H_17 locs ht hvm hw hB hz1 hk1 hS2 => ?_)
      obtain ⟨hP1, -, hD1⟩ := hB
      rw [ht] at hP1
      replace hD := hD1.weaken (fun _ _ _ h => hFc _ h)
      replace hP := hP1
      replace hS := hS2
      clear hP1 hD1 hS2 hFc hfc hz1 hk1 hvm ht
      refine lv_aload_n hx hb dX4_shift_31 rfl (lv_at hl 0 rfl) ?_
      obtain ⟨k_18, ek_18, hf⟩ := lnk_some hf
      refine va_get (D := (dC, dI)) (ci := 4) (v := .ref (a k_18)) (C := RX4) (T := TX4) (N := 18) hx hb hts iwd_X4_shift_X4 hown hK hP h0 (Wd_ob kg_13 sg_13 (by decide)) rfl 3 (by decide) (hts _ md_X4_shift_1) (fun _ h9 => h9) (fl_q rfl ek_18) dX4_shift_32 ?_
      refine lv_iload hx hb dX4_shift_35 (lv_at hl 3 rfl) ?_
      obtain ⟨g_20, hf⟩ := grd_some hf
      obtain ⟨kg_20, sg_20⟩ := okO_at g_20
      obtain ⟨z_19, _u, hfc, hf⟩ := cal_some hf
      have hFc := de_free hD hS hA
      refine va_callv (va_runV (As := [.int x2]) (rest := []) ⟨hx, hb, hml, hown, hts⟩ (de_X10_cut l dC dI cy a sh n H_17.size F z_15 k_18 x2 hfc) (cwV 1 hts gX4_shift_X10_cut rfl rfl rfl (by decide +kernel) ⟨Nat.le_of_ble_eq_true rfl, Nat.le_of_ble_eq_true rfl⟩) ⟨fun a U g mk q => by obtain ⟨q0, q1, qP, qK, qD, qN⟩ := q; exact ⟨q0, q1, qP, va_K.moved (u := U) (U := U.calling g mk a) (Vm.Alike.refl U.vm) qK, qD, qN.same rfl⟩, va_recv hK hP (ci := 10) (q0 := k_18) rfl (Wd_ob kg_20 sg_20 (by decide)), fun U hU hW => ⟨rfl, by rw [hU], by rw [hU]; exact hP, va_K.moved hW.alike hK, hD.weaken (fun _ _ _ _ => trivial), hN.warm hW⟩⟩ rfl rfl hl.1 rfl (lv_room (Nat.le_of_ble_eq_true rfl)) dX4_shift_37 ⟨Nat.le_of_ble_eq_true rfl, Nat.le_of_ble_eq_true rfl⟩) hS (fun q _ h => hFc q h) hFc (fun u t H_21 locs ht hvm hw hB hz1 hk1 hS2 => ?_)
      obtain ⟨hP1, -, hD1⟩ := hB
      rw [ht] at hP1
      replace hD := hD1.weaken (fun _ _ _ h => hFc _ h)
      replace hP := hP1
      replace hS := hS2
      clear hP1 hD1 hS2 hFc hfc hz1 hk1 hvm ht
      refine lv_goto (tgt := 52) hx hb dX4_shift_40 (by decide) ?_
      refine lv_aload_n hx hb dX4_shift_52 rfl (lv_at hl 0 rfl) ?_
      refine lv_iload hx hb dX4_shift_53 (lv_at hl 3 rfl) ?_
      obtain ⟨z_22, _u, hfc, hf⟩ := cal_some hf
      have hFc := de_free hD hS hA
      refine va_callv (va_runV (As := [.int x2]) (rest := []) ⟨hx, hb, hml, hown, hts⟩ (de_X4_pushWide l dC dI cy a sh n H_21.size F z_19 h0 x2 hfc) (cwV 1 hts gX4_shift_X4_pushWide rfl rfl rfl (by decide +kernel) ⟨Nat.le_of_ble_eq_true rfl, Nat.le_of_ble_eq_true rfl⟩) ⟨fun a U g mk q => by obtain ⟨q0, q1, qP, qK, qD, qN⟩ := q; exact ⟨q0, q1, qP, va_K.moved (u := U) (U := U.calling g mk a) (Vm.Alike.refl U.vm) qK, qD, qN.same rfl⟩, va_recv hK hP (ci := 4) (q0 := h0) rfl (Wd_ob kg_13 sg_13 (by decide)), fun U hU hW => ⟨rfl, by rw [hU], by rw [hU]; exact hP, va_K.moved hW.alike hK, hD.weaken (fun _ _ _ _ => trivial), hN.warm hW⟩⟩ rfl rfl hl.1 rfl (lv_room (Nat.le_of_ble_eq_true rfl)) dX4_shift_55 ⟨Nat.le_of_ble_eq_true rfl, Nat.le_of_ble_eq_true rfl⟩) hS (fun q _ h => hFc q h) hFc (fun u t H_23 locs ht hvm hw hB hz1 hk1 hS2 => ?_)
      obtain ⟨hP1, -, hD1⟩ := hB
      rw [ht] at hP1
      replace hD := hD1.weaken (fun _ _ _ h => hFc _ h)
      replace hP := hP1
      replace hS := hS2
      clear hP1 hD1 hS2 hFc hfc hz1 hk1 hvm ht
      obtain ⟨h8, h9⟩ := ret_some hf
      rw [h8]
      exact W.vret hx hb hr (fun t ht hW => ⟨⟨(), rfl, trivial, by rw [ht]; exact hP, va_K.moved hW.alike hK, hD⟩, hS.F ht⟩) hS.2.2 dX4_shift_58
  · skip
    rw [lg_cmp_lt] at c_4
    rw [if_neg c_4] at hf
    refine lv_aload_n hx hb dX4_shift_11 rfl (lv_at hl 0 rfl) ?_
    refine lv_iconst (v := 2) hx hb dX4_shift_12 (by decide) ?_
    refine lv_lconst (v := 1) hx hb dX4_shift_13 (by decide) ?_
    obtain ⟨g_25, hf⟩ := grd_some hf
    obtain ⟨kg_25, sg_25⟩ := okO_at g_25
    obtain ⟨z_24, _u, hfc, hf⟩ := cal_some hf
    have hFc := de_free hD hS hA
    refine va_callv (va_runV (As := [.int 2, .long 1]) (rest := []) ⟨hx, hb, hml, hown, hts⟩ (de_X4_end l dC dI cy a sh n H_3.size F z_1 h0 2 1 hfc) (cwV 2 hts gX4_shift_X4_end rfl rfl rfl (by decide +kernel) ⟨Nat.le_of_ble_eq_true rfl, Nat.le_of_ble_eq_true rfl⟩) ⟨fun a U g mk q => by obtain ⟨q0, q1, qP, qK, qD, qN⟩ := q; exact ⟨q0, q1, qP, va_K.moved (u := U) (U := U.calling g mk a) (Vm.Alike.refl U.vm) qK, qD, qN.same rfl⟩, va_recv hK hP (ci := 4) (q0 := h0) rfl (Wd_ob kg_25 sg_25 (by decide)), fun U hU hW => ⟨rfl, by rw [hU], by rw [hU]; exact hP, va_K.moved hW.alike hK, hD.weaken (fun _ _ _ _ => trivial), hN.warm hW⟩⟩ rfl rfl hl.1 rfl (lv_room (Nat.le_of_ble_eq_true rfl)) dX4_shift_14 ⟨Nat.le_of_ble_eq_true rfl, Nat.le_of_ble_eq_true rfl⟩) hS (fun q _ h => hFc q h) hFc (fun u t H_26 locs ht hvm hw hB hz1 hk1 hS2 => ?_)
    obtain ⟨hP1, -, hD1⟩ := hB
    rw [ht] at hP1
    replace hD := hD1.weaken (fun _ _ _ h => hFc _ h)
    replace hP := hP1
    replace hS := hS2
    clear hP1 hD1 hS2 hFc hfc hz1 hk1 hvm ht
    obtain ⟨h8, h9⟩ := ret_some hf
    rw [h8]
    exact W.vret hx hb hr (fun t ht hW => ⟨⟨(), rfl, trivial, by rw [ht]; exact hP, va_K.moved hW.alike hK, hD⟩, hS.F ht⟩) hS.2.2 dX4_shift_17

theorem md_X18_convert_1 : (.fieldLink RX18 40 "ResourceLedgerModel" "trees" "LResourceLedgerModel$Trees;" : Cond) ∈ wsX18_convert := List.mem_of_getElem? (i := 1) rfl
theorem iwd_X18_convert_X18 : ∀ w ∈ wsX180, w ∈ wsX18_convert := fun _ h => List.mem_cons_of_mem _ (List.mem_append_left _ (List.mem_append_right _ h))
theorem iwd_X18_convert_X15 : ∀ w ∈ wsX150, w ∈ wsX18_convert := fun _ h => List.mem_cons_of_mem _ (List.mem_append_right _ h)
set_option maxHeartbeats 4000000 in
set_option maxRecDepth 100000 in
theorem de_X18_convert (l : Launch) (dC : Nat → ClassId) (dI : Nat → Nat → Nat) (cy : Nat → ClassId) (a : Nat → Nat) (sh : Nat → Nat × Nat) (n sz : Nat) (F : Nat) (z : St) (h0 : Nat) (x0 : Int32) {z8 : St} {r8 : Unit} (hf : fn_X18_convert F sh n z h0 x0 = some (z8, r8)) : Met l yX18_convert wsX18_convert ({ frames := 3, cells := 0, slots := 0, locals := 67 }) (va_Pc [.ref (a h0), .int x0] (fun U => U.heap.size = sz ∧ va_P (dC, dI) vwCl (Wd cy a sh n z) U.heap ∧ va_K (dC, dI) vwCl (TYS cy) U ∧ va_D (fun _ => True) (Wd cy a sh n z) ∧ NK U)) (va_Qv (fun u : Unit => True) (fun u t => va_P (dC, dI) vwCl (Wd cy a sh n z8) t.heap ∧ va_K (dC, dI) vwCl (TYS cy) t ∧ va_D (va_A (Wd cy a sh n z) sz) (Wd cy a sh n z8)) (va_A (Wd cy a sh n z) sz)) 0 0 (va_A (Wd cy a sh n z) sz) := by
  refine Met.ofW (cc := cX18_convert) (maxL := 3) (ret := none) (by decide) rfl ?_
  intro p e s m args below meth c s₁ B hml hv
  obtain ⟨rfl, hsz, hP, hK, hD0, hN⟩ := hv
  have hx := B.exec
  have hb := B.bytes
  have hr := B.returns
  have hts := atoms_spec (ws := wsX18_convert) B.pre
  have hown : s.vm.findClass RX18 = some m.cls := findClass_of_methodNamed B.named
  have hlocks := B.notSynchronized
  subst hsz
  have hD := hD0.self (sz := s.heap.size)
  clear hD0
  generalize hAe : va_A (Wd cy a sh n z) s.heap.size = A at hD ⊢
  have hA : ∀ q : Nat, s.heap.size ≤ q → A q := fun q h => by rw [← hAe]; exact Or.inr h
  clear hAe
  have hS : va_S A s.heap s.heap [] := va_S.rf
  have hl := lv_entry ([.ref (a h0), .int x0]) (n := 3) (Nat.le_of_ble_eq_true rfl)
  rw [lg_entry_eq]
  generalize (lg_sl ([.ref (a h0), .int x0]) ++ List.replicate (3 - (lg_sl ([.ref (a h0), .int x0])).length) Slot.unset).toArray = ls at hl ⊢
  replace hl : lv_has ls 3 [(0, .ref (a h0)), (1, .int x0)] := hl
  unfold fn_X18_convert at hf
  refine de_start hS hP (fun H locs hS hP => ?_)
  refine lv_aload_n hx hb dX18_convert_0 rfl (lv_at hl 0 rfl) ?_
  refine lv_iconst (v := 0) hx hb dX18_convert_1 (by decide) ?_
  obtain ⟨g_3, hf⟩ := grd_some hf
  obtain ⟨kg_3, sg_3⟩ := okO_at g_3
  obtain ⟨z_1, r_2, hfc, hf⟩ := cal_some hf
  have hFc := de_free hD hS hA
  refine va_calli (va_runV (As := [.int 0]) (rest := []) ⟨hx, hb, hml, hown, hts⟩ (de_X18_takeAny l dC dI cy a sh n H.size F z h0 0 hfc) (cwV 1 hts gX18_convert_X18_takeAny rfl rfl rfl (by decide +kernel) ⟨Nat.le_of_ble_eq_true rfl, Nat.le_of_ble_eq_true rfl⟩) ⟨fun a U g mk q => by obtain ⟨q0, q1, qP, qK, qD, qN⟩ := q; exact ⟨q0, q1, qP, va_K.moved (u := U) (U := U.calling g mk a) (Vm.Alike.refl U.vm) qK, qD, qN.same rfl⟩, va_recv hK hP (ci := 18) (q0 := h0) rfl (Wd_ob kg_3 sg_3 (by decide)), fun U hU hW => ⟨rfl, by rw [hU], by rw [hU]; exact hP, va_K.moved hW.alike hK, hD.weaken (fun _ _ _ _ => trivial), hN.warm hW⟩⟩ rfl rfl hl.1 rfl (lv_room (Nat.le_of_ble_eq_true rfl)) dX18_convert_2 ⟨Nat.le_of_ble_eq_true rfl, Nat.le_of_ble_eq_true rfl⟩) hS (fun q _ h => hFc q h) hFc (fun rr u t H_4 locs ht hvm hw hB hz1 hk1 hS2 => ?_)
  rw [hw]
  clear hw
  obtain ⟨hP1, -, hD1⟩ := hB
  rw [ht] at hP1
  replace hD := hD1.weaken (fun _ _ _ h => hFc _ h)
  replace hP := hP1
  replace hS := hS2
  clear hP1 hD1 hS2 hFc hfc hz1 hk1 hvm ht
  refine lv_istore_n (lv' := [(2, .int r_2), (0, .ref (a h0)), (1, .int x0)]) hx hb dX18_convert_5 rfl hl (by decide) rfl (fun ls hl2 => ?_)
  replace hl := hl2
  clear hl2
  refine lv_aload_n hx hb dX18_convert_6 rfl (lv_at hl 1 rfl) ?_
  obtain ⟨z_5, r_6, hfc, hf⟩ := cal_some hf
  have hFc := de_free hD hS hA
  refine va_calli (va_runV (As := []) (rest := []) ⟨hx, hb, hml, hown, hts⟩ (de_X18_goesOn l dC dI cy a sh n H_4.size F z_1 h0 hfc) (cwV 0 hts gX18_convert_X18_goesOn rfl rfl rfl (by decide +kernel) ⟨Nat.le_of_ble_eq_true rfl, Nat.le_of_ble_eq_true rfl⟩) ⟨fun a U g mk q => by obtain ⟨q0, q1, qP, qK, qD, qN⟩ := q; exact ⟨q0, q1, qP, va_K.moved (u := U) (U := U.calling g mk a) (Vm.Alike.refl U.vm) qK, qD, qN.same rfl⟩, va_recv hK hP (ci := 18) (q0 := h0) rfl (Wd_ob kg_3 sg_3 (by decide)), fun U hU hW => ⟨rfl, by rw [hU], by rw [hU]; exact hP, va_K.moved hW.alike hK, hD.weaken (fun _ _ _ _ => trivial), hN.warm hW⟩⟩ rfl rfl hl.1 rfl (lv_room (Nat.le_of_ble_eq_true rfl)) dX18_convert_7 ⟨Nat.le_of_ble_eq_true rfl, Nat.le_of_ble_eq_true rfl⟩) hS (fun q _ h => hFc q h) hFc (fun rr u t H_7 locs ht hvm hw hB hz1 hk1 hS2 => ?_)
  rw [hw]
  clear hw
  obtain ⟨hP1, -, hD1⟩ := hB
  rw [ht] at hP1
  replace hD := hD1.weaken (fun _ _ _ h => hFc _ h)
  replace hP := hP1
  replace hS := hS2
  clear hP1 hD1 hS2 hFc hfc hz1 hk1 hvm ht
  refine lv_if_ne (tgt := 14) hx hb dX18_convert_10 (by decide) (fun c_8 => ?_) (fun c_8 => ?_)
  · skip
    rw [if_neg c_8] at hf
    refine lv_aload_n hx hb dX18_convert_14 rfl (lv_at hl 1 rfl) ?_
    obtain ⟨k_9, ek_9, hf⟩ := lnk_some hf
    refine va_get (D := (dC, dI)) (ci := 18) (v := .ref (a k_9)) (C := RX18) (T := TX18) (N := 78) hx hb hts iwd_X18_convert_X18 hown hK hP h0 (Wd_ob kg_3 sg_3 (by decide)) rfl 15 (by decide) (hts _ md_X18_convert_1) (fun _ h9 => h9) (fl_q rfl ek_9) dX18_convert_15 ?_
    obtain ⟨g_10, hf⟩ := grd_some hf
    obtain ⟨kg_10, sg_10⟩ := okO_at g_10
    obtain ⟨k_11, ek_11, hf⟩ := lnk_some hf
    refine va_getN (D := (dC, dI)) (ci := 15) (v := .ref (a k_11)) (C := RX15) (T := TX15) (N := 6) hx hb hts iwd_X18_convert_X15 hown hK hP k_9 (Wd_ob kg_10 sg_10 (by decide)) rfl 1 (by decide) (va_Nw.use rfl (NK_f_X18_74 hN)) (fun _ h9 => h9) (fl_q rfl ek_11) dX18_convert_18 ?_
    refine lv_iload_n hx hb dX18_convert_21 rfl (lv_at hl 0 rfl) ?_
    obtain ⟨g_12, hf⟩ := grd_some hf
    obtain ⟨kg_12, sg_12, ig_12⟩ := okA_at g_12
    refine va_lald hx hb hK hP k_11 2 (Wd_al kg_12 sg_12) rfl ig_12 dX18_convert_22 ?_
    refine lv_aload_n hx hb dX18_convert_23 rfl (lv_at hl 1 rfl) ?_
    obtain ⟨k_13, ek_13, hf⟩ := lnk_some hf
    refine va_get (D := (dC, dI)) (ci := 18) (v := .ref (a k_13)) (C := RX18) (T := TX18) (N := 78) hx hb hts iwd_X18_convert_X18 hown hK hP h0 (Wd_ob kg_3 sg_3 (by decide)) rfl 15 (by decide) (hts _ md_X18_convert_1) (fun _ h9 => h9) (fl_q rfl ek_13) dX18_convert_24 ?_
    obtain ⟨g_14, hf⟩ := grd_some hf
    obtain ⟨kg_14, sg_14⟩ := okO_at g_14
    obtain ⟨k_15, ek_15, hf⟩ := lnk_some hf
    refine va_getN (D := (dC, dI)) (ci := 15) (v := .ref (a k_15)) (C := RX15) (T := TX15) (N := 6) hx hb hts iwd_X18_convert_X15 hown hK hP k_13 (Wd_ob kg_14 sg_14 (by decide)) rfl 2 (by decide) (va_Nw.use rfl (NK_f_X18_77 hN)) (fun _ h9 => h9) (fl_q rfl ek_15) dX18_convert_27 ?_
    refine lv_iload_n hx hb dX18_convert_30 rfl (lv_at hl 0 rfl) ?_
    obtain ⟨g_16, hf⟩ := grd_some hf
    obtain ⟨kg_16, sg_16, ig_16⟩ := okA_at g_16
    refine va_lald hx hb hK hP k_15 2 (Wd_al kg_16 sg_16) rfl ig_16 dX18_convert_31 ?_
    refine lv_iload_n hx hb dX18_convert_32 rfl (lv_at hl 2 rfl) ?_
    obtain ⟨z_17, r_18, hfc, hf⟩ := cal_some hf
    have hFc := de_free hD hS hA
    refine va_calli (va_runS (As := [.int x0]) (rest := [.long (z_5.2.1 k_15 r_2.toNatClampNeg), .long (z_5.2.1 k_11 r_2.toNatClampNeg)]) ⟨hx, hb, hml, hown, hts⟩ (de_X18_bitsOf l dC dI cy a sh n H_7.size F z_5 x0 hfc) (va_cwS 1 hts gX18_convert_X18_bitsOf rfl rfl rfl (by decide +kernel) ⟨Nat.le_of_ble_eq_true rfl, Nat.le_of_ble_eq_true rfl⟩) ⟨fun a U g mk q => by obtain ⟨q0, q1, qP, qK, qD, qN⟩ := q; exact ⟨q0, q1, qP, va_K.moved (u := U) (U := U.calling g mk a) (Vm.Alike.refl U.vm) qK, qD, qN.same rfl⟩, fun U hU hW => ⟨rfl, by rw [hU], by rw [hU]; exact hP, va_K.moved hW.alike hK, hD.weaken (fun _ _ _ _ => trivial), hN.warm hW⟩⟩ rfl rfl hl.1 rfl (lv_room (Nat.le_of_ble_eq_true rfl)) dX18_convert_33 ⟨Nat.le_of_ble_eq_true rfl, Nat.le_of_ble_eq_true rfl⟩) hS (fun q _ h => hFc q h) hFc (fun rr u t H_19 locs ht hvm hw hB hz1 hk1 hS2 => ?_)
    rw [hw]
    clear hw
    obtain ⟨hP1, -, hD1⟩ := hB
    rw [ht] at hP1
    replace hD := hD1.weaken (fun _ _ _ h => hFc _ h)
    replace hP := hP1
    replace hS := hS2
    clear hP1 hD1 hS2 hFc hfc hz1 hk1 hvm ht
    obtain ⟨z_20, r_21, hfc, hf⟩ := cal_some hf
    have hFc := de_free hD hS hA
    refine va_calli (va_runS (As := [.long (z_5.2.1 k_11 r_2.toNatClampNeg), .long (z_5.2.1 k_15 r_2.toNatClampNeg), .int r_18]) (rest := []) ⟨hx, hb, hml, hown, hts⟩ (de_X17_isOf l dC dI cy a sh n H_19.size F z_17 (z_5.2.1 k_11 r_2.toNatClampNeg) (z_5.2.1 k_15 r_2.toNatClampNeg) r_18 hfc) (va_cwS 3 hts gX18_convert_X17_isOf rfl rfl rfl (by decide +kernel) ⟨Nat.le_of_ble_eq_true rfl, Nat.le_of_ble_eq_true rfl⟩) ⟨fun a U g mk q => by obtain ⟨q0, q1, qP, qK, qD, qN⟩ := q; exact ⟨q0, q1, qP, va_K.moved (u := U) (U := U.calling g mk a) (Vm.Alike.refl U.vm) qK, qD, qN.same rfl⟩, fun U hU hW => ⟨rfl, by rw [hU], by rw [hU]; exact hP, va_K.moved hW.alike hK, hD.weaken (fun _ _ _ _ => trivial), hN.warm hW⟩⟩ rfl rfl hl.1 rfl (lv_room (Nat.le_of_ble_eq_true rfl)) dX18_convert_36 ⟨Nat.le_of_ble_eq_true rfl, Nat.le_of_ble_eq_true rfl⟩) hS (fun q _ h => hFc q h) hFc (fun rr u t H_22 locs ht hvm hw hB hz1 hk1 hS2 => ?_)
    rw [hw]
    clear hw
    obtain ⟨hP1, -, hD1⟩ := hB
    rw [ht] at hP1
    replace hD := hD1.weaken (fun _ _ _ h => hFc _ h)
    replace hP := hP1
    replace hS := hS2
    clear hP1 hD1 hS2 hFc hfc hz1 hk1 hvm ht
    refine lv_if_eq (tgt := 68) hx hb dX18_convert_39 (by decide) (fun c_23 => ?_) (fun c_23 => ?_)
    · skip
      rw [if_pos c_23] at hf
      refine lv_aload_n hx hb dX18_convert_68 rfl (lv_at hl 1 rfl) ?_
      refine lv_iconst (v := 2) hx hb dX18_convert_69 (by decide) ?_
      refine lv_lconst (v := 1) hx hb dX18_convert_70 (by decide) ?_
      obtain ⟨z_24, _u, hfc, hf⟩ := cal_some hf
      have hFc := de_free hD hS hA
      refine va_callv (va_runV (As := [.int 2, .long 1]) (rest := []) ⟨hx, hb, hml, hown, hts⟩ (de_X18_end l dC dI cy a sh n H_22.size F z_20 h0 2 1 hfc) (cwV 2 hts gX18_convert_X18_end rfl rfl rfl (by decide +kernel) ⟨Nat.le_of_ble_eq_true rfl, Nat.le_of_ble_eq_true rfl⟩) ⟨fun a U g mk q => by obtain ⟨q0, q1, qP, qK, qD, qN⟩ := q; exact ⟨q0, q1, qP, va_K.moved (u := U) (U := U.calling g mk a) (Vm.Alike.refl U.vm) qK, qD, qN.same rfl⟩, va_recv hK hP (ci := 18) (q0 := h0) rfl (Wd_ob kg_3 sg_3 (by decide)), fun U hU hW => ⟨rfl, by rw [hU], by rw [hU]; exact hP, va_K.moved hW.alike hK, hD.weaken (fun _ _ _ _ => trivial), hN.warm hW⟩⟩ rfl rfl hl.1 rfl (lv_room (Nat.le_of_ble_eq_true rfl)) dX18_convert_71 ⟨Nat.le_of_ble_eq_true rfl, Nat.le_of_ble_eq_true rfl⟩) hS (fun q _ h => hFc q h) hFc (fun u t H_25 locs ht hvm hw hB hz1 hk1 hS2 => ?_)
      obtain ⟨hP1, -, hD1⟩ := hB
      rw [ht] at hP1
      replace hD := hD1.weaken (fun _ _ _ h => hFc _ h)
      replace hP := hP1
      replace hS := hS2
      clear hP1 hD1 hS2 hFc hfc hz1 hk1 hvm ht
      obtain ⟨h8, h9⟩ := ret_some hf
      rw [h8]
      exact W.vret hx hb hr (fun t ht hW => ⟨⟨(), rfl, trivial, by rw [ht]; exact hP, va_K.moved hW.alike hK, hD⟩, hS.F ht⟩) hS.2.2 dX18_convert_74
    · skip
      rw [if_neg c_23] at hf
      refine lv_aload_n hx hb dX18_convert_42 rfl (lv_at hl 1 rfl) ?_
      refine lv_iload_n hx hb dX18_convert_43 rfl (lv_at hl 2 rfl) ?_
      refine lv_aload_n hx hb dX18_convert_44 rfl (lv_at hl 1 rfl) ?_
      obtain ⟨k_26, ek_26, hf⟩ := lnk_some hf
      refine va_get (D := (dC, dI)) (ci := 18) (v := .ref (a k_26)) (C := RX18) (T := TX18) (N := 78) hx hb hts iwd_X18_convert_X18 hown hK hP h0 (Wd_ob kg_3 sg_3 (by decide)) rfl 15 (by decide) (hts _ md_X18_convert_1) (fun _ h9 => h9) (fl_q rfl ek_26) dX18_convert_45 ?_
      obtain ⟨g_27, hf⟩ := grd_some hf
      obtain ⟨kg_27, sg_27⟩ := okO_at g_27
      obtain ⟨k_28, ek_28, hf⟩ := lnk_some hf
      refine va_getN (D := (dC, dI)) (ci := 15) (v := .ref (a k_28)) (C := RX15) (T := TX15) (N := 6) hx hb hts iwd_X18_convert_X15 hown hK hP k_26 (Wd_ob kg_27 sg_27 (by decide)) rfl 1 (by decide) (va_Nw.use rfl (NK_f_X18_74 hN)) (fun _ h9 => h9) (fl_q rfl ek_28) dX18_convert_48 ?_
      refine lv_iload_n hx hb dX18_convert_51 rfl (lv_at hl 0 rfl) ?_
      obtain ⟨g_29, hf⟩ := grd_some hf
      obtain ⟨kg_29, sg_29, ig_29⟩ := okA_at g_29
      refine va_lald hx hb hK hP k_28 2 (Wd_al kg_29 sg_29) rfl ig_29 dX18_convert_52 ?_
      refine lv_aload_n hx hb dX18_convert_53 rfl (lv_at hl 1 rfl) ?_
      obtain ⟨k_30, ek_30, hf⟩ := lnk_some hf
      refine va_get (D := (dC, dI)) (ci := 18) (v := .ref (a k_30)) (C := RX18) (T := TX18) (N := 78) hx hb hts iwd_X18_convert_X18 hown hK hP h0 (Wd_ob kg_3 sg_3 (by decide)) rfl 15 (by decide) (hts _ md_X18_convert_1) (fun _ h9 => h9) (fl_q rfl ek_30) dX18_convert_54 ?_
      obtain ⟨g_31, hf⟩ := grd_some hf
      obtain ⟨kg_31, sg_31⟩ := okO_at g_31
      obtain ⟨k_32, ek_32, hf⟩ := lnk_some hf
      refine va_getN (D := (dC, dI)) (ci := 15) (v := .ref (a k_32)) (C := RX15) (T := TX15) (N := 6) hx hb hts iwd_X18_convert_X15 hown hK hP k_30 (Wd_ob kg_31 sg_31 (by decide)) rfl 2 (by decide) (va_Nw.use rfl (NK_f_X18_77 hN)) (fun _ h9 => h9) (fl_q rfl ek_32) dX18_convert_57 ?_
      refine lv_iload_n hx hb dX18_convert_60 rfl (lv_at hl 0 rfl) ?_
      obtain ⟨g_33, hf⟩ := grd_some hf
      obtain ⟨kg_33, sg_33, ig_33⟩ := okA_at g_33
      refine va_lald hx hb hK hP k_32 2 (Wd_al kg_33 sg_33) rfl ig_33 dX18_convert_61 ?_
      obtain ⟨z_34, _u, hfc, hf⟩ := cal_some hf
      have hFc := de_free hD hS hA
      refine va_callv (va_runV (As := [.int x0, .long (z_20.2.1 k_28 r_2.toNatClampNeg), .long (z_20.2.1 k_32 r_2.toNatClampNeg)]) (rest := []) ⟨hx, hb, hml, hown, hts⟩ (de_X18_make l dC dI cy a sh n H_22.size F z_20 h0 x0 (z_20.2.1 k_28 r_2.toNatClampNeg) (z_20.2.1 k_32 r_2.toNatClampNeg) hfc) (cwV 3 hts gX18_convert_X18_make rfl rfl rfl (by decide +kernel) ⟨Nat.le_of_ble_eq_true rfl, Nat.le_of_ble_eq_true rfl⟩) ⟨fun a U g mk q => by obtain ⟨q0, q1, qP, qK, qD, qN⟩ := q; exact ⟨q0, q1, qP, va_K.moved (u := U) (U := U.calling g mk a) (Vm.Alike.refl U.vm) qK, qD, qN.same rfl⟩, va_recv hK hP (ci := 18) (q0 := h0) rfl (Wd_ob kg_3 sg_3 (by decide)), fun U hU hW => ⟨rfl, by rw [hU], by rw [hU]; exact hP, va_K.moved hW.alike hK, hD.weaken (fun _ _ _ _ => trivial), hN.warm hW⟩⟩ rfl rfl hl.1 rfl (lv_room (Nat.le_of_ble_eq_true rfl)) dX18_convert_62 ⟨Nat.le_of_ble_eq_true rfl, Nat.le_of_ble_eq_true rfl⟩) hS (fun q _ h => hFc q h) hFc (fun u t H_35 locs ht hvm hw hB hz1 hk1 hS2 => ?_)
      obtain ⟨hP1, -, hD1⟩ := hB
      rw [ht] at hP1
      replace hD := hD1.weaken (fun _ _ _ h => hFc _ h)
      replace hP := hP1
      replace hS := hS2
      clear hP1 hD1 hS2 hFc hfc hz1 hk1 hvm ht
      refine lv_goto (tgt := 74) hx hb dX18_convert_65 (by decide) ?_
      obtain ⟨h8, h9⟩ := ret_some hf
      rw [h8]
      exact W.vret hx hb hr (fun t ht hW => ⟨⟨(), rfl, trivial, by rw [ht]; exact hP, va_K.moved hW.alike hK, hD⟩, hS.F ht⟩) hS.2.2 dX18_convert_74
  · skip
    rw [if_pos c_8] at hf
    obtain ⟨h8, h9⟩ := ret_some hf
    rw [h8]
    exact W.vret hx hb hr (fun t ht hW => ⟨⟨(), rfl, trivial, by rw [ht]; exact hP, va_K.moved hW.alike hK, hD⟩, hS.F ht⟩) hS.2.2 dX18_convert_13

theorem md_X3_borrowLocal_1 : (.fieldLink RX3 22 "ResourceLedger$Looker" "localType" "[J" : Cond) ∈ wsX3_borrowLocal := List.mem_of_getElem? (i := 1) rfl
theorem iwd_X3_borrowLocal_X3 : ∀ w ∈ wsX30, w ∈ wsX3_borrowLocal := fun _ h => List.mem_cons_of_mem _ (List.mem_append_right _ h)
set_option maxHeartbeats 4000000 in
set_option maxRecDepth 100000 in
theorem de_X3_borrowLocal (l : Launch) (dC : Nat → ClassId) (dI : Nat → Nat → Nat) (cy : Nat → ClassId) (a : Nat → Nat) (sh : Nat → Nat × Nat) (n sz : Nat) (F : Nat) (z : St) (h0 : Nat) (x0 : Int32) (x1 : Int32) {z8 : St} {r8 : Unit} (hf : fn_X3_borrowLocal F sh n z h0 x0 x1 = some (z8, r8)) : Met l yX3_borrowLocal wsX3_borrowLocal ({ frames := 3, cells := 0, slots := 0, locals := 67 }) (va_Pc [.ref (a h0), .int x0, .int x1] (fun U => U.heap.size = sz ∧ va_P (dC, dI) vwCl (Wd cy a sh n z) U.heap ∧ va_K (dC, dI) vwCl (TYS cy) U ∧ va_D (fun _ => True) (Wd cy a sh n z) ∧ NK U)) (va_Qv (fun u : Unit => True) (fun u t => va_P (dC, dI) vwCl (Wd cy a sh n z8) t.heap ∧ va_K (dC, dI) vwCl (TYS cy) t ∧ va_D (va_A (Wd cy a sh n z) sz) (Wd cy a sh n z8)) (va_A (Wd cy a sh n z) sz)) 0 0 (va_A (Wd cy a sh n z) sz) := by
  refine Met.ofW (cc := cX3_borrowLocal) (maxL := 5) (ret := none) (by decide) rfl ?_
  intro p e s m args below meth c s₁ B hml hv
  obtain ⟨rfl, hsz, hP, hK, hD0, hN⟩ := hv
  have hx := B.exec
  have hb := B.bytes
  have hr := B.returns
  have hts := atoms_spec (ws := wsX3_borrowLocal) B.pre
  have hown : s.vm.findClass RX3 = some m.cls := findClass_of_methodNamed B.named
  have hlocks := B.notSynchronized
  subst hsz
  have hD := hD0.self (sz := s.heap.size)
  clear hD0
  generalize hAe : va_A (Wd cy a sh n z) s.heap.size = A at hD ⊢
  have hA : ∀ q : Nat, s.heap.size ≤ q → A q := fun q h => by rw [← hAe]; exact Or.inr h
  clear hAe
  have hS : va_S A s.heap s.heap [] := va_S.rf
  have hl := lv_entry ([.ref (a h0), .int x0, .int x1]) (n := 5) (Nat.le_of_ble_eq_true rfl)
  rw [lg_entry_eq]
  generalize (lg_sl ([.ref (a h0), .int x0, .int x1]) ++ List.replicate (5 - (lg_sl ([.ref (a h0), .int x0, .int x1])).length) Slot.unset).toArray = ls at hl ⊢
  replace hl : lv_has ls 5 [(0, .ref (a h0)), (1, .int x0), (2, .int x1)] := hl
  unfold fn_X3_borrowLocal at hf
  refine de_start hS hP (fun H locs hS hP => ?_)
  refine lv_aload_n hx hb dX3_borrowLocal_0 rfl (lv_at hl 0 rfl) ?_
  obtain ⟨g_1, hf⟩ := grd_some hf
  obtain ⟨kg_1, sg_1⟩ := okO_at g_1
  obtain ⟨k_2, ek_2, hf⟩ := lnk_some hf
  refine va_get (D := (dC, dI)) (ci := 3) (v := .ref (a k_2)) (C := RX3) (T := TX3) (N := 22) hx hb hts iwd_X3_borrowLocal_X3 hown hK hP h0 (Wd_ob kg_1 sg_1 (by decide)) rfl 9 (by decide) (hts _ md_X3_borrowLocal_1) (fun _ h9 => h9) (fl_q rfl ek_2) dX3_borrowLocal_1 ?_
  refine lv_iload_n hx hb dX3_borrowLocal_4 rfl (lv_at hl 2 rfl) ?_
  obtain ⟨g_3, hf⟩ := grd_some hf
  obtain ⟨kg_3, sg_3, ig_3⟩ := okA_at g_3
  refine va_lald hx hb hK hP k_2 2 (Wd_al kg_3 sg_3) rfl ig_3 dX3_borrowLocal_5 ?_
  refine lv_topl (fun v_4 ev_4 => ?_)
  replace hf := lt_at ev_4 hf
  clear ev_4
  refine lv_lstore_n (lv' := [(3, .long v_4), (0, .ref (a h0)), (1, .int x0), (2, .int x1)]) hx hb dX3_borrowLocal_6 rfl hl (by decide) rfl (fun ls hl2 => ?_)
  replace hl := hl2
  clear hl2
  refine lv_aload_n hx hb dX3_borrowLocal_7 rfl (lv_at hl 1 rfl) ?_
  refine lv_iload_n hx hb dX3_borrowLocal_8 rfl (lv_at hl 3 rfl) ?_
  obtain ⟨z_5, r_6, hfc, hf⟩ := cal_some hf
  have hFc := de_free hD hS hA
  refine va_calli (va_runV (As := [.int x1]) (rest := []) ⟨hx, hb, hml, hown, hts⟩ (de_X3_isThere l dC dI cy a sh n H.size F z h0 x1 hfc) (cwV 1 hts gX3_borrowLocal_X3_isThere rfl rfl rfl (by decide +kernel) ⟨Nat.le_of_ble_eq_true rfl, Nat.le_of_ble_eq_true rfl⟩) ⟨fun a U g mk q => by obtain ⟨q0, q1, qP, qK, qD, qN⟩ := q; exact ⟨q0, q1, qP, va_K.moved (u := U) (U := U.calling g mk a) (Vm.Alike.refl U.vm) qK, qD, qN.same rfl⟩, va_recv hK hP (ci := 3) (q0 := h0) rfl (Wd_ob kg_1 sg_1 (by decide)), fun U hU hW => ⟨rfl, by rw [hU], by rw [hU]; exact hP, va_K.moved hW.alike hK, hD.weaken (fun _ _ _ _ => trivial), hN.warm hW⟩⟩ rfl rfl hl.1 rfl (lv_room (Nat.le_of_ble_eq_true rfl)) dX3_borrowLocal_9 ⟨Nat.le_of_ble_eq_true rfl, Nat.le_of_ble_eq_true rfl⟩) hS (fun q _ h => hFc q h) hFc (fun rr u t H_7 locs ht hvm hw hB hz1 hk1 hS2 => ?_)
  rw [hw]
  clear hw
  obtain ⟨hP1, -, hD1⟩ := hB
  rw [ht] at hP1
  replace hD := hD1.weaken (fun _ _ _ h => hFc _ h)
  replace hP := hP1
  replace hS := hS2
  clear hP1 hD1 hS2 hFc hfc hz1 hk1 hvm ht
  refine de_cut (h := 20) (fun (x : St) => []) (fun x ls H locs => lv_has ls 5 [(3, .long v_4), (0, .ref (a h0)), (1, .int x0), (2, .int x1)] ∧ va_P (dC, dI) vwCl (Wd cy a sh n x) H ∧ va_D A (Wd cy a sh n x) ∧ va_S A s.heap H locs) (fun x => fn_X3_borrowLocal_B20 F sh n v_4 x0 h0 x1 x) (z8, r8) ?_ (fun B20 => ?_)
  · intro x ls H locs hI hf
    obtain ⟨z_8, ez⟩ : ∃ w, w = x := ⟨_, rfl⟩
    subst ez
    obtain ⟨hl2, hP2, hD2, hS2⟩ := hI
    replace hl : lv_has ls 5 [(3, .long v_4), (0, .ref (a h0)), (1, .int x0), (2, .int x1)] := hl2
    replace hP := hP2
    replace hD := hD2
    replace hS := hS2
    clear hl2 hP2 hD2 hS2
    replace hf := fn_X3_borrowLocal_B20_s hf
    refine W.eq (g2 := F0 m 20 ls []) rfl ?_
    refine lv_lload_n hx hb dX3_borrowLocal_20 rfl (lv_at hl 0 rfl) ?_
    obtain ⟨z_9, r_10, hfc, hf⟩ := cal_some hf
    have hFc := de_free hD hS hA
    refine va_calli (va_runS (As := [.long v_4]) (rest := []) ⟨hx, hb, hml, hown, hts⟩ (de_X5_isReference l dC dI cy a sh n H.size F z_8 v_4 hfc) (va_cwS 1 hts gX3_borrowLocal_X5_isReference rfl rfl rfl (by decide +kernel) ⟨Nat.le_of_ble_eq_true rfl, Nat.le_of_ble_eq_true rfl⟩) ⟨fun a U g mk q => by obtain ⟨q0, q1, qP, qK, qD, qN⟩ := q; exact ⟨q0, q1, qP, va_K.moved (u := U) (U := U.calling g mk a) (Vm.Alike.refl U.vm) qK, qD, qN.same rfl⟩, fun U hU hW => ⟨rfl, by rw [hU], by rw [hU]; exact hP, va_K.moved hW.alike hK, hD.weaken (fun _ _ _ _ => trivial), hN.warm hW⟩⟩ rfl rfl hl.1 rfl (lv_room (Nat.le_of_ble_eq_true rfl)) dX3_borrowLocal_21 ⟨Nat.le_of_ble_eq_true rfl, Nat.le_of_ble_eq_true rfl⟩) hS (fun q _ h => hFc q h) hFc (fun rr u t H_11 locs ht hvm hw hB hz1 hk1 hS2 => ?_)
    rw [hw]
    clear hw
    obtain ⟨hP1, -, hD1⟩ := hB
    rw [ht] at hP1
    replace hD := hD1.weaken (fun _ _ _ h => hFc _ h)
    replace hP := hP1
    replace hS := hS2
    clear hP1 hD1 hS2 hFc hfc hz1 hk1 hvm ht
    refine de_cut (h := 32) (fun (x : St) => []) (fun x ls H locs => lv_has ls 5 [(3, .long v_4), (0, .ref (a h0)), (1, .int x0), (2, .int x1)] ∧ va_P (dC, dI) vwCl (Wd cy a sh n x) H ∧ va_D A (Wd cy a sh n x) ∧ va_S A s.heap H locs) (fun x => fn_X3_borrowLocal_B32 F sh n x0 h0 x1 v_4 x) (z8, r8) ?_ (fun B32 => ?_)
    · intro x ls H locs hI hf
      obtain ⟨z_12, ez⟩ : ∃ w, w = x := ⟨_, rfl⟩
      subst ez
      obtain ⟨hl2, hP2, hD2, hS2⟩ := hI
      replace hl : lv_has ls 5 [(3, .long v_4), (0, .ref (a h0)), (1, .int x0), (2, .int x1)] := hl2
      replace hP := hP2
      replace hD := hD2
      replace hS := hS2
      clear hl2 hP2 hD2 hS2
      replace hf := fn_X3_borrowLocal_B32_s hf
      refine W.eq (g2 := F0 m 32 ls []) rfl ?_
      refine lv_aload_n hx hb dX3_borrowLocal_32 rfl (lv_at hl 1 rfl) ?_
      refine lv_lconst (v := 1) hx hb dX3_borrowLocal_33 (by decide) ?_
      refine lv_iload_n hx hb dX3_borrowLocal_34 rfl (lv_at hl 3 rfl) ?_
      refine lv_lshl (v := (1 <<< ((x1 : Int32).toInt64 &&& 63))) hx hb dX3_borrowLocal_35 rfl ?_
      refine lv_iload_n hx hb dX3_borrowLocal_36 rfl (lv_at hl 2 rfl) ?_
      refine de_cut (h := 45) (fun (x : St × Int32) => [.int x.2, .long ((1 <<< ((x1 : Int32).toInt64 &&& 63))), .ref (a h0)]) (fun x ls H locs => lv_has ls 5 [(3, .long v_4), (0, .ref (a h0)), (1, .int x0), (2, .int x1)] ∧ va_P (dC, dI) vwCl (Wd cy a sh n x.1) H ∧ va_D A (Wd cy a sh n x.1) ∧ va_S A s.heap H locs) (fun x => fn_X3_borrowLocal_B45 F sh n h0 x1 x0 v_4 x.1 x.2) (z8, r8) ?_ (fun B45 => ?_)
      · intro x ls H locs hI hf
        obtain ⟨z_14, p_13⟩ := x
        obtain ⟨hl2, hP2, hD2, hS2⟩ := hI
        replace hl : lv_has ls 5 [(3, .long v_4), (0, .ref (a h0)), (1, .int x0), (2, .int x1)] := hl2
        replace hP := hP2
        replace hD := hD2
        replace hS := hS2
        clear hl2 hP2 hD2 hS2
        replace hf := fn_X3_borrowLocal_B45_s hf
        refine W.eq (g2 := F0 m 45 ls [.int p_13, .long ((1 <<< ((x1 : Int32).toInt64 &&& 63))), .ref (a h0)]) rfl ?_
        obtain ⟨z_15, r_16, hfc, hf⟩ := cal_some hf
        have hFc := de_free hD hS hA
        refine va_calli (va_runV (As := [.long ((1 <<< ((x1 : Int32).toInt64 &&& 63))), .int p_13]) (rest := []) ⟨hx, hb, hml, hown, hts⟩ (de_X3_isLive l dC dI cy a sh n H.size F z_14 h0 ((1 <<< ((x1 : Int32).toInt64 &&& 63))) p_13 hfc) (cwV 2 hts gX3_borrowLocal_X3_isLive rfl rfl rfl (by decide +kernel) ⟨Nat.le_of_ble_eq_true rfl, Nat.le_of_ble_eq_true rfl⟩) ⟨fun a U g mk q => by obtain ⟨q0, q1, qP, qK, qD, qN⟩ := q; exact ⟨q0, q1, qP, va_K.moved (u := U) (U := U.calling g mk a) (Vm.Alike.refl U.vm) qK, qD, qN.same rfl⟩, va_recv hK hP (ci := 3) (q0 := h0) rfl (Wd_ob kg_1 sg_1 (by decide)), fun U hU hW => ⟨rfl, by rw [hU], by rw [hU]; exact hP, va_K.moved hW.alike hK, hD.weaken (fun _ _ _ _ => trivial), hN.warm hW⟩⟩ rfl rfl hl.1 rfl (lv_room (Nat.le_of_ble_eq_true rfl)) dX3_borrowLocal_45 ⟨Nat.le_of_ble_eq_true rfl, Nat.le_of_ble_eq_true rfl⟩) hS (fun q _ h => hFc q h) hFc (fun rr u t H_17 locs ht hvm hw hB hz1 hk1 hS2 => ?_)
        rw [hw]
        clear hw
        obtain ⟨hP1, -, hD1⟩ := hB
        rw [ht] at hP1
        replace hD := hD1.weaken (fun _ _ _ h => hFc _ h)
        replace hP := hP1
        replace hS := hS2
        clear hP1 hD1 hS2 hFc hfc hz1 hk1 hvm ht
        refine de_cut (h := 57) (fun (x : St) => []) (fun x ls H locs => lv_has ls 5 [(3, .long v_4), (0, .ref (a h0)), (1, .int x0), (2, .int x1)] ∧ va_P (dC, dI) vwCl (Wd cy a sh n x) H ∧ va_D A (Wd cy a sh n x) ∧ va_S A s.heap H locs) (fun x => fn_X3_borrowLocal_B57 F sh n x0 v_4 h0 x1 x) (z8, r8) ?_ (fun B57 => ?_)
        · intro x ls H locs hI hf
          obtain ⟨z_18, ez⟩ : ∃ w, w = x := ⟨_, rfl⟩
          subst ez
          obtain ⟨hl2, hP2, hD2, hS2⟩ := hI
          replace hl : lv_has ls 5 [(3, .long v_4), (0, .ref (a h0)), (1, .int x0), (2, .int x1)] := hl2
          replace hP := hP2
          replace hD := hD2
          replace hS := hS2
          clear hl2 hP2 hD2 hS2
          replace hf := fn_X3_borrowLocal_B57_s hf
          refine W.eq (g2 := F0 m 57 ls []) rfl ?_
          refine lv_aload_n hx hb dX3_borrowLocal_57 rfl (lv_at hl 1 rfl) ?_
          refine lv_iload_n hx hb dX3_borrowLocal_58 rfl (lv_at hl 2 rfl) ?_
          refine de_cut (h := 69) (fun (x : St × Int32) => [.int x.2, .ref (a h0)]) (fun x ls H locs => lv_has ls 5 [(3, .long v_4), (2, .int x1)] ∧ va_P (dC, dI) vwCl (Wd cy a sh n x.1) H ∧ va_D A (Wd cy a sh n x.1) ∧ va_S A s.heap H locs) (fun x => fn_X3_borrowLocal_B69 F sh n v_4 h0 x1 x.1 x.2) (z8, r8) ?_ (fun B69 => ?_)
          · intro x ls H locs hI hf
            obtain ⟨z_20, p_19⟩ := x
            obtain ⟨hl2, hP2, hD2, hS2⟩ := hI
            replace hl : lv_has ls 5 [(3, .long v_4), (2, .int x1)] := hl2
            replace hP := hP2
            replace hD := hD2
            replace hS := hS2
            clear hl2 hP2 hD2 hS2
            replace hf := fn_X3_borrowLocal_B69_s hf
            refine W.eq (g2 := F0 m 69 ls [.int p_19, .ref (a h0)]) rfl ?_
            refine lv_lload_n hx hb dX3_borrowLocal_69 rfl (lv_at hl 0 rfl) ?_
            obtain ⟨z_21, r_22, hfc, hf⟩ := cal_some hf
            have hFc := de_free hD hS hA
            refine va_calll (va_runS (As := [.int p_19, .long v_4]) (rest := [.ref (a h0)]) ⟨hx, hb, hml, hown, hts⟩ (de_X5_prefixed l dC dI cy a sh n H.size F z_20 p_19 v_4 hfc) (va_cwS 2 hts gX3_borrowLocal_X5_prefixed rfl rfl rfl (by decide +kernel) ⟨Nat.le_of_ble_eq_true rfl, Nat.le_of_ble_eq_true rfl⟩) ⟨fun a U g mk q => by obtain ⟨q0, q1, qP, qK, qD, qN⟩ := q; exact ⟨q0, q1, qP, va_K.moved (u := U) (U := U.calling g mk a) (Vm.Alike.refl U.vm) qK, qD, qN.same rfl⟩, fun U hU hW => ⟨rfl, by rw [hU], by rw [hU]; exact hP, va_K.moved hW.alike hK, hD.weaken (fun _ _ _ _ => trivial), hN.warm hW⟩⟩ rfl rfl hl.1 rfl (lv_room (Nat.le_of_ble_eq_true rfl)) dX3_borrowLocal_70 ⟨Nat.le_of_ble_eq_true rfl, Nat.le_of_ble_eq_true rfl⟩) hS (fun q _ h => hFc q h) hFc (fun rr u t H_23 locs ht hvm hw hB hz1 hk1 hS2 => ?_)
            rw [hw]
            clear hw
            obtain ⟨hP1, -, hD1⟩ := hB
            rw [ht] at hP1
            replace hD := hD1.weaken (fun _ _ _ h => hFc _ h)
            replace hP := hP1
            replace hS := hS2
            clear hP1 hD1 hS2 hFc hfc hz1 hk1 hvm ht
            refine lv_lconst (v := 1) hx hb dX3_borrowLocal_73 (by decide) ?_
            refine lv_iload_n hx hb dX3_borrowLocal_74 rfl (lv_at hl 1 rfl) ?_
            refine lv_lshl (v := (1 <<< ((x1 : Int32).toInt64 &&& 63))) hx hb dX3_borrowLocal_75 rfl ?_
            refine lv_iconst (v := 0) hx hb dX3_borrowLocal_76 (by decide) ?_
            obtain ⟨z_24, _u, hfc, hf⟩ := cal_some hf
            have hFc := de_free hD hS hA
            refine va_callv (va_runV (As := [.long r_22, .long ((1 <<< ((x1 : Int32).toInt64 &&& 63))), .int 0]) (rest := []) ⟨hx, hb, hml, hown, hts⟩ (de_X3_putReference l dC dI cy a sh n H_23.size F z_21 h0 r_22 ((1 <<< ((x1 : Int32).toInt64 &&& 63))) 0 hfc) (cwV 3 hts gX3_borrowLocal_X3_putReference rfl rfl rfl (by decide +kernel) ⟨Nat.le_of_ble_eq_true rfl, Nat.le_of_ble_eq_true rfl⟩) ⟨fun a U g mk q => by obtain ⟨q0, q1, qP, qK, qD, qN⟩ := q; exact ⟨q0, q1, qP, va_K.moved (u := U) (U := U.calling g mk a) (Vm.Alike.refl U.vm) qK, qD, qN.same rfl⟩, va_recv hK hP (ci := 3) (q0 := h0) rfl (Wd_ob kg_1 sg_1 (by decide)), fun U hU hW => ⟨rfl, by rw [hU], by rw [hU]; exact hP, va_K.moved hW.alike hK, hD.weaken (fun _ _ _ _ => trivial), hN.warm hW⟩⟩ rfl rfl hl.1 rfl (lv_room (Nat.le_of_ble_eq_true rfl)) dX3_borrowLocal_77 ⟨Nat.le_of_ble_eq_true rfl, Nat.le_of_ble_eq_true rfl⟩) hS (fun q _ h => hFc q h) hFc (fun u t H_25 locs ht hvm hw hB hz1 hk1 hS2 => ?_)
            obtain ⟨hP1, -, hD1⟩ := hB
            rw [ht] at hP1
            replace hD := hD1.weaken (fun _ _ _ h => hFc _ h)
            replace hP := hP1
            replace hS := hS2
            clear hP1 hD1 hS2 hFc hfc hz1 hk1 hvm ht
            obtain ⟨h8, h9⟩ := ret_some hf
            rw [h8]
            exact W.vret hx hb hr (fun t ht hW => ⟨⟨(), rfl, trivial, by rw [ht]; exact hP, va_K.moved hW.alike hK, hD⟩, hS.F ht⟩) hS.2.2 dX3_borrowLocal_80
          refine lv_if_eq (tgt := 67) hx hb dX3_borrowLocal_59 (by decide) (fun c_26 => ?_) (fun c_26 => ?_)
          · skip
            rw [if_pos c_26] at hf
            refine lv_bipush (v := 8) hx hb dX3_borrowLocal_67 (by decide) ?_
            exact B69 (z_18, 8) ls H locs ⟨lv_sub hl [0, 3] rfl, hP, hD, hS⟩ hf
          · skip
            rw [if_neg c_26] at hf
            refine lv_bipush (v := 9) hx hb dX3_borrowLocal_62 (by decide) ?_
            refine lv_goto (tgt := 69) hx hb dX3_borrowLocal_64 (by decide) ?_
            exact B69 (z_18, 9) ls H locs ⟨lv_sub hl [0, 3] rfl, hP, hD, hS⟩ hf
        refine lv_if_eq (tgt := 57) hx hb dX3_borrowLocal_48 (by decide) (fun c_27 => ?_) (fun c_27 => ?_)
        · skip
          rw [if_pos c_27] at hf
          exact B57 (z_15) ls H_17 locs ⟨lv_sub hl [0, 1, 2, 3] rfl, hP, hD, hS⟩ hf
        · skip
          rw [if_neg c_27] at hf
          refine lv_aload_n hx hb dX3_borrowLocal_51 rfl (lv_at hl 1 rfl) ?_
          refine lv_bipush (v := 6) hx hb dX3_borrowLocal_52 (by decide) ?_
          obtain ⟨z_28, _u, hfc, hf⟩ := cal_some hf
          have hFc := de_free hD hS hA
          refine va_callv (va_runV (As := [.int 6]) (rest := []) ⟨hx, hb, hml, hown, hts⟩ (de_X3_fail l dC dI cy a sh n H_17.size F z_15 h0 6 hfc) (cwV 1 hts gX3_borrowLocal_X3_fail rfl rfl rfl (by decide +kernel) ⟨Nat.le_of_ble_eq_true rfl, Nat.le_of_ble_eq_true rfl⟩) ⟨fun a U g mk q => by obtain ⟨q0, q1, qP, qK, qD, qN⟩ := q; exact ⟨q0, q1, qP, va_K.moved (u := U) (U := U.calling g mk a) (Vm.Alike.refl U.vm) qK, qD, qN.same rfl⟩, va_recv hK hP (ci := 3) (q0 := h0) rfl (Wd_ob kg_1 sg_1 (by decide)), fun U hU hW => ⟨rfl, by rw [hU], by rw [hU]; exact hP, va_K.moved hW.alike hK, hD.weaken (fun _ _ _ _ => trivial), hN.warm hW⟩⟩ rfl rfl hl.1 rfl (lv_room (Nat.le_of_ble_eq_true rfl)) dX3_borrowLocal_54 ⟨Nat.le_of_ble_eq_true rfl, Nat.le_of_ble_eq_true rfl⟩) hS (fun q _ h => hFc q h) hFc (fun u t H_29 locs ht hvm hw hB hz1 hk1 hS2 => ?_)
          obtain ⟨hP1, -, hD1⟩ := hB
          rw [ht] at hP1
          replace hD := hD1.weaken (fun _ _ _ h => hFc _ h)
          replace hP := hP1
          replace hS := hS2
          clear hP1 hD1 hS2 hFc hfc hz1 hk1 hvm ht
          exact B57 (z_28) ls H_29 locs ⟨lv_sub hl [0, 1, 2, 3] rfl, hP, hD, hS⟩ hf
      refine lv_if_ne (tgt := 44) hx hb dX3_borrowLocal_37 (by decide) (fun c_30 => ?_) (fun c_30 => ?_)
      · skip
        rw [if_neg c_30] at hf
        refine lv_iconst (v := 0) hx hb dX3_borrowLocal_44 (by decide) ?_
        exact B45 (z_12, 0) ls H locs ⟨lv_sub hl [0, 1, 2, 3] rfl, hP, hD, hS⟩ hf
      · skip
        rw [if_pos c_30] at hf
        refine lv_iconst (v := 1) hx hb dX3_borrowLocal_40 (by decide) ?_
        refine lv_goto (tgt := 45) hx hb dX3_borrowLocal_41 (by decide) ?_
        exact B45 (z_12, 1) ls H locs ⟨lv_sub hl [0, 1, 2, 3] rfl, hP, hD, hS⟩ hf
    refine lv_if_eq (tgt := 32) hx hb dX3_borrowLocal_24 (by decide) (fun c_31 => ?_) (fun c_31 => ?_)
    · skip
      rw [if_pos c_31] at hf
      exact B32 (z_9) ls H_11 locs ⟨lv_sub hl [0, 1, 2, 3] rfl, hP, hD, hS⟩ hf
    · skip
      rw [if_neg c_31] at hf
      refine lv_aload_n hx hb dX3_borrowLocal_27 rfl (lv_at hl 1 rfl) ?_
      refine lv_iconst (v := 3) hx hb dX3_borrowLocal_28 (by decide) ?_
      obtain ⟨z_32, _u, hfc, hf⟩ := cal_some hf
      have hFc := de_free hD hS hA
      refine va_callv (va_runV (As := [.int 3]) (rest := []) ⟨hx, hb, hml, hown, hts⟩ (de_X3_fail l dC dI cy a sh n H_11.size F z_9 h0 3 hfc) (cwV 1 hts gX3_borrowLocal_X3_fail rfl rfl rfl (by decide +kernel) ⟨Nat.le_of_ble_eq_true rfl, Nat.le_of_ble_eq_true rfl⟩) ⟨fun a U g mk q => by obtain ⟨q0, q1, qP, qK, qD, qN⟩ := q; exact ⟨q0, q1, qP, va_K.moved (u := U) (U := U.calling g mk a) (Vm.Alike.refl U.vm) qK, qD, qN.same rfl⟩, va_recv hK hP (ci := 3) (q0 := h0) rfl (Wd_ob kg_1 sg_1 (by decide)), fun U hU hW => ⟨rfl, by rw [hU], by rw [hU]; exact hP, va_K.moved hW.alike hK, hD.weaken (fun _ _ _ _ => trivial), hN.warm hW⟩⟩ rfl rfl hl.1 rfl (lv_room (Nat.le_of_ble_eq_true rfl)) dX3_borrowLocal_29 ⟨Nat.le_of_ble_eq_true rfl, Nat.le_of_ble_eq_true rfl⟩) hS (fun q _ h => hFc q h) hFc (fun u t H_33 locs ht hvm hw hB hz1 hk1 hS2 => ?_)
      obtain ⟨hP1, -, hD1⟩ := hB
      rw [ht] at hP1
      replace hD := hD1.weaken (fun _ _ _ h => hFc _ h)
      replace hP := hP1
      replace hS := hS2
      clear hP1 hD1 hS2 hFc hfc hz1 hk1 hvm ht
      exact B32 (z_32) ls H_33 locs ⟨lv_sub hl [0, 1, 2, 3] rfl, hP, hD, hS⟩ hf
  refine lv_if_ne (tgt := 20) hx hb dX3_borrowLocal_12 (by decide) (fun c_34 => ?_) (fun c_34 => ?_)
  · skip
    rw [if_neg c_34] at hf
    exact B20 (z_5) ls H_7 locs ⟨lv_sub hl [0, 1, 2, 3] rfl, hP, hD, hS⟩ hf
  · skip
    rw [if_pos c_34] at hf
    refine lv_aload_n hx hb dX3_borrowLocal_15 rfl (lv_at hl 1 rfl) ?_
    refine lv_iconst (v := 5) hx hb dX3_borrowLocal_16 (by decide) ?_
    obtain ⟨z_35, _u, hfc, hf⟩ := cal_some hf
    have hFc := de_free hD hS hA
    refine va_callv (va_runV (As := [.int 5]) (rest := []) ⟨hx, hb, hml, hown, hts⟩ (de_X3_fail l dC dI cy a sh n H_7.size F z_5 h0 5 hfc) (cwV 1 hts gX3_borrowLocal_X3_fail rfl rfl rfl (by decide +kernel) ⟨Nat.le_of_ble_eq_true rfl, Nat.le_of_ble_eq_true rfl⟩) ⟨fun a U g mk q => by obtain ⟨q0, q1, qP, qK, qD, qN⟩ := q; exact ⟨q0, q1, qP, va_K.moved (u := U) (U := U.calling g mk a) (Vm.Alike.refl U.vm) qK, qD, qN.same rfl⟩, va_recv hK hP (ci := 3) (q0 := h0) rfl (Wd_ob kg_1 sg_1 (by decide)), fun U hU hW => ⟨rfl, by rw [hU], by rw [hU]; exact hP, va_K.moved hW.alike hK, hD.weaken (fun _ _ _ _ => trivial), hN.warm hW⟩⟩ rfl rfl hl.1 rfl (lv_room (Nat.le_of_ble_eq_true rfl)) dX3_borrowLocal_17 ⟨Nat.le_of_ble_eq_true rfl, Nat.le_of_ble_eq_true rfl⟩) hS (fun q _ h => hFc q h) hFc (fun u t H_36 locs ht hvm hw hB hz1 hk1 hS2 => ?_)
    obtain ⟨hP1, -, hD1⟩ := hB
    rw [ht] at hP1
    replace hD := hD1.weaken (fun _ _ _ h => hFc _ h)
    replace hP := hP1
    replace hS := hS2
    clear hP1 hD1 hS2 hFc hfc hz1 hk1 hvm ht
    exact B20 (z_35) ls H_36 locs ⟨lv_sub hl [0, 1, 2, 3] rfl, hP, hD, hS⟩ hf

theorem md_X3_pack_1 : (.fieldLink RX3 44 "ResourceLedger$Looker" "p" "LResourceLedger$Program;" : Cond) ∈ wsX3_pack := List.mem_of_getElem? (i := 1) rfl
theorem iwd_X3_pack_X3 : ∀ w ∈ wsX30, w ∈ wsX3_pack := fun _ h => List.mem_cons_of_mem _ (List.mem_append_left _ (List.mem_append_right _ h))
set_option maxHeartbeats 4000000 in
set_option maxRecDepth 100000 in
theorem de_X3_pack (l : Launch) (dC : Nat → ClassId) (dI : Nat → Nat → Nat) (cy : Nat → ClassId) (a : Nat → Nat) (sh : Nat → Nat × Nat) (n sz : Nat) (F : Nat) (z : St) (h0 : Nat) (x0 : Int32) (x1 : Int32) {z8 : St} {r8 : Unit} (hf : fn_X3_pack F sh n z h0 x0 x1 = some (z8, r8)) : Met l yX3_pack wsX3_pack ({ frames := 3, cells := 0, slots := 0, locals := 68 }) (va_Pc [.ref (a h0), .int x0, .int x1] (fun U => U.heap.size = sz ∧ va_P (dC, dI) vwCl (Wd cy a sh n z) U.heap ∧ va_K (dC, dI) vwCl (TYS cy) U ∧ va_D (fun _ => True) (Wd cy a sh n z) ∧ NK U)) (va_Qv (fun u : Unit => True) (fun u t => va_P (dC, dI) vwCl (Wd cy a sh n z8) t.heap ∧ va_K (dC, dI) vwCl (TYS cy) t ∧ va_D (va_A (Wd cy a sh n z) sz) (Wd cy a sh n z8)) (va_A (Wd cy a sh n z) sz)) 0 0 (va_A (Wd cy a sh n z) sz) := by
  refine Met.ofW (cc := cX3_pack) (maxL := 5) (ret := none) (by decide) rfl ?_
  intro p e s m args below meth c s₁ B hml hv
  obtain ⟨rfl, hsz, hP, hK, hD0, hN⟩ := hv
  have hx := B.exec
  have hb := B.bytes
  have hr := B.returns
  have hts := atoms_spec (ws := wsX3_pack) B.pre
  have hown : s.vm.findClass RX3 = some m.cls := findClass_of_methodNamed B.named
  have hlocks := B.notSynchronized
  subst hsz
  have hD := hD0.self (sz := s.heap.size)
  clear hD0
  generalize hAe : va_A (Wd cy a sh n z) s.heap.size = A at hD ⊢
  have hA : ∀ q : Nat, s.heap.size ≤ q → A q := fun q h => by rw [← hAe]; exact Or.inr h
  clear hAe
  have hS : va_S A s.heap s.heap [] := va_S.rf
  have hl := lv_entry ([.ref (a h0), .int x0, .int x1]) (n := 5) (Nat.le_of_ble_eq_true rfl)
  rw [lg_entry_eq]
  generalize (lg_sl ([.ref (a h0), .int x0, .int x1]) ++ List.replicate (5 - (lg_sl ([.ref (a h0), .int x0, .int x1])).length) Slot.unset).toArray = ls at hl ⊢
  replace hl : lv_has ls 5 [(0, .ref (a h0)), (1, .int x0), (2, .int x1)] := hl
  unfold fn_X3_pack at hf
  refine de_start hS hP (fun H locs hS hP => ?_)
  refine lv_aload_n hx hb dX3_pack_0 rfl (lv_at hl 0 rfl) ?_
  obtain ⟨g_1, hf⟩ := grd_some hf
  obtain ⟨kg_1, sg_1⟩ := okO_at g_1
  obtain ⟨k_2, ek_2, hf⟩ := lnk_some hf
  refine va_get (D := (dC, dI)) (ci := 3) (v := .ref (a k_2)) (C := RX3) (T := TX3) (N := 22) hx hb hts iwd_X3_pack_X3 hown hK hP h0 (Wd_ob kg_1 sg_1 (by decide)) rfl 2 (by decide) (hts _ md_X3_pack_1) (fun _ h9 => h9) (fl_q rfl ek_2) dX3_pack_1 ?_
  refine lv_iload_n hx hb dX3_pack_4 rfl (lv_at hl 2 rfl) ?_
  obtain ⟨g_5, hf⟩ := grd_some hf
  obtain ⟨kg_5, sg_5⟩ := okO_at g_5
  obtain ⟨z_3, r_4, hfc, hf⟩ := cal_some hf
  have hFc := de_free hD hS hA
  refine va_calli (va_runV (As := [.int x1]) (rest := []) ⟨hx, hb, hml, hown, hts⟩ (de_X5_fieldCount l dC dI cy a sh n H.size F z k_2 x1 hfc) (cwV 1 hts gX3_pack_X5_fieldCount rfl rfl rfl (by decide +kernel) ⟨Nat.le_of_ble_eq_true rfl, Nat.le_of_ble_eq_true rfl⟩) ⟨fun a U g mk q => by obtain ⟨q0, q1, qP, qK, qD, qN⟩ := q; exact ⟨q0, q1, qP, va_K.moved (u := U) (U := U.calling g mk a) (Vm.Alike.refl U.vm) qK, qD, qN.same rfl⟩, va_recv hK hP (ci := 5) (q0 := k_2) rfl (Wd_ob kg_5 sg_5 (by decide)), fun U hU hW => ⟨rfl, by rw [hU], by rw [hU]; exact hP, va_K.moved hW.alike hK, hD.weaken (fun _ _ _ _ => trivial), hN.warm hW⟩⟩ rfl rfl hl.1 rfl (lv_room (Nat.le_of_ble_eq_true rfl)) dX3_pack_5 ⟨Nat.le_of_ble_eq_true rfl, Nat.le_of_ble_eq_true rfl⟩) hS (fun q _ h => hFc q h) hFc (fun rr u t H_6 locs ht hvm hw hB hz1 hk1 hS2 => ?_)
  rw [hw]
  clear hw
  obtain ⟨hP1, -, hD1⟩ := hB
  rw [ht] at hP1
  replace hD := hD1.weaken (fun _ _ _ h => hFc _ h)
  replace hP := hP1
  replace hS := hS2
  clear hP1 hD1 hS2 hFc hfc hz1 hk1 hvm ht
  refine lv_istore_n (lv' := [(3, .int r_4), (0, .ref (a h0)), (1, .int x0), (2, .int x1)]) hx hb dX3_pack_8 rfl hl (by decide) rfl (fun ls hl2 => ?_)
  replace hl := hl2
  clear hl2
  refine lv_iload_n hx hb dX3_pack_9 rfl (lv_at hl 2 rfl) ?_
  refine lv_if_eq (tgt := 52) hx hb dX3_pack_10 (by decide) (fun c_7 => ?_) (fun c_7 => ?_)
  · skip
    rw [if_pos c_7] at hf
    refine lv_aload_n hx hb dX3_pack_52 rfl (lv_at hl 1 rfl) ?_
    refine lv_iload_n hx hb dX3_pack_53 rfl (lv_at hl 3 rfl) ?_
    obtain ⟨z_8, r_9, hfc, hf⟩ := cal_some hf
    have hFc := de_free hD hS hA
    refine va_calll (va_runS (As := [.int x1]) (rest := [.ref (a h0)]) ⟨hx, hb, hml, hown, hts⟩ (de_X5_structureType l dC dI cy a sh n H_6.size F z_3 x1 hfc) (va_cwS 1 hts gX3_pack_X5_structureType rfl rfl rfl (by decide +kernel) ⟨Nat.le_of_ble_eq_true rfl, Nat.le_of_ble_eq_true rfl⟩) ⟨fun a U g mk q => by obtain ⟨q0, q1, qP, qK, qD, qN⟩ := q; exact ⟨q0, q1, qP, va_K.moved (u := U) (U := U.calling g mk a) (Vm.Alike.refl U.vm) qK, qD, qN.same rfl⟩, fun U hU hW => ⟨rfl, by rw [hU], by rw [hU]; exact hP, va_K.moved hW.alike hK, hD.weaken (fun _ _ _ _ => trivial), hN.warm hW⟩⟩ rfl rfl hl.1 rfl (lv_room (Nat.le_of_ble_eq_true rfl)) dX3_pack_54 ⟨Nat.le_of_ble_eq_true rfl, Nat.le_of_ble_eq_true rfl⟩) hS (fun q _ h => hFc q h) hFc (fun rr u t H_10 locs ht hvm hw hB hz1 hk1 hS2 => ?_)
    rw [hw]
    clear hw
    obtain ⟨hP1, -, hD1⟩ := hB
    rw [ht] at hP1
    replace hD := hD1.weaken (fun _ _ _ h => hFc _ h)
    replace hP := hP1
    replace hS := hS2
    clear hP1 hD1 hS2 hFc hfc hz1 hk1 hvm ht
    obtain ⟨z_11, _u, hfc, hf⟩ := cal_some hf
    have hFc := de_free hD hS hA
    refine va_callv (va_runV (As := [.long r_9]) (rest := []) ⟨hx, hb, hml, hown, hts⟩ (de_X3_takeOnly l dC dI cy a sh n H_10.size F z_8 h0 r_9 hfc) (cwV 1 hts gX3_pack_X3_takeOnly rfl rfl rfl (by decide +kernel) ⟨Nat.le_of_ble_eq_true rfl, Nat.le_of_ble_eq_true rfl⟩) ⟨fun a U g mk q => by obtain ⟨q0, q1, qP, qK, qD, qN⟩ := q; exact ⟨q0, q1, qP, va_K.moved (u := U) (U := U.calling g mk a) (Vm.Alike.refl U.vm) qK, qD, qN.same rfl⟩, va_recv hK hP (ci := 3) (q0 := h0) rfl (Wd_ob kg_1 sg_1 (by decide)), fun U hU hW => ⟨rfl, by rw [hU], by rw [hU]; exact hP, va_K.moved hW.alike hK, hD.weaken (fun _ _ _ _ => trivial), hN.warm hW⟩⟩ rfl rfl hl.1 rfl (lv_room (Nat.le_of_ble_eq_true rfl)) dX3_pack_57 ⟨Nat.le_of_ble_eq_true rfl, Nat.le_of_ble_eq_true rfl⟩) hS (fun q _ h => hFc q h) hFc (fun u t H_12 locs ht hvm hw hB hz1 hk1 hS2 => ?_)
    obtain ⟨hP1, -, hD1⟩ := hB
    rw [ht] at hP1
    replace hD := hD1.weaken (fun _ _ _ h => hFc _ h)
    replace hP := hP1
    replace hS := hS2
    clear hP1 hD1 hS2 hFc hfc hz1 hk1 hvm ht
    refine lv_iconst (v := 0) hx hb dX3_pack_60 (by decide) ?_
    refine lv_istore (lv' := [(4, .int 0), (3, .int r_4), (0, .ref (a h0)), (1, .int x0), (2, .int x1)]) hx hb dX3_pack_61 hl (by decide) rfl (fun ls hl2 => ?_)
    replace hl := hl2
    clear hl2
    have hl0 : lv_has ls 5 [(4, .int 0), (3, .int r_4), (0, .ref (a h0)), (2, .int x1)] := lv_sub hl [0, 1, 2, 4] rfl
    refine de_loop (h := 63) (fun (x : St × Int32) ls H locs => lv_has ls 5 [(4, .int x.2), (3, .int r_4), (0, .ref (a h0)), (2, .int x1)] ∧ va_P (dC, dI) vwCl (Wd cy a sh n x.1) H ∧ va_D A (Wd cy a sh n x.1) ∧ va_S A s.heap H locs) (fun f x => fn_X3_pack_L63 F sh n r_4 h0 x1 f x.1 x.2) (z8, r8) ?_ (fun _ => rfl) F (z_11, 0) ls H_12 locs ⟨hl0, hP, hD, hS⟩ hf
    intro f_15 x ls H locs ih63 hI hf
    obtain ⟨z_14, p_13⟩ := x
    obtain ⟨hl2, hP2, hD2, hS2⟩ := hI
    replace hl : lv_has ls 5 [(4, .int p_13), (3, .int r_4), (0, .ref (a h0)), (2, .int x1)] := hl2
    replace hP := hP2
    replace hD := hD2
    replace hS := hS2
    clear hl2 hP2 hD2 hS2 hl0
    replace hf := fn_X3_pack_L63_s hf
    refine lv_iload hx hb dX3_pack_63 (lv_at hl 0 rfl) ?_
    refine lv_iload_n hx hb dX3_pack_65 rfl (lv_at hl 1 rfl) ?_
    refine lv_icmp_ge (tgt := 89) hx hb dX3_pack_66 (by decide) (fun c_16 => ?_) (fun c_16 => ?_)
    · skip
      rw [if_pos c_16] at hf
      obtain ⟨h8, h9⟩ := ret_some hf
      rw [h8]
      exact W.vret hx hb hr (fun t ht hW => ⟨⟨(), rfl, trivial, by rw [ht]; exact hP, va_K.moved hW.alike hK, hD⟩, hS.F ht⟩) hS.2.2 dX3_pack_89
    · skip
      rw [if_neg c_16] at hf
      refine lv_aload_n hx hb dX3_pack_69 rfl (lv_at hl 2 rfl) ?_
      refine lv_aload_n hx hb dX3_pack_70 rfl (lv_at hl 2 rfl) ?_
      obtain ⟨k_17, ek_17, hf⟩ := lnk_some hf
      refine va_get (D := (dC, dI)) (ci := 3) (v := .ref (a k_17)) (C := RX3) (T := TX3) (N := 22) hx hb hts iwd_X3_pack_X3 hown hK hP h0 (Wd_ob kg_1 sg_1 (by decide)) rfl 2 (by decide) (hts _ md_X3_pack_1) (fun _ h9 => h9) (fl_q rfl ek_17) dX3_pack_71 ?_
      refine lv_iload_n hx hb dX3_pack_74 rfl (lv_at hl 3 rfl) ?_
      refine lv_iload hx hb dX3_pack_75 (lv_at hl 0 rfl) ?_
      obtain ⟨g_20, hf⟩ := grd_some hf
      obtain ⟨kg_20, sg_20⟩ := okO_at g_20
      obtain ⟨z_18, r_19, hfc, hf⟩ := cal_some hf
      have hFc := de_free hD hS hA
      refine va_calll (va_runV (As := [.int x1, .int p_13]) (rest := [.ref (a h0)]) ⟨hx, hb, hml, hown, hts⟩ (de_X5_fieldType l dC dI cy a sh n H.size F z_14 k_17 x1 p_13 hfc) (cwV 2 hts gX3_pack_X5_fieldType rfl rfl rfl (by decide +kernel) ⟨Nat.le_of_ble_eq_true rfl, Nat.le_of_ble_eq_true rfl⟩) ⟨fun a U g mk q => by obtain ⟨q0, q1, qP, qK, qD, qN⟩ := q; exact ⟨q0, q1, qP, va_K.moved (u := U) (U := U.calling g mk a) (Vm.Alike.refl U.vm) qK, qD, qN.same rfl⟩, va_recv hK hP (ci := 5) (q0 := k_17) rfl (Wd_ob kg_20 sg_20 (by decide)), fun U hU hW => ⟨rfl, by rw [hU], by rw [hU]; exact hP, va_K.moved hW.alike hK, hD.weaken (fun _ _ _ _ => trivial), hN.warm hW⟩⟩ rfl rfl hl.1 rfl (lv_room (Nat.le_of_ble_eq_true rfl)) dX3_pack_77 ⟨Nat.le_of_ble_eq_true rfl, Nat.le_of_ble_eq_true rfl⟩) hS (fun q _ h => hFc q h) hFc (fun rr u t H_21 locs ht hvm hw hB hz1 hk1 hS2 => ?_)
      rw [hw]
      clear hw
      obtain ⟨hP1, -, hD1⟩ := hB
      rw [ht] at hP1
      replace hD := hD1.weaken (fun _ _ _ h => hFc _ h)
      replace hP := hP1
      replace hS := hS2
      clear hP1 hD1 hS2 hFc hfc hz1 hk1 hvm ht
      obtain ⟨z_22, _u, hfc, hf⟩ := cal_some hf
      have hFc := de_free hD hS hA
      refine va_callv (va_runV (As := [.long r_19]) (rest := []) ⟨hx, hb, hml, hown, hts⟩ (de_X3_put l dC dI cy a sh n H_21.size F z_18 h0 r_19 hfc) (cwV 1 hts gX3_pack_X3_put rfl rfl rfl (by decide +kernel) ⟨Nat.le_of_ble_eq_true rfl, Nat.le_of_ble_eq_true rfl⟩) ⟨fun a U g mk q => by obtain ⟨q0, q1, qP, qK, qD, qN⟩ := q; exact ⟨q0, q1, qP, va_K.moved (u := U) (U := U.calling g mk a) (Vm.Alike.refl U.vm) qK, qD, qN.same rfl⟩, va_recv hK hP (ci := 3) (q0 := h0) rfl (Wd_ob kg_1 sg_1 (by decide)), fun U hU hW => ⟨rfl, by rw [hU], by rw [hU]; exact hP, va_K.moved hW.alike hK, hD.weaken (fun _ _ _ _ => trivial), hN.warm hW⟩⟩ rfl rfl hl.1 rfl (lv_room (Nat.le_of_ble_eq_true rfl)) dX3_pack_80 ⟨Nat.le_of_ble_eq_true rfl, Nat.le_of_ble_eq_true rfl⟩) hS (fun q _ h => hFc q h) hFc (fun u t H_23 locs ht hvm hw hB hz1 hk1 hS2 => ?_)
      obtain ⟨hP1, -, hD1⟩ := hB
      rw [ht] at hP1
      replace hD := hD1.weaken (fun _ _ _ h => hFc _ h)
      replace hP := hP1
      replace hS := hS2
      clear hP1 hD1 hS2 hFc hfc hz1 hk1 hvm ht
      refine lv_iinc (v := (p_13 + 1)) (lv' := [(4, .int (p_13 + 1)), (3, .int r_4), (0, .ref (a h0)), (2, .int x1)]) hx hb dX3_pack_83 hl (k := 0) rfl rfl (by decide) rfl (fun ls hl2 => ?_)
      replace hl := hl2
      clear hl2
      refine lv_goto (tgt := 63) hx hb dX3_pack_86 (by decide) ?_
      exact ih63 (z_22, (p_13 + 1)) ls H_23 locs ⟨lv_sub hl [0, 1, 2, 3] rfl, hP, hD, hS⟩ hf
  · skip
    rw [if_neg c_7] at hf
    refine lv_iload_n hx hb dX3_pack_13 rfl (lv_at hl 0 rfl) ?_
    refine lv_iconst (v := 1) hx hb dX3_pack_14 (by decide) ?_
    refine lv_isub hx hb dX3_pack_15 ?_
    refine lv_topi (fun v_24 ev_24 => ?_)
    replace hf := lt_at ev_24 hf
    clear ev_24
    refine lv_istore (lv' := [(4, .int v_24), (3, .int r_4), (0, .ref (a h0)), (1, .int x0), (2, .int x1)]) hx hb dX3_pack_16 hl (by decide) rfl (fun ls hl2 => ?_)
    replace hl := hl2
    clear hl2
    have hl0 : lv_has ls 5 [(4, .int v_24), (0, .ref (a h0)), (2, .int x1)] := lv_sub hl [0, 2, 4] rfl
    refine de_loop (h := 18) (fun (x : St × Int32) ls H locs => lv_has ls 5 [(4, .int x.2), (0, .ref (a h0)), (2, .int x1)] ∧ va_P (dC, dI) vwCl (Wd cy a sh n x.1) H ∧ va_D A (Wd cy a sh n x.1) ∧ va_S A s.heap H locs) (fun f x => fn_X3_pack_L18 F sh n x1 h0 f x.1 x.2) (z8, r8) ?_ (fun _ => rfl) F (z_3, v_24) ls H_6 locs ⟨hl0, hP, hD, hS⟩ hf
    intro f_27 x ls H locs ih18 hI hf
    obtain ⟨z_26, p_25⟩ := x
    obtain ⟨hl2, hP2, hD2, hS2⟩ := hI
    replace hl : lv_has ls 5 [(4, .int p_25), (0, .ref (a h0)), (2, .int x1)] := hl2
    replace hP := hP2
    replace hD := hD2
    replace hS := hS2
    clear hl2 hP2 hD2 hS2 hl0
    replace hf := fn_X3_pack_L18_s hf
    refine lv_iload hx hb dX3_pack_18 (lv_at hl 0 rfl) ?_
    refine lv_if_lt (tgt := 43) hx hb dX3_pack_20 (by decide) (fun c_28 => ?_) (fun c_28 => ?_)
    · skip
      rw [if_pos c_28] at hf
      refine lv_aload_n hx hb dX3_pack_43 rfl (lv_at hl 1 rfl) ?_
      refine lv_iload_n hx hb dX3_pack_44 rfl (lv_at hl 2 rfl) ?_
      obtain ⟨z_29, r_30, hfc, hf⟩ := cal_some hf
      have hFc := de_free hD hS hA
      refine va_calll (va_runS (As := [.int x1]) (rest := [.ref (a h0)]) ⟨hx, hb, hml, hown, hts⟩ (de_X5_structureType l dC dI cy a sh n H.size F z_26 x1 hfc) (va_cwS 1 hts gX3_pack_X5_structureType rfl rfl rfl (by decide +kernel) ⟨Nat.le_of_ble_eq_true rfl, Nat.le_of_ble_eq_true rfl⟩) ⟨fun a U g mk q => by obtain ⟨q0, q1, qP, qK, qD, qN⟩ := q; exact ⟨q0, q1, qP, va_K.moved (u := U) (U := U.calling g mk a) (Vm.Alike.refl U.vm) qK, qD, qN.same rfl⟩, fun U hU hW => ⟨rfl, by rw [hU], by rw [hU]; exact hP, va_K.moved hW.alike hK, hD.weaken (fun _ _ _ _ => trivial), hN.warm hW⟩⟩ rfl rfl hl.1 rfl (lv_room (Nat.le_of_ble_eq_true rfl)) dX3_pack_45 ⟨Nat.le_of_ble_eq_true rfl, Nat.le_of_ble_eq_true rfl⟩) hS (fun q _ h => hFc q h) hFc (fun rr u t H_31 locs ht hvm hw hB hz1 hk1 hS2 => ?_)
      rw [hw]
      clear hw
      obtain ⟨hP1, -, hD1⟩ := hB
      rw [ht] at hP1
      replace hD := hD1.weaken (fun _ _ _ h => hFc _ h)
      replace hP := hP1
      replace hS := hS2
      clear hP1 hD1 hS2 hFc hfc hz1 hk1 hvm ht
      obtain ⟨z_32, _u, hfc, hf⟩ := cal_some hf
      have hFc := de_free hD hS hA
      refine va_callv (va_runV (As := [.long r_30]) (rest := []) ⟨hx, hb, hml, hown, hts⟩ (de_X3_put l dC dI cy a sh n H_31.size F z_29 h0 r_30 hfc) (cwV 1 hts gX3_pack_X3_put rfl rfl rfl (by decide +kernel) ⟨Nat.le_of_ble_eq_true rfl, Nat.le_of_ble_eq_true rfl⟩) ⟨fun a U g mk q => by obtain ⟨q0, q1, qP, qK, qD, qN⟩ := q; exact ⟨q0, q1, qP, va_K.moved (u := U) (U := U.calling g mk a) (Vm.Alike.refl U.vm) qK, qD, qN.same rfl⟩, va_recv hK hP (ci := 3) (q0 := h0) rfl (Wd_ob kg_1 sg_1 (by decide)), fun U hU hW => ⟨rfl, by rw [hU], by rw [hU]; exact hP, va_K.moved hW.alike hK, hD.weaken (fun _ _ _ _ => trivial), hN.warm hW⟩⟩ rfl rfl hl.1 rfl (lv_room (Nat.le_of_ble_eq_true rfl)) dX3_pack_48 ⟨Nat.le_of_ble_eq_true rfl, Nat.le_of_ble_eq_true rfl⟩) hS (fun q _ h => hFc q h) hFc (fun u t H_33 locs ht hvm hw hB hz1 hk1 hS2 => ?_)
      obtain ⟨hP1, -, hD1⟩ := hB
      rw [ht] at hP1
      replace hD := hD1.weaken (fun _ _ _ h => hFc _ h)
      replace hP := hP1
      replace hS := hS2
      clear hP1 hD1 hS2 hFc hfc hz1 hk1 hvm ht
      obtain ⟨h8, h9⟩ := ret_some hf
      rw [h8]
      exact W.vret hx hb hr (fun t ht hW => ⟨⟨(), rfl, trivial, by rw [ht]; exact hP, va_K.moved hW.alike hK, hD⟩, hS.F ht⟩) hS.2.2 dX3_pack_51
    · skip
      rw [if_neg c_28] at hf
      refine lv_aload_n hx hb dX3_pack_23 rfl (lv_at hl 1 rfl) ?_
      refine lv_aload_n hx hb dX3_pack_24 rfl (lv_at hl 1 rfl) ?_
      obtain ⟨k_34, ek_34, hf⟩ := lnk_some hf
      refine va_get (D := (dC, dI)) (ci := 3) (v := .ref (a k_34)) (C := RX3) (T := TX3) (N := 22) hx hb hts iwd_X3_pack_X3 hown hK hP h0 (Wd_ob kg_1 sg_1 (by decide)) rfl 2 (by decide) (hts _ md_X3_pack_1) (fun _ h9 => h9) (fl_q rfl ek_34) dX3_pack_25 ?_
      refine lv_iload_n hx hb dX3_pack_28 rfl (lv_at hl 2 rfl) ?_
      refine lv_iload hx hb dX3_pack_29 (lv_at hl 0 rfl) ?_
      obtain ⟨g_37, hf⟩ := grd_some hf
      obtain ⟨kg_37, sg_37⟩ := okO_at g_37
      obtain ⟨z_35, r_36, hfc, hf⟩ := cal_some hf
      have hFc := de_free hD hS hA
      refine va_calll (va_runV (As := [.int x1, .int p_25]) (rest := [.ref (a h0)]) ⟨hx, hb, hml, hown, hts⟩ (de_X5_fieldType l dC dI cy a sh n H.size F z_26 k_34 x1 p_25 hfc) (cwV 2 hts gX3_pack_X5_fieldType rfl rfl rfl (by decide +kernel) ⟨Nat.le_of_ble_eq_true rfl, Nat.le_of_ble_eq_true rfl⟩) ⟨fun a U g mk q => by obtain ⟨q0, q1, qP, qK, qD, qN⟩ := q; exact ⟨q0, q1, qP, va_K.moved (u := U) (U := U.calling g mk a) (Vm.Alike.refl U.vm) qK, qD, qN.same rfl⟩, va_recv hK hP (ci := 5) (q0 := k_34) rfl (Wd_ob kg_37 sg_37 (by decide)), fun U hU hW => ⟨rfl, by rw [hU], by rw [hU]; exact hP, va_K.moved hW.alike hK, hD.weaken (fun _ _ _ _ => trivial), hN.warm hW⟩⟩ rfl rfl hl.1 rfl (lv_room (Nat.le_of_ble_eq_true rfl)) dX3_pack_31 ⟨Nat.le_of_ble_eq_true rfl, Nat.le_of_ble_eq_true rfl⟩) hS (fun q _ h => hFc q h) hFc (fun rr u t H_38 locs ht hvm hw hB hz1 hk1 hS2 => ?_)
      rw [hw]
      clear hw
      obtain ⟨hP1, -, hD1⟩ := hB
      rw [ht] at hP1
      replace hD := hD1.weaken (fun _ _ _ h => hFc _ h)
      replace hP := hP1
      replace hS := hS2
      clear hP1 hD1 hS2 hFc hfc hz1 hk1 hvm ht
      obtain ⟨z_39, _u, hfc, hf⟩ := cal_some hf
      have hFc := de_free hD hS hA
      refine va_callv (va_runV (As := [.long r_36]) (rest := []) ⟨hx, hb, hml, hown, hts⟩ (de_X3_takeOnly l dC dI cy a sh n H_38.size F z_35 h0 r_36 hfc) (cwV 1 hts gX3_pack_X3_takeOnly rfl rfl rfl (by decide +kernel) ⟨Nat.le_of_ble_eq_true rfl, Nat.le_of_ble_eq_true rfl⟩) ⟨fun a U g mk q => by obtain ⟨q0, q1, qP, qK, qD, qN⟩ := q; exact ⟨q0, q1, qP, va_K.moved (u := U) (U := U.calling g mk a) (Vm.Alike.refl U.vm) qK, qD, qN.same rfl⟩, va_recv hK hP (ci := 3) (q0 := h0) rfl (Wd_ob kg_1 sg_1 (by decide)), fun U hU hW => ⟨rfl, by rw [hU], by rw [hU]; exact hP, va_K.moved hW.alike hK, hD.weaken (fun _ _ _ _ => trivial), hN.warm hW⟩⟩ rfl rfl hl.1 rfl (lv_room (Nat.le_of_ble_eq_true rfl)) dX3_pack_34 ⟨Nat.le_of_ble_eq_true rfl, Nat.le_of_ble_eq_true rfl⟩) hS (fun q _ h => hFc q h) hFc (fun u t H_40 locs ht hvm hw hB hz1 hk1 hS2 => ?_)
      obtain ⟨hP1, -, hD1⟩ := hB
      rw [ht] at hP1
      replace hD := hD1.weaken (fun _ _ _ h => hFc _ h)
      replace hP := hP1
      replace hS := hS2
      clear hP1 hD1 hS2 hFc hfc hz1 hk1 hvm ht
      refine lv_iinc (v := (p_25 + (-1))) (lv' := [(4, .int (p_25 + (-1))), (0, .ref (a h0)), (2, .int x1)]) hx hb dX3_pack_37 hl (k := 0) rfl rfl (by decide) rfl (fun ls hl2 => ?_)
      replace hl := hl2
      clear hl2
      refine lv_goto (tgt := 18) hx hb dX3_pack_40 (by decide) ?_
      exact ih18 (z_39, (p_25 + (-1))) ls H_40 locs ⟨lv_sub hl [0, 1, 2] rfl, hP, hD, hS⟩ hf

theorem md_X3_leave_1 : (.fieldLink RX3 124 "ResourceLedger$Looker" "flowing" "Z" : Cond) ∈ wsX3_leave := List.mem_of_getElem? (i := 1) rfl
theorem iwd_X3_leave_X3 : ∀ w ∈ wsX30, w ∈ wsX3_leave := fun _ h => List.mem_cons_of_mem _ (List.mem_append_left _ (List.mem_append_right _ h))
theorem md_X3_leave_3 : (.fieldLink RX3 64 "ResourceLedger$Looker" "at" "I" : Cond) ∈ wsX3_leave := List.mem_of_getElem? (i := 3) rfl
theorem md_X3_leave_4 : (.fieldLink RX3 44 "ResourceLedger$Looker" "p" "LResourceLedger$Program;" : Cond) ∈ wsX3_leave := List.mem_of_getElem? (i := 4) rfl
theorem md_X3_leave_5 : (.fieldLink RX3 77 "ResourceLedger$Looker" "function" "I" : Cond) ∈ wsX3_leave := List.mem_of_getElem? (i := 5) rfl
theorem md_X3_leave_2 : (.fieldLink RX3 95 "ResourceLedger$Looker" "depth" "I" : Cond) ∈ wsX3_leave := List.mem_of_getElem? (i := 2) rfl
set_option maxHeartbeats 4000000 in
set_option maxRecDepth 100000 in
theorem de_X3_leave (l : Launch) (dC : Nat → ClassId) (dI : Nat → Nat → Nat) (cy : Nat → ClassId) (a : Nat → Nat) (sh : Nat → Nat × Nat) (n sz : Nat) (F : Nat) (z : St) (h0 : Nat) (x0 : Int32) (x1 : Int32) {z8 : St} {r8 : Unit} (hf : fn_X3_leave F sh n z h0 x0 x1 = some (z8, r8)) : Met l yX3_leave wsX3_leave ({ frames := 3, cells := 0, slots := 0, locals := 85 }) (va_Pc [.ref (a h0), .int x0, .int x1] (fun U => U.heap.size = sz ∧ va_P (dC, dI) vwCl (Wd cy a sh n z) U.heap ∧ va_K (dC, dI) vwCl (TYS cy) U ∧ va_D (fun _ => True) (Wd cy a sh n z) ∧ NK U)) (va_Qv (fun u : Unit => True) (fun u t => va_P (dC, dI) vwCl (Wd cy a sh n z8) t.heap ∧ va_K (dC, dI) vwCl (TYS cy) t ∧ va_D (va_A (Wd cy a sh n z) sz) (Wd cy a sh n z8)) (va_A (Wd cy a sh n z) sz)) 0 0 (va_A (Wd cy a sh n z) sz) := by
  refine Met.ofW (cc := cX3_leave) (maxL := 3) (ret := none) (by decide) rfl ?_
  intro p e s m args below meth c s₁ B hml hv
  obtain ⟨rfl, hsz, hP, hK, hD0, hN⟩ := hv
  have hx := B.exec
  have hb := B.bytes
  have hr := B.returns
  have hts := atoms_spec (ws := wsX3_leave) B.pre
  have hown : s.vm.findClass RX3 = some m.cls := findClass_of_methodNamed B.named
  have hlocks := B.notSynchronized
  subst hsz
  have hD := hD0.self (sz := s.heap.size)
  clear hD0
  generalize hAe : va_A (Wd cy a sh n z) s.heap.size = A at hD ⊢
  have hA : ∀ q : Nat, s.heap.size ≤ q → A q := fun q h => by rw [← hAe]; exact Or.inr h
  clear hAe
  have hS : va_S A s.heap s.heap [] := va_S.rf
  have hl := lv_entry ([.ref (a h0), .int x0, .int x1]) (n := 3) (Nat.le_of_ble_eq_true rfl)
  rw [lg_entry_eq]
  generalize (lg_sl ([.ref (a h0), .int x0, .int x1]) ++ List.replicate (3 - (lg_sl ([.ref (a h0), .int x0, .int x1])).length) Slot.unset).toArray = ls at hl ⊢
  replace hl : lv_has ls 3 [(0, .ref (a h0)), (1, .int x0), (2, .int x1)] := hl
  unfold fn_X3_leave at hf
  refine de_start hS hP (fun H locs hS hP => ?_)
  refine lv_iload_n hx hb dX3_leave_0 rfl (lv_at hl 1 rfl) ?_
  refine lv_iconst (v := 2) hx hb dX3_leave_1 (by decide) ?_
  refine de_cut (h := 15) (fun (x : St) => []) (fun x ls H locs => lv_has ls 3 [(0, .ref (a h0)), (1, .int x0)] ∧ va_P (dC, dI) vwCl (Wd cy a sh n x) H ∧ va_D A (Wd cy a sh n x) ∧ va_S A s.heap H locs) (fun x => fn_X3_leave_B15 F sh n x0 h0 x) (z8, r8) ?_ (fun B15 => ?_)
  · intro x ls H locs hI hf
    obtain ⟨z_1, ez⟩ : ∃ w, w = x := ⟨_, rfl⟩
    subst ez
    obtain ⟨hl2, hP2, hD2, hS2⟩ := hI
    replace hl : lv_has ls 3 [(0, .ref (a h0)), (1, .int x0)] := hl2
    replace hP := hP2
    replace hD := hD2
    replace hS := hS2
    clear hl2 hP2 hD2 hS2
    replace hf := fn_X3_leave_B15_s hf
    refine W.eq (g2 := F0 m 15 ls []) rfl ?_
    refine lv_aload_n hx hb dX3_leave_15 rfl (lv_at hl 0 rfl) ?_
    refine lv_iload_n hx hb dX3_leave_16 rfl (lv_at hl 1 rfl) ?_
    refine lv_iconst (v := 1) hx hb dX3_leave_17 (by decide) ?_
    refine de_cut (h := 37) (fun (x : St × Int32) => [.int x.2, .ref (a h0)]) (fun x ls H locs => lv_has ls 3 [(0, .ref (a h0))] ∧ va_P (dC, dI) vwCl (Wd cy a sh n x.1) H ∧ va_D A (Wd cy a sh n x.1) ∧ va_S A s.heap H locs) (fun x => fn_X3_leave_B37 F sh n h0 x.1 x.2) (z8, r8) ?_ (fun B37 => ?_)
    · intro x ls H locs hI hf
      obtain ⟨z_3, p_2⟩ := x
      obtain ⟨hl2, hP2, hD2, hS2⟩ := hI
      replace hl : lv_has ls 3 [(0, .ref (a h0))] := hl2
      replace hP := hP2
      replace hD := hD2
      replace hS := hS2
      clear hl2 hP2 hD2 hS2
      replace hf := fn_X3_leave_B37_s hf
      refine W.eq (g2 := F0 m 37 ls [.int p_2, .ref (a h0)]) rfl ?_
      obtain ⟨g_4, hf⟩ := grd_some hf
      obtain ⟨kg_4, sg_4⟩ := okO_at g_4
      obtain ⟨g_5, hf⟩ := grd_some hf
      refine va_put (D := (dC, dI)) (ci := 3) (v := .int p_2) (ty := .boolean) (C := RX3) (T := TX3) (N := 22) hx hb hts iwd_X3_leave_X3 tyX3 tyX3_ok nmX3 hown hK hP hD hS h0 (Wd_ob kg_4 sg_4 (by decide)) rfl 16 (by decide) (hts _ md_X3_leave_1) (fun _ h9 => h9) rfl (by decide +kernel) (nar_z g_5) (fit_z g_5) (by rw [fl_len]; decide) dX3_leave_37 (fun H_6 locs hP2 hD2 hS2 => ?_)
      rw [Wd_si sg_4 (by decide) rfl] at hP2 hD2
      obtain ⟨z_7, ez_7⟩ : ∃ w, w = si z_3 h0 16 p_2 := ⟨_, rfl⟩
      rw [← ez_7] at hP2 hD2
      replace hf := lt_at ez_7 hf
      clear ez_7
      replace hP := hP2
      replace hD := hD2
      replace hS := hS2
      clear hP2 hD2 hS2
      refine lv_aload_n hx hb dX3_leave_40 rfl (lv_at hl 0 rfl) ?_
      refine va_get (D := (dC, dI)) (ci := 3) (v := .int (z_7.1 h0 16)) (C := RX3) (T := TX3) (N := 22) hx hb hts iwd_X3_leave_X3 hown hK hP h0 (Wd_ob kg_4 sg_4 (by decide)) rfl 16 (by decide) (hts _ md_X3_leave_1) (fun _ h9 => h9) (fl_at (t := 0) rfl) dX3_leave_41 ?_
      refine lv_if_ne (tgt := 55) hx hb dX3_leave_44 (by decide) (fun c_8 => ?_) (fun c_8 => ?_)
      · skip
        rw [if_neg c_8] at hf
        refine lv_aload_n hx hb dX3_leave_55 rfl (lv_at hl 0 rfl) ?_
        refine va_get (D := (dC, dI)) (ci := 3) (v := .int (z_7.1 h0 4)) (C := RX3) (T := TX3) (N := 22) hx hb hts iwd_X3_leave_X3 hown hK hP h0 (Wd_ob kg_4 sg_4 (by decide)) rfl 4 (by decide) (hts _ md_X3_leave_3) (fun _ h9 => h9) (fl_at (t := 0) rfl) dX3_leave_56 ?_
        refine lv_iconst (v := 1) hx hb dX3_leave_59 (by decide) ?_
        refine lv_iadd hx hb dX3_leave_60 ?_
        refine lv_aload_n hx hb dX3_leave_61 rfl (lv_at hl 0 rfl) ?_
        obtain ⟨k_9, ek_9, hf⟩ := lnk_some hf
        refine va_get (D := (dC, dI)) (ci := 3) (v := .ref (a k_9)) (C := RX3) (T := TX3) (N := 22) hx hb hts iwd_X3_leave_X3 hown hK hP h0 (Wd_ob kg_4 sg_4 (by decide)) rfl 2 (by decide) (hts _ md_X3_leave_4) (fun _ h9 => h9) (fl_q rfl ek_9) dX3_leave_62 ?_
        refine lv_aload_n hx hb dX3_leave_65 rfl (lv_at hl 0 rfl) ?_
        refine va_get (D := (dC, dI)) (ci := 3) (v := .int (z_7.1 h0 3)) (C := RX3) (T := TX3) (N := 22) hx hb hts iwd_X3_leave_X3 hown hK hP h0 (Wd_ob kg_4 sg_4 (by decide)) rfl 3 (by decide) (hts _ md_X3_leave_5) (fun _ h9 => h9) (fl_at (t := 0) rfl) dX3_leave_66 ?_
        obtain ⟨g_12, hf⟩ := grd_some hf
        obtain ⟨kg_12, sg_12⟩ := okO_at g_12
        obtain ⟨z_10, r_11, hfc, hf⟩ := cal_some hf
        have hFc := de_free hD hS hA
        refine va_calli (va_runV (As := [.int (z_7.1 h0 3)]) (rest := [.int ((z_7.1 h0 4) + 1)]) ⟨hx, hb, hml, hown, hts⟩ (de_X5_instructions l dC dI cy a sh n H_6.size F z_7 k_9 (z_7.1 h0 3) hfc) (cwV 1 hts gX3_leave_X5_instructions rfl rfl rfl (by decide +kernel) ⟨Nat.le_of_ble_eq_true rfl, Nat.le_of_ble_eq_true rfl⟩) ⟨fun a U g mk q => by obtain ⟨q0, q1, qP, qK, qD, qN⟩ := q; exact ⟨q0, q1, qP, va_K.moved (u := U) (U := U.calling g mk a) (Vm.Alike.refl U.vm) qK, qD, qN.same rfl⟩, va_recv hK hP (ci := 5) (q0 := k_9) rfl (Wd_ob kg_12 sg_12 (by decide)), fun U hU hW => ⟨rfl, by rw [hU], by rw [hU]; exact hP, va_K.moved hW.alike hK, hD.weaken (fun _ _ _ _ => trivial), hN.warm hW⟩⟩ rfl rfl hl.1 rfl (lv_room (Nat.le_of_ble_eq_true rfl)) dX3_leave_69 ⟨Nat.le_of_ble_eq_true rfl, Nat.le_of_ble_eq_true rfl⟩) hS (fun q _ h => hFc q h) hFc (fun rr u t H_13 locs ht hvm hw hB hz1 hk1 hS2 => ?_)
        rw [hw]
        clear hw
        obtain ⟨hP1, -, hD1⟩ := hB
        rw [ht] at hP1
        replace hD := hD1.weaken (fun _ _ _ h => hFc _ h)
        replace hP := hP1
        replace hS := hS2
        clear hP1 hD1 hS2 hFc hfc hz1 hk1 hvm ht
        refine lv_icmp_lt (tgt := 84) hx hb dX3_leave_72 (by decide) (fun c_14 => ?_) (fun c_14 => ?_)
        · skip
          rw [if_pos c_14] at hf
          refine lv_aload_n hx hb dX3_leave_84 rfl (lv_at hl 0 rfl) ?_
          refine lv_aload_n hx hb dX3_leave_85 rfl (lv_at hl 0 rfl) ?_
          refine va_get (D := (dC, dI)) (ci := 3) (v := .int (z_10.1 h0 4)) (C := RX3) (T := TX3) (N := 22) hx hb hts iwd_X3_leave_X3 hown hK hP h0 (Wd_ob kg_4 sg_4 (by decide)) rfl 4 (by decide) (hts _ md_X3_leave_3) (fun _ h9 => h9) (fl_at (t := 0) rfl) dX3_leave_86 ?_
          refine lv_iconst (v := 1) hx hb dX3_leave_89 (by decide) ?_
          refine lv_iadd hx hb dX3_leave_90 ?_
          obtain ⟨z_15, _u, hfc, hf⟩ := cal_some hf
          have hFc := de_free hD hS hA
          refine va_callv (va_runV (As := [.int ((z_10.1 h0 4) + 1)]) (rest := []) ⟨hx, hb, hml, hown, hts⟩ (de_X3_come l dC dI cy a sh n H_13.size F z_10 h0 ((z_10.1 h0 4) + 1) hfc) (cwV 1 hts gX3_leave_X3_come rfl rfl rfl (by decide +kernel) ⟨Nat.le_of_ble_eq_true rfl, Nat.le_of_ble_eq_true rfl⟩) ⟨fun a U g mk q => by obtain ⟨q0, q1, qP, qK, qD, qN⟩ := q; exact ⟨q0, q1, qP, va_K.moved (u := U) (U := U.calling g mk a) (Vm.Alike.refl U.vm) qK, qD, qN.same rfl⟩, va_recv hK hP (ci := 3) (q0 := h0) rfl (Wd_ob kg_4 sg_4 (by decide)), fun U hU hW => ⟨rfl, by rw [hU], by rw [hU]; exact hP, va_K.moved hW.alike hK, hD.weaken (fun _ _ _ _ => trivial), hN.warm hW⟩⟩ rfl rfl hl.1 rfl (lv_room (Nat.le_of_ble_eq_true rfl)) dX3_leave_91 ⟨Nat.le_of_ble_eq_true rfl, Nat.le_of_ble_eq_true rfl⟩) hS (fun q _ h => hFc q h) hFc (fun u t H_16 locs ht hvm hw hB hz1 hk1 hS2 => ?_)
          obtain ⟨hP1, -, hD1⟩ := hB
          rw [ht] at hP1
          replace hD := hD1.weaken (fun _ _ _ h => hFc _ h)
          replace hP := hP1
          replace hS := hS2
          clear hP1 hD1 hS2 hFc hfc hz1 hk1 hvm ht
          obtain ⟨h8, h9⟩ := ret_some hf
          rw [h8]
          exact W.vret hx hb hr (fun t ht hW => ⟨⟨(), rfl, trivial, by rw [ht]; exact hP, va_K.moved hW.alike hK, hD⟩, hS.F ht⟩) hS.2.2 dX3_leave_94
        · skip
          rw [if_neg c_14] at hf
          refine lv_aload_n hx hb dX3_leave_75 rfl (lv_at hl 0 rfl) ?_
          refine lv_bipush (v := 11) hx hb dX3_leave_76 (by decide) ?_
          obtain ⟨z_17, _u, hfc, hf⟩ := cal_some hf
          have hFc := de_free hD hS hA
          refine va_callv (va_runV (As := [.int 11]) (rest := []) ⟨hx, hb, hml, hown, hts⟩ (de_X3_fail l dC dI cy a sh n H_13.size F z_10 h0 11 hfc) (cwV 1 hts gX3_leave_X3_fail rfl rfl rfl (by decide +kernel) ⟨Nat.le_of_ble_eq_true rfl, Nat.le_of_ble_eq_true rfl⟩) ⟨fun a U g mk q => by obtain ⟨q0, q1, qP, qK, qD, qN⟩ := q; exact ⟨q0, q1, qP, va_K.moved (u := U) (U := U.calling g mk a) (Vm.Alike.refl U.vm) qK, qD, qN.same rfl⟩, va_recv hK hP (ci := 3) (q0 := h0) rfl (Wd_ob kg_4 sg_4 (by decide)), fun U hU hW => ⟨rfl, by rw [hU], by rw [hU]; exact hP, va_K.moved hW.alike hK, hD.weaken (fun _ _ _ _ => trivial), hN.warm hW⟩⟩ rfl rfl hl.1 rfl (lv_room (Nat.le_of_ble_eq_true rfl)) dX3_leave_78 ⟨Nat.le_of_ble_eq_true rfl, Nat.le_of_ble_eq_true rfl⟩) hS (fun q _ h => hFc q h) hFc (fun u t H_18 locs ht hvm hw hB hz1 hk1 hS2 => ?_)
          obtain ⟨hP1, -, hD1⟩ := hB
          rw [ht] at hP1
          replace hD := hD1.weaken (fun _ _ _ h => hFc _ h)
          replace hP := hP1
          replace hS := hS2
          clear hP1 hD1 hS2 hFc hfc hz1 hk1 hvm ht
          refine lv_goto (tgt := 94) hx hb dX3_leave_81 (by decide) ?_
          obtain ⟨h8, h9⟩ := ret_some hf
          rw [h8]
          exact W.vret hx hb hr (fun t ht hW => ⟨⟨(), rfl, trivial, by rw [ht]; exact hP, va_K.moved hW.alike hK, hD⟩, hS.F ht⟩) hS.2.2 dX3_leave_94
      · skip
        rw [if_pos c_8] at hf
        refine lv_aload_n hx hb dX3_leave_47 rfl (lv_at hl 0 rfl) ?_
        refine lv_iconst (v := 0) hx hb dX3_leave_48 (by decide) ?_
        refine va_put (D := (dC, dI)) (ci := 3) (v := .int 0) (ty := .int) (C := RX3) (T := TX3) (N := 22) hx hb hts iwd_X3_leave_X3 tyX3 tyX3_ok nmX3 hown hK hP hD hS h0 (Wd_ob kg_4 sg_4 (by decide)) rfl 8 (by decide) (hts _ md_X3_leave_2) (fun _ h9 => h9) rfl (by decide +kernel) rfl rfl (by rw [fl_len]; decide) dX3_leave_49 (fun H_19 locs hP2 hD2 hS2 => ?_)
        rw [Wd_si sg_4 (by decide) rfl] at hP2 hD2
        obtain ⟨z_20, ez_20⟩ : ∃ w, w = si z_7 h0 8 0 := ⟨_, rfl⟩
        rw [← ez_20] at hP2 hD2
        replace hf := lt_at ez_20 hf
        clear ez_20
        replace hP := hP2
        replace hD := hD2
        replace hS := hS2
        clear hP2 hD2 hS2
        refine lv_goto (tgt := 94) hx hb dX3_leave_52 (by decide) ?_
        obtain ⟨h8, h9⟩ := ret_some hf
        rw [h8]
        exact W.vret hx hb hr (fun t ht hW => ⟨⟨(), rfl, trivial, by rw [ht]; exact hP, va_K.moved hW.alike hK, hD⟩, hS.F ht⟩) hS.2.2 dX3_leave_94
    refine de_cut (h := 36) (fun (x : St) => [.ref (a h0)]) (fun x ls H locs => lv_has ls 3 [(0, .ref (a h0))] ∧ va_P (dC, dI) vwCl (Wd cy a sh n x) H ∧ va_D A (Wd cy a sh n x) ∧ va_S A s.heap H locs) (fun x => fn_X3_leave_B36 F sh n h0 x) (z8, r8) ?_ (fun B36 => ?_)
    · intro x ls H locs hI hf
      obtain ⟨z_21, ez⟩ : ∃ w, w = x := ⟨_, rfl⟩
      subst ez
      obtain ⟨hl2, hP2, hD2, hS2⟩ := hI
      replace hl : lv_has ls 3 [(0, .ref (a h0))] := hl2
      replace hP := hP2
      replace hD := hD2
      replace hS := hS2
      clear hl2 hP2 hD2 hS2
      replace hf := fn_X3_leave_B36_s hf
      refine W.eq (g2 := F0 m 36 ls [.ref (a h0)]) rfl ?_
      refine lv_iconst (v := 0) hx hb dX3_leave_36 (by decide) ?_
      exact B37 (z_21, 0) ls H locs ⟨lv_sub hl [0] rfl, hP, hD, hS⟩ hf
    refine lv_icmp_eq (tgt := 36) hx hb dX3_leave_18 (by decide) (fun c_22 => ?_) (fun c_22 => ?_)
    · skip
      rw [if_pos c_22] at hf
      exact B36 (z_1) ls H locs ⟨lv_sub hl [0] rfl, hP, hD, hS⟩ hf
    · skip
      rw [if_neg c_22] at hf
      refine lv_iload_n hx hb dX3_leave_21 rfl (lv_at hl 1 rfl) ?_
      refine lv_iconst (v := 2) hx hb dX3_leave_22 (by decide) ?_
      refine lv_icmp_eq (tgt := 36) hx hb dX3_leave_23 (by decide) (fun c_23 => ?_) (fun c_23 => ?_)
      · skip
        rw [if_pos c_23] at hf
        exact B36 (z_1) ls H locs ⟨lv_sub hl [0] rfl, hP, hD, hS⟩ hf
      · skip
        rw [if_neg c_23] at hf
        refine lv_iload_n hx hb dX3_leave_26 rfl (lv_at hl 1 rfl) ?_
        refine lv_bipush (v := 45) hx hb dX3_leave_27 (by decide) ?_
        refine lv_icmp_eq (tgt := 36) hx hb dX3_leave_29 (by decide) (fun c_24 => ?_) (fun c_24 => ?_)
        · skip
          rw [if_pos c_24] at hf
          exact B36 (z_1) ls H locs ⟨lv_sub hl [0] rfl, hP, hD, hS⟩ hf
        · skip
          rw [if_neg c_24] at hf
          refine lv_iconst (v := 1) hx hb dX3_leave_32 (by decide) ?_
          refine lv_goto (tgt := 37) hx hb dX3_leave_33 (by decide) ?_
          exact B37 (z_1, 1) ls H locs ⟨lv_sub hl [0] rfl, hP, hD, hS⟩ hf
  refine lv_icmp_lt (tgt := 15) hx hb dX3_leave_2 (by decide) (fun c_25 => ?_) (fun c_25 => ?_)
  · skip
    rw [if_pos c_25] at hf
    exact B15 (z) ls H locs ⟨lv_sub hl [0, 1] rfl, hP, hD, hS⟩ hf
  · skip
    rw [if_neg c_25] at hf
    refine lv_iload_n hx hb dX3_leave_5 rfl (lv_at hl 1 rfl) ?_
    refine lv_iconst (v := 4) hx hb dX3_leave_6 (by decide) ?_
    refine lv_icmp_gt (tgt := 15) hx hb dX3_leave_7 (by decide) (fun c_26 => ?_) (fun c_26 => ?_)
    · skip
      rw [if_pos c_26] at hf
      exact B15 (z) ls H locs ⟨lv_sub hl [0, 1] rfl, hP, hD, hS⟩ hf
    · skip
      rw [if_neg c_26] at hf
      refine lv_aload_n hx hb dX3_leave_10 rfl (lv_at hl 0 rfl) ?_
      refine lv_iload_n hx hb dX3_leave_11 rfl (lv_at hl 2 rfl) ?_
      obtain ⟨g_28, hf⟩ := grd_some hf
      obtain ⟨kg_28, sg_28⟩ := okO_at g_28
      obtain ⟨z_27, _u, hfc, hf⟩ := cal_some hf
      have hFc := de_free hD hS hA
      refine va_callv (va_runV (As := [.int x1]) (rest := []) ⟨hx, hb, hml, hown, hts⟩ (de_X3_come l dC dI cy a sh n H.size F z h0 x1 hfc) (cwV 1 hts gX3_leave_X3_come rfl rfl rfl (by decide +kernel) ⟨Nat.le_of_ble_eq_true rfl, Nat.le_of_ble_eq_true rfl⟩) ⟨fun a U g mk q => by obtain ⟨q0, q1, qP, qK, qD, qN⟩ := q; exact ⟨q0, q1, qP, va_K.moved (u := U) (U := U.calling g mk a) (Vm.Alike.refl U.vm) qK, qD, qN.same rfl⟩, va_recv hK hP (ci := 3) (q0 := h0) rfl (Wd_ob kg_28 sg_28 (by decide)), fun U hU hW => ⟨rfl, by rw [hU], by rw [hU]; exact hP, va_K.moved hW.alike hK, hD.weaken (fun _ _ _ _ => trivial), hN.warm hW⟩⟩ rfl rfl hl.1 rfl (lv_room (Nat.le_of_ble_eq_true rfl)) dX3_leave_12 ⟨Nat.le_of_ble_eq_true rfl, Nat.le_of_ble_eq_true rfl⟩) hS (fun q _ h => hFc q h) hFc (fun u t H_29 locs ht hvm hw hB hz1 hk1 hS2 => ?_)
      obtain ⟨hP1, -, hD1⟩ := hB
      rw [ht] at hP1
      replace hD := hD1.weaken (fun _ _ _ h => hFc _ h)
      replace hP := hP1
      replace hS := hS2
      clear hP1 hD1 hS2 hFc hfc hz1 hk1 hvm ht
      exact B15 (z_27) ls H_29 locs ⟨lv_sub hl [0, 1] rfl, hP, hD, hS⟩ hf

theorem md_X18_constant_1 : (.fieldLink RX18 411 "ResourceLedgerModel" "sender" "J" : Cond) ∈ wsX18_constant := List.mem_of_getElem? (i := 1) rfl
theorem iwd_X18_constant_X18 : ∀ w ∈ wsX180, w ∈ wsX18_constant := fun _ h => List.mem_cons_of_mem _ (List.mem_append_left _ (List.mem_append_right _ h))
set_option maxHeartbeats 4000000 in
set_option maxRecDepth 100000 in
theorem de_X18_constant (l : Launch) (dC : Nat → ClassId) (dI : Nat → Nat → Nat) (cy : Nat → ClassId) (a : Nat → Nat) (sh : Nat → Nat × Nat) (n sz : Nat) (F : Nat) (z : St) (h0 : Nat) (x0 : Int32) (x1 : Int64) (x2 : Int64) {z8 : St} {r8 : Unit} (hf : fn_X18_constant F sh n z h0 x0 x1 x2 = some (z8, r8)) : Met l yX18_constant wsX18_constant ({ frames := 3, cells := 0, slots := 0, locals := 67 }) (va_Pc [.ref (a h0), .int x0, .long x1, .long x2] (fun U => U.heap.size = sz ∧ va_P (dC, dI) vwCl (Wd cy a sh n z) U.heap ∧ va_K (dC, dI) vwCl (TYS cy) U ∧ va_D (fun _ => True) (Wd cy a sh n z) ∧ NK U)) (va_Qv (fun u : Unit => True) (fun u t => va_P (dC, dI) vwCl (Wd cy a sh n z8) t.heap ∧ va_K (dC, dI) vwCl (TYS cy) t ∧ va_D (va_A (Wd cy a sh n z) sz) (Wd cy a sh n z8)) (va_A (Wd cy a sh n z) sz)) 0 0 (va_A (Wd cy a sh n z) sz) := by
  refine Met.ofW (cc := cX18_constant) (maxL := 6) (ret := none) (by decide) rfl ?_
  intro p e s m args below meth c s₁ B hml hv
  obtain ⟨rfl, hsz, hP, hK, hD0, hN⟩ := hv
  have hx := B.exec
  have hb := B.bytes
  have hr := B.returns
  have hts := atoms_spec (ws := wsX18_constant) B.pre
  have hown : s.vm.findClass RX18 = some m.cls := findClass_of_methodNamed B.named
  have hlocks := B.notSynchronized
  subst hsz
  have hD := hD0.self (sz := s.heap.size)
  clear hD0
  generalize hAe : va_A (Wd cy a sh n z) s.heap.size = A at hD ⊢
  have hA : ∀ q : Nat, s.heap.size ≤ q → A q := fun q h => by rw [← hAe]; exact Or.inr h
  clear hAe
  have hS : va_S A s.heap s.heap [] := va_S.rf
  have hl := lv_entry ([.ref (a h0), .int x0, .long x1, .long x2]) (n := 6) (Nat.le_of_ble_eq_true rfl)
  rw [lg_entry_eq]
  generalize (lg_sl ([.ref (a h0), .int x0, .long x1, .long x2]) ++ List.replicate (6 - (lg_sl ([.ref (a h0), .int x0, .long x1, .long x2])).length) Slot.unset).toArray = ls at hl ⊢
  replace hl : lv_has ls 6 [(0, .ref (a h0)), (1, .int x0), (2, .long x1), (4, .long x2)] := hl
  unfold fn_X18_constant at hf
  refine de_start hS hP (fun H locs hS hP => ?_)
  refine lv_iload_n hx hb dX18_constant_0 rfl (lv_at hl 1 rfl) ?_
  refine lv_iconst (v := 5) hx hb dX18_constant_1 (by decide) ?_
  refine lv_icmp_ne (tgt := 15) hx hb dX18_constant_2 (by decide) (fun c_1 => ?_) (fun c_1 => ?_)
  · skip
    rw [if_neg c_1] at hf
    refine lv_iload_n hx hb dX18_constant_15 rfl (lv_at hl 1 rfl) ?_
    refine lv_bipush (v := 6) hx hb dX18_constant_16 (by decide) ?_
    refine lv_icmp_ne (tgt := 31) hx hb dX18_constant_18 (by decide) (fun c_2 => ?_) (fun c_2 => ?_)
    · skip
      rw [if_neg c_2] at hf
      refine lv_iload_n hx hb dX18_constant_31 rfl (lv_at hl 1 rfl) ?_
      refine lv_bipush (v := 7) hx hb dX18_constant_32 (by decide) ?_
      refine lv_icmp_ne (tgt := 48) hx hb dX18_constant_34 (by decide) (fun c_3 => ?_) (fun c_3 => ?_)
      · skip
        rw [if_neg c_3] at hf
        refine lv_iload_n hx hb dX18_constant_48 rfl (lv_at hl 1 rfl) ?_
        refine lv_bipush (v := 10) hx hb dX18_constant_49 (by decide) ?_
        refine lv_icmp_ge (tgt := 74) hx hb dX18_constant_51 (by decide) (fun c_4 => ?_) (fun c_4 => ?_)
        · skip
          rw [if_pos c_4] at hf
          refine lv_aload_n hx hb dX18_constant_74 rfl (lv_at hl 0 rfl) ?_
          refine lv_iconst (v := 5) hx hb dX18_constant_75 (by decide) ?_
          refine lv_lconst (v := 0) hx hb dX18_constant_76 (by decide) ?_
          refine lv_iload_n hx hb dX18_constant_77 rfl (lv_at hl 1 rfl) ?_
          refine lv_bipush (v := 10) hx hb dX18_constant_78 (by decide) ?_
          refine lv_icmp_ne (tgt := 87) hx hb dX18_constant_80 (by decide) (fun c_5 => ?_) (fun c_5 => ?_)
          · skip
            rw [if_neg c_5] at hf
            refine lv_aload_n hx hb dX18_constant_87 rfl (lv_at hl 0 rfl) ?_
            obtain ⟨g_6, hf⟩ := grd_some hf
            obtain ⟨kg_6, sg_6⟩ := okO_at g_6
            refine va_get (D := (dC, dI)) (ci := 18) (v := .long (z.2.1 h0 24)) (C := RX18) (T := TX18) (N := 78) hx hb hts iwd_X18_constant_X18 hown hK hP h0 (Wd_ob kg_6 sg_6 (by decide)) rfl 24 (by decide) (hts _ md_X18_constant_1) (fun _ h9 => h9) (fl_at (t := 1) rfl) dX18_constant_88 ?_
            obtain ⟨z_7, _u, hfc, hf⟩ := cal_some hf
            have hFc := de_free hD hS hA
            refine va_callv (va_runV (As := [.int 5, .long 0, .long (z.2.1 h0 24)]) (rest := []) ⟨hx, hb, hml, hown, hts⟩ (de_X18_make l dC dI cy a sh n H.size F z h0 5 0 (z.2.1 h0 24) hfc) (cwV 3 hts gX18_constant_X18_make rfl rfl rfl (by decide +kernel) ⟨Nat.le_of_ble_eq_true rfl, Nat.le_of_ble_eq_true rfl⟩) ⟨fun a U g mk q => by obtain ⟨q0, q1, qP, qK, qD, qN⟩ := q; exact ⟨q0, q1, qP, va_K.moved (u := U) (U := U.calling g mk a) (Vm.Alike.refl U.vm) qK, qD, qN.same rfl⟩, va_recv hK hP (ci := 18) (q0 := h0) rfl (Wd_ob kg_6 sg_6 (by decide)), fun U hU hW => ⟨rfl, by rw [hU], by rw [hU]; exact hP, va_K.moved hW.alike hK, hD.weaken (fun _ _ _ _ => trivial), hN.warm hW⟩⟩ rfl rfl hl.1 rfl (lv_room (Nat.le_of_ble_eq_true rfl)) dX18_constant_91 ⟨Nat.le_of_ble_eq_true rfl, Nat.le_of_ble_eq_true rfl⟩) hS (fun q _ h => hFc q h) hFc (fun u t H_8 locs ht hvm hw hB hz1 hk1 hS2 => ?_)
            obtain ⟨hP1, -, hD1⟩ := hB
            rw [ht] at hP1
            replace hD := hD1.weaken (fun _ _ _ h => hFc _ h)
            replace hP := hP1
            replace hS := hS2
            clear hP1 hD1 hS2 hFc hfc hz1 hk1 hvm ht
            obtain ⟨h8, h9⟩ := ret_some hf
            rw [h8]
            exact W.vret hx hb hr (fun t ht hW => ⟨⟨(), rfl, trivial, by rw [ht]; exact hP, va_K.moved hW.alike hK, hD⟩, hS.F ht⟩) hS.2.2 dX18_constant_94
          · skip
            rw [if_pos c_5] at hf
            refine lv_lload_n hx hb dX18_constant_83 rfl (lv_at hl 2 rfl) ?_
            refine lv_goto (tgt := 91) hx hb dX18_constant_84 (by decide) ?_
            obtain ⟨g_10, hf⟩ := grd_some hf
            obtain ⟨kg_10, sg_10⟩ := okO_at g_10
            obtain ⟨z_9, _u, hfc, hf⟩ := cal_some hf
            have hFc := de_free hD hS hA
            refine va_callv (va_runV (As := [.int 5, .long 0, .long x1]) (rest := []) ⟨hx, hb, hml, hown, hts⟩ (de_X18_make l dC dI cy a sh n H.size F z h0 5 0 x1 hfc) (cwV 3 hts gX18_constant_X18_make rfl rfl rfl (by decide +kernel) ⟨Nat.le_of_ble_eq_true rfl, Nat.le_of_ble_eq_true rfl⟩) ⟨fun a U g mk q => by obtain ⟨q0, q1, qP, qK, qD, qN⟩ := q; exact ⟨q0, q1, qP, va_K.moved (u := U) (U := U.calling g mk a) (Vm.Alike.refl U.vm) qK, qD, qN.same rfl⟩, va_recv hK hP (ci := 18) (q0 := h0) rfl (Wd_ob kg_10 sg_10 (by decide)), fun U hU hW => ⟨rfl, by rw [hU], by rw [hU]; exact hP, va_K.moved hW.alike hK, hD.weaken (fun _ _ _ _ => trivial), hN.warm hW⟩⟩ rfl rfl hl.1 rfl (lv_room (Nat.le_of_ble_eq_true rfl)) dX18_constant_91 ⟨Nat.le_of_ble_eq_true rfl, Nat.le_of_ble_eq_true rfl⟩) hS (fun q _ h => hFc q h) hFc (fun u t H_11 locs ht hvm hw hB hz1 hk1 hS2 => ?_)
            obtain ⟨hP1, -, hD1⟩ := hB
            rw [ht] at hP1
            replace hD := hD1.weaken (fun _ _ _ h => hFc _ h)
            replace hP := hP1
            replace hS := hS2
            clear hP1 hD1 hS2 hFc hfc hz1 hk1 hvm ht
            obtain ⟨h8, h9⟩ := ret_some hf
            rw [h8]
            exact W.vret hx hb hr (fun t ht hW => ⟨⟨(), rfl, trivial, by rw [ht]; exact hP, va_K.moved hW.alike hK, hD⟩, hS.F ht⟩) hS.2.2 dX18_constant_94
        · skip
          rw [if_neg c_4] at hf
          refine lv_aload_n hx hb dX18_constant_54 rfl (lv_at hl 0 rfl) ?_
          refine lv_iconst (v := 1) hx hb dX18_constant_55 (by decide) ?_
          refine lv_lconst (v := 0) hx hb dX18_constant_56 (by decide) ?_
          refine lv_iload_n hx hb dX18_constant_57 rfl (lv_at hl 1 rfl) ?_
          refine lv_bipush (v := 8) hx hb dX18_constant_58 (by decide) ?_
          refine lv_icmp_ne (tgt := 67) hx hb dX18_constant_60 (by decide) (fun c_12 => ?_) (fun c_12 => ?_)
          · skip
            rw [if_neg c_12] at hf
            refine lv_lconst (v := 0) hx hb dX18_constant_67 (by decide) ?_
            obtain ⟨g_14, hf⟩ := grd_some hf
            obtain ⟨kg_14, sg_14⟩ := okO_at g_14
            obtain ⟨z_13, _u, hfc, hf⟩ := cal_some hf
            have hFc := de_free hD hS hA
            refine va_callv (va_runV (As := [.int 1, .long 0, .long 0]) (rest := []) ⟨hx, hb, hml, hown, hts⟩ (de_X18_make l dC dI cy a sh n H.size F z h0 1 0 0 hfc) (cwV 3 hts gX18_constant_X18_make rfl rfl rfl (by decide +kernel) ⟨Nat.le_of_ble_eq_true rfl, Nat.le_of_ble_eq_true rfl⟩) ⟨fun a U g mk q => by obtain ⟨q0, q1, qP, qK, qD, qN⟩ := q; exact ⟨q0, q1, qP, va_K.moved (u := U) (U := U.calling g mk a) (Vm.Alike.refl U.vm) qK, qD, qN.same rfl⟩, va_recv hK hP (ci := 18) (q0 := h0) rfl (Wd_ob kg_14 sg_14 (by decide)), fun U hU hW => ⟨rfl, by rw [hU], by rw [hU]; exact hP, va_K.moved hW.alike hK, hD.weaken (fun _ _ _ _ => trivial), hN.warm hW⟩⟩ rfl rfl hl.1 rfl (lv_room (Nat.le_of_ble_eq_true rfl)) dX18_constant_68 ⟨Nat.le_of_ble_eq_true rfl, Nat.le_of_ble_eq_true rfl⟩) hS (fun q _ h => hFc q h) hFc (fun u t H_15 locs ht hvm hw hB hz1 hk1 hS2 => ?_)
            obtain ⟨hP1, -, hD1⟩ := hB
            rw [ht] at hP1
            replace hD := hD1.weaken (fun _ _ _ h => hFc _ h)
            replace hP := hP1
            replace hS := hS2
            clear hP1 hD1 hS2 hFc hfc hz1 hk1 hvm ht
            refine lv_goto (tgt := 94) hx hb dX18_constant_71 (by decide) ?_
            obtain ⟨h8, h9⟩ := ret_some hf
            rw [h8]
            exact W.vret hx hb hr (fun t ht hW => ⟨⟨(), rfl, trivial, by rw [ht]; exact hP, va_K.moved hW.alike hK, hD⟩, hS.F ht⟩) hS.2.2 dX18_constant_94
          · skip
            rw [if_pos c_12] at hf
            refine lv_lconst (v := 1) hx hb dX18_constant_63 (by decide) ?_
            refine lv_goto (tgt := 68) hx hb dX18_constant_64 (by decide) ?_
            obtain ⟨g_17, hf⟩ := grd_some hf
            obtain ⟨kg_17, sg_17⟩ := okO_at g_17
            obtain ⟨z_16, _u, hfc, hf⟩ := cal_some hf
            have hFc := de_free hD hS hA
            refine va_callv (va_runV (As := [.int 1, .long 0, .long 1]) (rest := []) ⟨hx, hb, hml, hown, hts⟩ (de_X18_make l dC dI cy a sh n H.size F z h0 1 0 1 hfc) (cwV 3 hts gX18_constant_X18_make rfl rfl rfl (by decide +kernel) ⟨Nat.le_of_ble_eq_true rfl, Nat.le_of_ble_eq_true rfl⟩) ⟨fun a U g mk q => by obtain ⟨q0, q1, qP, qK, qD, qN⟩ := q; exact ⟨q0, q1, qP, va_K.moved (u := U) (U := U.calling g mk a) (Vm.Alike.refl U.vm) qK, qD, qN.same rfl⟩, va_recv hK hP (ci := 18) (q0 := h0) rfl (Wd_ob kg_17 sg_17 (by decide)), fun U hU hW => ⟨rfl, by rw [hU], by rw [hU]; exact hP, va_K.moved hW.alike hK, hD.weaken (fun _ _ _ _ => trivial), hN.warm hW⟩⟩ rfl rfl hl.1 rfl (lv_room (Nat.le_of_ble_eq_true rfl)) dX18_constant_68 ⟨Nat.le_of_ble_eq_true rfl, Nat.le_of_ble_eq_true rfl⟩) hS (fun q _ h => hFc q h) hFc (fun u t H_18 locs ht hvm hw hB hz1 hk1 hS2 => ?_)
            obtain ⟨hP1, -, hD1⟩ := hB
            rw [ht] at hP1
            replace hD := hD1.weaken (fun _ _ _ h => hFc _ h)
            replace hP := hP1
            replace hS := hS2
            clear hP1 hD1 hS2 hFc hfc hz1 hk1 hvm ht
            refine lv_goto (tgt := 94) hx hb dX18_constant_71 (by decide) ?_
            obtain ⟨h8, h9⟩ := ret_some hf
            rw [h8]
            exact W.vret hx hb hr (fun t ht hW => ⟨⟨(), rfl, trivial, by rw [ht]; exact hP, va_K.moved hW.alike hK, hD⟩, hS.F ht⟩) hS.2.2 dX18_constant_94
      · skip
        rw [if_pos c_3] at hf
        refine lv_aload_n hx hb dX18_constant_37 rfl (lv_at hl 0 rfl) ?_
        refine lv_iconst (v := 4) hx hb dX18_constant_38 (by decide) ?_
        refine lv_lload_n hx hb dX18_constant_39 rfl (lv_at hl 2 rfl) ?_
        refine lv_lload hx hb dX18_constant_40 (lv_at hl 3 rfl) ?_
        obtain ⟨g_20, hf⟩ := grd_some hf
        obtain ⟨kg_20, sg_20⟩ := okO_at g_20
        obtain ⟨z_19, _u, hfc, hf⟩ := cal_some hf
        have hFc := de_free hD hS hA
        refine va_callv (va_runV (As := [.int 4, .long x1, .long x2]) (rest := []) ⟨hx, hb, hml, hown, hts⟩ (de_X18_make l dC dI cy a sh n H.size F z h0 4 x1 x2 hfc) (cwV 3 hts gX18_constant_X18_make rfl rfl rfl (by decide +kernel) ⟨Nat.le_of_ble_eq_true rfl, Nat.le_of_ble_eq_true rfl⟩) ⟨fun a U g mk q => by obtain ⟨q0, q1, qP, qK, qD, qN⟩ := q; exact ⟨q0, q1, qP, va_K.moved (u := U) (U := U.calling g mk a) (Vm.Alike.refl U.vm) qK, qD, qN.same rfl⟩, va_recv hK hP (ci := 18) (q0 := h0) rfl (Wd_ob kg_20 sg_20 (by decide)), fun U hU hW => ⟨rfl, by rw [hU], by rw [hU]; exact hP, va_K.moved hW.alike hK, hD.weaken (fun _ _ _ _ => trivial), hN.warm hW⟩⟩ rfl rfl hl.1 rfl (lv_room (Nat.le_of_ble_eq_true rfl)) dX18_constant_42 ⟨Nat.le_of_ble_eq_true rfl, Nat.le_of_ble_eq_true rfl⟩) hS (fun q _ h => hFc q h) hFc (fun u t H_21 locs ht hvm hw hB hz1 hk1 hS2 => ?_)
        obtain ⟨hP1, -, hD1⟩ := hB
        rw [ht] at hP1
        replace hD := hD1.weaken (fun _ _ _ h => hFc _ h)
        replace hP := hP1
        replace hS := hS2
        clear hP1 hD1 hS2 hFc hfc hz1 hk1 hvm ht
        refine lv_goto (tgt := 94) hx hb dX18_constant_45 (by decide) ?_
        obtain ⟨h8, h9⟩ := ret_some hf
        rw [h8]
        exact W.vret hx hb hr (fun t ht hW => ⟨⟨(), rfl, trivial, by rw [ht]; exact hP, va_K.moved hW.alike hK, hD⟩, hS.F ht⟩) hS.2.2 dX18_constant_94
    · skip
      rw [if_pos c_2] at hf
      refine lv_aload_n hx hb dX18_constant_21 rfl (lv_at hl 0 rfl) ?_
      refine lv_iconst (v := 3) hx hb dX18_constant_22 (by decide) ?_
      refine lv_lconst (v := 0) hx hb dX18_constant_23 (by decide) ?_
      refine lv_lload_n hx hb dX18_constant_24 rfl (lv_at hl 2 rfl) ?_
      obtain ⟨g_23, hf⟩ := grd_some hf
      obtain ⟨kg_23, sg_23⟩ := okO_at g_23
      obtain ⟨z_22, _u, hfc, hf⟩ := cal_some hf
      have hFc := de_free hD hS hA
      refine va_callv (va_runV (As := [.int 3, .long 0, .long x1]) (rest := []) ⟨hx, hb, hml, hown, hts⟩ (de_X18_make l dC dI cy a sh n H.size F z h0 3 0 x1 hfc) (cwV 3 hts gX18_constant_X18_make rfl rfl rfl (by decide +kernel) ⟨Nat.le_of_ble_eq_true rfl, Nat.le_of_ble_eq_true rfl⟩) ⟨fun a U g mk q => by obtain ⟨q0, q1, qP, qK, qD, qN⟩ := q; exact ⟨q0, q1, qP, va_K.moved (u := U) (U := U.calling g mk a) (Vm.Alike.refl U.vm) qK, qD, qN.same rfl⟩, va_recv hK hP (ci := 18) (q0 := h0) rfl (Wd_ob kg_23 sg_23 (by decide)), fun U hU hW => ⟨rfl, by rw [hU], by rw [hU]; exact hP, va_K.moved hW.alike hK, hD.weaken (fun _ _ _ _ => trivial), hN.warm hW⟩⟩ rfl rfl hl.1 rfl (lv_room (Nat.le_of_ble_eq_true rfl)) dX18_constant_25 ⟨Nat.le_of_ble_eq_true rfl, Nat.le_of_ble_eq_true rfl⟩) hS (fun q _ h => hFc q h) hFc (fun u t H_24 locs ht hvm hw hB hz1 hk1 hS2 => ?_)
      obtain ⟨hP1, -, hD1⟩ := hB
      rw [ht] at hP1
      replace hD := hD1.weaken (fun _ _ _ h => hFc _ h)
      replace hP := hP1
      replace hS := hS2
      clear hP1 hD1 hS2 hFc hfc hz1 hk1 hvm ht
      refine lv_goto (tgt := 94) hx hb dX18_constant_28 (by decide) ?_
      obtain ⟨h8, h9⟩ := ret_some hf
      rw [h8]
      exact W.vret hx hb hr (fun t ht hW => ⟨⟨(), rfl, trivial, by rw [ht]; exact hP, va_K.moved hW.alike hK, hD⟩, hS.F ht⟩) hS.2.2 dX18_constant_94
  · skip
    rw [if_pos c_1] at hf
    refine lv_aload_n hx hb dX18_constant_5 rfl (lv_at hl 0 rfl) ?_
    refine lv_iconst (v := 2) hx hb dX18_constant_6 (by decide) ?_
    refine lv_lconst (v := 0) hx hb dX18_constant_7 (by decide) ?_
    refine lv_lload_n hx hb dX18_constant_8 rfl (lv_at hl 2 rfl) ?_
    obtain ⟨g_26, hf⟩ := grd_some hf
    obtain ⟨kg_26, sg_26⟩ := okO_at g_26
    obtain ⟨z_25, _u, hfc, hf⟩ := cal_some hf
    have hFc := de_free hD hS hA
    refine va_callv (va_runV (As := [.int 2, .long 0, .long x1]) (rest := []) ⟨hx, hb, hml, hown, hts⟩ (de_X18_make l dC dI cy a sh n H.size F z h0 2 0 x1 hfc) (cwV 3 hts gX18_constant_X18_make rfl rfl rfl (by decide +kernel) ⟨Nat.le_of_ble_eq_true rfl, Nat.le_of_ble_eq_true rfl⟩) ⟨fun a U g mk q => by obtain ⟨q0, q1, qP, qK, qD, qN⟩ := q; exact ⟨q0, q1, qP, va_K.moved (u := U) (U := U.calling g mk a) (Vm.Alike.refl U.vm) qK, qD, qN.same rfl⟩, va_recv hK hP (ci := 18) (q0 := h0) rfl (Wd_ob kg_26 sg_26 (by decide)), fun U hU hW => ⟨rfl, by rw [hU], by rw [hU]; exact hP, va_K.moved hW.alike hK, hD.weaken (fun _ _ _ _ => trivial), hN.warm hW⟩⟩ rfl rfl hl.1 rfl (lv_room (Nat.le_of_ble_eq_true rfl)) dX18_constant_9 ⟨Nat.le_of_ble_eq_true rfl, Nat.le_of_ble_eq_true rfl⟩) hS (fun q _ h => hFc q h) hFc (fun u t H_27 locs ht hvm hw hB hz1 hk1 hS2 => ?_)
    obtain ⟨hP1, -, hD1⟩ := hB
    rw [ht] at hP1
    replace hD := hD1.weaken (fun _ _ _ h => hFc _ h)
    replace hP := hP1
    replace hS := hS2
    clear hP1 hD1 hS2 hFc hfc hz1 hk1 hvm ht
    refine lv_goto (tgt := 94) hx hb dX18_constant_12 (by decide) ?_
    obtain ⟨h8, h9⟩ := ret_some hf
    rw [h8]
    exact W.vret hx hb hr (fun t ht hW => ⟨⟨(), rfl, trivial, by rw [ht]; exact hP, va_K.moved hW.alike hK, hD⟩, hS.F ht⟩) hS.2.2 dX18_constant_94

