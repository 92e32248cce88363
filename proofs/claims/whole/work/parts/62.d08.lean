theorem md_X18_digest_1 : (.fieldLink RX18 40 "ResourceLedgerModel" "trees" "LResourceLedgerModel$Trees;" : Cond) ∈ wsX18_digest := List.mem_of_getElem? (i := 1) rfl
theorem iwd_X18_digest_X18 : ∀ w ∈ wsX180, w ∈ wsX18_digest := fun _ h => List.mem_cons_of_mem _ (List.mem_append_left _ (List.mem_append_left _ (List.mem_append_right _ h)))
theorem md_X18_digest_2 : (.fieldLink RX18 94 "ResourceLedgerModel" "digester" "LResourceLedgerModel$Digester;" : Cond) ∈ wsX18_digest := List.mem_of_getElem? (i := 2) rfl
theorem iwd_X18_digest_X15 : ∀ w ∈ wsX150, w ∈ wsX18_digest := fun _ h => List.mem_cons_of_mem _ (List.mem_append_left _ (List.mem_append_right _ h))
set_option maxHeartbeats 4000000 in
set_option maxRecDepth 100000 in
theorem de_X18_digest (l : Launch) (dC : Nat → ClassId) (dI : Nat → Nat → Nat) (cy : Nat → ClassId) (a : Nat → Nat) (sh : Nat → Nat × Nat) (n sz : Nat) (F : Nat) (sk : Nat → Nat) (z : St) (h0 : Nat) {z8 : St} {r8 : Unit} (hf : fn_X18_digest F sh n z h0 = some (z8, r8)) : Met l yX18_digest wsX18_digest ({ frames := 4, cells := 0, slots := 0, locals := 86 }) (va_Pc [.ref (a h0)] (fun U => U.heap.size = sz ∧ va_P (dC, dI) vwCl (Wd cy a sh n z) U.heap ∧ va_K (dC, dI) vwCl (TYS cy) U ∧ va_D (fun _ => True) (Wd cy a sh n z) ∧ NK U ∧ SKs sk (a CBK) (va_A (Wd cy a sh n z) sz) U U.heap)) (va_Qv (fun u : Unit => True) (fun u t => va_P (dC, dI) vwCl (Wd cy a sh n z8) t.heap ∧ va_K (dC, dI) vwCl (TYS cy) t ∧ va_D (va_A (Wd cy a sh n z) sz) (Wd cy a sh n z8)) (va_A (Wd cy a sh n z) sz)) 0 0 (va_A (Wd cy a sh n z) sz) := by
  refine Met.ofW (cc := cX18_digest) (maxL := 4) (ret := none) (by decide) rfl ?_
  intro p e s m args below meth c s₁ B hml hv
  obtain ⟨rfl, hsz, hP, hK, hD0, hN, hSK⟩ := hv
  have hx := B.exec
  have hb := B.bytes
  have hr := B.returns
  have hts := atoms_spec (ws := wsX18_digest) B.pre
  have hown : s.vm.findClass RX18 = some m.cls := findClass_of_methodNamed B.named
  have hlocks := B.notSynchronized
  subst hsz
  have hD := hD0.self (sz := s.heap.size)
  clear hD0
  generalize hAe : va_A (Wd cy a sh n z) s.heap.size = A at hD hSK ⊢
  have hA : ∀ q : Nat, s.heap.size ≤ q → A q := fun q h => by rw [← hAe]; exact Or.inr h
  clear hAe
  have hS : va_S A s.heap s.heap [] := va_S.rf
  have hl := lv_entry ([.ref (a h0)]) (n := 4) (Nat.le_of_ble_eq_true rfl)
  rw [lg_entry_eq]
  generalize (lg_sl ([.ref (a h0)]) ++ List.replicate (4 - (lg_sl ([.ref (a h0)])).length) Slot.unset).toArray = ls at hl ⊢
  replace hl : lv_has ls 4 [(0, .ref (a h0))] := hl
  unfold fn_X18_digest at hf
  refine de_start hS hP (fun H locs hS hP => ?_)
  refine lv_aload_n hx hb dX18_digest_0 rfl (lv_at hl 0 rfl) ?_
  refine lv_bipush (v := 7) hx hb dX18_digest_1 (by decide) ?_
  obtain ⟨g_3, hf⟩ := grd_some hf
  obtain ⟨kg_3, sg_3⟩ := okO_at g_3
  obtain ⟨z_1, r_2, hfc, hf⟩ := cal_some hf
  have hFc := de_free hD hS hA
  refine va_calli (va_runV (As := [.int 7]) (rest := []) ⟨hx, hb, hml, hown, hts⟩ (de_X18_take l dC dI cy a sh n H.size F z h0 7 hfc) (cwV 1 hts gX18_digest_X18_take rfl rfl rfl (by decide +kernel) ⟨Nat.le_of_ble_eq_true rfl, Nat.le_of_ble_eq_true rfl⟩) ⟨fun a U g mk q => by obtain ⟨q0, q1, qP, qK, qD, qN⟩ := q; exact ⟨q0, q1, qP, va_K.moved (u := U) (U := U.calling g mk a) (Vm.Alike.refl U.vm) qK, qD, qN.same rfl⟩, va_recv hK hP (ci := 18) (q0 := h0) rfl (Wd_ob kg_3 sg_3 (by decide)), fun U hU hW => ⟨rfl, by rw [hU], by rw [hU]; exact hP, va_K.moved hW.alike hK, hD.weaken (fun _ _ _ _ => trivial), hN.warm hW⟩⟩ rfl rfl hl.1 rfl (lv_room (Nat.le_of_ble_eq_true rfl)) dX18_digest_3 ⟨Nat.le_of_ble_eq_true rfl, Nat.le_of_ble_eq_true rfl⟩) hS (fun q _ h => hFc q h) hFc (fun rr u t H_4 locs ht hvm hw hB hz1 hk1 hS2 => ?_)
  rw [hw]
  clear hw
  obtain ⟨hP1, -, hD1⟩ := hB
  rw [ht] at hP1
  replace hD := hD1.weaken (fun _ _ _ h => hFc _ h)
  replace hP := hP1
  replace hS := hS2
  clear hP1 hD1 hS2 hFc hfc hz1 hk1 hvm ht
  refine lv_istore_n (lv' := [(1, .int r_2), (0, .ref (a h0))]) hx hb dX18_digest_6 rfl hl (by decide) rfl (fun ls hl2 => ?_)
  replace hl := hl2
  clear hl2
  refine lv_aload_n hx hb dX18_digest_7 rfl (lv_at hl 1 rfl) ?_
  obtain ⟨z_5, r_6, hfc, hf⟩ := cal_some hf
  have hFc := de_free hD hS hA
  refine va_calli (va_runV (As := []) (rest := []) ⟨hx, hb, hml, hown, hts⟩ (de_X18_goesOn l dC dI cy a sh n H_4.size F z_1 h0 hfc) (cwV 0 hts gX18_digest_X18_goesOn rfl rfl rfl (by decide +kernel) ⟨Nat.le_of_ble_eq_true rfl, Nat.le_of_ble_eq_true rfl⟩) ⟨fun a U g mk q => by obtain ⟨q0, q1, qP, qK, qD, qN⟩ := q; exact ⟨q0, q1, qP, va_K.moved (u := U) (U := U.calling g mk a) (Vm.Alike.refl U.vm) qK, qD, qN.same rfl⟩, va_recv hK hP (ci := 18) (q0 := h0) rfl (Wd_ob kg_3 sg_3 (by decide)), fun U hU hW => ⟨rfl, by rw [hU], by rw [hU]; exact hP, va_K.moved hW.alike hK, hD.weaken (fun _ _ _ _ => trivial), hN.warm hW⟩⟩ rfl rfl hl.1 rfl (lv_room (Nat.le_of_ble_eq_true rfl)) dX18_digest_8 ⟨Nat.le_of_ble_eq_true rfl, Nat.le_of_ble_eq_true rfl⟩) hS (fun q _ h => hFc q h) hFc (fun rr u t H_7 locs ht hvm hw hB hz1 hk1 hS2 => ?_)
  rw [hw]
  clear hw
  obtain ⟨hP1, -, hD1⟩ := hB
  rw [ht] at hP1
  replace hD := hD1.weaken (fun _ _ _ h => hFc _ h)
  replace hP := hP1
  replace hS := hS2
  clear hP1 hD1 hS2 hFc hfc hz1 hk1 hvm ht
  refine lv_if_eq (tgt := 32) hx hb dX18_digest_11 (by decide) (fun c_8 => ?_) (fun c_8 => ?_)
  · skip
    rw [if_pos c_8] at hf
    obtain ⟨h8, h9⟩ := ret_some hf
    rw [h8]
    exact W.vret hx hb hr (fun t ht hW => ⟨⟨(), rfl, trivial, by rw [ht]; exact hP, va_K.moved hW.alike hK, hD⟩, hS.F ht⟩) hS.2.2 dX18_digest_32
  · skip
    rw [if_neg c_8] at hf
    refine lv_aload_n hx hb dX18_digest_14 rfl (lv_at hl 1 rfl) ?_
    refine lv_bipush (v := 32) hx hb dX18_digest_15 (by decide) ?_
    refine lv_aload_n hx hb dX18_digest_17 rfl (lv_at hl 1 rfl) ?_
    obtain ⟨k_9, ek_9, hf⟩ := lnk_some hf
    refine va_get (D := (dC, dI)) (ci := 18) (v := .ref (a k_9)) (C := RX18) (T := TX18) (N := 78) hx hb hts iwd_X18_digest_X18 hown hK hP h0 (Wd_ob kg_3 sg_3 (by decide)) rfl 15 (by decide) (hts _ md_X18_digest_1) (fun _ h9 => h9) (fl_q rfl ek_9) dX18_digest_18 ?_
    refine lv_iload_n hx hb dX18_digest_21 rfl (lv_at hl 0 rfl) ?_
    obtain ⟨g_12, hf⟩ := grd_some hf
    obtain ⟨kg_12, sg_12⟩ := okO_at g_12
    obtain ⟨z_10, r_11, hfc, hf⟩ := cal_some hf
    have hFc := de_free hD hS hA
    refine va_calli (va_runV (As := [.int r_2]) (rest := [.int 32, .ref (a h0)]) ⟨hx, hb, hml, hown, hts⟩ (de_X15_count l dC dI cy a sh n H_7.size F z_5 k_9 r_2 hfc) (cwV 1 hts gX18_digest_X15_count rfl rfl rfl (by decide +kernel) ⟨Nat.le_of_ble_eq_true rfl, Nat.le_of_ble_eq_true rfl⟩) ⟨fun a U g mk q => by obtain ⟨q0, q1, qP, qK, qD, qN⟩ := q; exact ⟨q0, q1, qP, va_K.moved (u := U) (U := U.calling g mk a) (Vm.Alike.refl U.vm) qK, qD, qN.same rfl⟩, va_recv hK hP (ci := 15) (q0 := k_9) rfl (Wd_ob kg_12 sg_12 (by decide)), fun U hU hW => ⟨rfl, by rw [hU], by rw [hU]; exact hP, va_K.moved hW.alike hK, hD.weaken (fun _ _ _ _ => trivial), hN.warm hW⟩⟩ rfl rfl hl.1 rfl (lv_room (Nat.le_of_ble_eq_true rfl)) dX18_digest_22 ⟨Nat.le_of_ble_eq_true rfl, Nat.le_of_ble_eq_true rfl⟩) hS (fun q _ h => hFc q h) hFc (fun rr u t H_13 locs ht hvm hw hB hz1 hk1 hS2 => ?_)
    rw [hw]
    clear hw
    obtain ⟨hP1, -, hD1⟩ := hB
    rw [ht] at hP1
    replace hD := hD1.weaken (fun _ _ _ h => hFc _ h)
    replace hP := hP1
    replace hS := hS2
    clear hP1 hD1 hS2 hFc hfc hz1 hk1 hvm ht
    refine lv_iadd hx hb dX18_digest_25 ?_
    obtain ⟨z_14, r_15, hfc, hf⟩ := cal_some hf
    have hFc := de_free hD hS hA
    refine va_calli (va_runV (As := [.int (32 + r_11)]) (rest := []) ⟨hx, hb, hml, hown, hts⟩ (de_X18_spend l dC dI cy a sh n H_13.size F z_10 h0 (32 + r_11) hfc) (cwV 1 hts gX18_digest_X18_spend rfl rfl rfl (by decide +kernel) ⟨Nat.le_of_ble_eq_true rfl, Nat.le_of_ble_eq_true rfl⟩) ⟨fun a U g mk q => by obtain ⟨q0, q1, qP, qK, qD, qN⟩ := q; exact ⟨q0, q1, qP, va_K.moved (u := U) (U := U.calling g mk a) (Vm.Alike.refl U.vm) qK, qD, qN.same rfl⟩, va_recv hK hP (ci := 18) (q0 := h0) rfl (Wd_ob kg_3 sg_3 (by decide)), fun U hU hW => ⟨rfl, by rw [hU], by rw [hU]; exact hP, va_K.moved hW.alike hK, hD.weaken (fun _ _ _ _ => trivial), hN.warm hW⟩⟩ rfl rfl hl.1 rfl (lv_room (Nat.le_of_ble_eq_true rfl)) dX18_digest_26 ⟨Nat.le_of_ble_eq_true rfl, Nat.le_of_ble_eq_true rfl⟩) hS (fun q _ h => hFc q h) hFc (fun rr u t H_16 locs ht hvm hw hB hz1 hk1 hS2 => ?_)
    rw [hw]
    clear hw
    obtain ⟨hP1, -, hD1⟩ := hB
    rw [ht] at hP1
    replace hD := hD1.weaken (fun _ _ _ h => hFc _ h)
    replace hP := hP1
    replace hS := hS2
    clear hP1 hD1 hS2 hFc hfc hz1 hk1 hvm ht
    refine lv_if_ne (tgt := 33) hx hb dX18_digest_29 (by decide) (fun c_17 => ?_) (fun c_17 => ?_)
    · skip
      rw [if_neg c_17] at hf
      refine lv_aload_n hx hb dX18_digest_33 rfl (lv_at hl 1 rfl) ?_
      obtain ⟨k_18, ek_18, hf⟩ := lnk_some hf
      refine va_get (D := (dC, dI)) (ci := 18) (v := .ref (a k_18)) (C := RX18) (T := TX18) (N := 78) hx hb hts iwd_X18_digest_X18 hown hK hP h0 (Wd_ob kg_3 sg_3 (by decide)) rfl 18 (by decide) (hts _ md_X18_digest_2) (fun _ h9 => h9) (fl_q rfl ek_18) dX18_digest_34 ?_
      obtain ⟨g_20, hf⟩ := grd_some hf
      obtain ⟨kg_20, sg_20⟩ := okO_at g_20
      obtain ⟨z_19, _u, hfc, hf⟩ := cal_some hf
      have hFc := de_free hD hS hA
      refine va_callv (va_runV (As := []) (rest := []) ⟨hx, hb, hml, hown, hts⟩ (de_X12_begin l dC dI cy a sh n H_16.size F z_14 k_18 hfc) (cwV 0 hts gX18_digest_X12_begin rfl rfl rfl (by decide +kernel) ⟨Nat.le_of_ble_eq_true rfl, Nat.le_of_ble_eq_true rfl⟩) ⟨fun a U g mk q => by obtain ⟨q0, q1, qP, qK, qD, qN⟩ := q; exact ⟨q0, q1, qP, va_K.moved (u := U) (U := U.calling g mk a) (Vm.Alike.refl U.vm) qK, qD, qN.same rfl⟩, va_recv hK hP (ci := 12) (q0 := k_18) rfl (Wd_ob kg_20 sg_20 (by decide)), fun U hU hW => ⟨rfl, by rw [hU], by rw [hU]; exact hP, va_K.moved hW.alike hK, hD.weaken (fun _ _ _ _ => trivial), hN.warm hW⟩⟩ rfl rfl hl.1 rfl (lv_room (Nat.le_of_ble_eq_true rfl)) dX18_digest_37 ⟨Nat.le_of_ble_eq_true rfl, Nat.le_of_ble_eq_true rfl⟩) hS (fun q _ h => hFc q h) hFc (fun u t H_21 locs ht hvm hw hB hz1 hk1 hS2 => ?_)
      obtain ⟨hP1, -, hD1⟩ := hB
      rw [ht] at hP1
      replace hD := hD1.weaken (fun _ _ _ h => hFc _ h)
      replace hP := hP1
      replace hS := hS2
      clear hP1 hD1 hS2 hFc hfc hz1 hk1 hvm ht
      refine lv_aload_n hx hb dX18_digest_40 rfl (lv_at hl 1 rfl) ?_
      obtain ⟨k_22, ek_22, hf⟩ := lnk_some hf
      refine va_get (D := (dC, dI)) (ci := 18) (v := .ref (a k_22)) (C := RX18) (T := TX18) (N := 78) hx hb hts iwd_X18_digest_X18 hown hK hP h0 (Wd_ob kg_3 sg_3 (by decide)) rfl 15 (by decide) (hts _ md_X18_digest_1) (fun _ h9 => h9) (fl_q rfl ek_22) dX18_digest_41 ?_
      obtain ⟨g_23, hf⟩ := grd_some hf
      obtain ⟨kg_23, sg_23⟩ := okO_at g_23
      obtain ⟨k_24, ek_24, hf⟩ := lnk_some hf
      refine va_getN (D := (dC, dI)) (ci := 15) (v := .ref (a k_24)) (C := RX15) (T := TX15) (N := 6) hx hb hts iwd_X18_digest_X15 hown hK hP k_22 (Wd_ob kg_23 sg_23 (by decide)) rfl 3 (by decide) (va_Nw.use rfl (NK_f_X18_84 hN)) (fun _ h9 => h9) (fl_q rfl ek_24) dX18_digest_44 ?_
      refine lv_iload_n hx hb dX18_digest_47 rfl (lv_at hl 0 rfl) ?_
      obtain ⟨g_25, hf⟩ := grd_some hf
      obtain ⟨kg_25, sg_25, ig_25⟩ := okA_at g_25
      refine va_iald hx hb hK hP k_24 1 (Wd_ai kg_25 sg_25) rfl ig_25 dX18_digest_48 ?_
      refine lv_topi (fun v_26 ev_26 => ?_)
      replace hf := lt_at ev_26 hf
      clear ev_26
      refine lv_istore_n (lv' := [(2, .int v_26), (1, .int r_2), (0, .ref (a h0))]) hx hb dX18_digest_49 rfl hl (by decide) rfl (fun ls hl2 => ?_)
      replace hl := hl2
      clear hl2
      have hl0 : lv_has ls 4 [(2, .int v_26), (0, .ref (a h0))] := lv_sub hl [0, 2] rfl
      refine de_loop (h := 50) (fun (x : St × Int32) ls H locs => lv_has ls 4 [(2, .int x.2), (0, .ref (a h0))] ∧ va_P (dC, dI) vwCl (Wd cy a sh n x.1) H ∧ va_D A (Wd cy a sh n x.1) ∧ va_S A s.heap H locs) (fun f x => fn_X18_digest_L50 F sh n h0 f x.1 x.2) (z8, r8) ?_ (fun _ => rfl) F (z_19, v_26) ls H_21 locs ⟨hl0, hP, hD, hS⟩ hf
      intro f_29 x ls H locs ih50 hI hf
      obtain ⟨z_28, p_27⟩ := x
      obtain ⟨hl2, hP2, hD2, hS2⟩ := hI
      replace hl : lv_has ls 4 [(2, .int p_27), (0, .ref (a h0))] := hl2
      replace hP := hP2
      replace hD := hD2
      replace hS := hS2
      clear hl2 hP2 hD2 hS2 hl0
      replace hf := fn_X18_digest_L50_s hf
      refine lv_iload_n hx hb dX18_digest_50 rfl (lv_at hl 0 rfl) ?_
      refine lv_iconst (v := (-1)) hx hb dX18_digest_51 (by decide) ?_
      refine lv_icmp_eq (tgt := 85) hx hb dX18_digest_52 (by decide) (fun c_30 => ?_) (fun c_30 => ?_)
      · skip
        rw [if_pos c_30] at hf
        refine lv_aload_n hx hb dX18_digest_85 rfl (lv_at hl 1 rfl) ?_
        obtain ⟨k_31, ek_31, hf⟩ := lnk_some hf
        refine va_get (D := (dC, dI)) (ci := 18) (v := .ref (a k_31)) (C := RX18) (T := TX18) (N := 78) hx hb hts iwd_X18_digest_X18 hown hK hP h0 (Wd_ob kg_3 sg_3 (by decide)) rfl 18 (by decide) (hts _ md_X18_digest_2) (fun _ h9 => h9) (fl_q rfl ek_31) dX18_digest_86 ?_
        obtain ⟨g_33, hf⟩ := grd_some hf
        obtain ⟨kg_33, sg_33⟩ := okO_at g_33
        obtain ⟨z_32, _u, hfc, hf⟩ := cal_some hf
        have hFc := de_free hD hS hA
        refine va_callv (va_runV (As := []) (rest := []) ⟨hx, hb, hml, hown, hts⟩ (de_X12_end l dC dI cy a sh n H.size F sk z_28 k_31 hfc) (cwV 0 hts gX18_digest_X12_end rfl rfl rfl (by decide +kernel) ⟨Nat.le_of_ble_eq_true rfl, Nat.le_of_ble_eq_true rfl⟩) ⟨fun a U g mk q => by obtain ⟨q0, q1, qP, qK, qD, qN, qS⟩ := q; exact ⟨q0, q1, qP, va_K.moved (u := U) (U := U.calling g mk a) (Vm.Alike.refl U.vm) qK, qD, qN.same rfl, SKs.moved (u := U) (U := U.calling g mk a) (Vm.Alike.refl U.vm) qS⟩, va_recv hK hP (ci := 12) (q0 := k_31) rfl (Wd_ob kg_33 sg_33 (by decide)), fun U hU hW => ⟨rfl, by rw [hU], by rw [hU]; exact hP, va_K.moved hW.alike hK, hD.weaken (fun _ _ _ _ => trivial), hN.warm hW, by rw [hU]; exact ((hSK.kept hS.2.1).narrow hFc).moved hW.alike⟩⟩ rfl rfl hl.1 rfl (lv_room (Nat.le_of_ble_eq_true rfl)) dX18_digest_89 ⟨Nat.le_of_ble_eq_true rfl, Nat.le_of_ble_eq_true rfl⟩) hS (fun q _ h => hFc q h) hFc (fun u t H_34 locs ht hvm hw hB hz1 hk1 hS2 => ?_)
        obtain ⟨hP1, -, hD1⟩ := hB
        rw [ht] at hP1
        replace hD := hD1.weaken (fun _ _ _ h => hFc _ h)
        replace hP := hP1
        replace hS := hS2
        clear hP1 hD1 hS2 hFc hfc hz1 hk1 hvm ht
        refine lv_aload_n hx hb dX18_digest_92 rfl (lv_at hl 1 rfl) ?_
        obtain ⟨k_35, ek_35, hf⟩ := lnk_some hf
        refine va_get (D := (dC, dI)) (ci := 18) (v := .ref (a k_35)) (C := RX18) (T := TX18) (N := 78) hx hb hts iwd_X18_digest_X18 hown hK hP h0 (Wd_ob kg_3 sg_3 (by decide)) rfl 15 (by decide) (hts _ md_X18_digest_1) (fun _ h9 => h9) (fl_q rfl ek_35) dX18_digest_93 ?_
        refine lv_bipush (v := 7) hx hb dX18_digest_96 (by decide) ?_
        refine lv_lconst (v := 0) hx hb dX18_digest_98 (by decide) ?_
        refine lv_lconst (v := 0) hx hb dX18_digest_99 (by decide) ?_
        obtain ⟨g_38, hf⟩ := grd_some hf
        obtain ⟨kg_38, sg_38⟩ := okO_at g_38
        obtain ⟨z_36, r_37, hfc, hf⟩ := cal_some hf
        have hFc := de_free hD hS hA
        refine va_calli (va_runV (As := [.int 7, .long 0, .long 0]) (rest := []) ⟨hx, hb, hml, hown, hts⟩ (de_X15_make l dC dI cy a sh n H_34.size F z_32 k_35 7 0 0 hfc) (cwV 3 hts gX18_digest_X15_make rfl rfl rfl (by decide +kernel) ⟨Nat.le_of_ble_eq_true rfl, Nat.le_of_ble_eq_true rfl⟩) ⟨fun a U g mk q => by obtain ⟨q0, q1, qP, qK, qD, qN⟩ := q; exact ⟨q0, q1, qP, va_K.moved (u := U) (U := U.calling g mk a) (Vm.Alike.refl U.vm) qK, qD, qN.same rfl⟩, va_recv hK hP (ci := 15) (q0 := k_35) rfl (Wd_ob kg_38 sg_38 (by decide)), fun U hU hW => ⟨rfl, by rw [hU], by rw [hU]; exact hP, va_K.moved hW.alike hK, hD.weaken (fun _ _ _ _ => trivial), hN.warm hW⟩⟩ rfl rfl hl.1 rfl (lv_room (Nat.le_of_ble_eq_true rfl)) dX18_digest_100 ⟨Nat.le_of_ble_eq_true rfl, Nat.le_of_ble_eq_true rfl⟩) hS (fun q _ h => hFc q h) hFc (fun rr u t H_39 locs ht hvm hw hB hz1 hk1 hS2 => ?_)
        rw [hw]
        clear hw
        obtain ⟨hP1, -, hD1⟩ := hB
        rw [ht] at hP1
        replace hD := hD1.weaken (fun _ _ _ h => hFc _ h)
        replace hP := hP1
        replace hS := hS2
        clear hP1 hD1 hS2 hFc hfc hz1 hk1 hvm ht
        refine lv_istore_n (lv' := [(2, .int r_37), (0, .ref (a h0))]) hx hb dX18_digest_103 rfl hl (by decide) rfl (fun ls hl2 => ?_)
        replace hl := hl2
        clear hl2
        refine lv_iconst (v := 0) hx hb dX18_digest_104 (by decide) ?_
        refine lv_istore_n (lv' := [(3, .int 0), (2, .int r_37), (0, .ref (a h0))]) hx hb dX18_digest_105 rfl hl (by decide) rfl (fun ls hl2 => ?_)
        replace hl := hl2
        clear hl2
        have hl0 : lv_has ls 4 [(3, .int 0), (2, .int r_37), (0, .ref (a h0))] := lv_sub hl [0, 1, 2] rfl
        refine de_loop (h := 106) (fun (x : St × Int32) ls H locs => lv_has ls 4 [(3, .int x.2), (2, .int r_37), (0, .ref (a h0))] ∧ va_P (dC, dI) vwCl (Wd cy a sh n x.1) H ∧ va_D A (Wd cy a sh n x.1) ∧ va_S A s.heap H locs) (fun f x => fn_X18_digest_L106 F sh n h0 r_37 f x.1 x.2) (z8, r8) ?_ (fun _ => rfl) F (z_36, 0) ls H_39 locs ⟨hl0, hP, hD, hS⟩ hf
        intro f_42 x ls H locs ih106 hI hf
        obtain ⟨z_41, p_40⟩ := x
        obtain ⟨hl2, hP2, hD2, hS2⟩ := hI
        replace hl : lv_has ls 4 [(3, .int p_40), (2, .int r_37), (0, .ref (a h0))] := hl2
        replace hP := hP2
        replace hD := hD2
        replace hS := hS2
        clear hl2 hP2 hD2 hS2 hl0
        replace hf := fn_X18_digest_L106_s hf
        refine lv_iload_n hx hb dX18_digest_106 rfl (lv_at hl 0 rfl) ?_
        refine lv_bipush (v := 32) hx hb dX18_digest_107 (by decide) ?_
        refine lv_icmp_ge (tgt := 144) hx hb dX18_digest_109 (by decide) (fun c_43 => ?_) (fun c_43 => ?_)
        · skip
          rw [if_pos c_43] at hf
          refine lv_aload_n hx hb dX18_digest_144 rfl (lv_at hl 2 rfl) ?_
          refine lv_iload_n hx hb dX18_digest_145 rfl (lv_at hl 1 rfl) ?_
          refine lv_iconst (v := 0) hx hb dX18_digest_146 (by decide) ?_
          obtain ⟨z_44, _u, hfc, hf⟩ := cal_some hf
          have hFc := de_free hD hS hA
          refine va_callv (va_runV (As := [.int r_37, .int 0]) (rest := []) ⟨hx, hb, hml, hown, hts⟩ (de_X18_push l dC dI cy a sh n H.size F z_41 h0 r_37 0 hfc) (cwV 2 hts gX18_digest_X18_push rfl rfl rfl (by decide +kernel) ⟨Nat.le_of_ble_eq_true rfl, Nat.le_of_ble_eq_true rfl⟩) ⟨fun a U g mk q => by obtain ⟨q0, q1, qP, qK, qD, qN⟩ := q; exact ⟨q0, q1, qP, va_K.moved (u := U) (U := U.calling g mk a) (Vm.Alike.refl U.vm) qK, qD, qN.same rfl⟩, va_recv hK hP (ci := 18) (q0 := h0) rfl (Wd_ob kg_3 sg_3 (by decide)), fun U hU hW => ⟨rfl, by rw [hU], by rw [hU]; exact hP, va_K.moved hW.alike hK, hD.weaken (fun _ _ _ _ => trivial), hN.warm hW⟩⟩ rfl rfl hl.1 rfl (lv_room (Nat.le_of_ble_eq_true rfl)) dX18_digest_147 ⟨Nat.le_of_ble_eq_true rfl, Nat.le_of_ble_eq_true rfl⟩) hS (fun q _ h => hFc q h) hFc (fun u t H_45 locs ht hvm hw hB hz1 hk1 hS2 => ?_)
          obtain ⟨hP1, -, hD1⟩ := hB
          rw [ht] at hP1
          replace hD := hD1.weaken (fun _ _ _ h => hFc _ h)
          replace hP := hP1
          replace hS := hS2
          clear hP1 hD1 hS2 hFc hfc hz1 hk1 hvm ht
          obtain ⟨h8, h9⟩ := ret_some hf
          rw [h8]
          exact W.vret hx hb hr (fun t ht hW => ⟨⟨(), rfl, trivial, by rw [ht]; exact hP, va_K.moved hW.alike hK, hD⟩, hS.F ht⟩) hS.2.2 dX18_digest_150
        · skip
          rw [if_neg c_43] at hf
          refine lv_aload_n hx hb dX18_digest_112 rfl (lv_at hl 2 rfl) ?_
          obtain ⟨k_46, ek_46, hf⟩ := lnk_some hf
          refine va_get (D := (dC, dI)) (ci := 18) (v := .ref (a k_46)) (C := RX18) (T := TX18) (N := 78) hx hb hts iwd_X18_digest_X18 hown hK hP h0 (Wd_ob kg_3 sg_3 (by decide)) rfl 15 (by decide) (hts _ md_X18_digest_1) (fun _ h9 => h9) (fl_q rfl ek_46) dX18_digest_113 ?_
          refine lv_iload_n hx hb dX18_digest_116 rfl (lv_at hl 1 rfl) ?_
          refine lv_aload_n hx hb dX18_digest_117 rfl (lv_at hl 2 rfl) ?_
          obtain ⟨k_47, ek_47, hf⟩ := lnk_some hf
          refine va_get (D := (dC, dI)) (ci := 18) (v := .ref (a k_47)) (C := RX18) (T := TX18) (N := 78) hx hb hts iwd_X18_digest_X18 hown hK hP h0 (Wd_ob kg_3 sg_3 (by decide)) rfl 15 (by decide) (hts _ md_X18_digest_1) (fun _ h9 => h9) (fl_q rfl ek_47) dX18_digest_118 ?_
          refine lv_iconst (v := 2) hx hb dX18_digest_121 (by decide) ?_
          refine lv_lconst (v := 0) hx hb dX18_digest_122 (by decide) ?_
          refine lv_aload_n hx hb dX18_digest_123 rfl (lv_at hl 2 rfl) ?_
          obtain ⟨k_48, ek_48, hf⟩ := lnk_some hf
          refine va_get (D := (dC, dI)) (ci := 18) (v := .ref (a k_48)) (C := RX18) (T := TX18) (N := 78) hx hb hts iwd_X18_digest_X18 hown hK hP h0 (Wd_ob kg_3 sg_3 (by decide)) rfl 18 (by decide) (hts _ md_X18_digest_2) (fun _ h9 => h9) (fl_q rfl ek_48) dX18_digest_124 ?_
          refine lv_iload_n hx hb dX18_digest_127 rfl (lv_at hl 0 rfl) ?_
          obtain ⟨g_51, hf⟩ := grd_some hf
          obtain ⟨kg_51, sg_51⟩ := okO_at g_51
          obtain ⟨z_49, r_50, hfc, hf⟩ := cal_some hf
          have hFc := de_free hD hS hA
          refine va_calli (va_runV (As := [.int p_40]) (rest := [.long 0, .int 2, .ref (a k_47), .int r_37, .ref (a k_46)]) ⟨hx, hb, hml, hown, hts⟩ (de_X12_byteOf l dC dI cy a sh n H.size F z_41 k_48 p_40 hfc) (cwV 1 hts gX18_digest_X12_byteOf rfl rfl rfl (by decide +kernel) ⟨Nat.le_of_ble_eq_true rfl, Nat.le_of_ble_eq_true rfl⟩) ⟨fun a U g mk q => by obtain ⟨q0, q1, qP, qK, qD, qN⟩ := q; exact ⟨q0, q1, qP, va_K.moved (u := U) (U := U.calling g mk a) (Vm.Alike.refl U.vm) qK, qD, qN.same rfl⟩, va_recv hK hP (ci := 12) (q0 := k_48) rfl (Wd_ob kg_51 sg_51 (by decide)), fun U hU hW => ⟨rfl, by rw [hU], by rw [hU]; exact hP, va_K.moved hW.alike hK, hD.weaken (fun _ _ _ _ => trivial), hN.warm hW⟩⟩ rfl rfl hl.1 rfl (lv_room (Nat.le_of_ble_eq_true rfl)) dX18_digest_128 ⟨Nat.le_of_ble_eq_true rfl, Nat.le_of_ble_eq_true rfl⟩) hS (fun q _ h => hFc q h) hFc (fun rr u t H_52 locs ht hvm hw hB hz1 hk1 hS2 => ?_)
          rw [hw]
          clear hw
          obtain ⟨hP1, -, hD1⟩ := hB
          rw [ht] at hP1
          replace hD := hD1.weaken (fun _ _ _ h => hFc _ h)
          replace hP := hP1
          replace hS := hS2
          clear hP1 hD1 hS2 hFc hfc hz1 hk1 hvm ht
          refine lv_i2l (v := (r_50 : Int32).toInt64) hx hb dX18_digest_131 rfl ?_
          obtain ⟨g_55, hf⟩ := grd_some hf
          obtain ⟨kg_55, sg_55⟩ := okO_at g_55
          obtain ⟨z_53, r_54, hfc, hf⟩ := cal_some hf
          have hFc := de_free hD hS hA
          refine va_calli (va_runV (As := [.int 2, .long 0, .long ((r_50 : Int32).toInt64)]) (rest := [.int r_37, .ref (a k_46)]) ⟨hx, hb, hml, hown, hts⟩ (de_X15_make l dC dI cy a sh n H_52.size F z_49 k_47 2 0 ((r_50 : Int32).toInt64) hfc) (cwV 3 hts gX18_digest_X15_make rfl rfl rfl (by decide +kernel) ⟨Nat.le_of_ble_eq_true rfl, Nat.le_of_ble_eq_true rfl⟩) ⟨fun a U g mk q => by obtain ⟨q0, q1, qP, qK, qD, qN⟩ := q; exact ⟨q0, q1, qP, va_K.moved (u := U) (U := U.calling g mk a) (Vm.Alike.refl U.vm) qK, qD, qN.same rfl⟩, va_recv hK hP (ci := 15) (q0 := k_47) rfl (Wd_ob kg_55 sg_55 (by decide)), fun U hU hW => ⟨rfl, by rw [hU], by rw [hU]; exact hP, va_K.moved hW.alike hK, hD.weaken (fun _ _ _ _ => trivial), hN.warm hW⟩⟩ rfl rfl hl.1 rfl (lv_room (Nat.le_of_ble_eq_true rfl)) dX18_digest_132 ⟨Nat.le_of_ble_eq_true rfl, Nat.le_of_ble_eq_true rfl⟩) hS (fun q _ h => hFc q h) hFc (fun rr u t H_56 locs ht hvm hw hB hz1 hk1 hS2 => ?_)
          rw [hw]
          clear hw
          obtain ⟨hP1, -, hD1⟩ := hB
          rw [ht] at hP1
          replace hD := hD1.weaken (fun _ _ _ h => hFc _ h)
          replace hP := hP1
          replace hS := hS2
          clear hP1 hD1 hS2 hFc hfc hz1 hk1 hvm ht
          obtain ⟨g_58, hf⟩ := grd_some hf
          obtain ⟨kg_58, sg_58⟩ := okO_at g_58
          obtain ⟨z_57, _u, hfc, hf⟩ := cal_some hf
          have hFc := de_free hD hS hA
          refine va_callv (va_runV (As := [.int r_37, .int r_54]) (rest := []) ⟨hx, hb, hml, hown, hts⟩ (de_X15_add l dC dI cy a sh n H_56.size F z_53 k_46 r_37 r_54 hfc) (cwV 2 hts gX18_digest_X15_add rfl rfl rfl (by decide +kernel) ⟨Nat.le_of_ble_eq_true rfl, Nat.le_of_ble_eq_true rfl⟩) ⟨fun a U g mk q => by obtain ⟨q0, q1, qP, qK, qD, qN⟩ := q; exact ⟨q0, q1, qP, va_K.moved (u := U) (U := U.calling g mk a) (Vm.Alike.refl U.vm) qK, qD, qN.same rfl⟩, va_recv hK hP (ci := 15) (q0 := k_46) rfl (Wd_ob kg_58 sg_58 (by decide)), fun U hU hW => ⟨rfl, by rw [hU], by rw [hU]; exact hP, va_K.moved hW.alike hK, hD.weaken (fun _ _ _ _ => trivial), hN.warm hW⟩⟩ rfl rfl hl.1 rfl (lv_room (Nat.le_of_ble_eq_true rfl)) dX18_digest_135 ⟨Nat.le_of_ble_eq_true rfl, Nat.le_of_ble_eq_true rfl⟩) hS (fun q _ h => hFc q h) hFc (fun u t H_59 locs ht hvm hw hB hz1 hk1 hS2 => ?_)
          obtain ⟨hP1, -, hD1⟩ := hB
          rw [ht] at hP1
          replace hD := hD1.weaken (fun _ _ _ h => hFc _ h)
          replace hP := hP1
          replace hS := hS2
          clear hP1 hD1 hS2 hFc hfc hz1 hk1 hvm ht
          refine lv_iinc (v := (p_40 + 1)) (lv' := [(3, .int (p_40 + 1)), (2, .int r_37), (0, .ref (a h0))]) hx hb dX18_digest_138 hl (k := 0) rfl rfl (by decide) rfl (fun ls hl2 => ?_)
          replace hl := hl2
          clear hl2
          refine lv_goto (tgt := 106) hx hb dX18_digest_141 (by decide) ?_
          exact ih106 (z_57, (p_40 + 1)) ls H_59 locs ⟨lv_sub hl [0, 1, 2] rfl, hP, hD, hS⟩ hf
      · skip
        rw [if_neg c_30] at hf
        refine lv_aload_n hx hb dX18_digest_55 rfl (lv_at hl 1 rfl) ?_
        obtain ⟨k_60, ek_60, hf⟩ := lnk_some hf
        refine va_get (D := (dC, dI)) (ci := 18) (v := .ref (a k_60)) (C := RX18) (T := TX18) (N := 78) hx hb hts iwd_X18_digest_X18 hown hK hP h0 (Wd_ob kg_3 sg_3 (by decide)) rfl 18 (by decide) (hts _ md_X18_digest_2) (fun _ h9 => h9) (fl_q rfl ek_60) dX18_digest_56 ?_
        refine lv_aload_n hx hb dX18_digest_59 rfl (lv_at hl 1 rfl) ?_
        obtain ⟨k_61, ek_61, hf⟩ := lnk_some hf
        refine va_get (D := (dC, dI)) (ci := 18) (v := .ref (a k_61)) (C := RX18) (T := TX18) (N := 78) hx hb hts iwd_X18_digest_X18 hown hK hP h0 (Wd_ob kg_3 sg_3 (by decide)) rfl 15 (by decide) (hts _ md_X18_digest_1) (fun _ h9 => h9) (fl_q rfl ek_61) dX18_digest_60 ?_
        obtain ⟨g_62, hf⟩ := grd_some hf
        obtain ⟨kg_62, sg_62⟩ := okO_at g_62
        obtain ⟨k_63, ek_63, hf⟩ := lnk_some hf
        refine va_getN (D := (dC, dI)) (ci := 15) (v := .ref (a k_63)) (C := RX15) (T := TX15) (N := 6) hx hb hts iwd_X18_digest_X15 hown hK hP k_61 (Wd_ob kg_62 sg_62 (by decide)) rfl 2 (by decide) (va_Nw.use rfl (NK_f_X18_77 hN)) (fun _ h9 => h9) (fl_q rfl ek_63) dX18_digest_63 ?_
        refine lv_iload_n hx hb dX18_digest_66 rfl (lv_at hl 0 rfl) ?_
        obtain ⟨g_64, hf⟩ := grd_some hf
        obtain ⟨kg_64, sg_64, ig_64⟩ := okA_at g_64
        refine va_lald hx hb hK hP k_63 2 (Wd_al kg_64 sg_64) rfl ig_64 dX18_digest_67 ?_
        refine lv_l2i (v := ((z_28.2.1 k_63 p_27.toNatClampNeg) : Int64).toInt32) hx hb dX18_digest_68 rfl ?_
        obtain ⟨g_66, hf⟩ := grd_some hf
        obtain ⟨kg_66, sg_66⟩ := okO_at g_66
        obtain ⟨z_65, _u, hfc, hf⟩ := cal_some hf
        have hFc := de_free hD hS hA
        refine va_callv (va_runV (As := [.int (((z_28.2.1 k_63 p_27.toNatClampNeg) : Int64).toInt32)]) (rest := []) ⟨hx, hb, hml, hown, hts⟩ (de_X12_add l dC dI cy a sh n H.size F z_28 k_60 (((z_28.2.1 k_63 p_27.toNatClampNeg) : Int64).toInt32) hfc) (cwV 1 hts gX18_digest_X12_add rfl rfl rfl (by decide +kernel) ⟨Nat.le_of_ble_eq_true rfl, Nat.le_of_ble_eq_true rfl⟩) ⟨fun a U g mk q => by obtain ⟨q0, q1, qP, qK, qD, qN⟩ := q; exact ⟨q0, q1, qP, va_K.moved (u := U) (U := U.calling g mk a) (Vm.Alike.refl U.vm) qK, qD, qN.same rfl⟩, va_recv hK hP (ci := 12) (q0 := k_60) rfl (Wd_ob kg_66 sg_66 (by decide)), fun U hU hW => ⟨rfl, by rw [hU], by rw [hU]; exact hP, va_K.moved hW.alike hK, hD.weaken (fun _ _ _ _ => trivial), hN.warm hW⟩⟩ rfl rfl hl.1 rfl (lv_room (Nat.le_of_ble_eq_true rfl)) dX18_digest_69 ⟨Nat.le_of_ble_eq_true rfl, Nat.le_of_ble_eq_true rfl⟩) hS (fun q _ h => hFc q h) hFc (fun u t H_67 locs ht hvm hw hB hz1 hk1 hS2 => ?_)
        obtain ⟨hP1, -, hD1⟩ := hB
        rw [ht] at hP1
        replace hD := hD1.weaken (fun _ _ _ h => hFc _ h)
        replace hP := hP1
        replace hS := hS2
        clear hP1 hD1 hS2 hFc hfc hz1 hk1 hvm ht
        refine lv_aload_n hx hb dX18_digest_72 rfl (lv_at hl 1 rfl) ?_
        obtain ⟨k_68, ek_68, hf⟩ := lnk_some hf
        refine va_get (D := (dC, dI)) (ci := 18) (v := .ref (a k_68)) (C := RX18) (T := TX18) (N := 78) hx hb hts iwd_X18_digest_X18 hown hK hP h0 (Wd_ob kg_3 sg_3 (by decide)) rfl 15 (by decide) (hts _ md_X18_digest_1) (fun _ h9 => h9) (fl_q rfl ek_68) dX18_digest_73 ?_
        obtain ⟨g_69, hf⟩ := grd_some hf
        obtain ⟨kg_69, sg_69⟩ := okO_at g_69
        obtain ⟨k_70, ek_70, hf⟩ := lnk_some hf
        refine va_getN (D := (dC, dI)) (ci := 15) (v := .ref (a k_70)) (C := RX15) (T := TX15) (N := 6) hx hb hts iwd_X18_digest_X15 hown hK hP k_68 (Wd_ob kg_69 sg_69 (by decide)) rfl 4 (by decide) (va_Nw.use rfl (NK_f_X18_87 hN)) (fun _ h9 => h9) (fl_q rfl ek_70) dX18_digest_76 ?_
        refine lv_iload_n hx hb dX18_digest_79 rfl (lv_at hl 0 rfl) ?_
        obtain ⟨g_71, hf⟩ := grd_some hf
        obtain ⟨kg_71, sg_71, ig_71⟩ := okA_at g_71
        refine va_iald hx hb hK hP k_70 1 (Wd_ai kg_71 sg_71) rfl ig_71 dX18_digest_80 ?_
        refine lv_topi (fun v_72 ev_72 => ?_)
        replace hf := lt_at ev_72 hf
        clear ev_72
        refine lv_istore_n (lv' := [(2, .int v_72), (0, .ref (a h0))]) hx hb dX18_digest_81 rfl hl (by decide) rfl (fun ls hl2 => ?_)
        replace hl := hl2
        clear hl2
        refine lv_goto (tgt := 50) hx hb dX18_digest_82 (by decide) ?_
        exact ih50 (z_65, v_72) ls H_67 locs ⟨lv_sub hl [0, 1] rfl, hP, hD, hS⟩ hf
    · skip
      rw [if_pos c_17] at hf
      obtain ⟨h8, h9⟩ := ret_some hf
      rw [h8]
      exact W.vret hx hb hr (fun t ht hW => ⟨⟨(), rfl, trivial, by rw [ht]; exact hP, va_K.moved hW.alike hK, hD⟩, hS.F ht⟩) hS.2.2 dX18_digest_32

theorem md_X6_readForeignFunctions_1 : (.fieldLink RX6 17 "ResourceLedger$Reader" "p" "LResourceLedger$Program;" : Cond) ∈ wsX6_readForeignFunctions := List.mem_of_getElem? (i := 1) rfl
theorem iwd_X6_readForeignFunctions_X6 : ∀ w ∈ wsX60, w ∈ wsX6_readForeignFunctions := fun _ h => List.mem_cons_of_mem _ (List.mem_append_left _ (List.mem_append_right _ h))
theorem md_X6_readForeignFunctions_2 : (.fieldLink RX6 110 "ResourceLedger$Program" "foreignFunctions" "I" : Cond) ∈ wsX6_readForeignFunctions := List.mem_of_getElem? (i := 2) rfl
theorem iwd_X6_readForeignFunctions_X5 : ∀ w ∈ wsX50, w ∈ wsX6_readForeignFunctions := fun _ h => List.mem_cons_of_mem _ (List.mem_append_right _ h)
theorem md_X6_readForeignFunctions_3 : (.fieldLink RX6 21 "ResourceLedger$Reader" "fault" "I" : Cond) ∈ wsX6_readForeignFunctions := List.mem_of_getElem? (i := 3) rfl
theorem md_X6_readForeignFunctions_4 : (.fieldLink RX6 53 "ResourceLedger$Program" "typeCount" "I" : Cond) ∈ wsX6_readForeignFunctions := List.mem_of_getElem? (i := 4) rfl
set_option maxHeartbeats 4000000 in
set_option maxRecDepth 100000 in
theorem de_X6_readForeignFunctions (l : Launch) (dC : Nat → ClassId) (dI : Nat → Nat → Nat) (cy : Nat → ClassId) (a : Nat → Nat) (sh : Nat → Nat × Nat) (n sz : Nat) (F : Nat) (sk : Nat → Nat) (z : St) (h0 : Nat) {z8 : St} {r8 : Unit} (hf : fn_X6_readForeignFunctions F sh n z h0 = some (z8, r8)) : Met l yX6_readForeignFunctions wsX6_readForeignFunctions ({ frames := 4, cells := 0, slots := 0, locals := 93 }) (va_Pc [.ref (a h0)] (fun U => U.heap.size = sz ∧ va_P (dC, dI) vwCl (Wd cy a sh n z) U.heap ∧ va_K (dC, dI) vwCl (TYS cy) U ∧ va_D (fun _ => True) (Wd cy a sh n z) ∧ NK U ∧ SKs sk (a CBK) (va_A (Wd cy a sh n z) sz) U U.heap)) (va_Qv (fun u : Unit => True) (fun u t => va_P (dC, dI) vwCl (Wd cy a sh n z8) t.heap ∧ va_K (dC, dI) vwCl (TYS cy) t ∧ va_D (va_A (Wd cy a sh n z) sz) (Wd cy a sh n z8)) (va_A (Wd cy a sh n z) sz)) 0 0 (va_A (Wd cy a sh n z) sz) := by
  refine Met.ofW (cc := cX6_readForeignFunctions) (maxL := 3) (ret := none) (by decide) rfl ?_
  intro p e s m args below meth c s₁ B hml hv
  obtain ⟨rfl, hsz, hP, hK, hD0, hN, hSK⟩ := hv
  have hx := B.exec
  have hb := B.bytes
  have hr := B.returns
  have hts := atoms_spec (ws := wsX6_readForeignFunctions) B.pre
  have hown : s.vm.findClass RX6 = some m.cls := findClass_of_methodNamed B.named
  have hlocks := B.notSynchronized
  subst hsz
  have hD := hD0.self (sz := s.heap.size)
  clear hD0
  generalize hAe : va_A (Wd cy a sh n z) s.heap.size = A at hD hSK ⊢
  have hA : ∀ q : Nat, s.heap.size ≤ q → A q := fun q h => by rw [← hAe]; exact Or.inr h
  clear hAe
  have hS : va_S A s.heap s.heap [] := va_S.rf
  have hl := lv_entry ([.ref (a h0)]) (n := 3) (Nat.le_of_ble_eq_true rfl)
  rw [lg_entry_eq]
  generalize (lg_sl ([.ref (a h0)]) ++ List.replicate (3 - (lg_sl ([.ref (a h0)])).length) Slot.unset).toArray = ls at hl ⊢
  replace hl : lv_has ls 3 [(0, .ref (a h0))] := hl
  unfold fn_X6_readForeignFunctions at hf
  refine de_start hS hP (fun H locs hS hP => ?_)
  refine lv_aload_n hx hb dX6_readForeignFunctions_0 rfl (lv_at hl 0 rfl) ?_
  obtain ⟨g_1, hf⟩ := grd_some hf
  obtain ⟨kg_1, sg_1⟩ := okO_at g_1
  obtain ⟨k_2, ek_2, hf⟩ := lnk_some hf
  refine va_get (D := (dC, dI)) (ci := 6) (v := .ref (a k_2)) (C := RX6) (T := TX6) (N := 9) hx hb hts iwd_X6_readForeignFunctions_X6 hown hK hP h0 (Wd_ob kg_1 sg_1 (by decide)) rfl 2 (by decide) (hts _ md_X6_readForeignFunctions_1) (fun _ h9 => h9) (fl_q rfl ek_2) dX6_readForeignFunctions_1 ?_
  refine lv_aload_n hx hb dX6_readForeignFunctions_4 rfl (lv_at hl 0 rfl) ?_
  refine lv_iconst (v := 0) hx hb dX6_readForeignFunctions_5 (by decide) ?_
  refine lv_bipush (v := 32) hx hb dX6_readForeignFunctions_6 (by decide) ?_
  obtain ⟨z_3, r_4, hfc, hf⟩ := cal_some hf
  have hFc := de_free hD hS hA
  refine va_calli (va_runV (As := [.int 0, .int 32]) (rest := [.ref (a k_2)]) ⟨hx, hb, hml, hown, hts⟩ (de_X6_readNumber l dC dI cy a sh n H.size F sk z h0 0 32 hfc) (cwV 2 hts gX6_readForeignFunctions_X6_readNumber rfl rfl rfl (by decide +kernel) ⟨Nat.le_of_ble_eq_true rfl, Nat.le_of_ble_eq_true rfl⟩) ⟨fun a U g mk q => by obtain ⟨q0, q1, qP, qK, qD, qN, qS⟩ := q; exact ⟨q0, q1, qP, va_K.moved (u := U) (U := U.calling g mk a) (Vm.Alike.refl U.vm) qK, qD, qN.same rfl, SKs.moved (u := U) (U := U.calling g mk a) (Vm.Alike.refl U.vm) qS⟩, va_recv hK hP (ci := 6) (q0 := h0) rfl (Wd_ob kg_1 sg_1 (by decide)), fun U hU hW => ⟨rfl, by rw [hU], by rw [hU]; exact hP, va_K.moved hW.alike hK, hD.weaken (fun _ _ _ _ => trivial), hN.warm hW, by rw [hU]; exact ((hSK.kept hS.2.1).narrow hFc).moved hW.alike⟩⟩ rfl rfl hl.1 rfl (lv_room (Nat.le_of_ble_eq_true rfl)) dX6_readForeignFunctions_8 ⟨Nat.le_of_ble_eq_true rfl, Nat.le_of_ble_eq_true rfl⟩) hS (fun q _ h => hFc q h) hFc (fun rr u t H_5 locs ht hvm hw hB hz1 hk1 hS2 => ?_)
  rw [hw]
  clear hw
  obtain ⟨hP1, -, hD1⟩ := hB
  rw [ht] at hP1
  replace hD := hD1.weaken (fun _ _ _ h => hFc _ h)
  replace hP := hP1
  replace hS := hS2
  clear hP1 hD1 hS2 hFc hfc hz1 hk1 hvm ht
  obtain ⟨g_6, hf⟩ := grd_some hf
  obtain ⟨kg_6, sg_6⟩ := okO_at g_6
  refine va_put (D := (dC, dI)) (ci := 5) (v := .int r_4) (ty := .int) (C := RX5) (T := TX5) (N := 15) hx hb hts iwd_X6_readForeignFunctions_X5 tyX5 tyX5_ok nmX5 hown hK hP hD hS k_2 (Wd_ob kg_6 sg_6 (by decide)) rfl 12 (by decide) (hts _ md_X6_readForeignFunctions_2) (fun _ h9 => h9) rfl (by decide +kernel) rfl rfl (by rw [fl_len]; decide) dX6_readForeignFunctions_11 (fun H_7 locs hP2 hD2 hS2 => ?_)
  rw [Wd_si sg_6 (by decide) rfl] at hP2 hD2
  obtain ⟨z_8, ez_8⟩ : ∃ w, w = si z_3 k_2 12 r_4 := ⟨_, rfl⟩
  rw [← ez_8] at hP2 hD2
  replace hf := lt_at ez_8 hf
  clear ez_8
  replace hP := hP2
  replace hD := hD2
  replace hS := hS2
  clear hP2 hD2 hS2
  refine lv_iconst (v := 0) hx hb dX6_readForeignFunctions_14 (by decide) ?_
  refine lv_istore_n (lv' := [(1, .int 0), (0, .ref (a h0))]) hx hb dX6_readForeignFunctions_15 rfl hl (by decide) rfl (fun ls hl2 => ?_)
  replace hl := hl2
  clear hl2
  have hl0 : lv_has ls 3 [(1, .int 0), (0, .ref (a h0))] := lv_sub hl [0, 1] rfl
  refine de_loop (h := 16) (fun (x : St × Int32) ls H locs => lv_has ls 3 [(1, .int x.2), (0, .ref (a h0))] ∧ va_P (dC, dI) vwCl (Wd cy a sh n x.1) H ∧ va_D A (Wd cy a sh n x.1) ∧ va_S A s.heap H locs) (fun f x => fn_X6_readForeignFunctions_L16 F sh n h0 f x.1 x.2) (z8, r8) ?_ (fun _ => rfl) F (z_8, 0) ls H_7 locs ⟨hl0, hP, hD, hS⟩ hf
  intro f_11 x ls H locs ih16 hI hf
  obtain ⟨z_10, p_9⟩ := x
  obtain ⟨hl2, hP2, hD2, hS2⟩ := hI
  replace hl : lv_has ls 3 [(1, .int p_9), (0, .ref (a h0))] := hl2
  replace hP := hP2
  replace hD := hD2
  replace hS := hS2
  clear hl2 hP2 hD2 hS2 hl0
  replace hf := fn_X6_readForeignFunctions_L16_s hf
  refine lv_iload_n hx hb dX6_readForeignFunctions_16 rfl (lv_at hl 0 rfl) ?_
  refine lv_aload_n hx hb dX6_readForeignFunctions_17 rfl (lv_at hl 1 rfl) ?_
  obtain ⟨k_12, ek_12, hf⟩ := lnk_some hf
  refine va_get (D := (dC, dI)) (ci := 6) (v := .ref (a k_12)) (C := RX6) (T := TX6) (N := 9) hx hb hts iwd_X6_readForeignFunctions_X6 hown hK hP h0 (Wd_ob kg_1 sg_1 (by decide)) rfl 2 (by decide) (hts _ md_X6_readForeignFunctions_1) (fun _ h9 => h9) (fl_q rfl ek_12) dX6_readForeignFunctions_18 ?_
  obtain ⟨g_13, hf⟩ := grd_some hf
  obtain ⟨kg_13, sg_13⟩ := okO_at g_13
  refine va_get (D := (dC, dI)) (ci := 5) (v := .int (z_10.1 k_12 12)) (C := RX5) (T := TX5) (N := 15) hx hb hts iwd_X6_readForeignFunctions_X5 hown hK hP k_12 (Wd_ob kg_13 sg_13 (by decide)) rfl 12 (by decide) (hts _ md_X6_readForeignFunctions_2) (fun _ h9 => h9) (fl_at (t := 0) rfl) dX6_readForeignFunctions_21 ?_
  refine lv_icmp_ge (tgt := 156) hx hb dX6_readForeignFunctions_24 (by decide) (fun c_14 => ?_) (fun c_14 => ?_)
  · skip
    rw [if_pos c_14] at hf
    obtain ⟨h8, h9⟩ := ret_some hf
    rw [h8]
    exact W.vret hx hb hr (fun t ht hW => ⟨⟨(), rfl, trivial, by rw [ht]; exact hP, va_K.moved hW.alike hK, hD⟩, hS.F ht⟩) hS.2.2 dX6_readForeignFunctions_156
  · skip
    rw [if_neg c_14] at hf
    refine lv_aload_n hx hb dX6_readForeignFunctions_27 rfl (lv_at hl 1 rfl) ?_
    refine va_get (D := (dC, dI)) (ci := 6) (v := .int (z_10.1 h0 1)) (C := RX6) (T := TX6) (N := 9) hx hb hts iwd_X6_readForeignFunctions_X6 hown hK hP h0 (Wd_ob kg_1 sg_1 (by decide)) rfl 1 (by decide) (hts _ md_X6_readForeignFunctions_3) (fun _ h9 => h9) (fl_at (t := 0) rfl) dX6_readForeignFunctions_28 ?_
    refine lv_if_ne (tgt := 156) hx hb dX6_readForeignFunctions_31 (by decide) (fun c_15 => ?_) (fun c_15 => ?_)
    · skip
      rw [if_neg c_15] at hf
      obtain ⟨h8, h9⟩ := ret_some hf
      rw [h8]
      exact W.vret hx hb hr (fun t ht hW => ⟨⟨(), rfl, trivial, by rw [ht]; exact hP, va_K.moved hW.alike hK, hD⟩, hS.F ht⟩) hS.2.2 dX6_readForeignFunctions_156
    · skip
      rw [if_pos c_15] at hf
      refine lv_bipush (v := 64) hx hb dX6_readForeignFunctions_34 (by decide) ?_
      refine lv_iload_n hx hb dX6_readForeignFunctions_36 rfl (lv_at hl 0 rfl) ?_
      refine lv_iadd hx hb dX6_readForeignFunctions_37 ?_
      refine lv_topi (fun v_16 ev_16 => ?_)
      replace hf := lt_at ev_16 hf
      clear ev_16
      refine lv_istore_n (lv' := [(2, .int v_16), (1, .int p_9), (0, .ref (a h0))]) hx hb dX6_readForeignFunctions_38 rfl hl (by decide) rfl (fun ls hl2 => ?_)
      replace hl := hl2
      clear hl2
      refine lv_aload_n hx hb dX6_readForeignFunctions_39 rfl (lv_at hl 2 rfl) ?_
      obtain ⟨k_17, ek_17, hf⟩ := lnk_some hf
      refine va_get (D := (dC, dI)) (ci := 6) (v := .ref (a k_17)) (C := RX6) (T := TX6) (N := 9) hx hb hts iwd_X6_readForeignFunctions_X6 hown hK hP h0 (Wd_ob kg_1 sg_1 (by decide)) rfl 2 (by decide) (hts _ md_X6_readForeignFunctions_1) (fun _ h9 => h9) (fl_q rfl ek_17) dX6_readForeignFunctions_40 ?_
      refine lv_iload_n hx hb dX6_readForeignFunctions_43 rfl (lv_at hl 0 rfl) ?_
      refine lv_bipush (v := 7) hx hb dX6_readForeignFunctions_44 (by decide) ?_
      refine lv_aload_n hx hb dX6_readForeignFunctions_46 rfl (lv_at hl 2 rfl) ?_
      obtain ⟨z_18, r_19, hfc, hf⟩ := cal_some hf
      have hFc := de_free hD hS hA
      refine va_calli (va_runV (As := []) (rest := [.int 7, .int v_16, .ref (a k_17)]) ⟨hx, hb, hml, hown, hts⟩ (de_X6_readShort l dC dI cy a sh n H.size F sk z_10 h0 hfc) (cwV 0 hts gX6_readForeignFunctions_X6_readShort rfl rfl rfl (by decide +kernel) ⟨Nat.le_of_ble_eq_true rfl, Nat.le_of_ble_eq_true rfl⟩) ⟨fun a U g mk q => by obtain ⟨q0, q1, qP, qK, qD, qN, qS⟩ := q; exact ⟨q0, q1, qP, va_K.moved (u := U) (U := U.calling g mk a) (Vm.Alike.refl U.vm) qK, qD, qN.same rfl, SKs.moved (u := U) (U := U.calling g mk a) (Vm.Alike.refl U.vm) qS⟩, va_recv hK hP (ci := 6) (q0 := h0) rfl (Wd_ob kg_1 sg_1 (by decide)), fun U hU hW => ⟨rfl, by rw [hU], by rw [hU]; exact hP, va_K.moved hW.alike hK, hD.weaken (fun _ _ _ _ => trivial), hN.warm hW, by rw [hU]; exact ((hSK.kept hS.2.1).narrow hFc).moved hW.alike⟩⟩ rfl rfl hl.1 rfl (lv_room (Nat.le_of_ble_eq_true rfl)) dX6_readForeignFunctions_47 ⟨Nat.le_of_ble_eq_true rfl, Nat.le_of_ble_eq_true rfl⟩) hS (fun q _ h => hFc q h) hFc (fun rr u t H_20 locs ht hvm hw hB hz1 hk1 hS2 => ?_)
      rw [hw]
      clear hw
      obtain ⟨hP1, -, hD1⟩ := hB
      rw [ht] at hP1
      replace hD := hD1.weaken (fun _ _ _ h => hFc _ h)
      replace hP := hP1
      replace hS := hS2
      clear hP1 hD1 hS2 hFc hfc hz1 hk1 hvm ht
      obtain ⟨g_22, hf⟩ := grd_some hf
      obtain ⟨kg_22, sg_22⟩ := okO_at g_22
      obtain ⟨z_21, _u, hfc, hf⟩ := cal_some hf
      have hFc := de_free hD hS hA
      refine va_callv (va_runV (As := [.int v_16, .int 7, .int r_19]) (rest := []) ⟨hx, hb, hml, hown, hts⟩ (de_X5_setFunction l dC dI cy a sh n H_20.size F z_18 k_17 v_16 7 r_19 hfc) (cwV 3 hts gX6_readForeignFunctions_X5_setFunction rfl rfl rfl (by decide +kernel) ⟨Nat.le_of_ble_eq_true rfl, Nat.le_of_ble_eq_true rfl⟩) ⟨fun a U g mk q => by obtain ⟨q0, q1, qP, qK, qD, qN⟩ := q; exact ⟨q0, q1, qP, va_K.moved (u := U) (U := U.calling g mk a) (Vm.Alike.refl U.vm) qK, qD, qN.same rfl⟩, va_recv hK hP (ci := 5) (q0 := k_17) rfl (Wd_ob kg_22 sg_22 (by decide)), fun U hU hW => ⟨rfl, by rw [hU], by rw [hU]; exact hP, va_K.moved hW.alike hK, hD.weaken (fun _ _ _ _ => trivial), hN.warm hW⟩⟩ rfl rfl hl.1 rfl (lv_room (Nat.le_of_ble_eq_true rfl)) dX6_readForeignFunctions_50 ⟨Nat.le_of_ble_eq_true rfl, Nat.le_of_ble_eq_true rfl⟩) hS (fun q _ h => hFc q h) hFc (fun u t H_23 locs ht hvm hw hB hz1 hk1 hS2 => ?_)
      obtain ⟨hP1, -, hD1⟩ := hB
      rw [ht] at hP1
      replace hD := hD1.weaken (fun _ _ _ h => hFc _ h)
      replace hP := hP1
      replace hS := hS2
      clear hP1 hD1 hS2 hFc hfc hz1 hk1 hvm ht
      refine lv_aload_n hx hb dX6_readForeignFunctions_53 rfl (lv_at hl 2 rfl) ?_
      obtain ⟨k_24, ek_24, hf⟩ := lnk_some hf
      refine va_get (D := (dC, dI)) (ci := 6) (v := .ref (a k_24)) (C := RX6) (T := TX6) (N := 9) hx hb hts iwd_X6_readForeignFunctions_X6 hown hK hP h0 (Wd_ob kg_1 sg_1 (by decide)) rfl 2 (by decide) (hts _ md_X6_readForeignFunctions_1) (fun _ h9 => h9) (fl_q rfl ek_24) dX6_readForeignFunctions_54 ?_
      refine lv_iload_n hx hb dX6_readForeignFunctions_57 rfl (lv_at hl 0 rfl) ?_
      refine lv_bipush (v := 8) hx hb dX6_readForeignFunctions_58 (by decide) ?_
      refine lv_aload_n hx hb dX6_readForeignFunctions_60 rfl (lv_at hl 2 rfl) ?_
      obtain ⟨z_25, r_26, hfc, hf⟩ := cal_some hf
      have hFc := de_free hD hS hA
      refine va_calli (va_runV (As := []) (rest := [.int 8, .int v_16, .ref (a k_24)]) ⟨hx, hb, hml, hown, hts⟩ (de_X6_readByte l dC dI cy a sh n H_23.size F sk z_21 h0 hfc) (cwV 0 hts gX6_readForeignFunctions_X6_readByte rfl rfl rfl (by decide +kernel) ⟨Nat.le_of_ble_eq_true rfl, Nat.le_of_ble_eq_true rfl⟩) ⟨fun a U g mk q => by obtain ⟨q0, q1, qP, qK, qD, qN, qS⟩ := q; exact ⟨q0, q1, qP, va_K.moved (u := U) (U := U.calling g mk a) (Vm.Alike.refl U.vm) qK, qD, qN.same rfl, SKs.moved (u := U) (U := U.calling g mk a) (Vm.Alike.refl U.vm) qS⟩, va_recv hK hP (ci := 6) (q0 := h0) rfl (Wd_ob kg_1 sg_1 (by decide)), fun U hU hW => ⟨rfl, by rw [hU], by rw [hU]; exact hP, va_K.moved hW.alike hK, hD.weaken (fun _ _ _ _ => trivial), hN.warm hW, by rw [hU]; exact ((hSK.kept hS.2.1).narrow hFc).moved hW.alike⟩⟩ rfl rfl hl.1 rfl (lv_room (Nat.le_of_ble_eq_true rfl)) dX6_readForeignFunctions_61 ⟨Nat.le_of_ble_eq_true rfl, Nat.le_of_ble_eq_true rfl⟩) hS (fun q _ h => hFc q h) hFc (fun rr u t H_27 locs ht hvm hw hB hz1 hk1 hS2 => ?_)
      rw [hw]
      clear hw
      obtain ⟨hP1, -, hD1⟩ := hB
      rw [ht] at hP1
      replace hD := hD1.weaken (fun _ _ _ h => hFc _ h)
      replace hP := hP1
      replace hS := hS2
      clear hP1 hD1 hS2 hFc hfc hz1 hk1 hvm ht
      obtain ⟨g_29, hf⟩ := grd_some hf
      obtain ⟨kg_29, sg_29⟩ := okO_at g_29
      obtain ⟨z_28, _u, hfc, hf⟩ := cal_some hf
      have hFc := de_free hD hS hA
      refine va_callv (va_runV (As := [.int v_16, .int 8, .int r_26]) (rest := []) ⟨hx, hb, hml, hown, hts⟩ (de_X5_setFunction l dC dI cy a sh n H_27.size F z_25 k_24 v_16 8 r_26 hfc) (cwV 3 hts gX6_readForeignFunctions_X5_setFunction rfl rfl rfl (by decide +kernel) ⟨Nat.le_of_ble_eq_true rfl, Nat.le_of_ble_eq_true rfl⟩) ⟨fun a U g mk q => by obtain ⟨q0, q1, qP, qK, qD, qN⟩ := q; exact ⟨q0, q1, qP, va_K.moved (u := U) (U := U.calling g mk a) (Vm.Alike.refl U.vm) qK, qD, qN.same rfl⟩, va_recv hK hP (ci := 5) (q0 := k_24) rfl (Wd_ob kg_29 sg_29 (by decide)), fun U hU hW => ⟨rfl, by rw [hU], by rw [hU]; exact hP, va_K.moved hW.alike hK, hD.weaken (fun _ _ _ _ => trivial), hN.warm hW⟩⟩ rfl rfl hl.1 rfl (lv_room (Nat.le_of_ble_eq_true rfl)) dX6_readForeignFunctions_64 ⟨Nat.le_of_ble_eq_true rfl, Nat.le_of_ble_eq_true rfl⟩) hS (fun q _ h => hFc q h) hFc (fun u t H_30 locs ht hvm hw hB hz1 hk1 hS2 => ?_)
      obtain ⟨hP1, -, hD1⟩ := hB
      rw [ht] at hP1
      replace hD := hD1.weaken (fun _ _ _ h => hFc _ h)
      replace hP := hP1
      replace hS := hS2
      clear hP1 hD1 hS2 hFc hfc hz1 hk1 hvm ht
      refine lv_aload_n hx hb dX6_readForeignFunctions_67 rfl (lv_at hl 2 rfl) ?_
      obtain ⟨k_31, ek_31, hf⟩ := lnk_some hf
      refine va_get (D := (dC, dI)) (ci := 6) (v := .ref (a k_31)) (C := RX6) (T := TX6) (N := 9) hx hb hts iwd_X6_readForeignFunctions_X6 hown hK hP h0 (Wd_ob kg_1 sg_1 (by decide)) rfl 2 (by decide) (hts _ md_X6_readForeignFunctions_1) (fun _ h9 => h9) (fl_q rfl ek_31) dX6_readForeignFunctions_68 ?_
      refine lv_iload_n hx hb dX6_readForeignFunctions_71 rfl (lv_at hl 0 rfl) ?_
      refine lv_iconst (v := 0) hx hb dX6_readForeignFunctions_72 (by decide) ?_
      refine lv_aload_n hx hb dX6_readForeignFunctions_73 rfl (lv_at hl 2 rfl) ?_
      refine lv_iconst (v := 0) hx hb dX6_readForeignFunctions_74 (by decide) ?_
      refine lv_bipush (v := 7) hx hb dX6_readForeignFunctions_75 (by decide) ?_
      obtain ⟨z_32, r_33, hfc, hf⟩ := cal_some hf
      have hFc := de_free hD hS hA
      refine va_calli (va_runV (As := [.int 0, .int 7]) (rest := [.int 0, .int v_16, .ref (a k_31)]) ⟨hx, hb, hml, hown, hts⟩ (de_X6_readNumber l dC dI cy a sh n H_30.size F sk z_28 h0 0 7 hfc) (cwV 2 hts gX6_readForeignFunctions_X6_readNumber rfl rfl rfl (by decide +kernel) ⟨Nat.le_of_ble_eq_true rfl, Nat.le_of_ble_eq_true rfl⟩) ⟨fun a U g mk q => by obtain ⟨q0, q1, qP, qK, qD, qN, qS⟩ := q; exact ⟨q0, q1, qP, va_K.moved (u := U) (U := U.calling g mk a) (Vm.Alike.refl U.vm) qK, qD, qN.same rfl, SKs.moved (u := U) (U := U.calling g mk a) (Vm.Alike.refl U.vm) qS⟩, va_recv hK hP (ci := 6) (q0 := h0) rfl (Wd_ob kg_1 sg_1 (by decide)), fun U hU hW => ⟨rfl, by rw [hU], by rw [hU]; exact hP, va_K.moved hW.alike hK, hD.weaken (fun _ _ _ _ => trivial), hN.warm hW, by rw [hU]; exact ((hSK.kept hS.2.1).narrow hFc).moved hW.alike⟩⟩ rfl rfl hl.1 rfl (lv_room (Nat.le_of_ble_eq_true rfl)) dX6_readForeignFunctions_77 ⟨Nat.le_of_ble_eq_true rfl, Nat.le_of_ble_eq_true rfl⟩) hS (fun q _ h => hFc q h) hFc (fun rr u t H_34 locs ht hvm hw hB hz1 hk1 hS2 => ?_)
      rw [hw]
      clear hw
      obtain ⟨hP1, -, hD1⟩ := hB
      rw [ht] at hP1
      replace hD := hD1.weaken (fun _ _ _ h => hFc _ h)
      replace hP := hP1
      replace hS := hS2
      clear hP1 hD1 hS2 hFc hfc hz1 hk1 hvm ht
      obtain ⟨g_36, hf⟩ := grd_some hf
      obtain ⟨kg_36, sg_36⟩ := okO_at g_36
      obtain ⟨z_35, _u, hfc, hf⟩ := cal_some hf
      have hFc := de_free hD hS hA
      refine va_callv (va_runV (As := [.int v_16, .int 0, .int r_33]) (rest := []) ⟨hx, hb, hml, hown, hts⟩ (de_X5_setFunction l dC dI cy a sh n H_34.size F z_32 k_31 v_16 0 r_33 hfc) (cwV 3 hts gX6_readForeignFunctions_X5_setFunction rfl rfl rfl (by decide +kernel) ⟨Nat.le_of_ble_eq_true rfl, Nat.le_of_ble_eq_true rfl⟩) ⟨fun a U g mk q => by obtain ⟨q0, q1, qP, qK, qD, qN⟩ := q; exact ⟨q0, q1, qP, va_K.moved (u := U) (U := U.calling g mk a) (Vm.Alike.refl U.vm) qK, qD, qN.same rfl⟩, va_recv hK hP (ci := 5) (q0 := k_31) rfl (Wd_ob kg_36 sg_36 (by decide)), fun U hU hW => ⟨rfl, by rw [hU], by rw [hU]; exact hP, va_K.moved hW.alike hK, hD.weaken (fun _ _ _ _ => trivial), hN.warm hW⟩⟩ rfl rfl hl.1 rfl (lv_room (Nat.le_of_ble_eq_true rfl)) dX6_readForeignFunctions_80 ⟨Nat.le_of_ble_eq_true rfl, Nat.le_of_ble_eq_true rfl⟩) hS (fun q _ h => hFc q h) hFc (fun u t H_37 locs ht hvm hw hB hz1 hk1 hS2 => ?_)
      obtain ⟨hP1, -, hD1⟩ := hB
      rw [ht] at hP1
      replace hD := hD1.weaken (fun _ _ _ h => hFc _ h)
      replace hP := hP1
      replace hS := hS2
      clear hP1 hD1 hS2 hFc hfc hz1 hk1 hvm ht
      refine lv_aload_n hx hb dX6_readForeignFunctions_83 rfl (lv_at hl 2 rfl) ?_
      obtain ⟨k_38, ek_38, hf⟩ := lnk_some hf
      refine va_get (D := (dC, dI)) (ci := 6) (v := .ref (a k_38)) (C := RX6) (T := TX6) (N := 9) hx hb hts iwd_X6_readForeignFunctions_X6 hown hK hP h0 (Wd_ob kg_1 sg_1 (by decide)) rfl 2 (by decide) (hts _ md_X6_readForeignFunctions_1) (fun _ h9 => h9) (fl_q rfl ek_38) dX6_readForeignFunctions_84 ?_
      refine lv_iload_n hx hb dX6_readForeignFunctions_87 rfl (lv_at hl 0 rfl) ?_
      refine lv_iconst (v := 1) hx hb dX6_readForeignFunctions_88 (by decide) ?_
      refine lv_aload_n hx hb dX6_readForeignFunctions_89 rfl (lv_at hl 2 rfl) ?_
      obtain ⟨k_39, ek_39, hf⟩ := lnk_some hf
      refine va_get (D := (dC, dI)) (ci := 6) (v := .ref (a k_39)) (C := RX6) (T := TX6) (N := 9) hx hb hts iwd_X6_readForeignFunctions_X6 hown hK hP h0 (Wd_ob kg_1 sg_1 (by decide)) rfl 2 (by decide) (hts _ md_X6_readForeignFunctions_1) (fun _ h9 => h9) (fl_q rfl ek_39) dX6_readForeignFunctions_90 ?_
      obtain ⟨g_40, hf⟩ := grd_some hf
      obtain ⟨kg_40, sg_40⟩ := okO_at g_40
      refine va_get (D := (dC, dI)) (ci := 5) (v := .int (z_35.1 k_39 4)) (C := RX5) (T := TX5) (N := 15) hx hb hts iwd_X6_readForeignFunctions_X5 hown hK hP k_39 (Wd_ob kg_40 sg_40 (by decide)) rfl 4 (by decide) (hts _ md_X6_readForeignFunctions_4) (fun _ h9 => h9) (fl_at (t := 0) rfl) dX6_readForeignFunctions_93 ?_
      obtain ⟨g_42, hf⟩ := grd_some hf
      obtain ⟨kg_42, sg_42⟩ := okO_at g_42
      obtain ⟨z_41, _u, hfc, hf⟩ := cal_some hf
      have hFc := de_free hD hS hA
      refine va_callv (va_runV (As := [.int v_16, .int 1, .int (z_35.1 k_39 4)]) (rest := []) ⟨hx, hb, hml, hown, hts⟩ (de_X5_setFunction l dC dI cy a sh n H_37.size F z_35 k_38 v_16 1 (z_35.1 k_39 4) hfc) (cwV 3 hts gX6_readForeignFunctions_X5_setFunction rfl rfl rfl (by decide +kernel) ⟨Nat.le_of_ble_eq_true rfl, Nat.le_of_ble_eq_true rfl⟩) ⟨fun a U g mk q => by obtain ⟨q0, q1, qP, qK, qD, qN⟩ := q; exact ⟨q0, q1, qP, va_K.moved (u := U) (U := U.calling g mk a) (Vm.Alike.refl U.vm) qK, qD, qN.same rfl⟩, va_recv hK hP (ci := 5) (q0 := k_38) rfl (Wd_ob kg_42 sg_42 (by decide)), fun U hU hW => ⟨rfl, by rw [hU], by rw [hU]; exact hP, va_K.moved hW.alike hK, hD.weaken (fun _ _ _ _ => trivial), hN.warm hW⟩⟩ rfl rfl hl.1 rfl (lv_room (Nat.le_of_ble_eq_true rfl)) dX6_readForeignFunctions_96 ⟨Nat.le_of_ble_eq_true rfl, Nat.le_of_ble_eq_true rfl⟩) hS (fun q _ h => hFc q h) hFc (fun u t H_43 locs ht hvm hw hB hz1 hk1 hS2 => ?_)
      obtain ⟨hP1, -, hD1⟩ := hB
      rw [ht] at hP1
      replace hD := hD1.weaken (fun _ _ _ h => hFc _ h)
      replace hP := hP1
      replace hS := hS2
      clear hP1 hD1 hS2 hFc hfc hz1 hk1 hvm ht
      refine lv_aload_n hx hb dX6_readForeignFunctions_99 rfl (lv_at hl 2 rfl) ?_
      obtain ⟨k_44, ek_44, hf⟩ := lnk_some hf
      refine va_get (D := (dC, dI)) (ci := 6) (v := .ref (a k_44)) (C := RX6) (T := TX6) (N := 9) hx hb hts iwd_X6_readForeignFunctions_X6 hown hK hP h0 (Wd_ob kg_1 sg_1 (by decide)) rfl 2 (by decide) (hts _ md_X6_readForeignFunctions_1) (fun _ h9 => h9) (fl_q rfl ek_44) dX6_readForeignFunctions_100 ?_
      refine lv_iload_n hx hb dX6_readForeignFunctions_103 rfl (lv_at hl 0 rfl) ?_
      refine lv_iconst (v := 2) hx hb dX6_readForeignFunctions_104 (by decide) ?_
      refine lv_aload_n hx hb dX6_readForeignFunctions_105 rfl (lv_at hl 2 rfl) ?_
      refine lv_bipush (v := 8) hx hb dX6_readForeignFunctions_106 (by decide) ?_
      obtain ⟨z_45, r_46, hfc, hf⟩ := cal_some hf
      have hFc := de_free hD hS hA
      refine va_calli (va_runV (As := [.int 8]) (rest := [.int 2, .int v_16, .ref (a k_44)]) ⟨hx, hb, hml, hown, hts⟩ (de_X6_readList l dC dI cy a sh n H_43.size F sk z_41 h0 8 hfc) (cwV 1 hts gX6_readForeignFunctions_X6_readList rfl rfl rfl (by decide +kernel) ⟨Nat.le_of_ble_eq_true rfl, Nat.le_of_ble_eq_true rfl⟩) ⟨fun a U g mk q => by obtain ⟨q0, q1, qP, qK, qD, qN, qS⟩ := q; exact ⟨q0, q1, qP, va_K.moved (u := U) (U := U.calling g mk a) (Vm.Alike.refl U.vm) qK, qD, qN.same rfl, SKs.moved (u := U) (U := U.calling g mk a) (Vm.Alike.refl U.vm) qS⟩, va_recv hK hP (ci := 6) (q0 := h0) rfl (Wd_ob kg_1 sg_1 (by decide)), fun U hU hW => ⟨rfl, by rw [hU], by rw [hU]; exact hP, va_K.moved hW.alike hK, hD.weaken (fun _ _ _ _ => trivial), hN.warm hW, by rw [hU]; exact ((hSK.kept hS.2.1).narrow hFc).moved hW.alike⟩⟩ rfl rfl hl.1 rfl (lv_room (Nat.le_of_ble_eq_true rfl)) dX6_readForeignFunctions_108 ⟨Nat.le_of_ble_eq_true rfl, Nat.le_of_ble_eq_true rfl⟩) hS (fun q _ h => hFc q h) hFc (fun rr u t H_47 locs ht hvm hw hB hz1 hk1 hS2 => ?_)
      rw [hw]
      clear hw
      obtain ⟨hP1, -, hD1⟩ := hB
      rw [ht] at hP1
      replace hD := hD1.weaken (fun _ _ _ h => hFc _ h)
      replace hP := hP1
      replace hS := hS2
      clear hP1 hD1 hS2 hFc hfc hz1 hk1 hvm ht
      obtain ⟨g_49, hf⟩ := grd_some hf
      obtain ⟨kg_49, sg_49⟩ := okO_at g_49
      obtain ⟨z_48, _u, hfc, hf⟩ := cal_some hf
      have hFc := de_free hD hS hA
      refine va_callv (va_runV (As := [.int v_16, .int 2, .int r_46]) (rest := []) ⟨hx, hb, hml, hown, hts⟩ (de_X5_setFunction l dC dI cy a sh n H_47.size F z_45 k_44 v_16 2 r_46 hfc) (cwV 3 hts gX6_readForeignFunctions_X5_setFunction rfl rfl rfl (by decide +kernel) ⟨Nat.le_of_ble_eq_true rfl, Nat.le_of_ble_eq_true rfl⟩) ⟨fun a U g mk q => by obtain ⟨q0, q1, qP, qK, qD, qN⟩ := q; exact ⟨q0, q1, qP, va_K.moved (u := U) (U := U.calling g mk a) (Vm.Alike.refl U.vm) qK, qD, qN.same rfl⟩, va_recv hK hP (ci := 5) (q0 := k_44) rfl (Wd_ob kg_49 sg_49 (by decide)), fun U hU hW => ⟨rfl, by rw [hU], by rw [hU]; exact hP, va_K.moved hW.alike hK, hD.weaken (fun _ _ _ _ => trivial), hN.warm hW⟩⟩ rfl rfl hl.1 rfl (lv_room (Nat.le_of_ble_eq_true rfl)) dX6_readForeignFunctions_111 ⟨Nat.le_of_ble_eq_true rfl, Nat.le_of_ble_eq_true rfl⟩) hS (fun q _ h => hFc q h) hFc (fun u t H_50 locs ht hvm hw hB hz1 hk1 hS2 => ?_)
      obtain ⟨hP1, -, hD1⟩ := hB
      rw [ht] at hP1
      replace hD := hD1.weaken (fun _ _ _ h => hFc _ h)
      replace hP := hP1
      replace hS := hS2
      clear hP1 hD1 hS2 hFc hfc hz1 hk1 hvm ht
      refine lv_aload_n hx hb dX6_readForeignFunctions_114 rfl (lv_at hl 2 rfl) ?_
      obtain ⟨k_51, ek_51, hf⟩ := lnk_some hf
      refine va_get (D := (dC, dI)) (ci := 6) (v := .ref (a k_51)) (C := RX6) (T := TX6) (N := 9) hx hb hts iwd_X6_readForeignFunctions_X6 hown hK hP h0 (Wd_ob kg_1 sg_1 (by decide)) rfl 2 (by decide) (hts _ md_X6_readForeignFunctions_1) (fun _ h9 => h9) (fl_q rfl ek_51) dX6_readForeignFunctions_115 ?_
      refine lv_iload_n hx hb dX6_readForeignFunctions_118 rfl (lv_at hl 0 rfl) ?_
      refine lv_iconst (v := 3) hx hb dX6_readForeignFunctions_119 (by decide) ?_
      refine lv_aload_n hx hb dX6_readForeignFunctions_120 rfl (lv_at hl 2 rfl) ?_
      refine lv_bipush (v := 8) hx hb dX6_readForeignFunctions_121 (by decide) ?_
      obtain ⟨z_52, r_53, hfc, hf⟩ := cal_some hf
      have hFc := de_free hD hS hA
      refine va_calli (va_runV (As := [.int 8]) (rest := [.int 3, .int v_16, .ref (a k_51)]) ⟨hx, hb, hml, hown, hts⟩ (de_X6_readList l dC dI cy a sh n H_50.size F sk z_48 h0 8 hfc) (cwV 1 hts gX6_readForeignFunctions_X6_readList rfl rfl rfl (by decide +kernel) ⟨Nat.le_of_ble_eq_true rfl, Nat.le_of_ble_eq_true rfl⟩) ⟨fun a U g mk q => by obtain ⟨q0, q1, qP, qK, qD, qN, qS⟩ := q; exact ⟨q0, q1, qP, va_K.moved (u := U) (U := U.calling g mk a) (Vm.Alike.refl U.vm) qK, qD, qN.same rfl, SKs.moved (u := U) (U := U.calling g mk a) (Vm.Alike.refl U.vm) qS⟩, va_recv hK hP (ci := 6) (q0 := h0) rfl (Wd_ob kg_1 sg_1 (by decide)), fun U hU hW => ⟨rfl, by rw [hU], by rw [hU]; exact hP, va_K.moved hW.alike hK, hD.weaken (fun _ _ _ _ => trivial), hN.warm hW, by rw [hU]; exact ((hSK.kept hS.2.1).narrow hFc).moved hW.alike⟩⟩ rfl rfl hl.1 rfl (lv_room (Nat.le_of_ble_eq_true rfl)) dX6_readForeignFunctions_123 ⟨Nat.le_of_ble_eq_true rfl, Nat.le_of_ble_eq_true rfl⟩) hS (fun q _ h => hFc q h) hFc (fun rr u t H_54 locs ht hvm hw hB hz1 hk1 hS2 => ?_)
      rw [hw]
      clear hw
      obtain ⟨hP1, -, hD1⟩ := hB
      rw [ht] at hP1
      replace hD := hD1.weaken (fun _ _ _ h => hFc _ h)
      replace hP := hP1
      replace hS := hS2
      clear hP1 hD1 hS2 hFc hfc hz1 hk1 hvm ht
      obtain ⟨g_56, hf⟩ := grd_some hf
      obtain ⟨kg_56, sg_56⟩ := okO_at g_56
      obtain ⟨z_55, _u, hfc, hf⟩ := cal_some hf
      have hFc := de_free hD hS hA
      refine va_callv (va_runV (As := [.int v_16, .int 3, .int r_53]) (rest := []) ⟨hx, hb, hml, hown, hts⟩ (de_X5_setFunction l dC dI cy a sh n H_54.size F z_52 k_51 v_16 3 r_53 hfc) (cwV 3 hts gX6_readForeignFunctions_X5_setFunction rfl rfl rfl (by decide +kernel) ⟨Nat.le_of_ble_eq_true rfl, Nat.le_of_ble_eq_true rfl⟩) ⟨fun a U g mk q => by obtain ⟨q0, q1, qP, qK, qD, qN⟩ := q; exact ⟨q0, q1, qP, va_K.moved (u := U) (U := U.calling g mk a) (Vm.Alike.refl U.vm) qK, qD, qN.same rfl⟩, va_recv hK hP (ci := 5) (q0 := k_51) rfl (Wd_ob kg_56 sg_56 (by decide)), fun U hU hW => ⟨rfl, by rw [hU], by rw [hU]; exact hP, va_K.moved hW.alike hK, hD.weaken (fun _ _ _ _ => trivial), hN.warm hW⟩⟩ rfl rfl hl.1 rfl (lv_room (Nat.le_of_ble_eq_true rfl)) dX6_readForeignFunctions_126 ⟨Nat.le_of_ble_eq_true rfl, Nat.le_of_ble_eq_true rfl⟩) hS (fun q _ h => hFc q h) hFc (fun u t H_57 locs ht hvm hw hB hz1 hk1 hS2 => ?_)
      obtain ⟨hP1, -, hD1⟩ := hB
      rw [ht] at hP1
      replace hD := hD1.weaken (fun _ _ _ h => hFc _ h)
      replace hP := hP1
      replace hS := hS2
      clear hP1 hD1 hS2 hFc hfc hz1 hk1 hvm ht
      refine lv_aload_n hx hb dX6_readForeignFunctions_129 rfl (lv_at hl 2 rfl) ?_
      obtain ⟨k_58, ek_58, hf⟩ := lnk_some hf
      refine va_get (D := (dC, dI)) (ci := 6) (v := .ref (a k_58)) (C := RX6) (T := TX6) (N := 9) hx hb hts iwd_X6_readForeignFunctions_X6 hown hK hP h0 (Wd_ob kg_1 sg_1 (by decide)) rfl 2 (by decide) (hts _ md_X6_readForeignFunctions_1) (fun _ h9 => h9) (fl_q rfl ek_58) dX6_readForeignFunctions_130 ?_
      refine lv_iload_n hx hb dX6_readForeignFunctions_133 rfl (lv_at hl 0 rfl) ?_
      refine lv_iconst (v := 4) hx hb dX6_readForeignFunctions_134 (by decide) ?_
      refine lv_iconst (v := 0) hx hb dX6_readForeignFunctions_135 (by decide) ?_
      obtain ⟨g_60, hf⟩ := grd_some hf
      obtain ⟨kg_60, sg_60⟩ := okO_at g_60
      obtain ⟨z_59, _u, hfc, hf⟩ := cal_some hf
      have hFc := de_free hD hS hA
      refine va_callv (va_runV (As := [.int v_16, .int 4, .int 0]) (rest := []) ⟨hx, hb, hml, hown, hts⟩ (de_X5_setFunction l dC dI cy a sh n H_57.size F z_55 k_58 v_16 4 0 hfc) (cwV 3 hts gX6_readForeignFunctions_X5_setFunction rfl rfl rfl (by decide +kernel) ⟨Nat.le_of_ble_eq_true rfl, Nat.le_of_ble_eq_true rfl⟩) ⟨fun a U g mk q => by obtain ⟨q0, q1, qP, qK, qD, qN⟩ := q; exact ⟨q0, q1, qP, va_K.moved (u := U) (U := U.calling g mk a) (Vm.Alike.refl U.vm) qK, qD, qN.same rfl⟩, va_recv hK hP (ci := 5) (q0 := k_58) rfl (Wd_ob kg_60 sg_60 (by decide)), fun U hU hW => ⟨rfl, by rw [hU], by rw [hU]; exact hP, va_K.moved hW.alike hK, hD.weaken (fun _ _ _ _ => trivial), hN.warm hW⟩⟩ rfl rfl hl.1 rfl (lv_room (Nat.le_of_ble_eq_true rfl)) dX6_readForeignFunctions_136 ⟨Nat.le_of_ble_eq_true rfl, Nat.le_of_ble_eq_true rfl⟩) hS (fun q _ h => hFc q h) hFc (fun u t H_61 locs ht hvm hw hB hz1 hk1 hS2 => ?_)
      obtain ⟨hP1, -, hD1⟩ := hB
      rw [ht] at hP1
      replace hD := hD1.weaken (fun _ _ _ h => hFc _ h)
      replace hP := hP1
      replace hS := hS2
      clear hP1 hD1 hS2 hFc hfc hz1 hk1 hvm ht
      refine lv_aload_n hx hb dX6_readForeignFunctions_139 rfl (lv_at hl 2 rfl) ?_
      obtain ⟨k_62, ek_62, hf⟩ := lnk_some hf
      refine va_get (D := (dC, dI)) (ci := 6) (v := .ref (a k_62)) (C := RX6) (T := TX6) (N := 9) hx hb hts iwd_X6_readForeignFunctions_X6 hown hK hP h0 (Wd_ob kg_1 sg_1 (by decide)) rfl 2 (by decide) (hts _ md_X6_readForeignFunctions_1) (fun _ h9 => h9) (fl_q rfl ek_62) dX6_readForeignFunctions_140 ?_
      refine lv_iload_n hx hb dX6_readForeignFunctions_143 rfl (lv_at hl 0 rfl) ?_
      refine lv_bipush (v := 6) hx hb dX6_readForeignFunctions_144 (by decide) ?_
      refine lv_iconst (v := 0) hx hb dX6_readForeignFunctions_146 (by decide) ?_
      obtain ⟨g_64, hf⟩ := grd_some hf
      obtain ⟨kg_64, sg_64⟩ := okO_at g_64
      obtain ⟨z_63, _u, hfc, hf⟩ := cal_some hf
      have hFc := de_free hD hS hA
      refine va_callv (va_runV (As := [.int v_16, .int 6, .int 0]) (rest := []) ⟨hx, hb, hml, hown, hts⟩ (de_X5_setFunction l dC dI cy a sh n H_61.size F z_59 k_62 v_16 6 0 hfc) (cwV 3 hts gX6_readForeignFunctions_X5_setFunction rfl rfl rfl (by decide +kernel) ⟨Nat.le_of_ble_eq_true rfl, Nat.le_of_ble_eq_true rfl⟩) ⟨fun a U g mk q => by obtain ⟨q0, q1, qP, qK, qD, qN⟩ := q; exact ⟨q0, q1, qP, va_K.moved (u := U) (U := U.calling g mk a) (Vm.Alike.refl U.vm) qK, qD, qN.same rfl⟩, va_recv hK hP (ci := 5) (q0 := k_62) rfl (Wd_ob kg_64 sg_64 (by decide)), fun U hU hW => ⟨rfl, by rw [hU], by rw [hU]; exact hP, va_K.moved hW.alike hK, hD.weaken (fun _ _ _ _ => trivial), hN.warm hW⟩⟩ rfl rfl hl.1 rfl (lv_room (Nat.le_of_ble_eq_true rfl)) dX6_readForeignFunctions_147 ⟨Nat.le_of_ble_eq_true rfl, Nat.le_of_ble_eq_true rfl⟩) hS (fun q _ h => hFc q h) hFc (fun u t H_65 locs ht hvm hw hB hz1 hk1 hS2 => ?_)
      obtain ⟨hP1, -, hD1⟩ := hB
      rw [ht] at hP1
      replace hD := hD1.weaken (fun _ _ _ h => hFc _ h)
      replace hP := hP1
      replace hS := hS2
      clear hP1 hD1 hS2 hFc hfc hz1 hk1 hvm ht
      refine lv_iinc (v := (p_9 + 1)) (lv' := [(1, .int (p_9 + 1)), (2, .int v_16), (0, .ref (a h0))]) hx hb dX6_readForeignFunctions_150 hl (k := 1) rfl rfl (by decide) rfl (fun ls hl2 => ?_)
      replace hl := hl2
      clear hl2
      refine lv_goto (tgt := 16) hx hb dX6_readForeignFunctions_153 (by decide) ?_
      exact ih16 (z_63, (p_9 + 1)) ls H_65 locs ⟨lv_sub hl [0, 2] rfl, hP, hD, hS⟩ hf

theorem md_X2_commit_1 : (.fieldLink RX2 46 "ResourceLedger$Journal" "count" "I" : Cond) ∈ wsX2_commit := List.mem_of_getElem? (i := 1) rfl
theorem iwd_X2_commit_X2 : ∀ w ∈ wsX20, w ∈ wsX2_commit := fun _ h => List.mem_cons_of_mem _ (List.mem_append_left _ (List.mem_append_left _ (List.mem_append_right _ h)))
theorem md_X2_commit_2 : (.fieldLink RX2 11 "ResourceLedger$Journal" "kind" "[I" : Cond) ∈ wsX2_commit := List.mem_of_getElem? (i := 2) rfl
theorem md_X2_commit_4 : (.fieldLink RX2 29 "ResourceLedger$Journal" "isThere" "[Z" : Cond) ∈ wsX2_commit := List.mem_of_getElem? (i := 4) rfl
theorem md_X2_commit_5 : (.fieldLink RX2 38 "ResourceLedger$Journal" "state" "LResourceLedger$State;" : Cond) ∈ wsX2_commit := List.mem_of_getElem? (i := 5) rfl
theorem md_X2_commit_6 : (.fieldLink RX2 15 "ResourceLedger$Journal" "address" "[J" : Cond) ∈ wsX2_commit := List.mem_of_getElem? (i := 6) rfl
theorem md_X2_commit_9 : (.fieldLink RX2 68 "ResourceLedger$State" "balance" "[J" : Cond) ∈ wsX2_commit := List.mem_of_getElem? (i := 9) rfl
theorem iwd_X2_commit_X7 : ∀ w ∈ wsX70, w ∈ wsX2_commit := fun _ h => List.mem_cons_of_mem _ (List.mem_append_left _ (List.mem_append_right _ h))
theorem md_X2_commit_10 : (.fieldLink RX2 32 "ResourceLedger$Journal" "balance" "[J" : Cond) ∈ wsX2_commit := List.mem_of_getElem? (i := 10) rfl
theorem md_X2_commit_3 : (.fieldLink RX2 25 "ResourceLedger$Journal" "wasThere" "[Z" : Cond) ∈ wsX2_commit := List.mem_of_getElem? (i := 3) rfl
theorem md_X2_commit_7 : (.fieldLink RX2 19 "ResourceLedger$Journal" "module" "[I" : Cond) ∈ wsX2_commit := List.mem_of_getElem? (i := 7) rfl
theorem md_X2_commit_8 : (.fieldLink RX2 22 "ResourceLedger$Journal" "structure" "[I" : Cond) ∈ wsX2_commit := List.mem_of_getElem? (i := 8) rfl
set_option maxHeartbeats 4000000 in
set_option maxRecDepth 100000 in
theorem de_X2_commit (l : Launch) (dC : Nat → ClassId) (dI : Nat → Nat → Nat) (cy : Nat → ClassId) (a : Nat → Nat) (sh : Nat → Nat × Nat) (n sz : Nat) (F : Nat) (z : St) (h0 : Nat) {z8 : St} {r8 : Unit} (hf : fn_X2_commit F sh n z h0 = some (z8, r8)) : Met l yX2_commit wsX2_commit ({ frames := 52, cells := 0, slots := 0, locals := 1394 }) (va_Pc [.ref (a h0)] (fun U => U.heap.size = sz ∧ va_P (dC, dI) vwCl (Wd cy a sh n z) U.heap ∧ va_K (dC, dI) vwCl (TYS cy) U ∧ va_D (fun _ => True) (Wd cy a sh n z) ∧ NK U)) (va_Qv (fun u : Unit => True) (fun u t => va_P (dC, dI) vwCl (Wd cy a sh n z8) t.heap ∧ va_K (dC, dI) vwCl (TYS cy) t ∧ va_D (va_A (Wd cy a sh n z) sz) (Wd cy a sh n z8)) (va_A (Wd cy a sh n z) sz)) 0 0 (va_A (Wd cy a sh n z) sz) := by
  refine Met.ofW (cc := cX2_commit) (maxL := 3) (ret := none) (by decide) rfl ?_
  intro p e s m args below meth c s₁ B hml hv
  obtain ⟨rfl, hsz, hP, hK, hD0, hN⟩ := hv
  have hx := B.exec
  have hb := B.bytes
  have hr := B.returns
  have hts := atoms_spec (ws := wsX2_commit) B.pre
  have hown : s.vm.findClass RX2 = some m.cls := findClass_of_methodNamed B.named
  have hlocks := B.notSynchronized
  subst hsz
  have hD := hD0.self (sz := s.heap.size)
  clear hD0
  generalize hAe : va_A (Wd cy a sh n z) s.heap.size = A at hD ⊢
  have hA : ∀ q : Nat, s.heap.size ≤ q → A q := fun q h => by rw [← hAe]; exact Or.inr h
  clear hAe
  have hS : va_S A s.heap s.heap [] := va_S.rf
  have hl := lv_entry ([.ref (a h0)]) (n := 3) (Nat.le_of_ble_eq_true rfl)
  rw [lg_entry_eq]
  generalize (lg_sl ([.ref (a h0)]) ++ List.replicate (3 - (lg_sl ([.ref (a h0)])).length) Slot.unset).toArray = ls at hl ⊢
  replace hl : lv_has ls 3 [(0, .ref (a h0))] := hl
  unfold fn_X2_commit at hf
  refine de_start hS hP (fun H locs hS hP => ?_)
  refine lv_iconst (v := 0) hx hb dX2_commit_0 (by decide) ?_
  refine lv_istore_n (lv' := [(1, .int 0), (0, .ref (a h0))]) hx hb dX2_commit_1 rfl hl (by decide) rfl (fun ls hl2 => ?_)
  replace hl := hl2
  clear hl2
  have hl0 : lv_has ls 3 [(1, .int 0), (0, .ref (a h0))] := lv_sub hl [0, 1] rfl
  refine de_loop (h := 2) (fun (x : St × Int32) ls H locs => lv_has ls 3 [(1, .int x.2), (0, .ref (a h0))] ∧ va_P (dC, dI) vwCl (Wd cy a sh n x.1) H ∧ va_D A (Wd cy a sh n x.1) ∧ va_S A s.heap H locs) (fun f x => fn_X2_commit_L2 F sh n h0 f x.1 x.2) (z8, r8) ?_ (fun _ => rfl) F (z, 0) ls H locs ⟨hl0, hP, hD, hS⟩ hf
  intro f_3 x ls H locs ih2 hI hf
  obtain ⟨z_2, p_1⟩ := x
  obtain ⟨hl2, hP2, hD2, hS2⟩ := hI
  replace hl : lv_has ls 3 [(1, .int p_1), (0, .ref (a h0))] := hl2
  replace hP := hP2
  replace hD := hD2
  replace hS := hS2
  clear hl2 hP2 hD2 hS2 hl0
  replace hf := fn_X2_commit_L2_s hf
  refine lv_iload_n hx hb dX2_commit_2 rfl (lv_at hl 0 rfl) ?_
  refine lv_aload_n hx hb dX2_commit_3 rfl (lv_at hl 1 rfl) ?_
  obtain ⟨g_4, hf⟩ := grd_some hf
  obtain ⟨kg_4, sg_4⟩ := okO_at g_4
  refine va_get (D := (dC, dI)) (ci := 2) (v := .int (z_2.1 h0 7)) (C := RX2) (T := TX2) (N := 11) hx hb hts iwd_X2_commit_X2 hown hK hP h0 (Wd_ob kg_4 sg_4 (by decide)) rfl 7 (by decide) (hts _ md_X2_commit_1) (fun _ h9 => h9) (fl_at (t := 0) rfl) dX2_commit_4 ?_
  refine lv_icmp_ge (tgt := 69) hx hb dX2_commit_7 (by decide) (fun c_5 => ?_) (fun c_5 => ?_)
  · skip
    rw [if_pos c_5] at hf
    refine lv_iconst (v := 0) hx hb dX2_commit_69 (by decide) ?_
    refine lv_istore_n (lv' := [(1, .int 0), (0, .ref (a h0))]) hx hb dX2_commit_70 rfl hl (by decide) rfl (fun ls hl2 => ?_)
    replace hl := hl2
    clear hl2
    have hl0 : lv_has ls 3 [(1, .int 0), (0, .ref (a h0))] := lv_sub hl [0, 1] rfl
    refine de_loop (h := 71) (fun (x : St × Int32) ls H locs => lv_has ls 3 [(1, .int x.2), (0, .ref (a h0))] ∧ va_P (dC, dI) vwCl (Wd cy a sh n x.1) H ∧ va_D A (Wd cy a sh n x.1) ∧ va_S A s.heap H locs) (fun f x => fn_X2_commit_L71 F sh n h0 f x.1 x.2) (z8, r8) ?_ (fun _ => rfl) F (z_2, 0) ls H locs ⟨hl0, hP, hD, hS⟩ hf
    intro f_8 x ls H locs ih71 hI hf
    obtain ⟨z_7, p_6⟩ := x
    obtain ⟨hl2, hP2, hD2, hS2⟩ := hI
    replace hl : lv_has ls 3 [(1, .int p_6), (0, .ref (a h0))] := hl2
    replace hP := hP2
    replace hD := hD2
    replace hS := hS2
    clear hl2 hP2 hD2 hS2 hl0
    replace hf := fn_X2_commit_L71_s hf
    refine lv_iload_n hx hb dX2_commit_71 rfl (lv_at hl 0 rfl) ?_
    refine lv_aload_n hx hb dX2_commit_72 rfl (lv_at hl 1 rfl) ?_
    refine va_get (D := (dC, dI)) (ci := 2) (v := .int (z_7.1 h0 7)) (C := RX2) (T := TX2) (N := 11) hx hb hts iwd_X2_commit_X2 hown hK hP h0 (Wd_ob kg_4 sg_4 (by decide)) rfl 7 (by decide) (hts _ md_X2_commit_1) (fun _ h9 => h9) (fl_at (t := 0) rfl) dX2_commit_73 ?_
    refine lv_icmp_ge (tgt := 182) hx hb dX2_commit_76 (by decide) (fun c_9 => ?_) (fun c_9 => ?_)
    · skip
      rw [if_pos c_9] at hf
      obtain ⟨h8, h9⟩ := ret_some hf
      rw [h8]
      exact W.vret hx hb hr (fun t ht hW => ⟨⟨(), rfl, trivial, by rw [ht]; exact hP, va_K.moved hW.alike hK, hD⟩, hS.F ht⟩) hS.2.2 dX2_commit_182
    · skip
      rw [if_neg c_9] at hf
      refine lv_aload_n hx hb dX2_commit_79 rfl (lv_at hl 1 rfl) ?_
      obtain ⟨k_10, ek_10, hf⟩ := lnk_some hf
      refine va_get (D := (dC, dI)) (ci := 2) (v := .ref (a k_10)) (C := RX2) (T := TX2) (N := 11) hx hb hts iwd_X2_commit_X2 hown hK hP h0 (Wd_ob kg_4 sg_4 (by decide)) rfl 2 (by decide) (hts _ md_X2_commit_2) (fun _ h9 => h9) (fl_q rfl ek_10) dX2_commit_80 ?_
      refine lv_iload_n hx hb dX2_commit_83 rfl (lv_at hl 0 rfl) ?_
      obtain ⟨g_11, hf⟩ := grd_some hf
      obtain ⟨kg_11, sg_11, ig_11⟩ := okA_at g_11
      refine va_iald hx hb hK hP k_10 1 (Wd_ai kg_11 sg_11) rfl ig_11 dX2_commit_84 ?_
      refine lv_iconst (v := 1) hx hb dX2_commit_85 (by decide) ?_
      refine de_cut (h := 176) (fun (x : St) => []) (fun x ls H locs => lv_has ls 3 [(1, .int p_6), (0, .ref (a h0))] ∧ va_P (dC, dI) vwCl (Wd cy a sh n x) H ∧ va_D A (Wd cy a sh n x) ∧ va_S A s.heap H locs) (fun x => fn_X2_commit_B176 F sh n p_6 (fun z9 q1 => fn_X2_commit_L71 F sh n h0 f_8 z9 q1) x) (z8, r8) ?_ (fun B176 => ?_)
      · intro x ls H locs hI hf
        obtain ⟨z_12, ez⟩ : ∃ w, w = x := ⟨_, rfl⟩
        subst ez
        obtain ⟨hl2, hP2, hD2, hS2⟩ := hI
        replace hl : lv_has ls 3 [(1, .int p_6), (0, .ref (a h0))] := hl2
        replace hP := hP2
        replace hD := hD2
        replace hS := hS2
        clear hl2 hP2 hD2 hS2
        replace hf := fn_X2_commit_B176_s hf
        refine W.eq (g2 := F0 m 176 ls []) rfl ?_
        refine lv_iinc (v := (p_6 + 1)) (lv' := [(1, .int (p_6 + 1)), (0, .ref (a h0))]) hx hb dX2_commit_176 hl (k := 0) rfl rfl (by decide) rfl (fun ls hl2 => ?_)
        replace hl := hl2
        clear hl2
        refine lv_goto (tgt := 71) hx hb dX2_commit_179 (by decide) ?_
        exact ih71 (z_12, (p_6 + 1)) ls H locs ⟨lv_sub hl [0, 1] rfl, hP, hD, hS⟩ hf
      refine de_cut (h := 152) (fun (x : St) => []) (fun x ls H locs => lv_has ls 3 [(1, .int p_6), (0, .ref (a h0))] ∧ va_P (dC, dI) vwCl (Wd cy a sh n x) H ∧ va_D A (Wd cy a sh n x) ∧ va_S A s.heap H locs) (fun x => fn_X2_commit_B152 F sh n h0 p_6 (fun z9 q1 => fn_X2_commit_L71 F sh n h0 f_8 z9 q1) x) (z8, r8) ?_ (fun B152 => ?_)
      · intro x ls H locs hI hf
        obtain ⟨z_13, ez⟩ : ∃ w, w = x := ⟨_, rfl⟩
        subst ez
        obtain ⟨hl2, hP2, hD2, hS2⟩ := hI
        replace hl : lv_has ls 3 [(1, .int p_6), (0, .ref (a h0))] := hl2
        replace hP := hP2
        replace hD := hD2
        replace hS := hS2
        clear hl2 hP2 hD2 hS2
        replace hf := fn_X2_commit_B152_s hf
        refine W.eq (g2 := F0 m 152 ls []) rfl ?_
        refine lv_aload_n hx hb dX2_commit_152 rfl (lv_at hl 1 rfl) ?_
        obtain ⟨k_14, ek_14, hf⟩ := lnk_some hf
        refine va_get (D := (dC, dI)) (ci := 2) (v := .ref (a k_14)) (C := RX2) (T := TX2) (N := 11) hx hb hts iwd_X2_commit_X2 hown hK hP h0 (Wd_ob kg_4 sg_4 (by decide)) rfl 2 (by decide) (hts _ md_X2_commit_2) (fun _ h9 => h9) (fl_q rfl ek_14) dX2_commit_153 ?_
        refine lv_iload_n hx hb dX2_commit_156 rfl (lv_at hl 0 rfl) ?_
        obtain ⟨g_15, hf⟩ := grd_some hf
        obtain ⟨kg_15, sg_15, ig_15⟩ := okA_at g_15
        refine va_iald hx hb hK hP k_14 1 (Wd_ai kg_15 sg_15) rfl ig_15 dX2_commit_157 ?_
        refine lv_iconst (v := 3) hx hb dX2_commit_158 (by decide) ?_
        refine lv_icmp_ne (tgt := 176) hx hb dX2_commit_159 (by decide) (fun c_16 => ?_) (fun c_16 => ?_)
        · skip
          rw [if_neg c_16] at hf
          exact B176 (z_13) ls H locs ⟨lv_sub hl [0, 1] rfl, hP, hD, hS⟩ hf
        · skip
          rw [if_pos c_16] at hf
          refine lv_aload_n hx hb dX2_commit_162 rfl (lv_at hl 1 rfl) ?_
          obtain ⟨k_17, ek_17, hf⟩ := lnk_some hf
          refine va_get (D := (dC, dI)) (ci := 2) (v := .ref (a k_17)) (C := RX2) (T := TX2) (N := 11) hx hb hts iwd_X2_commit_X2 hown hK hP h0 (Wd_ob kg_4 sg_4 (by decide)) rfl 8 (by decide) (hts _ md_X2_commit_4) (fun _ h9 => h9) (fl_q rfl ek_17) dX2_commit_163 ?_
          refine lv_iload_n hx hb dX2_commit_166 rfl (lv_at hl 0 rfl) ?_
          obtain ⟨g_18, hf⟩ := grd_some hf
          obtain ⟨kg_18, sg_18, ig_18⟩ := okA_at g_18
          refine va_zald hx hb hK hP k_17 3 (Wd_az kg_18 sg_18) rfl ig_18 dX2_commit_167 ?_
          refine lv_if_eq (tgt := 176) hx hb dX2_commit_168 (by decide) (fun c_19 => ?_) (fun c_19 => ?_)
          · skip
            rw [if_pos c_19] at hf
            exact B176 (z_13) ls H locs ⟨lv_sub hl [0, 1] rfl, hP, hD, hS⟩ hf
          · skip
            rw [if_neg c_19] at hf
            refine lv_aload_n hx hb dX2_commit_171 rfl (lv_at hl 1 rfl) ?_
            refine lv_iload_n hx hb dX2_commit_172 rfl (lv_at hl 0 rfl) ?_
            obtain ⟨z_20, _u, hfc, hf⟩ := cal_some hf
            have hFc := de_free hD hS hA
            refine va_callv (va_runV (As := [.int p_6]) (rest := []) ⟨hx, hb, hml, hown, hts⟩ (de_X2_storeResource l dC dI cy a sh n H.size F z_13 h0 p_6 hfc) (cwV 1 hts gX2_commit_X2_storeResource rfl rfl rfl (by decide +kernel) ⟨Nat.le_of_ble_eq_true rfl, Nat.le_of_ble_eq_true rfl⟩) ⟨fun a U g mk q => by obtain ⟨q0, q1, qP, qK, qD, qN⟩ := q; exact ⟨q0, q1, qP, va_K.moved (u := U) (U := U.calling g mk a) (Vm.Alike.refl U.vm) qK, qD, qN.same rfl⟩, va_recv hK hP (ci := 2) (q0 := h0) rfl (Wd_ob kg_4 sg_4 (by decide)), fun U hU hW => ⟨rfl, by rw [hU], by rw [hU]; exact hP, va_K.moved hW.alike hK, hD.weaken (fun _ _ _ _ => trivial), hN.warm hW⟩⟩ rfl rfl hl.1 rfl (lv_room (Nat.le_of_ble_eq_true rfl)) dX2_commit_173 ⟨Nat.le_of_ble_eq_true rfl, Nat.le_of_ble_eq_true rfl⟩) hS (fun q _ h => hFc q h) hFc (fun u t H_21 locs ht hvm hw hB hz1 hk1 hS2 => ?_)
            obtain ⟨hP1, -, hD1⟩ := hB
            rw [ht] at hP1
            replace hD := hD1.weaken (fun _ _ _ h => hFc _ h)
            replace hP := hP1
            replace hS := hS2
            clear hP1 hD1 hS2 hFc hfc hz1 hk1 hvm ht
            exact B176 (z_20) ls H_21 locs ⟨lv_sub hl [0, 1] rfl, hP, hD, hS⟩ hf
      refine lv_icmp_ne (tgt := 152) hx hb dX2_commit_86 (by decide) (fun c_22 => ?_) (fun c_22 => ?_)
      · skip
        rw [if_neg c_22] at hf
        exact B152 (z_7) ls H locs ⟨lv_sub hl [0, 1] rfl, hP, hD, hS⟩ hf
      · skip
        rw [if_pos c_22] at hf
        refine lv_aload_n hx hb dX2_commit_89 rfl (lv_at hl 1 rfl) ?_
        obtain ⟨k_23, ek_23, hf⟩ := lnk_some hf
        refine va_get (D := (dC, dI)) (ci := 2) (v := .ref (a k_23)) (C := RX2) (T := TX2) (N := 11) hx hb hts iwd_X2_commit_X2 hown hK hP h0 (Wd_ob kg_4 sg_4 (by decide)) rfl 8 (by decide) (hts _ md_X2_commit_4) (fun _ h9 => h9) (fl_q rfl ek_23) dX2_commit_90 ?_
        refine lv_iload_n hx hb dX2_commit_93 rfl (lv_at hl 0 rfl) ?_
        obtain ⟨g_24, hf⟩ := grd_some hf
        obtain ⟨kg_24, sg_24, ig_24⟩ := okA_at g_24
        refine va_zald hx hb hK hP k_23 3 (Wd_az kg_24 sg_24) rfl ig_24 dX2_commit_94 ?_
        refine lv_if_eq (tgt := 152) hx hb dX2_commit_95 (by decide) (fun c_25 => ?_) (fun c_25 => ?_)
        · skip
          rw [if_pos c_25] at hf
          exact B152 (z_7) ls H locs ⟨lv_sub hl [0, 1] rfl, hP, hD, hS⟩ hf
        · skip
          rw [if_neg c_25] at hf
          refine lv_aload_n hx hb dX2_commit_98 rfl (lv_at hl 1 rfl) ?_
          obtain ⟨k_26, ek_26, hf⟩ := lnk_some hf
          refine va_get (D := (dC, dI)) (ci := 2) (v := .ref (a k_26)) (C := RX2) (T := TX2) (N := 11) hx hb hts iwd_X2_commit_X2 hown hK hP h0 (Wd_ob kg_4 sg_4 (by decide)) rfl 0 (by decide) (hts _ md_X2_commit_5) (fun _ h9 => h9) (fl_q rfl ek_26) dX2_commit_99 ?_
          refine lv_aload_n hx hb dX2_commit_102 rfl (lv_at hl 1 rfl) ?_
          obtain ⟨k_27, ek_27, hf⟩ := lnk_some hf
          refine va_get (D := (dC, dI)) (ci := 2) (v := .ref (a k_27)) (C := RX2) (T := TX2) (N := 11) hx hb hts iwd_X2_commit_X2 hown hK hP h0 (Wd_ob kg_4 sg_4 (by decide)) rfl 3 (by decide) (hts _ md_X2_commit_6) (fun _ h9 => h9) (fl_q rfl ek_27) dX2_commit_103 ?_
          refine lv_iload_n hx hb dX2_commit_106 rfl (lv_at hl 0 rfl) ?_
          obtain ⟨g_28, hf⟩ := grd_some hf
          obtain ⟨kg_28, sg_28, ig_28⟩ := okA_at g_28
          refine va_lald hx hb hK hP k_27 2 (Wd_al kg_28 sg_28) rfl ig_28 dX2_commit_107 ?_
          obtain ⟨g_31, hf⟩ := grd_some hf
          obtain ⟨kg_31, sg_31⟩ := okO_at g_31
          obtain ⟨z_29, r_30, hfc, hf⟩ := cal_some hf
          have hFc := de_free hD hS hA
          refine va_calli (va_runV (As := [.long (z_7.2.1 k_27 p_6.toNatClampNeg)]) (rest := []) ⟨hx, hb, hml, hown, hts⟩ (de_X7_findAccount l dC dI cy a sh n H.size F z_7 k_26 (z_7.2.1 k_27 p_6.toNatClampNeg) hfc) (cwV 1 hts gX2_commit_X7_findAccount rfl rfl rfl (by decide +kernel) ⟨Nat.le_of_ble_eq_true rfl, Nat.le_of_ble_eq_true rfl⟩) ⟨fun a U g mk q => by obtain ⟨q0, q1, qP, qK, qD, qN⟩ := q; exact ⟨q0, q1, qP, va_K.moved (u := U) (U := U.calling g mk a) (Vm.Alike.refl U.vm) qK, qD, qN.same rfl⟩, va_recv hK hP (ci := 7) (q0 := k_26) rfl (Wd_ob kg_31 sg_31 (by decide)), fun U hU hW => ⟨rfl, by rw [hU], by rw [hU]; exact hP, va_K.moved hW.alike hK, hD.weaken (fun _ _ _ _ => trivial), hN.warm hW⟩⟩ rfl rfl hl.1 rfl (lv_room (Nat.le_of_ble_eq_true rfl)) dX2_commit_108 ⟨Nat.le_of_ble_eq_true rfl, Nat.le_of_ble_eq_true rfl⟩) hS (fun q _ h => hFc q h) hFc (fun rr u t H_32 locs ht hvm hw hB hz1 hk1 hS2 => ?_)
          rw [hw]
          clear hw
          obtain ⟨hP1, -, hD1⟩ := hB
          rw [ht] at hP1
          replace hD := hD1.weaken (fun _ _ _ h => hFc _ h)
          replace hP := hP1
          replace hS := hS2
          clear hP1 hD1 hS2 hFc hfc hz1 hk1 hvm ht
          refine lv_istore_n (lv' := [(2, .int r_30), (1, .int p_6), (0, .ref (a h0))]) hx hb dX2_commit_111 rfl hl (by decide) rfl (fun ls hl2 => ?_)
          replace hl := hl2
          clear hl2
          refine lv_iload_n hx hb dX2_commit_112 rfl (lv_at hl 0 rfl) ?_
          refine de_cut (h := 133) (fun (x : St × Int32) => [.int x.2]) (fun x ls H locs => lv_has ls 3 [(1, .int p_6), (0, .ref (a h0))] ∧ va_P (dC, dI) vwCl (Wd cy a sh n x.1) H ∧ va_D A (Wd cy a sh n x.1) ∧ va_S A s.heap H locs) (fun x => fn_X2_commit_B133 F sh n h0 p_6 (fun z9 q1 => fn_X2_commit_L71 F sh n h0 f_8 z9 q1) x.1 x.2) (z8, r8) ?_ (fun B133 => ?_)
          · intro x ls H locs hI hf
            obtain ⟨z_34, p_33⟩ := x
            obtain ⟨hl2, hP2, hD2, hS2⟩ := hI
            replace hl : lv_has ls 3 [(1, .int p_6), (0, .ref (a h0))] := hl2
            replace hP := hP2
            replace hD := hD2
            replace hS := hS2
            clear hl2 hP2 hD2 hS2
            replace hf := fn_X2_commit_B133_s hf
            refine W.eq (g2 := F0 m 133 ls [.int p_33]) rfl ?_
            refine lv_istore_n (lv' := [(2, .int p_33), (1, .int p_6), (0, .ref (a h0))]) hx hb dX2_commit_133 rfl hl (by decide) rfl (fun ls hl2 => ?_)
            replace hl := hl2
            clear hl2
            refine lv_aload_n hx hb dX2_commit_134 rfl (lv_at hl 2 rfl) ?_
            obtain ⟨k_35, ek_35, hf⟩ := lnk_some hf
            refine va_get (D := (dC, dI)) (ci := 2) (v := .ref (a k_35)) (C := RX2) (T := TX2) (N := 11) hx hb hts iwd_X2_commit_X2 hown hK hP h0 (Wd_ob kg_4 sg_4 (by decide)) rfl 0 (by decide) (hts _ md_X2_commit_5) (fun _ h9 => h9) (fl_q rfl ek_35) dX2_commit_135 ?_
            obtain ⟨g_36, hf⟩ := grd_some hf
            obtain ⟨kg_36, sg_36⟩ := okO_at g_36
            obtain ⟨k_37, ek_37, hf⟩ := lnk_some hf
            refine va_get (D := (dC, dI)) (ci := 7) (v := .ref (a k_37)) (C := RX7) (T := TX7) (N := 16) hx hb hts iwd_X2_commit_X7 hown hK hP k_35 (Wd_ob kg_36 sg_36 (by decide)) rfl 1 (by decide) (hts _ md_X2_commit_9) (fun _ h9 => h9) (fl_q rfl ek_37) dX2_commit_138 ?_
            refine lv_iload_n hx hb dX2_commit_141 rfl (lv_at hl 0 rfl) ?_
            refine lv_aload_n hx hb dX2_commit_142 rfl (lv_at hl 2 rfl) ?_
            obtain ⟨k_38, ek_38, hf⟩ := lnk_some hf
            refine va_get (D := (dC, dI)) (ci := 2) (v := .ref (a k_38)) (C := RX2) (T := TX2) (N := 11) hx hb hts iwd_X2_commit_X2 hown hK hP h0 (Wd_ob kg_4 sg_4 (by decide)) rfl 9 (by decide) (hts _ md_X2_commit_10) (fun _ h9 => h9) (fl_q rfl ek_38) dX2_commit_143 ?_
            refine lv_iload_n hx hb dX2_commit_146 rfl (lv_at hl 1 rfl) ?_
            obtain ⟨g_39, hf⟩ := grd_some hf
            obtain ⟨kg_39, sg_39, ig_39⟩ := okA_at g_39
            refine va_lald hx hb hK hP k_38 2 (Wd_al kg_39 sg_39) rfl ig_39 dX2_commit_147 ?_
            obtain ⟨g_40, hf⟩ := grd_some hf
            obtain ⟨kg_40, sg_40, ig_40⟩ := okA_at g_40
            refine va_last hx hb hK hP hD hS k_37 2 (Wd_al kg_40 sg_40) rfl ig_40 dX2_commit_148 (fun H_41 locs hP2 hD2 hS2 => ?_)
            rw [Wd_tl sg_40] at hP2 hD2
            obtain ⟨z_42, ez_42⟩ : ∃ w, w = sl z_34 k_37 p_33.toNatClampNeg (z_34.2.1 k_38 p_6.toNatClampNeg) := ⟨_, rfl⟩
            rw [← ez_42] at hP2 hD2
            replace hf := lt_at ez_42 hf
            clear ez_42
            replace hP := hP2
            replace hD := hD2
            replace hS := hS2
            clear hP2 hD2 hS2
            refine lv_goto (tgt := 176) hx hb dX2_commit_149 (by decide) ?_
            exact B176 (z_42) ls H_41 locs ⟨lv_sub hl [1, 2] rfl, hP, hD, hS⟩ hf
          refine lv_if_ge (tgt := 132) hx hb dX2_commit_113 (by decide) (fun c_43 => ?_) (fun c_43 => ?_)
          · skip
            rw [if_pos c_43] at hf
            refine lv_iload_n hx hb dX2_commit_132 rfl (lv_at hl 0 rfl) ?_
            exact B133 (z_29, r_30) ls H_32 locs ⟨lv_sub hl [1, 2] rfl, hP, hD, hS⟩ hf
          · skip
            rw [if_neg c_43] at hf
            refine lv_aload_n hx hb dX2_commit_116 rfl (lv_at hl 2 rfl) ?_
            obtain ⟨k_44, ek_44, hf⟩ := lnk_some hf
            refine va_get (D := (dC, dI)) (ci := 2) (v := .ref (a k_44)) (C := RX2) (T := TX2) (N := 11) hx hb hts iwd_X2_commit_X2 hown hK hP h0 (Wd_ob kg_4 sg_4 (by decide)) rfl 0 (by decide) (hts _ md_X2_commit_5) (fun _ h9 => h9) (fl_q rfl ek_44) dX2_commit_117 ?_
            refine lv_aload_n hx hb dX2_commit_120 rfl (lv_at hl 2 rfl) ?_
            obtain ⟨k_45, ek_45, hf⟩ := lnk_some hf
            refine va_get (D := (dC, dI)) (ci := 2) (v := .ref (a k_45)) (C := RX2) (T := TX2) (N := 11) hx hb hts iwd_X2_commit_X2 hown hK hP h0 (Wd_ob kg_4 sg_4 (by decide)) rfl 3 (by decide) (hts _ md_X2_commit_6) (fun _ h9 => h9) (fl_q rfl ek_45) dX2_commit_121 ?_
            refine lv_iload_n hx hb dX2_commit_124 rfl (lv_at hl 1 rfl) ?_
            obtain ⟨g_46, hf⟩ := grd_some hf
            obtain ⟨kg_46, sg_46, ig_46⟩ := okA_at g_46
            refine va_lald hx hb hK hP k_45 2 (Wd_al kg_46 sg_46) rfl ig_46 dX2_commit_125 ?_
            obtain ⟨g_49, hf⟩ := grd_some hf
            obtain ⟨kg_49, sg_49⟩ := okO_at g_49
            obtain ⟨z_47, r_48, hfc, hf⟩ := cal_some hf
            have hFc := de_free hD hS hA
            refine va_calli (va_runV (As := [.long (z_29.2.1 k_45 p_6.toNatClampNeg)]) (rest := []) ⟨hx, hb, hml, hown, hts⟩ (de_X7_openAccount l dC dI cy a sh n H_32.size F z_29 k_44 (z_29.2.1 k_45 p_6.toNatClampNeg) hfc) (cwV 1 hts gX2_commit_X7_openAccount rfl rfl rfl (by decide +kernel) ⟨Nat.le_of_ble_eq_true rfl, Nat.le_of_ble_eq_true rfl⟩) ⟨fun a U g mk q => by obtain ⟨q0, q1, qP, qK, qD, qN⟩ := q; exact ⟨q0, q1, qP, va_K.moved (u := U) (U := U.calling g mk a) (Vm.Alike.refl U.vm) qK, qD, qN.same rfl⟩, va_recv hK hP (ci := 7) (q0 := k_44) rfl (Wd_ob kg_49 sg_49 (by decide)), fun U hU hW => ⟨rfl, by rw [hU], by rw [hU]; exact hP, va_K.moved hW.alike hK, hD.weaken (fun _ _ _ _ => trivial), hN.warm hW⟩⟩ rfl rfl hl.1 rfl (lv_room (Nat.le_of_ble_eq_true rfl)) dX2_commit_126 ⟨Nat.le_of_ble_eq_true rfl, Nat.le_of_ble_eq_true rfl⟩) hS (fun q _ h => hFc q h) hFc (fun rr u t H_50 locs ht hvm hw hB hz1 hk1 hS2 => ?_)
            rw [hw]
            clear hw
            obtain ⟨hP1, -, hD1⟩ := hB
            rw [ht] at hP1
            replace hD := hD1.weaken (fun _ _ _ h => hFc _ h)
            replace hP := hP1
            replace hS := hS2
            clear hP1 hD1 hS2 hFc hfc hz1 hk1 hvm ht
            refine lv_goto (tgt := 133) hx hb dX2_commit_129 (by decide) ?_
            exact B133 (z_47, r_48) ls H_50 locs ⟨lv_sub hl [1, 2] rfl, hP, hD, hS⟩ hf
  · skip
    rw [if_neg c_5] at hf
    refine lv_aload_n hx hb dX2_commit_10 rfl (lv_at hl 1 rfl) ?_
    obtain ⟨k_51, ek_51, hf⟩ := lnk_some hf
    refine va_get (D := (dC, dI)) (ci := 2) (v := .ref (a k_51)) (C := RX2) (T := TX2) (N := 11) hx hb hts iwd_X2_commit_X2 hown hK hP h0 (Wd_ob kg_4 sg_4 (by decide)) rfl 2 (by decide) (hts _ md_X2_commit_2) (fun _ h9 => h9) (fl_q rfl ek_51) dX2_commit_11 ?_
    refine lv_iload_n hx hb dX2_commit_14 rfl (lv_at hl 0 rfl) ?_
    obtain ⟨g_52, hf⟩ := grd_some hf
    obtain ⟨kg_52, sg_52, ig_52⟩ := okA_at g_52
    refine va_iald hx hb hK hP k_51 1 (Wd_ai kg_52 sg_52) rfl ig_52 dX2_commit_15 ?_
    refine lv_iconst (v := 3) hx hb dX2_commit_16 (by decide) ?_
    refine de_cut (h := 63) (fun (x : St) => []) (fun x ls H locs => lv_has ls 3 [(1, .int p_1), (0, .ref (a h0))] ∧ va_P (dC, dI) vwCl (Wd cy a sh n x) H ∧ va_D A (Wd cy a sh n x) ∧ va_S A s.heap H locs) (fun x => fn_X2_commit_B63 F sh n p_1 (fun z9 q1 => fn_X2_commit_L2 F sh n h0 f_3 z9 q1) x) (z8, r8) ?_ (fun B63 => ?_)
    · intro x ls H locs hI hf
      obtain ⟨z_53, ez⟩ : ∃ w, w = x := ⟨_, rfl⟩
      subst ez
      obtain ⟨hl2, hP2, hD2, hS2⟩ := hI
      replace hl : lv_has ls 3 [(1, .int p_1), (0, .ref (a h0))] := hl2
      replace hP := hP2
      replace hD := hD2
      replace hS := hS2
      clear hl2 hP2 hD2 hS2
      replace hf := fn_X2_commit_B63_s hf
      refine W.eq (g2 := F0 m 63 ls []) rfl ?_
      refine lv_iinc (v := (p_1 + 1)) (lv' := [(1, .int (p_1 + 1)), (0, .ref (a h0))]) hx hb dX2_commit_63 hl (k := 0) rfl rfl (by decide) rfl (fun ls hl2 => ?_)
      replace hl := hl2
      clear hl2
      refine lv_goto (tgt := 2) hx hb dX2_commit_66 (by decide) ?_
      exact ih2 (z_53, (p_1 + 1)) ls H locs ⟨lv_sub hl [0, 1] rfl, hP, hD, hS⟩ hf
    refine lv_icmp_ne (tgt := 63) hx hb dX2_commit_17 (by decide) (fun c_54 => ?_) (fun c_54 => ?_)
    · skip
      rw [if_neg c_54] at hf
      exact B63 (z_2) ls H locs ⟨lv_sub hl [0, 1] rfl, hP, hD, hS⟩ hf
    · skip
      rw [if_pos c_54] at hf
      refine lv_aload_n hx hb dX2_commit_20 rfl (lv_at hl 1 rfl) ?_
      obtain ⟨k_55, ek_55, hf⟩ := lnk_some hf
      refine va_get (D := (dC, dI)) (ci := 2) (v := .ref (a k_55)) (C := RX2) (T := TX2) (N := 11) hx hb hts iwd_X2_commit_X2 hown hK hP h0 (Wd_ob kg_4 sg_4 (by decide)) rfl 6 (by decide) (hts _ md_X2_commit_3) (fun _ h9 => h9) (fl_q rfl ek_55) dX2_commit_21 ?_
      refine lv_iload_n hx hb dX2_commit_24 rfl (lv_at hl 0 rfl) ?_
      obtain ⟨g_56, hf⟩ := grd_some hf
      obtain ⟨kg_56, sg_56, ig_56⟩ := okA_at g_56
      refine va_zald hx hb hK hP k_55 3 (Wd_az kg_56 sg_56) rfl ig_56 dX2_commit_25 ?_
      refine lv_if_eq (tgt := 63) hx hb dX2_commit_26 (by decide) (fun c_57 => ?_) (fun c_57 => ?_)
      · skip
        rw [if_pos c_57] at hf
        exact B63 (z_2) ls H locs ⟨lv_sub hl [0, 1] rfl, hP, hD, hS⟩ hf
      · skip
        rw [if_neg c_57] at hf
        refine lv_aload_n hx hb dX2_commit_29 rfl (lv_at hl 1 rfl) ?_
        obtain ⟨k_58, ek_58, hf⟩ := lnk_some hf
        refine va_get (D := (dC, dI)) (ci := 2) (v := .ref (a k_58)) (C := RX2) (T := TX2) (N := 11) hx hb hts iwd_X2_commit_X2 hown hK hP h0 (Wd_ob kg_4 sg_4 (by decide)) rfl 8 (by decide) (hts _ md_X2_commit_4) (fun _ h9 => h9) (fl_q rfl ek_58) dX2_commit_30 ?_
        refine lv_iload_n hx hb dX2_commit_33 rfl (lv_at hl 0 rfl) ?_
        obtain ⟨g_59, hf⟩ := grd_some hf
        obtain ⟨kg_59, sg_59, ig_59⟩ := okA_at g_59
        refine va_zald hx hb hK hP k_58 3 (Wd_az kg_59 sg_59) rfl ig_59 dX2_commit_34 ?_
        refine lv_if_ne (tgt := 63) hx hb dX2_commit_35 (by decide) (fun c_60 => ?_) (fun c_60 => ?_)
        · skip
          rw [if_neg c_60] at hf
          exact B63 (z_2) ls H locs ⟨lv_sub hl [0, 1] rfl, hP, hD, hS⟩ hf
        · skip
          rw [if_pos c_60] at hf
          refine lv_aload_n hx hb dX2_commit_38 rfl (lv_at hl 1 rfl) ?_
          obtain ⟨k_61, ek_61, hf⟩ := lnk_some hf
          refine va_get (D := (dC, dI)) (ci := 2) (v := .ref (a k_61)) (C := RX2) (T := TX2) (N := 11) hx hb hts iwd_X2_commit_X2 hown hK hP h0 (Wd_ob kg_4 sg_4 (by decide)) rfl 0 (by decide) (hts _ md_X2_commit_5) (fun _ h9 => h9) (fl_q rfl ek_61) dX2_commit_39 ?_
          refine lv_aload_n hx hb dX2_commit_42 rfl (lv_at hl 1 rfl) ?_
          obtain ⟨k_62, ek_62, hf⟩ := lnk_some hf
          refine va_get (D := (dC, dI)) (ci := 2) (v := .ref (a k_62)) (C := RX2) (T := TX2) (N := 11) hx hb hts iwd_X2_commit_X2 hown hK hP h0 (Wd_ob kg_4 sg_4 (by decide)) rfl 3 (by decide) (hts _ md_X2_commit_6) (fun _ h9 => h9) (fl_q rfl ek_62) dX2_commit_43 ?_
          refine lv_iload_n hx hb dX2_commit_46 rfl (lv_at hl 0 rfl) ?_
          obtain ⟨g_63, hf⟩ := grd_some hf
          obtain ⟨kg_63, sg_63, ig_63⟩ := okA_at g_63
          refine va_lald hx hb hK hP k_62 2 (Wd_al kg_63 sg_63) rfl ig_63 dX2_commit_47 ?_
          refine lv_aload_n hx hb dX2_commit_48 rfl (lv_at hl 1 rfl) ?_
          obtain ⟨k_64, ek_64, hf⟩ := lnk_some hf
          refine va_get (D := (dC, dI)) (ci := 2) (v := .ref (a k_64)) (C := RX2) (T := TX2) (N := 11) hx hb hts iwd_X2_commit_X2 hown hK hP h0 (Wd_ob kg_4 sg_4 (by decide)) rfl 4 (by decide) (hts _ md_X2_commit_7) (fun _ h9 => h9) (fl_q rfl ek_64) dX2_commit_49 ?_
          refine lv_iload_n hx hb dX2_commit_52 rfl (lv_at hl 0 rfl) ?_
          obtain ⟨g_65, hf⟩ := grd_some hf
          obtain ⟨kg_65, sg_65, ig_65⟩ := okA_at g_65
          refine va_iald hx hb hK hP k_64 1 (Wd_ai kg_65 sg_65) rfl ig_65 dX2_commit_53 ?_
          refine lv_aload_n hx hb dX2_commit_54 rfl (lv_at hl 1 rfl) ?_
          obtain ⟨k_66, ek_66, hf⟩ := lnk_some hf
          refine va_get (D := (dC, dI)) (ci := 2) (v := .ref (a k_66)) (C := RX2) (T := TX2) (N := 11) hx hb hts iwd_X2_commit_X2 hown hK hP h0 (Wd_ob kg_4 sg_4 (by decide)) rfl 5 (by decide) (hts _ md_X2_commit_8) (fun _ h9 => h9) (fl_q rfl ek_66) dX2_commit_55 ?_
          refine lv_iload_n hx hb dX2_commit_58 rfl (lv_at hl 0 rfl) ?_
          obtain ⟨g_67, hf⟩ := grd_some hf
          obtain ⟨kg_67, sg_67, ig_67⟩ := okA_at g_67
          refine va_iald hx hb hK hP k_66 1 (Wd_ai kg_67 sg_67) rfl ig_67 dX2_commit_59 ?_
          obtain ⟨g_69, hf⟩ := grd_some hf
          obtain ⟨kg_69, sg_69⟩ := okO_at g_69
          obtain ⟨z_68, _u, hfc, hf⟩ := cal_some hf
          have hFc := de_free hD hS hA
          refine va_callv (va_runV (As := [.long (z_2.2.1 k_62 p_1.toNatClampNeg), .int (z_2.1 k_64 p_1.toNatClampNeg), .int (z_2.1 k_66 p_1.toNatClampNeg)]) (rest := []) ⟨hx, hb, hml, hown, hts⟩ (de_X7_removeResource l dC dI cy a sh n H.size F z_2 k_61 (z_2.2.1 k_62 p_1.toNatClampNeg) (z_2.1 k_64 p_1.toNatClampNeg) (z_2.1 k_66 p_1.toNatClampNeg) hfc) (cwV 3 hts gX2_commit_X7_removeResource rfl rfl rfl (by decide +kernel) ⟨Nat.le_of_ble_eq_true rfl, Nat.le_of_ble_eq_true rfl⟩) ⟨fun a U g mk q => by obtain ⟨q0, q1, qP, qK, qD, qN⟩ := q; exact ⟨q0, q1, qP, va_K.moved (u := U) (U := U.calling g mk a) (Vm.Alike.refl U.vm) qK, qD, qN.same rfl⟩, va_recv hK hP (ci := 7) (q0 := k_61) rfl (Wd_ob kg_69 sg_69 (by decide)), fun U hU hW => ⟨rfl, by rw [hU], by rw [hU]; exact hP, va_K.moved hW.alike hK, hD.weaken (fun _ _ _ _ => trivial), hN.warm hW⟩⟩ rfl rfl hl.1 rfl (lv_room (Nat.le_of_ble_eq_true rfl)) dX2_commit_60 ⟨Nat.le_of_ble_eq_true rfl, Nat.le_of_ble_eq_true rfl⟩) hS (fun q _ h => hFc q h) hFc (fun u t H_70 locs ht hvm hw hB hz1 hk1 hS2 => ?_)
          obtain ⟨hP1, -, hD1⟩ := hB
          rw [ht] at hP1
          replace hD := hD1.weaken (fun _ _ _ h => hFc _ h)
          replace hP := hP1
          replace hS := hS2
          clear hP1 hD1 hS2 hFc hfc hz1 hk1 hvm ht
          exact B63 (z_68) ls H_70 locs ⟨lv_sub hl [0, 1] rfl, hP, hD, hS⟩ hf

theorem md_X18_measure_1 : (.fieldLink RX18 17 "ResourceLedgerModel" "units" "[LResourceLedgerModel$Unit;" : Cond) ∈ wsX18_measure := List.mem_of_getElem? (i := 1) rfl
theorem iwd_X18_measure_X18 : ∀ w ∈ wsX180, w ∈ wsX18_measure := fun _ h => List.mem_cons_of_mem _ (List.mem_append_left _ (List.mem_append_right _ h))
theorem iwd_X18_measure_X16 : ∀ w ∈ wsX160, w ∈ wsX18_measure := fun _ h => List.mem_cons_of_mem _ (List.mem_append_right _ h)
theorem md_X18_measure_10 : (.initialized RX16 : Cond) ∈ wsX18_measure := List.mem_of_getElem? (i := 10) rfl
theorem md_X18_measure_40 : (.instanceMethod yX16_fieldsOf : Cond) ∈ wsX18_measure := List.mem_of_getElem? (i := 40) rfl
theorem md_X18_measure_41 : (.selects RX16 yX16_fieldsOf yX16_fieldsOf : Cond) ∈ wsX18_measure := List.mem_of_getElem? (i := 41) rfl
theorem md_X18_measure_2 : (.fieldLink RX18 189 "ResourceLedgerModel" "depths" "[I" : Cond) ∈ wsX18_measure := List.mem_of_getElem? (i := 2) rfl
theorem md_X18_measure_3 : (.methodLink RX18 203 Lib.Math.max.name : Cond) ∈ wsX18_measure := List.mem_of_getElem? (i := 3) rfl
theorem md_X18_measure_4 : (.static Lib.Math.max.name : Cond) ∈ wsX18_measure := List.mem_of_getElem? (i := 4) rfl
theorem md_X18_measure_5 : (.initialized "java/lang/Math" : Cond) ∈ wsX18_measure := List.mem_of_getElem? (i := 5) rfl
theorem md_X18_measure_6 : (.code Lib.Math.max.name Lib.Math.max.code 2 (some .int) : Cond) ∈ wsX18_measure := List.mem_of_getElem? (i := 6) rfl
set_option maxHeartbeats 4000000 in
set_option maxRecDepth 100000 in
theorem de_X18_measure (l : Launch) (dC : Nat → ClassId) (dI : Nat → Nat → Nat) (cy : Nat → ClassId) (a : Nat → Nat) (sh : Nat → Nat × Nat) (n sz : Nat) (F : Nat) (z : St) (h0 : Nat) (x0 : Int32) {z8 : St} {r8 : Unit} (hf : fn_X18_measure F sh n z h0 x0 = some (z8, r8)) : Met l yX18_measure wsX18_measure ({ frames := 4, cells := 0, slots := 0, locals := 91 }) (va_Pc [.ref (a h0), .int x0] (fun U => U.heap.size = sz ∧ va_P (dC, dI) vwCl (Wd cy a sh n z) U.heap ∧ va_K (dC, dI) vwCl (TYS cy) U ∧ va_D (fun _ => True) (Wd cy a sh n z) ∧ NK U)) (va_Qv (fun u : Unit => True) (fun u t => va_P (dC, dI) vwCl (Wd cy a sh n z8) t.heap ∧ va_K (dC, dI) vwCl (TYS cy) t ∧ va_D (va_A (Wd cy a sh n z) sz) (Wd cy a sh n z8)) (va_A (Wd cy a sh n z) sz)) 0 0 (va_A (Wd cy a sh n z) sz) := by
  refine Met.ofW (cc := cX18_measure) (maxL := 7) (ret := none) (by decide) rfl ?_
  intro p e s m args below meth c s₁ B hml hv
  obtain ⟨rfl, hsz, hP, hK, hD0, hN⟩ := hv
  have hx := B.exec
  have hb := B.bytes
  have hr := B.returns
  have hts := atoms_spec (ws := wsX18_measure) B.pre
  have hown : s.vm.findClass RX18 = some m.cls := findClass_of_methodNamed B.named
  have hlocks := B.notSynchronized
  subst hsz
  have hD := hD0.self (sz := s.heap.size)
  clear hD0
  generalize hAe : va_A (Wd cy a sh n z) s.heap.size = A at hD ⊢
  have hA : ∀ q : Nat, s.heap.size ≤ q → A q := fun q h => by rw [← hAe]; exact Or.inr h
  clear hAe
  have hS : va_S A s.heap s.heap [] := va_S.rf
  have hl := lv_entry ([.ref (a h0), .int x0]) (n := 7) (Nat.le_of_ble_eq_true rfl)
  rw [lg_entry_eq]
  generalize (lg_sl ([.ref (a h0), .int x0]) ++ List.replicate (7 - (lg_sl ([.ref (a h0), .int x0])).length) Slot.unset).toArray = ls at hl ⊢
  replace hl : lv_has ls 7 [(0, .ref (a h0)), (1, .int x0)] := hl
  unfold fn_X18_measure at hf
  refine de_start hS hP (fun H locs hS hP => ?_)
  refine lv_aload_n hx hb dX18_measure_0 rfl (lv_at hl 0 rfl) ?_
  obtain ⟨g_1, hf⟩ := grd_some hf
  obtain ⟨kg_1, sg_1⟩ := okO_at g_1
  obtain ⟨k_2, ek_2, hf⟩ := lnk_some hf
  refine va_get (D := (dC, dI)) (ci := 18) (v := .ref (a k_2)) (C := RX18) (T := TX18) (N := 78) hx hb hts iwd_X18_measure_X18 hown hK hP h0 (Wd_ob kg_1 sg_1 (by decide)) rfl 4 (by decide) (hts _ md_X18_measure_1) (fun _ h9 => h9) (fl_q rfl ek_2) dX18_measure_1 ?_
  refine lv_iload_n hx hb dX18_measure_4 rfl (lv_at hl 1 rfl) ?_
  obtain ⟨g_3, hf⟩ := grd_some hf
  obtain ⟨kg_3, sg_3, ig_3⟩ := okA_at g_3
  obtain ⟨k_4, ek_4, hf⟩ := lnk_some hf
  refine va_aldq (C := RX16) hx hb hK hP k_2 6 (Wd_aq kg_3 sg_3 (by decide)) rfl ig_3 dX18_measure_5 ?_
  refine W.eq (g2 := F0 m 6 ls [.ref (a k_4)]) (by rw [ek_4]; rfl) ?_
  refine lv_astore_n (lv' := [(2, .ref (a k_4)), (0, .ref (a h0)), (1, .int x0)]) hx hb dX18_measure_6 rfl hl (by decide) rfl (fun ls hl2 => ?_)
  replace hl := hl2
  clear hl2
  refine lv_iconst (v := 0) hx hb dX18_measure_7 (by decide) ?_
  refine lv_istore_n (lv' := [(3, .int 0), (2, .ref (a k_4)), (0, .ref (a h0)), (1, .int x0)]) hx hb dX18_measure_8 rfl hl (by decide) rfl (fun ls hl2 => ?_)
  replace hl := hl2
  clear hl2
  have hl0 : lv_has ls 7 [(3, .int 0), (2, .ref (a k_4)), (0, .ref (a h0)), (1, .int x0)] := lv_sub hl [0, 1, 2, 3] rfl
  refine de_loop (h := 9) (fun (x : St × Int32) ls H locs => lv_has ls 7 [(3, .int x.2), (2, .ref (a k_4)), (0, .ref (a h0)), (1, .int x0)] ∧ va_P (dC, dI) vwCl (Wd cy a sh n x.1) H ∧ va_D A (Wd cy a sh n x.1) ∧ va_S A s.heap H locs) (fun f x => fn_X18_measure_L9 F sh n k_4 h0 x0 f x.1 x.2) (z8, r8) ?_ (fun _ => rfl) F (z, 0) ls H locs ⟨hl0, hP, hD, hS⟩ hf
  intro f_7 x ls H locs ih9 hI hf
  obtain ⟨z_6, p_5⟩ := x
  obtain ⟨hl2, hP2, hD2, hS2⟩ := hI
  replace hl : lv_has ls 7 [(3, .int p_5), (2, .ref (a k_4)), (0, .ref (a h0)), (1, .int x0)] := hl2
  replace hP := hP2
  replace hD := hD2
  replace hS := hS2
  clear hl2 hP2 hD2 hS2 hl0
  replace hf := fn_X18_measure_L9_s hf
  refine lv_iload_n hx hb dX18_measure_9 rfl (lv_at hl 0 rfl) ?_
  refine lv_aload_n hx hb dX18_measure_10 rfl (lv_at hl 1 rfl) ?_
  obtain ⟨g_10, hf⟩ := grd_some hf
  obtain ⟨kg_10, sg_10⟩ := okO_at g_10
  obtain ⟨z_8, r_9, hfc, hf⟩ := cal_some hf
  have hFc := de_free hD hS hA
  refine va_calli (va_runV (As := []) (rest := [.int p_5]) ⟨hx, hb, hml, hown, hts⟩ (de_X16_structureCount l dC dI cy a sh n H.size F z_6 k_4 hfc) (cwV 0 hts gX18_measure_X16_structureCount rfl rfl rfl (by decide +kernel) ⟨Nat.le_of_ble_eq_true rfl, Nat.le_of_ble_eq_true rfl⟩) ⟨fun a U g mk q => by obtain ⟨q0, q1, qP, qK, qD, qN⟩ := q; exact ⟨q0, q1, qP, va_K.moved (u := U) (U := U.calling g mk a) (Vm.Alike.refl U.vm) qK, qD, qN.same rfl⟩, va_recv hK hP (ci := 16) (q0 := k_4) rfl (Wd_ob kg_10 sg_10 (by decide)), fun U hU hW => ⟨rfl, by rw [hU], by rw [hU]; exact hP, va_K.moved hW.alike hK, hD.weaken (fun _ _ _ _ => trivial), hN.warm hW⟩⟩ rfl rfl hl.1 rfl (lv_room (Nat.le_of_ble_eq_true rfl)) dX18_measure_11 ⟨Nat.le_of_ble_eq_true rfl, Nat.le_of_ble_eq_true rfl⟩) hS (fun q _ h => hFc q h) hFc (fun rr u t H_11 locs ht hvm hw hB hz1 hk1 hS2 => ?_)
  rw [hw]
  clear hw
  obtain ⟨hP1, -, hD1⟩ := hB
  rw [ht] at hP1
  replace hD := hD1.weaken (fun _ _ _ h => hFc _ h)
  replace hP := hP1
  replace hS := hS2
  clear hP1 hD1 hS2 hFc hfc hz1 hk1 hvm ht
  refine lv_icmp_ge (tgt := 101) hx hb dX18_measure_14 (by decide) (fun c_12 => ?_) (fun c_12 => ?_)
  · skip
    rw [if_pos c_12] at hf
    refine lv_iconst (v := 0) hx hb dX18_measure_101 (by decide) ?_
    refine lv_istore_n (lv' := [(3, .int 0), (2, .ref (a k_4)), (0, .ref (a h0)), (1, .int x0)]) hx hb dX18_measure_102 rfl hl (by decide) rfl (fun ls hl2 => ?_)
    replace hl := hl2
    clear hl2
    have hl0 : lv_has ls 7 [(3, .int 0), (2, .ref (a k_4)), (0, .ref (a h0)), (1, .int x0)] := lv_sub hl [0, 1, 2, 3] rfl
    refine de_loop (h := 103) (fun (x : St × Int32) ls H locs => lv_has ls 7 [(3, .int x.2), (2, .ref (a k_4)), (0, .ref (a h0)), (1, .int x0)] ∧ va_P (dC, dI) vwCl (Wd cy a sh n x.1) H ∧ va_D A (Wd cy a sh n x.1) ∧ va_S A s.heap H locs) (fun f x => fn_X18_measure_L103 F sh n k_4 h0 x0 f x.1 x.2) (z8, r8) ?_ (fun _ => rfl) F (z_8, 0) ls H_11 locs ⟨hl0, hP, hD, hS⟩ hf
    intro f_15 x ls H locs ih103 hI hf
    obtain ⟨z_14, p_13⟩ := x
    obtain ⟨hl2, hP2, hD2, hS2⟩ := hI
    replace hl : lv_has ls 7 [(3, .int p_13), (2, .ref (a k_4)), (0, .ref (a h0)), (1, .int x0)] := hl2
    replace hP := hP2
    replace hD := hD2
    replace hS := hS2
    clear hl2 hP2 hD2 hS2 hl0
    replace hf := fn_X18_measure_L103_s hf
    refine lv_iload_n hx hb dX18_measure_103 rfl (lv_at hl 0 rfl) ?_
    refine lv_aload_n hx hb dX18_measure_104 rfl (lv_at hl 1 rfl) ?_
    refine va_getN (D := (dC, dI)) (ci := 16) (v := .int (z_14.1 k_4 5)) (C := RX16) (T := TX16) (N := 18) hx hb hts iwd_X18_measure_X16 hown hK hP k_4 (Wd_ob kg_10 sg_10 (by decide)) rfl 5 (by decide) (va_Nw.use rfl (NK_f_X18_109 hN)) (fun _ h9 => h9) (fl_at (t := 0) rfl) dX18_measure_105 ?_
    refine lv_icmp_ge (tgt := 194) hx hb dX18_measure_108 (by decide) (fun c_16 => ?_) (fun c_16 => ?_)
    · skip
      rw [if_pos c_16] at hf
      obtain ⟨h8, h9⟩ := ret_some hf
      rw [h8]
      exact W.vret hx hb hr (fun t ht hW => ⟨⟨(), rfl, trivial, by rw [ht]; exact hP, va_K.moved hW.alike hK, hD⟩, hS.F ht⟩) hS.2.2 dX18_measure_194
    · skip
      rw [if_neg c_16] at hf
      refine lv_iconst (v := 0) hx hb dX18_measure_111 (by decide) ?_
      refine lv_istore (lv' := [(4, .int 0), (3, .int p_13), (2, .ref (a k_4)), (0, .ref (a h0)), (1, .int x0)]) hx hb dX18_measure_112 hl (by decide) rfl (fun ls hl2 => ?_)
      replace hl := hl2
      clear hl2
      have hl0 : lv_has ls 7 [(4, .int 0), (3, .int p_13), (2, .ref (a k_4)), (0, .ref (a h0)), (1, .int x0)] := lv_sub hl [0, 1, 2, 3, 4] rfl
      refine de_loop (h := 114) (fun (x : St × Int32) ls H locs => lv_has ls 7 [(4, .int x.2), (3, .int p_13), (2, .ref (a k_4)), (0, .ref (a h0)), (1, .int x0)] ∧ va_P (dC, dI) vwCl (Wd cy a sh n x.1) H ∧ va_D A (Wd cy a sh n x.1) ∧ va_S A s.heap H locs) (fun f x => fn_X18_measure_L114 F sh n k_4 p_13 h0 x0 (fun z9 q3 => fn_X18_measure_L103 F sh n k_4 h0 x0 f_15 z9 q3) f x.1 x.2) (z8, r8) ?_ (fun _ => rfl) F (z_14, 0) ls H locs ⟨hl0, hP, hD, hS⟩ hf
      intro f_19 x ls H locs ih114 hI hf
      obtain ⟨z_18, p_17⟩ := x
      obtain ⟨hl2, hP2, hD2, hS2⟩ := hI
      replace hl : lv_has ls 7 [(4, .int p_17), (3, .int p_13), (2, .ref (a k_4)), (0, .ref (a h0)), (1, .int x0)] := hl2
      replace hP := hP2
      replace hD := hD2
      replace hS := hS2
      clear hl2 hP2 hD2 hS2 hl0
      replace hf := fn_X18_measure_L114_s hf
      refine lv_iload hx hb dX18_measure_114 (lv_at hl 0 rfl) ?_
      refine lv_aload_n hx hb dX18_measure_116 rfl (lv_at hl 2 rfl) ?_
      refine va_getN (D := (dC, dI)) (ci := 16) (v := .int (z_18.1 k_4 5)) (C := RX16) (T := TX16) (N := 18) hx hb hts iwd_X18_measure_X16 hown hK hP k_4 (Wd_ob kg_10 sg_10 (by decide)) rfl 5 (by decide) (va_Nw.use rfl (NK_f_X18_109 hN)) (fun _ h9 => h9) (fl_at (t := 0) rfl) dX18_measure_117 ?_
      refine lv_icmp_ge (tgt := 188) hx hb dX18_measure_120 (by decide) (fun c_20 => ?_) (fun c_20 => ?_)
      · skip
        rw [if_pos c_20] at hf
        refine lv_iinc (v := (p_13 + 1)) (lv' := [(3, .int (p_13 + 1)), (4, .int p_17), (2, .ref (a k_4)), (0, .ref (a h0)), (1, .int x0)]) hx hb dX18_measure_188 hl (k := 1) rfl rfl (by decide) rfl (fun ls hl2 => ?_)
        replace hl := hl2
        clear hl2
        refine lv_goto (tgt := 103) hx hb dX18_measure_191 (by decide) ?_
        exact ih103 (z_18, (p_13 + 1)) ls H locs ⟨lv_sub hl [0, 2, 3, 4] rfl, hP, hD, hS⟩ hf
      · skip
        rw [if_neg c_20] at hf
        refine lv_iconst (v := 0) hx hb dX18_measure_123 (by decide) ?_
        refine lv_istore (lv' := [(5, .int 0), (4, .int p_17), (3, .int p_13), (2, .ref (a k_4)), (0, .ref (a h0)), (1, .int x0)]) hx hb dX18_measure_124 hl (by decide) rfl (fun ls hl2 => ?_)
        replace hl := hl2
        clear hl2
        refine lv_iconst (v := 0) hx hb dX18_measure_126 (by decide) ?_
        refine lv_istore (lv' := [(6, .int 0), (5, .int 0), (4, .int p_17), (3, .int p_13), (2, .ref (a k_4)), (0, .ref (a h0)), (1, .int x0)]) hx hb dX18_measure_127 hl (by decide) rfl (fun ls hl2 => ?_)
        replace hl := hl2
        clear hl2
        have hl0 : lv_has ls 7 [(6, .int 0), (5, .int 0), (4, .int p_17), (3, .int p_13), (2, .ref (a k_4)), (0, .ref (a h0)), (1, .int x0)] := lv_sub hl [0, 1, 2, 3, 4, 5, 6] rfl
        refine de_loop (h := 129) (fun (x : St × Int32 × Int32) ls H locs => lv_has ls 7 [(6, .int x.2.2), (5, .int x.2.1), (4, .int p_17), (3, .int p_13), (2, .ref (a k_4)), (0, .ref (a h0)), (1, .int x0)] ∧ va_P (dC, dI) vwCl (Wd cy a sh n x.1) H ∧ va_D A (Wd cy a sh n x.1) ∧ va_S A s.heap H locs) (fun f x => fn_X18_measure_L129 F sh n k_4 p_17 h0 x0 (fun z9 q4 => fn_X18_measure_L114 F sh n k_4 p_13 h0 x0 (fun z9 q3 => fn_X18_measure_L103 F sh n k_4 h0 x0 f_15 z9 q3) f_19 z9 q4) f x.1 x.2.1 x.2.2) (z8, r8) ?_ (fun _ => rfl) F (z_18, 0, 0) ls H locs ⟨hl0, hP, hD, hS⟩ hf
        intro f_24 x ls H locs ih129 hI hf
        obtain ⟨z_23, p_21, p_22⟩ := x
        obtain ⟨hl2, hP2, hD2, hS2⟩ := hI
        replace hl : lv_has ls 7 [(6, .int p_22), (5, .int p_21), (4, .int p_17), (3, .int p_13), (2, .ref (a k_4)), (0, .ref (a h0)), (1, .int x0)] := hl2
        replace hP := hP2
        replace hD := hD2
        replace hS := hS2
        clear hl2 hP2 hD2 hS2 hl0
        replace hf := fn_X18_measure_L129_s hf
        refine lv_iload hx hb dX18_measure_129 (lv_at hl 0 rfl) ?_
        refine lv_aload_n hx hb dX18_measure_131 rfl (lv_at hl 4 rfl) ?_
        refine lv_iload hx hb dX18_measure_132 (lv_at hl 2 rfl) ?_
        obtain ⟨z_25, r_26, hfc, hf⟩ := cal_some hf
        have hFc := de_free hD hS hA
        refine va_calli (va_runVN (As := [.int p_17]) (rest := [.int p_22]) ⟨hx, hb, hml, hown, hts⟩ (de_X16_fieldsOf l dC dI cy a sh n H.size F z_23 k_4 p_17 hfc) ⟨va_cnB 1 hts ggX18_measure_X16_fieldsOf rfl rfl rfl (NK_m_X18_192 hN) (hts _ md_X18_measure_10) ⟨by decide, by decide, by decide +kernel⟩ ⟨Nat.le_of_ble_eq_true rfl, Nat.le_of_ble_eq_true rfl⟩, (hts _ md_X18_measure_40), (hts _ md_X18_measure_41)⟩ ⟨fun a U g mk q => by obtain ⟨q0, q1, qP, qK, qD, qN⟩ := q; exact ⟨q0, q1, qP, va_K.moved (u := U) (U := U.calling g mk a) (Vm.Alike.refl U.vm) qK, qD, qN.same rfl⟩, va_recv hK hP (ci := 16) (q0 := k_4) rfl (Wd_ob kg_10 sg_10 (by decide)), fun U hU hW => ⟨rfl, by rw [hU], by rw [hU]; exact hP, va_K.moved hW.alike hK, hD.weaken (fun _ _ _ _ => trivial), hN.warm hW⟩⟩ rfl rfl hl.1 rfl (lv_room (Nat.le_of_ble_eq_true rfl)) dX18_measure_134 ⟨Nat.le_of_ble_eq_true rfl, Nat.le_of_ble_eq_true rfl⟩) hS (fun q _ h => hFc q h) hFc (fun rr u t H_27 locs ht hvm hw hB hz1 hk1 hS2 => ?_)
        rw [hw]
        clear hw
        obtain ⟨hP1, -, hD1⟩ := hB
        rw [ht] at hP1
        replace hD := hD1.weaken (fun _ _ _ h => hFc _ h)
        replace hP := hP1
        replace hS := hS2
        clear hP1 hD1 hS2 hFc hfc hz1 hk1 hvm ht
        refine lv_icmp_ge (tgt := 166) hx hb dX18_measure_137 (by decide) (fun c_28 => ?_) (fun c_28 => ?_)
        · skip
          rw [if_pos c_28] at hf
          refine lv_aload_n hx hb dX18_measure_166 rfl (lv_at hl 5 rfl) ?_
          obtain ⟨k_29, ek_29, hf⟩ := lnk_some hf
          refine va_get (D := (dC, dI)) (ci := 18) (v := .ref (a k_29)) (C := RX18) (T := TX18) (N := 78) hx hb hts iwd_X18_measure_X18 hown hK hP h0 (Wd_ob kg_1 sg_1 (by decide)) rfl 6 (by decide) (hts _ md_X18_measure_2) (fun _ h9 => h9) (fl_q rfl ek_29) dX18_measure_167 ?_
          refine lv_bipush (v := 64) hx hb dX18_measure_170 (by decide) ?_
          refine lv_iload_n hx hb dX18_measure_172 rfl (lv_at hl 6 rfl) ?_
          refine lv_imul hx hb dX18_measure_173 ?_
          refine lv_iload hx hb dX18_measure_174 (lv_at hl 2 rfl) ?_
          refine lv_iadd hx hb dX18_measure_176 ?_
          refine lv_iconst (v := 1) hx hb dX18_measure_177 (by decide) ?_
          refine lv_iload hx hb dX18_measure_178 (lv_at hl 1 rfl) ?_
          refine lv_iadd hx hb dX18_measure_180 ?_
          obtain ⟨g_30, hf⟩ := grd_some hf
          obtain ⟨kg_30, sg_30, ig_30⟩ := okA_at g_30
          refine va_iast hx hb hK hP hD hS k_29 1 (Wd_ai kg_30 sg_30) rfl ig_30 dX18_measure_181 (fun H_31 locs hP2 hD2 hS2 => ?_)
          rw [Wd_ti sg_30] at hP2 hD2
          obtain ⟨z_32, ez_32⟩ : ∃ w, w = si z_25 k_29 ((64 * x0) + p_17).toNatClampNeg (1 + p_21) := ⟨_, rfl⟩
          rw [← ez_32] at hP2 hD2
          replace hf := lt_at ez_32 hf
          clear ez_32
          replace hP := hP2
          replace hD := hD2
          replace hS := hS2
          clear hP2 hD2 hS2
          refine lv_iinc (v := (p_17 + 1)) (lv' := [(4, .int (p_17 + 1)), (6, .int p_22), (5, .int p_21), (3, .int p_13), (2, .ref (a k_4)), (0, .ref (a h0)), (1, .int x0)]) hx hb dX18_measure_182 hl (k := 2) rfl rfl (by decide) rfl (fun ls hl2 => ?_)
          replace hl := hl2
          clear hl2
          refine lv_goto (tgt := 114) hx hb dX18_measure_185 (by decide) ?_
          exact ih114 (z_32, (p_17 + 1)) ls H_31 locs ⟨lv_sub hl [0, 3, 4, 5, 6] rfl, hP, hD, hS⟩ hf
        · skip
          rw [if_neg c_28] at hf
          refine lv_iload hx hb dX18_measure_140 (lv_at hl 1 rfl) ?_
          refine lv_aload_n hx hb dX18_measure_142 rfl (lv_at hl 5 rfl) ?_
          refine lv_iload_n hx hb dX18_measure_143 rfl (lv_at hl 6 rfl) ?_
          refine lv_aload_n hx hb dX18_measure_144 rfl (lv_at hl 4 rfl) ?_
          refine lv_iload hx hb dX18_measure_145 (lv_at hl 2 rfl) ?_
          refine lv_iload hx hb dX18_measure_147 (lv_at hl 0 rfl) ?_
          obtain ⟨z_33, r_34, hfc, hf⟩ := cal_some hf
          have hFc := de_free hD hS hA
          refine va_calll (va_runV (As := [.int p_17, .int p_22]) (rest := [.int x0, .ref (a h0), .int p_21]) ⟨hx, hb, hml, hown, hts⟩ (de_X16_field l dC dI cy a sh n H_27.size F z_25 k_4 p_17 p_22 hfc) (cwV 2 hts gX18_measure_X16_field rfl rfl rfl (by decide +kernel) ⟨Nat.le_of_ble_eq_true rfl, Nat.le_of_ble_eq_true rfl⟩) ⟨fun a U g mk q => by obtain ⟨q0, q1, qP, qK, qD, qN⟩ := q; exact ⟨q0, q1, qP, va_K.moved (u := U) (U := U.calling g mk a) (Vm.Alike.refl U.vm) qK, qD, qN.same rfl⟩, va_recv hK hP (ci := 16) (q0 := k_4) rfl (Wd_ob kg_10 sg_10 (by decide)), fun U hU hW => ⟨rfl, by rw [hU], by rw [hU]; exact hP, va_K.moved hW.alike hK, hD.weaken (fun _ _ _ _ => trivial), hN.warm hW⟩⟩ rfl rfl hl.1 rfl (lv_room (Nat.le_of_ble_eq_true rfl)) dX18_measure_149 ⟨Nat.le_of_ble_eq_true rfl, Nat.le_of_ble_eq_true rfl⟩) hS (fun q _ h => hFc q h) hFc (fun rr u t H_35 locs ht hvm hw hB hz1 hk1 hS2 => ?_)
          rw [hw]
          clear hw
          obtain ⟨hP1, -, hD1⟩ := hB
          rw [ht] at hP1
          replace hD := hD1.weaken (fun _ _ _ h => hFc _ h)
          replace hP := hP1
          replace hS := hS2
          clear hP1 hD1 hS2 hFc hfc hz1 hk1 hvm ht
          obtain ⟨z_36, r_37, hfc, hf⟩ := cal_some hf
          have hFc := de_free hD hS hA
          refine va_calli (va_runV (As := [.int x0, .long r_34]) (rest := [.int p_21]) ⟨hx, hb, hml, hown, hts⟩ (de_X18_depthOf l dC dI cy a sh n H_35.size F z_33 h0 x0 r_34 hfc) (cwV 2 hts gX18_measure_X18_depthOf rfl rfl rfl (by decide +kernel) ⟨Nat.le_of_ble_eq_true rfl, Nat.le_of_ble_eq_true rfl⟩) ⟨fun a U g mk q => by obtain ⟨q0, q1, qP, qK, qD, qN⟩ := q; exact ⟨q0, q1, qP, va_K.moved (u := U) (U := U.calling g mk a) (Vm.Alike.refl U.vm) qK, qD, qN.same rfl⟩, va_recv hK hP (ci := 18) (q0 := h0) rfl (Wd_ob kg_1 sg_1 (by decide)), fun U hU hW => ⟨rfl, by rw [hU], by rw [hU]; exact hP, va_K.moved hW.alike hK, hD.weaken (fun _ _ _ _ => trivial), hN.warm hW⟩⟩ rfl rfl hl.1 rfl (lv_room (Nat.le_of_ble_eq_true rfl)) dX18_measure_152 ⟨Nat.le_of_ble_eq_true rfl, Nat.le_of_ble_eq_true rfl⟩) hS (fun q _ h => hFc q h) hFc (fun rr u t H_38 locs ht hvm hw hB hz1 hk1 hS2 => ?_)
          rw [hw]
          clear hw
          obtain ⟨hP1, -, hD1⟩ := hB
          rw [ht] at hP1
          replace hD := hD1.weaken (fun _ _ _ h => hFc _ h)
          replace hP := hP1
          replace hS := hS2
          clear hP1 hD1 hS2 hFc hfc hz1 hk1 hvm ht
          refine va_mmax hx hb (hml.trans hl.1.symm) hown (hts _ md_X18_measure_3) (hts _ md_X18_measure_4) (hts _ md_X18_measure_5) (hts _ md_X18_measure_6) (Nat.le_of_ble_eq_true rfl) (Nat.le_of_ble_eq_true rfl) (Nat.le_of_ble_eq_true rfl) (Nat.le_of_ble_eq_true rfl) dX18_measure_155 ?_
          refine lv_topi (fun v_39 ev_39 => ?_)
          replace hf := lt_at ev_39 hf
          clear ev_39
          refine lv_istore (lv' := [(5, .int v_39), (6, .int p_22), (4, .int p_17), (3, .int p_13), (2, .ref (a k_4)), (0, .ref (a h0)), (1, .int x0)]) hx hb dX18_measure_158 hl (by decide) rfl (fun ls hl2 => ?_)
          replace hl := hl2
          clear hl2
          refine lv_iinc (v := (p_22 + 1)) (lv' := [(6, .int (p_22 + 1)), (5, .int v_39), (4, .int p_17), (3, .int p_13), (2, .ref (a k_4)), (0, .ref (a h0)), (1, .int x0)]) hx hb dX18_measure_160 hl (k := 1) rfl rfl (by decide) rfl (fun ls hl2 => ?_)
          replace hl := hl2
          clear hl2
          refine lv_goto (tgt := 129) hx hb dX18_measure_163 (by decide) ?_
          exact ih129 (z_36, v_39, (p_22 + 1)) ls H_38 locs ⟨lv_sub hl [0, 1, 2, 3, 4, 5, 6] rfl, hP, hD, hS⟩ hf
  · skip
    rw [if_neg c_12] at hf
    refine lv_iload_n hx hb dX18_measure_17 rfl (lv_at hl 0 rfl) ?_
    refine lv_aload_n hx hb dX18_measure_18 rfl (lv_at hl 1 rfl) ?_
    refine va_getN (D := (dC, dI)) (ci := 16) (v := .int (z_8.1 k_4 5)) (C := RX16) (T := TX16) (N := 18) hx hb hts iwd_X18_measure_X16 hown hK hP k_4 (Wd_ob kg_10 sg_10 (by decide)) rfl 5 (by decide) (va_Nw.use rfl (NK_f_X18_109 hN)) (fun _ h9 => h9) (fl_at (t := 0) rfl) dX18_measure_19 ?_
    refine de_cut (h := 34) (fun (x : St × Int32) => [.int x.2]) (fun x ls H locs => lv_has ls 7 [(3, .int p_5), (2, .ref (a k_4)), (0, .ref (a h0)), (1, .int x0)] ∧ va_P (dC, dI) vwCl (Wd cy a sh n x.1) H ∧ va_D A (Wd cy a sh n x.1) ∧ va_S A s.heap H locs) (fun x => fn_X18_measure_B34 F sh n h0 k_4 p_5 x0 (fun z9 q3 => fn_X18_measure_L9 F sh n k_4 h0 x0 f_7 z9 q3) x.1 x.2) (z8, r8) ?_ (fun B34 => ?_)
    · intro x ls H locs hI hf
      obtain ⟨z_41, p_40⟩ := x
      obtain ⟨hl2, hP2, hD2, hS2⟩ := hI
      replace hl : lv_has ls 7 [(3, .int p_5), (2, .ref (a k_4)), (0, .ref (a h0)), (1, .int x0)] := hl2
      replace hP := hP2
      replace hD := hD2
      replace hS := hS2
      clear hl2 hP2 hD2 hS2
      replace hf := fn_X18_measure_B34_s hf
      refine W.eq (g2 := F0 m 34 ls [.int p_40]) rfl ?_
      refine lv_istore (lv' := [(4, .int p_40), (3, .int p_5), (2, .ref (a k_4)), (0, .ref (a h0)), (1, .int x0)]) hx hb dX18_measure_34 hl (by decide) rfl (fun ls hl2 => ?_)
      replace hl := hl2
      clear hl2
      refine lv_aload_n hx hb dX18_measure_36 rfl (lv_at hl 3 rfl) ?_
      obtain ⟨k_42, ek_42, hf⟩ := lnk_some hf
      refine va_get (D := (dC, dI)) (ci := 18) (v := .ref (a k_42)) (C := RX18) (T := TX18) (N := 78) hx hb hts iwd_X18_measure_X18 hown hK hP h0 (Wd_ob kg_1 sg_1 (by decide)) rfl 6 (by decide) (hts _ md_X18_measure_2) (fun _ h9 => h9) (fl_q rfl ek_42) dX18_measure_37 ?_
      refine lv_bipush (v := 64) hx hb dX18_measure_40 (by decide) ?_
      refine lv_iload_n hx hb dX18_measure_42 rfl (lv_at hl 4 rfl) ?_
      refine lv_imul hx hb dX18_measure_43 ?_
      refine lv_iload_n hx hb dX18_measure_44 rfl (lv_at hl 1 rfl) ?_
      refine lv_iadd hx hb dX18_measure_45 ?_
      refine lv_iload_n hx hb dX18_measure_46 rfl (lv_at hl 1 rfl) ?_
      refine lv_aload_n hx hb dX18_measure_47 rfl (lv_at hl 2 rfl) ?_
      refine va_getN (D := (dC, dI)) (ci := 16) (v := .int (z_41.1 k_4 5)) (C := RX16) (T := TX16) (N := 18) hx hb hts iwd_X18_measure_X16 hown hK hP k_4 (Wd_ob kg_10 sg_10 (by decide)) rfl 5 (by decide) (va_Nw.use rfl (NK_f_X18_109 hN)) (fun _ h9 => h9) (fl_at (t := 0) rfl) dX18_measure_48 ?_
      refine de_cut (h := 94) (fun (x : St × Int32) => [.int x.2, .int ((64 * x0) + p_5), .ref (a k_42)]) (fun x ls H locs => lv_has ls 7 [(3, .int p_5), (2, .ref (a k_4)), (0, .ref (a h0)), (1, .int x0)] ∧ va_P (dC, dI) vwCl (Wd cy a sh n x.1) H ∧ va_D A (Wd cy a sh n x.1) ∧ va_S A s.heap H locs) (fun x => fn_X18_measure_B94 F sh n k_42 x0 p_5 (fun z9 q3 => fn_X18_measure_L9 F sh n k_4 h0 x0 f_7 z9 q3) x.1 x.2) (z8, r8) ?_ (fun B94 => ?_)
      · intro x ls H locs hI hf
        obtain ⟨z_44, p_43⟩ := x
        obtain ⟨hl2, hP2, hD2, hS2⟩ := hI
        replace hl : lv_has ls 7 [(3, .int p_5), (2, .ref (a k_4)), (0, .ref (a h0)), (1, .int x0)] := hl2
        replace hP := hP2
        replace hD := hD2
        replace hS := hS2
        clear hl2 hP2 hD2 hS2
        replace hf := fn_X18_measure_B94_s hf
        refine W.eq (g2 := F0 m 94 ls [.int p_43, .int ((64 * x0) + p_5), .ref (a k_42)]) rfl ?_
        obtain ⟨g_45, hf⟩ := grd_some hf
        obtain ⟨kg_45, sg_45, ig_45⟩ := okA_at g_45
        refine va_iast hx hb hK hP hD hS k_42 1 (Wd_ai kg_45 sg_45) rfl ig_45 dX18_measure_94 (fun H_46 locs hP2 hD2 hS2 => ?_)
        rw [Wd_ti sg_45] at hP2 hD2
        obtain ⟨z_47, ez_47⟩ : ∃ w, w = si z_44 k_42 ((64 * x0) + p_5).toNatClampNeg p_43 := ⟨_, rfl⟩
        rw [← ez_47] at hP2 hD2
        replace hf := lt_at ez_47 hf
        clear ez_47
        replace hP := hP2
        replace hD := hD2
        replace hS := hS2
        clear hP2 hD2 hS2
        refine lv_iinc (v := (p_5 + 1)) (lv' := [(3, .int (p_5 + 1)), (2, .ref (a k_4)), (0, .ref (a h0)), (1, .int x0)]) hx hb dX18_measure_95 hl (k := 0) rfl rfl (by decide) rfl (fun ls hl2 => ?_)
        replace hl := hl2
        clear hl2
        refine lv_goto (tgt := 9) hx hb dX18_measure_98 (by decide) ?_
        exact ih9 (z_47, (p_5 + 1)) ls H_46 locs ⟨lv_sub hl [0, 1, 2, 3] rfl, hP, hD, hS⟩ hf
      refine lv_icmp_ge (tgt := 58) hx hb dX18_measure_51 (by decide) (fun c_48 => ?_) (fun c_48 => ?_)
      · skip
        rw [if_pos c_48] at hf
        refine lv_iload hx hb dX18_measure_58 (lv_at hl 0 rfl) ?_
        refine lv_bipush (v := 8) hx hb dX18_measure_60 (by decide) ?_
        refine lv_ishr hx hb dX18_measure_62 ?_
        refine lv_if_ne (tgt := 70) hx hb dX18_measure_63 (by decide) (fun c_49 => ?_) (fun c_49 => ?_)
        · skip
          rw [if_neg c_49] at hf
          refine lv_aload_n hx hb dX18_measure_70 rfl (lv_at hl 3 rfl) ?_
          obtain ⟨k_50, ek_50, hf⟩ := lnk_some hf
          refine va_get (D := (dC, dI)) (ci := 18) (v := .ref (a k_50)) (C := RX18) (T := TX18) (N := 78) hx hb hts iwd_X18_measure_X18 hown hK hP h0 (Wd_ob kg_1 sg_1 (by decide)) rfl 6 (by decide) (hts _ md_X18_measure_2) (fun _ h9 => h9) (fl_q rfl ek_50) dX18_measure_71 ?_
          refine lv_bipush (v := 64) hx hb dX18_measure_74 (by decide) ?_
          refine lv_aload_n hx hb dX18_measure_76 rfl (lv_at hl 3 rfl) ?_
          refine lv_iload hx hb dX18_measure_77 (lv_at hl 0 rfl) ?_
          refine lv_bipush (v := 8) hx hb dX18_measure_79 (by decide) ?_
          refine lv_ishr hx hb dX18_measure_81 ?_
          obtain ⟨z_51, r_52, hfc, hf⟩ := cal_some hf
          have hFc := de_free hD hS hA
          refine va_calli (va_runV (As := [.int (p_40 >>> (8 &&& 31))]) (rest := [.int 64, .ref (a k_50), .int ((64 * x0) + p_5), .ref (a k_42)]) ⟨hx, hb, hml, hown, hts⟩ (de_X18_findModule l dC dI cy a sh n H.size F z_41 h0 (p_40 >>> (8 &&& 31)) hfc) (cwV 1 hts gX18_measure_X18_findModule rfl rfl rfl (by decide +kernel) ⟨Nat.le_of_ble_eq_true rfl, Nat.le_of_ble_eq_true rfl⟩) ⟨fun a U g mk q => by obtain ⟨q0, q1, qP, qK, qD, qN⟩ := q; exact ⟨q0, q1, qP, va_K.moved (u := U) (U := U.calling g mk a) (Vm.Alike.refl U.vm) qK, qD, qN.same rfl⟩, va_recv hK hP (ci := 18) (q0 := h0) rfl (Wd_ob kg_1 sg_1 (by decide)), fun U hU hW => ⟨rfl, by rw [hU], by rw [hU]; exact hP, va_K.moved hW.alike hK, hD.weaken (fun _ _ _ _ => trivial), hN.warm hW⟩⟩ rfl rfl hl.1 rfl (lv_room (Nat.le_of_ble_eq_true rfl)) dX18_measure_82 ⟨Nat.le_of_ble_eq_true rfl, Nat.le_of_ble_eq_true rfl⟩) hS (fun q _ h => hFc q h) hFc (fun rr u t H_53 locs ht hvm hw hB hz1 hk1 hS2 => ?_)
          rw [hw]
          clear hw
          obtain ⟨hP1, -, hD1⟩ := hB
          rw [ht] at hP1
          replace hD := hD1.weaken (fun _ _ _ h => hFc _ h)
          replace hP := hP1
          replace hS := hS2
          clear hP1 hD1 hS2 hFc hfc hz1 hk1 hvm ht
          refine lv_imul hx hb dX18_measure_85 ?_
          refine lv_iload hx hb dX18_measure_86 (lv_at hl 0 rfl) ?_
          refine lv_sipush (v := 255) hx hb dX18_measure_88 (by decide) ?_
          refine lv_iand hx hb dX18_measure_91 ?_
          refine lv_iadd hx hb dX18_measure_92 ?_
          obtain ⟨g_54, hf⟩ := grd_some hf
          obtain ⟨kg_54, sg_54, ig_54⟩ := okA_at g_54
          refine va_iald hx hb hK hP k_50 1 (Wd_ai kg_54 sg_54) rfl ig_54 dX18_measure_93 ?_
          exact B94 (z_51, (z_51.1 k_50 ((64 * r_52) + (p_40 &&& 255)).toNatClampNeg)) ls H_53 locs ⟨lv_sub hl [1, 2, 3, 4] rfl, hP, hD, hS⟩ hf
        · skip
          rw [if_pos c_49] at hf
          refine lv_iconst (v := 2) hx hb dX18_measure_66 (by decide) ?_
          refine lv_goto (tgt := 94) hx hb dX18_measure_67 (by decide) ?_
          exact B94 (z_41, 2) ls H locs ⟨lv_sub hl [1, 2, 3, 4] rfl, hP, hD, hS⟩ hf
      · skip
        rw [if_neg c_48] at hf
        refine lv_iconst (v := 0) hx hb dX18_measure_54 (by decide) ?_
        refine lv_goto (tgt := 94) hx hb dX18_measure_55 (by decide) ?_
        exact B94 (z_41, 0) ls H locs ⟨lv_sub hl [1, 2, 3, 4] rfl, hP, hD, hS⟩ hf
    refine lv_icmp_ge (tgt := 29) hx hb dX18_measure_22 (by decide) (fun c_55 => ?_) (fun c_55 => ?_)
    · skip
      rw [if_pos c_55] at hf
      refine lv_aload_n hx hb dX18_measure_29 rfl (lv_at hl 1 rfl) ?_
      refine lv_iload_n hx hb dX18_measure_30 rfl (lv_at hl 0 rfl) ?_
      obtain ⟨z_56, r_57, hfc, hf⟩ := cal_some hf
      have hFc := de_free hD hS hA
      refine va_calli (va_runV (As := [.int p_5]) (rest := []) ⟨hx, hb, hml, hown, hts⟩ (de_X16_identity l dC dI cy a sh n H_11.size F z_8 k_4 p_5 hfc) (cwV 1 hts gX18_measure_X16_identity rfl rfl rfl (by decide +kernel) ⟨Nat.le_of_ble_eq_true rfl, Nat.le_of_ble_eq_true rfl⟩) ⟨fun a U g mk q => by obtain ⟨q0, q1, qP, qK, qD, qN⟩ := q; exact ⟨q0, q1, qP, va_K.moved (u := U) (U := U.calling g mk a) (Vm.Alike.refl U.vm) qK, qD, qN.same rfl⟩, va_recv hK hP (ci := 16) (q0 := k_4) rfl (Wd_ob kg_10 sg_10 (by decide)), fun U hU hW => ⟨rfl, by rw [hU], by rw [hU]; exact hP, va_K.moved hW.alike hK, hD.weaken (fun _ _ _ _ => trivial), hN.warm hW⟩⟩ rfl rfl hl.1 rfl (lv_room (Nat.le_of_ble_eq_true rfl)) dX18_measure_31 ⟨Nat.le_of_ble_eq_true rfl, Nat.le_of_ble_eq_true rfl⟩) hS (fun q _ h => hFc q h) hFc (fun rr u t H_58 locs ht hvm hw hB hz1 hk1 hS2 => ?_)
      rw [hw]
      clear hw
      obtain ⟨hP1, -, hD1⟩ := hB
      rw [ht] at hP1
      replace hD := hD1.weaken (fun _ _ _ h => hFc _ h)
      replace hP := hP1
      replace hS := hS2
      clear hP1 hD1 hS2 hFc hfc hz1 hk1 hvm ht
      exact B34 (z_56, r_57) ls H_58 locs ⟨lv_sub hl [0, 1, 2, 3] rfl, hP, hD, hS⟩ hf
    · skip
      rw [if_neg c_55] at hf
      refine lv_iconst (v := 0) hx hb dX18_measure_25 (by decide) ?_
      refine lv_goto (tgt := 34) hx hb dX18_measure_26 (by decide) ?_
      exact B34 (z_8, 0) ls H_11 locs ⟨lv_sub hl [0, 1, 2, 3] rfl, hP, hD, hS⟩ hf

theorem md_X4_reckon_1 : (.fieldLink RX4 12 "ResourceLedger$Machine" "heap" "LResourceLedger$Heap;" : Cond) ∈ wsX4_reckon := List.mem_of_getElem? (i := 1) rfl
theorem iwd_X4_reckon_X4 : ∀ w ∈ wsX40, w ∈ wsX4_reckon := fun _ h => List.mem_cons_of_mem _ (List.mem_append_left _ (List.mem_append_left _ (List.mem_append_left _ (List.mem_append_right _ h))))
theorem md_X4_reckon_5 : (.fieldLink RX4 152 "ResourceLedger$Heap" "kind" "[B" : Cond) ∈ wsX4_reckon := List.mem_of_getElem? (i := 5) rfl
theorem iwd_X4_reckon_X1 : ∀ w ∈ wsX10, w ∈ wsX4_reckon := fun _ h => List.mem_cons_of_mem _ (List.mem_append_left _ (List.mem_append_left _ (List.mem_append_right _ h)))
theorem md_X4_reckon_3 : (.fieldLink RX4 21 "ResourceLedger$Machine" "wide" "LResourceLedger$Wide;" : Cond) ∈ wsX4_reckon := List.mem_of_getElem? (i := 3) rfl
theorem md_X4_reckon_4 : (.fieldLink RX4 155 "ResourceLedger$Heap" "high" "[J" : Cond) ∈ wsX4_reckon := List.mem_of_getElem? (i := 4) rfl
theorem md_X4_reckon_2 : (.fieldLink RX4 158 "ResourceLedger$Heap" "low" "[J" : Cond) ∈ wsX4_reckon := List.mem_of_getElem? (i := 2) rfl
set_option maxHeartbeats 4000000 in
set_option maxRecDepth 100000 in
theorem de_X4_reckon (l : Launch) (dC : Nat → ClassId) (dI : Nat → Nat → Nat) (cy : Nat → ClassId) (a : Nat → Nat) (sh : Nat → Nat × Nat) (n sz : Nat) (F : Nat) (z : St) (h0 : Nat) (x0 : Int32) {z8 : St} {r8 : Unit} (hf : fn_X4_reckon F sh n z h0 x0 = some (z8, r8)) : Met l yX4_reckon wsX4_reckon ({ frames := 52, cells := 0, slots := 0, locals := 1390 }) (va_Pc [.ref (a h0), .int x0] (fun U => U.heap.size = sz ∧ va_P (dC, dI) vwCl (Wd cy a sh n z) U.heap ∧ va_K (dC, dI) vwCl (TYS cy) U ∧ va_D (fun _ => True) (Wd cy a sh n z) ∧ NK U)) (va_Qv (fun u : Unit => True) (fun u t => va_P (dC, dI) vwCl (Wd cy a sh n z8) t.heap ∧ va_K (dC, dI) vwCl (TYS cy) t ∧ va_D (va_A (Wd cy a sh n z) sz) (Wd cy a sh n z8)) (va_A (Wd cy a sh n z) sz)) 0 0 (va_A (Wd cy a sh n z) sz) := by
  refine Met.ofW (cc := cX4_reckon) (maxL := 5) (ret := none) (by decide) rfl ?_
  intro p e s m args below meth c s₁ B hml hv
  obtain ⟨rfl, hsz, hP, hK, hD0, hN⟩ := hv
  have hx := B.exec
  have hb := B.bytes
  have hr := B.returns
  have hts := atoms_spec (ws := wsX4_reckon) B.pre
  have hown : s.vm.findClass RX4 = some m.cls := findClass_of_methodNamed B.named
  have hlocks := B.notSynchronized
  subst hsz
  have hD := hD0.self (sz := s.heap.size)
  clear hD0
  generalize hAe : va_A (Wd cy a sh n z) s.heap.size = A at hD ⊢
  have hA : ∀ q : Nat, s.heap.size ≤ q → A q := fun q h => by rw [← hAe]; exact Or.inr h
  clear hAe
  have hS : va_S A s.heap s.heap [] := va_S.rf
  have hl := lv_entry ([.ref (a h0), .int x0]) (n := 5) (Nat.le_of_ble_eq_true rfl)
  rw [lg_entry_eq]
  generalize (lg_sl ([.ref (a h0), .int x0]) ++ List.replicate (5 - (lg_sl ([.ref (a h0), .int x0])).length) Slot.unset).toArray = ls at hl ⊢
  replace hl : lv_has ls 5 [(0, .ref (a h0)), (1, .int x0)] := hl
  unfold fn_X4_reckon at hf
  refine de_start hS hP (fun H locs hS hP => ?_)
  refine lv_iload_n hx hb dX4_reckon_0 rfl (lv_at hl 1 rfl) ?_
  refine lv_bipush (v := 34) hx hb dX4_reckon_1 (by decide) ?_
  refine lv_icmp_ne (tgt := 27) hx hb dX4_reckon_3 (by decide) (fun c_1 => ?_) (fun c_1 => ?_)
  · skip
    rw [if_neg c_1] at hf
    refine lv_aload_n hx hb dX4_reckon_27 rfl (lv_at hl 0 rfl) ?_
    obtain ⟨g_4, hf⟩ := grd_some hf
    obtain ⟨kg_4, sg_4⟩ := okO_at g_4
    obtain ⟨z_2, r_3, hfc, hf⟩ := cal_some hf
    have hFc := de_free hD hS hA
    refine va_calli (va_runV (As := []) (rest := []) ⟨hx, hb, hml, hown, hts⟩ (de_X4_pop l dC dI cy a sh n H.size F z h0 hfc) (cwV 0 hts gX4_reckon_X4_pop rfl rfl rfl (by decide +kernel) ⟨Nat.le_of_ble_eq_true rfl, Nat.le_of_ble_eq_true rfl⟩) ⟨fun a U g mk q => by obtain ⟨q0, q1, qP, qK, qD, qN⟩ := q; exact ⟨q0, q1, qP, va_K.moved (u := U) (U := U.calling g mk a) (Vm.Alike.refl U.vm) qK, qD, qN.same rfl⟩, va_recv hK hP (ci := 4) (q0 := h0) rfl (Wd_ob kg_4 sg_4 (by decide)), fun U hU hW => ⟨rfl, by rw [hU], by rw [hU]; exact hP, va_K.moved hW.alike hK, hD.weaken (fun _ _ _ _ => trivial), hN.warm hW⟩⟩ rfl rfl hl.1 rfl (lv_room (Nat.le_of_ble_eq_true rfl)) dX4_reckon_28 ⟨Nat.le_of_ble_eq_true rfl, Nat.le_of_ble_eq_true rfl⟩) hS (fun q _ h => hFc q h) hFc (fun rr u t H_5 locs ht hvm hw hB hz1 hk1 hS2 => ?_)
    rw [hw]
    clear hw
    obtain ⟨hP1, -, hD1⟩ := hB
    rw [ht] at hP1
    replace hD := hD1.weaken (fun _ _ _ h => hFc _ h)
    replace hP := hP1
    replace hS := hS2
    clear hP1 hD1 hS2 hFc hfc hz1 hk1 hvm ht
    refine lv_istore_n (lv' := [(2, .int r_3), (0, .ref (a h0)), (1, .int x0)]) hx hb dX4_reckon_31 rfl hl (by decide) rfl (fun ls hl2 => ?_)
    replace hl := hl2
    clear hl2
    refine lv_iload_n hx hb dX4_reckon_32 rfl (lv_at hl 2 rfl) ?_
    refine lv_bipush (v := 42) hx hb dX4_reckon_33 (by decide) ?_
    refine lv_icmp_lt (tgt := 72) hx hb dX4_reckon_35 (by decide) (fun c_6 => ?_) (fun c_6 => ?_)
    · skip
      rw [if_pos c_6] at hf
      refine lv_aload_n hx hb dX4_reckon_72 rfl (lv_at hl 1 rfl) ?_
      obtain ⟨z_7, r_8, hfc, hf⟩ := cal_some hf
      have hFc := de_free hD hS hA
      refine va_calli (va_runV (As := []) (rest := []) ⟨hx, hb, hml, hown, hts⟩ (de_X4_pop l dC dI cy a sh n H_5.size F z_2 h0 hfc) (cwV 0 hts gX4_reckon_X4_pop rfl rfl rfl (by decide +kernel) ⟨Nat.le_of_ble_eq_true rfl, Nat.le_of_ble_eq_true rfl⟩) ⟨fun a U g mk q => by obtain ⟨q0, q1, qP, qK, qD, qN⟩ := q; exact ⟨q0, q1, qP, va_K.moved (u := U) (U := U.calling g mk a) (Vm.Alike.refl U.vm) qK, qD, qN.same rfl⟩, va_recv hK hP (ci := 4) (q0 := h0) rfl (Wd_ob kg_4 sg_4 (by decide)), fun U hU hW => ⟨rfl, by rw [hU], by rw [hU]; exact hP, va_K.moved hW.alike hK, hD.weaken (fun _ _ _ _ => trivial), hN.warm hW⟩⟩ rfl rfl hl.1 rfl (lv_room (Nat.le_of_ble_eq_true rfl)) dX4_reckon_73 ⟨Nat.le_of_ble_eq_true rfl, Nat.le_of_ble_eq_true rfl⟩) hS (fun q _ h => hFc q h) hFc (fun rr u t H_9 locs ht hvm hw hB hz1 hk1 hS2 => ?_)
      rw [hw]
      clear hw
      obtain ⟨hP1, -, hD1⟩ := hB
      rw [ht] at hP1
      replace hD := hD1.weaken (fun _ _ _ h => hFc _ h)
      replace hP := hP1
      replace hS := hS2
      clear hP1 hD1 hS2 hFc hfc hz1 hk1 hvm ht
      refine lv_istore_n (lv' := [(3, .int r_8), (2, .int r_3), (0, .ref (a h0)), (1, .int x0)]) hx hb dX4_reckon_76 rfl hl (by decide) rfl (fun ls hl2 => ?_)
      replace hl := hl2
      clear hl2
      refine lv_aload_n hx hb dX4_reckon_77 rfl (lv_at hl 2 rfl) ?_
      obtain ⟨k_10, ek_10, hf⟩ := lnk_some hf
      refine va_get (D := (dC, dI)) (ci := 4) (v := .ref (a k_10)) (C := RX4) (T := TX4) (N := 19) hx hb hts iwd_X4_reckon_X4 hown hK hP h0 (Wd_ob kg_4 sg_4 (by decide)) rfl 1 (by decide) (hts _ md_X4_reckon_1) (fun _ h9 => h9) (fl_q rfl ek_10) dX4_reckon_78 ?_
      obtain ⟨g_11, hf⟩ := grd_some hf
      obtain ⟨kg_11, sg_11⟩ := okO_at g_11
      obtain ⟨k_12, ek_12, hf⟩ := lnk_some hf
      refine va_get (D := (dC, dI)) (ci := 1) (v := .ref (a k_12)) (C := RX1) (T := TX1) (N := 7) hx hb hts iwd_X4_reckon_X1 hown hK hP k_10 (Wd_ob kg_11 sg_11 (by decide)) rfl 0 (by decide) (hts _ md_X4_reckon_5) (fun _ h9 => h9) (fl_q rfl ek_12) dX4_reckon_81 ?_
      refine lv_iload_n hx hb dX4_reckon_84 rfl (lv_at hl 0 rfl) ?_
      obtain ⟨g_13, hf⟩ := grd_some hf
      obtain ⟨kg_13, sg_13, ig_13⟩ := okA_at g_13
      refine va_bald hx hb hK hP k_12 0 (Wd_ab kg_13 sg_13) rfl ig_13 dX4_reckon_85 ?_
      refine lv_topi (fun v_14 ev_14 => ?_)
      replace hf := lt_at ev_14 hf
      clear ev_14
      refine lv_istore (lv' := [(4, .int v_14), (3, .int r_8), (2, .int r_3), (0, .ref (a h0)), (1, .int x0)]) hx hb dX4_reckon_86 hl (by decide) rfl (fun ls hl2 => ?_)
      replace hl := hl2
      clear hl2
      refine lv_aload_n hx hb dX4_reckon_88 rfl (lv_at hl 3 rfl) ?_
      obtain ⟨k_15, ek_15, hf⟩ := lnk_some hf
      refine va_get (D := (dC, dI)) (ci := 4) (v := .ref (a k_15)) (C := RX4) (T := TX4) (N := 19) hx hb hts iwd_X4_reckon_X4 hown hK hP h0 (Wd_ob kg_4 sg_4 (by decide)) rfl 3 (by decide) (hts _ md_X4_reckon_3) (fun _ h9 => h9) (fl_q rfl ek_15) dX4_reckon_89 ?_
      refine lv_aload_n hx hb dX4_reckon_92 rfl (lv_at hl 3 rfl) ?_
      obtain ⟨k_16, ek_16, hf⟩ := lnk_some hf
      refine va_get (D := (dC, dI)) (ci := 4) (v := .ref (a k_16)) (C := RX4) (T := TX4) (N := 19) hx hb hts iwd_X4_reckon_X4 hown hK hP h0 (Wd_ob kg_4 sg_4 (by decide)) rfl 1 (by decide) (hts _ md_X4_reckon_1) (fun _ h9 => h9) (fl_q rfl ek_16) dX4_reckon_93 ?_
      obtain ⟨g_17, hf⟩ := grd_some hf
      obtain ⟨kg_17, sg_17⟩ := okO_at g_17
      obtain ⟨k_18, ek_18, hf⟩ := lnk_some hf
      refine va_get (D := (dC, dI)) (ci := 1) (v := .ref (a k_18)) (C := RX1) (T := TX1) (N := 7) hx hb hts iwd_X4_reckon_X1 hown hK hP k_16 (Wd_ob kg_17 sg_17 (by decide)) rfl 2 (by decide) (hts _ md_X4_reckon_4) (fun _ h9 => h9) (fl_q rfl ek_18) dX4_reckon_96 ?_
      refine lv_iload_n hx hb dX4_reckon_99 rfl (lv_at hl 1 rfl) ?_
      obtain ⟨g_19, hf⟩ := grd_some hf
      obtain ⟨kg_19, sg_19, ig_19⟩ := okA_at g_19
      refine va_lald hx hb hK hP k_18 2 (Wd_al kg_19 sg_19) rfl ig_19 dX4_reckon_100 ?_
      refine lv_aload_n hx hb dX4_reckon_101 rfl (lv_at hl 3 rfl) ?_
      obtain ⟨k_20, ek_20, hf⟩ := lnk_some hf
      refine va_get (D := (dC, dI)) (ci := 4) (v := .ref (a k_20)) (C := RX4) (T := TX4) (N := 19) hx hb hts iwd_X4_reckon_X4 hown hK hP h0 (Wd_ob kg_4 sg_4 (by decide)) rfl 1 (by decide) (hts _ md_X4_reckon_1) (fun _ h9 => h9) (fl_q rfl ek_20) dX4_reckon_102 ?_
      obtain ⟨g_21, hf⟩ := grd_some hf
      obtain ⟨kg_21, sg_21⟩ := okO_at g_21
      obtain ⟨k_22, ek_22, hf⟩ := lnk_some hf
      refine va_get (D := (dC, dI)) (ci := 1) (v := .ref (a k_22)) (C := RX1) (T := TX1) (N := 7) hx hb hts iwd_X4_reckon_X1 hown hK hP k_20 (Wd_ob kg_21 sg_21 (by decide)) rfl 1 (by decide) (hts _ md_X4_reckon_2) (fun _ h9 => h9) (fl_q rfl ek_22) dX4_reckon_105 ?_
      refine lv_iload_n hx hb dX4_reckon_108 rfl (lv_at hl 1 rfl) ?_
      obtain ⟨g_23, hf⟩ := grd_some hf
      obtain ⟨kg_23, sg_23, ig_23⟩ := okA_at g_23
      refine va_lald hx hb hK hP k_22 2 (Wd_al kg_23 sg_23) rfl ig_23 dX4_reckon_109 ?_
      obtain ⟨g_25, hf⟩ := grd_some hf
      obtain ⟨kg_25, sg_25⟩ := okO_at g_25
      obtain ⟨z_24, _u, hfc, hf⟩ := cal_some hf
      have hFc := de_free hD hS hA
      refine va_callv (va_runV (As := [.long (z_7.2.1 k_18 r_8.toNatClampNeg), .long (z_7.2.1 k_22 r_8.toNatClampNeg)]) (rest := []) ⟨hx, hb, hml, hown, hts⟩ (de_X10_set l dC dI cy a sh n H_9.size F z_7 k_15 (z_7.2.1 k_18 r_8.toNatClampNeg) (z_7.2.1 k_22 r_8.toNatClampNeg) hfc) (cwV 2 hts gX4_reckon_X10_set rfl rfl rfl (by decide +kernel) ⟨Nat.le_of_ble_eq_true rfl, Nat.le_of_ble_eq_true rfl⟩) ⟨fun a U g mk q => by obtain ⟨q0, q1, qP, qK, qD, qN⟩ := q; exact ⟨q0, q1, qP, va_K.moved (u := U) (U := U.calling g mk a) (Vm.Alike.refl U.vm) qK, qD, qN.same rfl⟩, va_recv hK hP (ci := 10) (q0 := k_15) rfl (Wd_ob kg_25 sg_25 (by decide)), fun U hU hW => ⟨rfl, by rw [hU], by rw [hU]; exact hP, va_K.moved hW.alike hK, hD.weaken (fun _ _ _ _ => trivial), hN.warm hW⟩⟩ rfl rfl hl.1 rfl (lv_room (Nat.le_of_ble_eq_true rfl)) dX4_reckon_110 ⟨Nat.le_of_ble_eq_true rfl, Nat.le_of_ble_eq_true rfl⟩) hS (fun q _ h => hFc q h) hFc (fun u t H_26 locs ht hvm hw hB hz1 hk1 hS2 => ?_)
      obtain ⟨hP1, -, hD1⟩ := hB
      rw [ht] at hP1
      replace hD := hD1.weaken (fun _ _ _ h => hFc _ h)
      replace hP := hP1
      replace hS := hS2
      clear hP1 hD1 hS2 hFc hfc hz1 hk1 hvm ht
      refine lv_iload_n hx hb dX4_reckon_113 rfl (lv_at hl 4 rfl) ?_
      refine lv_bipush (v := 36) hx hb dX4_reckon_114 (by decide) ?_
      refine lv_icmp_lt (tgt := 129) hx hb dX4_reckon_116 (by decide) (fun c_27 => ?_) (fun c_27 => ?_)
      · skip
        rw [if_pos c_27] at hf
        refine lv_iload_n hx hb dX4_reckon_129 rfl (lv_at hl 4 rfl) ?_
        refine lv_bipush (v := 32) hx hb dX4_reckon_130 (by decide) ?_
        refine lv_icmp_lt (tgt := 164) hx hb dX4_reckon_132 (by decide) (fun c_28 => ?_) (fun c_28 => ?_)
        · skip
          rw [if_pos c_28] at hf
          refine lv_aload_n hx hb dX4_reckon_164 rfl (lv_at hl 3 rfl) ?_
          refine lv_iload_n hx hb dX4_reckon_165 rfl (lv_at hl 4 rfl) ?_
          refine lv_aload_n hx hb dX4_reckon_166 rfl (lv_at hl 3 rfl) ?_
          obtain ⟨k_29, ek_29, hf⟩ := lnk_some hf
          refine va_get (D := (dC, dI)) (ci := 4) (v := .ref (a k_29)) (C := RX4) (T := TX4) (N := 19) hx hb hts iwd_X4_reckon_X4 hown hK hP h0 (Wd_ob kg_4 sg_4 (by decide)) rfl 1 (by decide) (hts _ md_X4_reckon_1) (fun _ h9 => h9) (fl_q rfl ek_29) dX4_reckon_167 ?_
          obtain ⟨g_30, hf⟩ := grd_some hf
          obtain ⟨kg_30, sg_30⟩ := okO_at g_30
          obtain ⟨k_31, ek_31, hf⟩ := lnk_some hf
          refine va_get (D := (dC, dI)) (ci := 1) (v := .ref (a k_31)) (C := RX1) (T := TX1) (N := 7) hx hb hts iwd_X4_reckon_X1 hown hK hP k_29 (Wd_ob kg_30 sg_30 (by decide)) rfl 2 (by decide) (hts _ md_X4_reckon_4) (fun _ h9 => h9) (fl_q rfl ek_31) dX4_reckon_170 ?_
          refine lv_iload_n hx hb dX4_reckon_173 rfl (lv_at hl 2 rfl) ?_
          obtain ⟨g_32, hf⟩ := grd_some hf
          obtain ⟨kg_32, sg_32, ig_32⟩ := okA_at g_32
          refine va_lald hx hb hK hP k_31 2 (Wd_al kg_32 sg_32) rfl ig_32 dX4_reckon_174 ?_
          refine lv_aload_n hx hb dX4_reckon_175 rfl (lv_at hl 3 rfl) ?_
          obtain ⟨k_33, ek_33, hf⟩ := lnk_some hf
          refine va_get (D := (dC, dI)) (ci := 4) (v := .ref (a k_33)) (C := RX4) (T := TX4) (N := 19) hx hb hts iwd_X4_reckon_X4 hown hK hP h0 (Wd_ob kg_4 sg_4 (by decide)) rfl 1 (by decide) (hts _ md_X4_reckon_1) (fun _ h9 => h9) (fl_q rfl ek_33) dX4_reckon_176 ?_
          obtain ⟨g_34, hf⟩ := grd_some hf
          obtain ⟨kg_34, sg_34⟩ := okO_at g_34
          obtain ⟨k_35, ek_35, hf⟩ := lnk_some hf
          refine va_get (D := (dC, dI)) (ci := 1) (v := .ref (a k_35)) (C := RX1) (T := TX1) (N := 7) hx hb hts iwd_X4_reckon_X1 hown hK hP k_33 (Wd_ob kg_34 sg_34 (by decide)) rfl 1 (by decide) (hts _ md_X4_reckon_2) (fun _ h9 => h9) (fl_q rfl ek_35) dX4_reckon_179 ?_
          refine lv_iload_n hx hb dX4_reckon_182 rfl (lv_at hl 2 rfl) ?_
          obtain ⟨g_36, hf⟩ := grd_some hf
          obtain ⟨kg_36, sg_36, ig_36⟩ := okA_at g_36
          refine va_lald hx hb hK hP k_35 2 (Wd_al kg_36 sg_36) rfl ig_36 dX4_reckon_183 ?_
          obtain ⟨z_37, _u, hfc, hf⟩ := cal_some hf
          have hFc := de_free hD hS hA
          refine va_callv (va_runV (As := [.int x0, .long (z_24.2.1 k_31 r_3.toNatClampNeg), .long (z_24.2.1 k_35 r_3.toNatClampNeg)]) (rest := []) ⟨hx, hb, hml, hown, hts⟩ (de_X4_combine l dC dI cy a sh n H_26.size F z_24 h0 x0 (z_24.2.1 k_31 r_3.toNatClampNeg) (z_24.2.1 k_35 r_3.toNatClampNeg) hfc) (cwV 3 hts gX4_reckon_X4_combine rfl rfl rfl (by decide +kernel) ⟨Nat.le_of_ble_eq_true rfl, Nat.le_of_ble_eq_true rfl⟩) ⟨fun a U g mk q => by obtain ⟨q0, q1, qP, qK, qD, qN⟩ := q; exact ⟨q0, q1, qP, va_K.moved (u := U) (U := U.calling g mk a) (Vm.Alike.refl U.vm) qK, qD, qN.same rfl⟩, va_recv hK hP (ci := 4) (q0 := h0) rfl (Wd_ob kg_4 sg_4 (by decide)), fun U hU hW => ⟨rfl, by rw [hU], by rw [hU]; exact hP, va_K.moved hW.alike hK, hD.weaken (fun _ _ _ _ => trivial), hN.warm hW⟩⟩ rfl rfl hl.1 rfl (lv_room (Nat.le_of_ble_eq_true rfl)) dX4_reckon_184 ⟨Nat.le_of_ble_eq_true rfl, Nat.le_of_ble_eq_true rfl⟩) hS (fun q _ h => hFc q h) hFc (fun u t H_38 locs ht hvm hw hB hz1 hk1 hS2 => ?_)
          obtain ⟨hP1, -, hD1⟩ := hB
          rw [ht] at hP1
          replace hD := hD1.weaken (fun _ _ _ h => hFc _ h)
          replace hP := hP1
          replace hS := hS2
          clear hP1 hD1 hS2 hFc hfc hz1 hk1 hvm ht
          refine lv_aload_n hx hb dX4_reckon_187 rfl (lv_at hl 3 rfl) ?_
          refine lv_iload hx hb dX4_reckon_188 (lv_at hl 0 rfl) ?_
          obtain ⟨z_39, _u, hfc, hf⟩ := cal_some hf
          have hFc := de_free hD hS hA
          refine va_callv (va_runV (As := [.int v_14]) (rest := []) ⟨hx, hb, hml, hown, hts⟩ (de_X4_pushWide l dC dI cy a sh n H_38.size F z_37 h0 v_14 hfc) (cwV 1 hts gX4_reckon_X4_pushWide rfl rfl rfl (by decide +kernel) ⟨Nat.le_of_ble_eq_true rfl, Nat.le_of_ble_eq_true rfl⟩) ⟨fun a U g mk q => by obtain ⟨q0, q1, qP, qK, qD, qN⟩ := q; exact ⟨q0, q1, qP, va_K.moved (u := U) (U := U.calling g mk a) (Vm.Alike.refl U.vm) qK, qD, qN.same rfl⟩, va_recv hK hP (ci := 4) (q0 := h0) rfl (Wd_ob kg_4 sg_4 (by decide)), fun U hU hW => ⟨rfl, by rw [hU], by rw [hU]; exact hP, va_K.moved hW.alike hK, hD.weaken (fun _ _ _ _ => trivial), hN.warm hW⟩⟩ rfl rfl hl.1 rfl (lv_room (Nat.le_of_ble_eq_true rfl)) dX4_reckon_190 ⟨Nat.le_of_ble_eq_true rfl, Nat.le_of_ble_eq_true rfl⟩) hS (fun q _ h => hFc q h) hFc (fun u t H_40 locs ht hvm hw hB hz1 hk1 hS2 => ?_)
          obtain ⟨hP1, -, hD1⟩ := hB
          rw [ht] at hP1
          replace hD := hD1.weaken (fun _ _ _ h => hFc _ h)
          replace hP := hP1
          replace hS := hS2
          clear hP1 hD1 hS2 hFc hfc hz1 hk1 hvm ht
          obtain ⟨h8, h9⟩ := ret_some hf
          rw [h8]
          exact W.vret hx hb hr (fun t ht hW => ⟨⟨(), rfl, trivial, by rw [ht]; exact hP, va_K.moved hW.alike hK, hD⟩, hS.F ht⟩) hS.2.2 dX4_reckon_193
        · skip
          rw [if_neg c_28] at hf
          refine lv_aload_n hx hb dX4_reckon_135 rfl (lv_at hl 3 rfl) ?_
          refine lv_iload_n hx hb dX4_reckon_136 rfl (lv_at hl 4 rfl) ?_
          refine lv_bipush (v := 32) hx hb dX4_reckon_137 (by decide) ?_
          refine de_cut (h := 147) (fun (x : St × Int32) => [.int x.2, .ref (a h0)]) (fun x ls H locs => lv_has ls 5 [(4, .int v_14), (2, .int r_3), (0, .ref (a h0))] ∧ va_P (dC, dI) vwCl (Wd cy a sh n x.1) H ∧ va_D A (Wd cy a sh n x.1) ∧ va_S A s.heap H locs) (fun x => fn_X4_reckon_B147 F sh n h0 r_3 v_14 x.1 x.2) (z8, r8) ?_ (fun B147 => ?_)
          · intro x ls H locs hI hf
            obtain ⟨z_42, p_41⟩ := x
            obtain ⟨hl2, hP2, hD2, hS2⟩ := hI
            replace hl : lv_has ls 5 [(4, .int v_14), (2, .int r_3), (0, .ref (a h0))] := hl2
            replace hP := hP2
            replace hD := hD2
            replace hS := hS2
            clear hl2 hP2 hD2 hS2
            replace hf := fn_X4_reckon_B147_s hf
            refine W.eq (g2 := F0 m 147 ls [.int p_41, .ref (a h0)]) rfl ?_
            refine lv_aload_n hx hb dX4_reckon_147 rfl (lv_at hl 2 rfl) ?_
            obtain ⟨k_43, ek_43, hf⟩ := lnk_some hf
            refine va_get (D := (dC, dI)) (ci := 4) (v := .ref (a k_43)) (C := RX4) (T := TX4) (N := 19) hx hb hts iwd_X4_reckon_X4 hown hK hP h0 (Wd_ob kg_4 sg_4 (by decide)) rfl 1 (by decide) (hts _ md_X4_reckon_1) (fun _ h9 => h9) (fl_q rfl ek_43) dX4_reckon_148 ?_
            obtain ⟨g_44, hf⟩ := grd_some hf
            obtain ⟨kg_44, sg_44⟩ := okO_at g_44
            obtain ⟨k_45, ek_45, hf⟩ := lnk_some hf
            refine va_get (D := (dC, dI)) (ci := 1) (v := .ref (a k_45)) (C := RX1) (T := TX1) (N := 7) hx hb hts iwd_X4_reckon_X1 hown hK hP k_43 (Wd_ob kg_44 sg_44 (by decide)) rfl 1 (by decide) (hts _ md_X4_reckon_2) (fun _ h9 => h9) (fl_q rfl ek_45) dX4_reckon_151 ?_
            refine lv_iload_n hx hb dX4_reckon_154 rfl (lv_at hl 1 rfl) ?_
            obtain ⟨g_46, hf⟩ := grd_some hf
            obtain ⟨kg_46, sg_46, ig_46⟩ := okA_at g_46
            refine va_lald hx hb hK hP k_45 2 (Wd_al kg_46 sg_46) rfl ig_46 dX4_reckon_155 ?_
            refine lv_iload hx hb dX4_reckon_156 (lv_at hl 0 rfl) ?_
            obtain ⟨z_47, _u, hfc, hf⟩ := cal_some hf
            have hFc := de_free hD hS hA
            refine va_callv (va_runV (As := [.int p_41, .long (z_42.2.1 k_45 r_3.toNatClampNeg), .int v_14]) (rest := []) ⟨hx, hb, hml, hown, hts⟩ (de_X4_shift l dC dI cy a sh n H.size F z_42 h0 p_41 (z_42.2.1 k_45 r_3.toNatClampNeg) v_14 hfc) (cwV 3 hts gX4_reckon_X4_shift rfl rfl rfl (by decide +kernel) ⟨Nat.le_of_ble_eq_true rfl, Nat.le_of_ble_eq_true rfl⟩) ⟨fun a U g mk q => by obtain ⟨q0, q1, qP, qK, qD, qN⟩ := q; exact ⟨q0, q1, qP, va_K.moved (u := U) (U := U.calling g mk a) (Vm.Alike.refl U.vm) qK, qD, qN.same rfl⟩, va_recv hK hP (ci := 4) (q0 := h0) rfl (Wd_ob kg_4 sg_4 (by decide)), fun U hU hW => ⟨rfl, by rw [hU], by rw [hU]; exact hP, va_K.moved hW.alike hK, hD.weaken (fun _ _ _ _ => trivial), hN.warm hW⟩⟩ rfl rfl hl.1 rfl (lv_room (Nat.le_of_ble_eq_true rfl)) dX4_reckon_158 ⟨Nat.le_of_ble_eq_true rfl, Nat.le_of_ble_eq_true rfl⟩) hS (fun q _ h => hFc q h) hFc (fun u t H_48 locs ht hvm hw hB hz1 hk1 hS2 => ?_)
            obtain ⟨hP1, -, hD1⟩ := hB
            rw [ht] at hP1
            replace hD := hD1.weaken (fun _ _ _ h => hFc _ h)
            replace hP := hP1
            replace hS := hS2
            clear hP1 hD1 hS2 hFc hfc hz1 hk1 hvm ht
            refine lv_goto (tgt := 193) hx hb dX4_reckon_161 (by decide) ?_
            obtain ⟨h8, h9⟩ := ret_some hf
            rw [h8]
            exact W.vret hx hb hr (fun t ht hW => ⟨⟨(), rfl, trivial, by rw [ht]; exact hP, va_K.moved hW.alike hK, hD⟩, hS.F ht⟩) hS.2.2 dX4_reckon_193
          refine lv_icmp_ne (tgt := 146) hx hb dX4_reckon_139 (by decide) (fun c_49 => ?_) (fun c_49 => ?_)
          · skip
            rw [if_neg c_49] at hf
            refine lv_iconst (v := 0) hx hb dX4_reckon_146 (by decide) ?_
            exact B147 (z_24, 0) ls H_26 locs ⟨lv_sub hl [0, 2, 3] rfl, hP, hD, hS⟩ hf
          · skip
            rw [if_pos c_49] at hf
            refine lv_iconst (v := 1) hx hb dX4_reckon_142 (by decide) ?_
            refine lv_goto (tgt := 147) hx hb dX4_reckon_143 (by decide) ?_
            exact B147 (z_24, 1) ls H_26 locs ⟨lv_sub hl [0, 2, 3] rfl, hP, hD, hS⟩ hf
      · skip
        rw [if_neg c_27] at hf
        refine lv_aload_n hx hb dX4_reckon_119 rfl (lv_at hl 3 rfl) ?_
        refine lv_iload_n hx hb dX4_reckon_120 rfl (lv_at hl 4 rfl) ?_
        refine lv_iload_n hx hb dX4_reckon_121 rfl (lv_at hl 1 rfl) ?_
        refine lv_iload_n hx hb dX4_reckon_122 rfl (lv_at hl 2 rfl) ?_
        obtain ⟨z_50, _u, hfc, hf⟩ := cal_some hf
        have hFc := de_free hD hS hA
        refine va_callv (va_runV (As := [.int x0, .int r_8, .int r_3]) (rest := []) ⟨hx, hb, hml, hown, hts⟩ (de_X4_compare l dC dI cy a sh n H_26.size F z_24 h0 x0 r_8 r_3 hfc) (cwV 3 hts gX4_reckon_X4_compare rfl rfl rfl (by decide +kernel) ⟨Nat.le_of_ble_eq_true rfl, Nat.le_of_ble_eq_true rfl⟩) ⟨fun a U g mk q => by obtain ⟨q0, q1, qP, qK, qD, qN⟩ := q; exact ⟨q0, q1, qP, va_K.moved (u := U) (U := U.calling g mk a) (Vm.Alike.refl U.vm) qK, qD, qN.same rfl⟩, va_recv hK hP (ci := 4) (q0 := h0) rfl (Wd_ob kg_4 sg_4 (by decide)), fun U hU hW => ⟨rfl, by rw [hU], by rw [hU]; exact hP, va_K.moved hW.alike hK, hD.weaken (fun _ _ _ _ => trivial), hN.warm hW⟩⟩ rfl rfl hl.1 rfl (lv_room (Nat.le_of_ble_eq_true rfl)) dX4_reckon_123 ⟨Nat.le_of_ble_eq_true rfl, Nat.le_of_ble_eq_true rfl⟩) hS (fun q _ h => hFc q h) hFc (fun u t H_51 locs ht hvm hw hB hz1 hk1 hS2 => ?_)
        obtain ⟨hP1, -, hD1⟩ := hB
        rw [ht] at hP1
        replace hD := hD1.weaken (fun _ _ _ h => hFc _ h)
        replace hP := hP1
        replace hS := hS2
        clear hP1 hD1 hS2 hFc hfc hz1 hk1 hvm ht
        refine lv_goto (tgt := 193) hx hb dX4_reckon_126 (by decide) ?_
        obtain ⟨h8, h9⟩ := ret_some hf
        rw [h8]
        exact W.vret hx hb hr (fun t ht hW => ⟨⟨(), rfl, trivial, by rw [ht]; exact hP, va_K.moved hW.alike hK, hD⟩, hS.F ht⟩) hS.2.2 dX4_reckon_193
    · skip
      rw [if_neg c_6] at hf
      refine lv_aload_n hx hb dX4_reckon_38 rfl (lv_at hl 1 rfl) ?_
      obtain ⟨k_52, ek_52, hf⟩ := lnk_some hf
      refine va_get (D := (dC, dI)) (ci := 4) (v := .ref (a k_52)) (C := RX4) (T := TX4) (N := 19) hx hb hts iwd_X4_reckon_X4 hown hK hP h0 (Wd_ob kg_4 sg_4 (by decide)) rfl 3 (by decide) (hts _ md_X4_reckon_3) (fun _ h9 => h9) (fl_q rfl ek_52) dX4_reckon_39 ?_
      refine lv_aload_n hx hb dX4_reckon_42 rfl (lv_at hl 1 rfl) ?_
      obtain ⟨k_53, ek_53, hf⟩ := lnk_some hf
      refine va_get (D := (dC, dI)) (ci := 4) (v := .ref (a k_53)) (C := RX4) (T := TX4) (N := 19) hx hb hts iwd_X4_reckon_X4 hown hK hP h0 (Wd_ob kg_4 sg_4 (by decide)) rfl 1 (by decide) (hts _ md_X4_reckon_1) (fun _ h9 => h9) (fl_q rfl ek_53) dX4_reckon_43 ?_
      obtain ⟨g_54, hf⟩ := grd_some hf
      obtain ⟨kg_54, sg_54⟩ := okO_at g_54
      obtain ⟨k_55, ek_55, hf⟩ := lnk_some hf
      refine va_get (D := (dC, dI)) (ci := 1) (v := .ref (a k_55)) (C := RX1) (T := TX1) (N := 7) hx hb hts iwd_X4_reckon_X1 hown hK hP k_53 (Wd_ob kg_54 sg_54 (by decide)) rfl 2 (by decide) (hts _ md_X4_reckon_4) (fun _ h9 => h9) (fl_q rfl ek_55) dX4_reckon_46 ?_
      refine lv_iload_n hx hb dX4_reckon_49 rfl (lv_at hl 0 rfl) ?_
      obtain ⟨g_56, hf⟩ := grd_some hf
      obtain ⟨kg_56, sg_56, ig_56⟩ := okA_at g_56
      refine va_lald hx hb hK hP k_55 2 (Wd_al kg_56 sg_56) rfl ig_56 dX4_reckon_50 ?_
      refine lv_aload_n hx hb dX4_reckon_51 rfl (lv_at hl 1 rfl) ?_
      obtain ⟨k_57, ek_57, hf⟩ := lnk_some hf
      refine va_get (D := (dC, dI)) (ci := 4) (v := .ref (a k_57)) (C := RX4) (T := TX4) (N := 19) hx hb hts iwd_X4_reckon_X4 hown hK hP h0 (Wd_ob kg_4 sg_4 (by decide)) rfl 1 (by decide) (hts _ md_X4_reckon_1) (fun _ h9 => h9) (fl_q rfl ek_57) dX4_reckon_52 ?_
      obtain ⟨g_58, hf⟩ := grd_some hf
      obtain ⟨kg_58, sg_58⟩ := okO_at g_58
      obtain ⟨k_59, ek_59, hf⟩ := lnk_some hf
      refine va_get (D := (dC, dI)) (ci := 1) (v := .ref (a k_59)) (C := RX1) (T := TX1) (N := 7) hx hb hts iwd_X4_reckon_X1 hown hK hP k_57 (Wd_ob kg_58 sg_58 (by decide)) rfl 1 (by decide) (hts _ md_X4_reckon_2) (fun _ h9 => h9) (fl_q rfl ek_59) dX4_reckon_55 ?_
      refine lv_iload_n hx hb dX4_reckon_58 rfl (lv_at hl 0 rfl) ?_
      obtain ⟨g_60, hf⟩ := grd_some hf
      obtain ⟨kg_60, sg_60, ig_60⟩ := okA_at g_60
      refine va_lald hx hb hK hP k_59 2 (Wd_al kg_60 sg_60) rfl ig_60 dX4_reckon_59 ?_
      obtain ⟨g_62, hf⟩ := grd_some hf
      obtain ⟨kg_62, sg_62⟩ := okO_at g_62
      obtain ⟨z_61, _u, hfc, hf⟩ := cal_some hf
      have hFc := de_free hD hS hA
      refine va_callv (va_runV (As := [.long (z_2.2.1 k_55 r_3.toNatClampNeg), .long (z_2.2.1 k_59 r_3.toNatClampNeg)]) (rest := []) ⟨hx, hb, hml, hown, hts⟩ (de_X10_set l dC dI cy a sh n H_5.size F z_2 k_52 (z_2.2.1 k_55 r_3.toNatClampNeg) (z_2.2.1 k_59 r_3.toNatClampNeg) hfc) (cwV 2 hts gX4_reckon_X10_set rfl rfl rfl (by decide +kernel) ⟨Nat.le_of_ble_eq_true rfl, Nat.le_of_ble_eq_true rfl⟩) ⟨fun a U g mk q => by obtain ⟨q0, q1, qP, qK, qD, qN⟩ := q; exact ⟨q0, q1, qP, va_K.moved (u := U) (U := U.calling g mk a) (Vm.Alike.refl U.vm) qK, qD, qN.same rfl⟩, va_recv hK hP (ci := 10) (q0 := k_52) rfl (Wd_ob kg_62 sg_62 (by decide)), fun U hU hW => ⟨rfl, by rw [hU], by rw [hU]; exact hP, va_K.moved hW.alike hK, hD.weaken (fun _ _ _ _ => trivial), hN.warm hW⟩⟩ rfl rfl hl.1 rfl (lv_room (Nat.le_of_ble_eq_true rfl)) dX4_reckon_60 ⟨Nat.le_of_ble_eq_true rfl, Nat.le_of_ble_eq_true rfl⟩) hS (fun q _ h => hFc q h) hFc (fun u t H_63 locs ht hvm hw hB hz1 hk1 hS2 => ?_)
      obtain ⟨hP1, -, hD1⟩ := hB
      rw [ht] at hP1
      replace hD := hD1.weaken (fun _ _ _ h => hFc _ h)
      replace hP := hP1
      replace hS := hS2
      clear hP1 hD1 hS2 hFc hfc hz1 hk1 hvm ht
      refine lv_aload_n hx hb dX4_reckon_63 rfl (lv_at hl 1 rfl) ?_
      refine lv_iload_n hx hb dX4_reckon_64 rfl (lv_at hl 2 rfl) ?_
      refine lv_bipush (v := 40) hx hb dX4_reckon_65 (by decide) ?_
      refine lv_isub hx hb dX4_reckon_67 ?_
      obtain ⟨z_64, _u, hfc, hf⟩ := cal_some hf
      have hFc := de_free hD hS hA
      refine va_callv (va_runV (As := [.int (x0 - 40)]) (rest := []) ⟨hx, hb, hml, hown, hts⟩ (de_X4_pushWide l dC dI cy a sh n H_63.size F z_61 h0 (x0 - 40) hfc) (cwV 1 hts gX4_reckon_X4_pushWide rfl rfl rfl (by decide +kernel) ⟨Nat.le_of_ble_eq_true rfl, Nat.le_of_ble_eq_true rfl⟩) ⟨fun a U g mk q => by obtain ⟨q0, q1, qP, qK, qD, qN⟩ := q; exact ⟨q0, q1, qP, va_K.moved (u := U) (U := U.calling g mk a) (Vm.Alike.refl U.vm) qK, qD, qN.same rfl⟩, va_recv hK hP (ci := 4) (q0 := h0) rfl (Wd_ob kg_4 sg_4 (by decide)), fun U hU hW => ⟨rfl, by rw [hU], by rw [hU]; exact hP, va_K.moved hW.alike hK, hD.weaken (fun _ _ _ _ => trivial), hN.warm hW⟩⟩ rfl rfl hl.1 rfl (lv_room (Nat.le_of_ble_eq_true rfl)) dX4_reckon_68 ⟨Nat.le_of_ble_eq_true rfl, Nat.le_of_ble_eq_true rfl⟩) hS (fun q _ h => hFc q h) hFc (fun u t H_65 locs ht hvm hw hB hz1 hk1 hS2 => ?_)
      obtain ⟨hP1, -, hD1⟩ := hB
      rw [ht] at hP1
      replace hD := hD1.weaken (fun _ _ _ h => hFc _ h)
      replace hP := hP1
      replace hS := hS2
      clear hP1 hD1 hS2 hFc hfc hz1 hk1 hvm ht
      obtain ⟨h8, h9⟩ := ret_some hf
      rw [h8]
      exact W.vret hx hb hr (fun t ht hW => ⟨⟨(), rfl, trivial, by rw [ht]; exact hP, va_K.moved hW.alike hK, hD⟩, hS.F ht⟩) hS.2.2 dX4_reckon_71
  · skip
    rw [if_pos c_1] at hf
    refine lv_aload_n hx hb dX4_reckon_6 rfl (lv_at hl 0 rfl) ?_
    refine lv_iconst (v := 1) hx hb dX4_reckon_7 (by decide) ?_
    refine lv_lconst (v := 0) hx hb dX4_reckon_8 (by decide) ?_
    refine lv_lconst (v := 1) hx hb dX4_reckon_9 (by decide) ?_
    refine lv_aload_n hx hb dX4_reckon_10 rfl (lv_at hl 0 rfl) ?_
    obtain ⟨g_66, hf⟩ := grd_some hf
    obtain ⟨kg_66, sg_66⟩ := okO_at g_66
    obtain ⟨k_67, ek_67, hf⟩ := lnk_some hf
    refine va_get (D := (dC, dI)) (ci := 4) (v := .ref (a k_67)) (C := RX4) (T := TX4) (N := 19) hx hb hts iwd_X4_reckon_X4 hown hK hP h0 (Wd_ob kg_66 sg_66 (by decide)) rfl 1 (by decide) (hts _ md_X4_reckon_1) (fun _ h9 => h9) (fl_q rfl ek_67) dX4_reckon_11 ?_
    obtain ⟨g_68, hf⟩ := grd_some hf
    obtain ⟨kg_68, sg_68⟩ := okO_at g_68
    obtain ⟨k_69, ek_69, hf⟩ := lnk_some hf
    refine va_get (D := (dC, dI)) (ci := 1) (v := .ref (a k_69)) (C := RX1) (T := TX1) (N := 7) hx hb hts iwd_X4_reckon_X1 hown hK hP k_67 (Wd_ob kg_68 sg_68 (by decide)) rfl 1 (by decide) (hts _ md_X4_reckon_2) (fun _ h9 => h9) (fl_q rfl ek_69) dX4_reckon_14 ?_
    refine lv_aload_n hx hb dX4_reckon_17 rfl (lv_at hl 0 rfl) ?_
    obtain ⟨z_70, r_71, hfc, hf⟩ := cal_some hf
    have hFc := de_free hD hS hA
    refine va_calli (va_runV (As := []) (rest := [.ref (a k_69), .long 1, .long 0, .int 1, .ref (a h0)]) ⟨hx, hb, hml, hown, hts⟩ (de_X4_pop l dC dI cy a sh n H.size F z h0 hfc) (cwV 0 hts gX4_reckon_X4_pop rfl rfl rfl (by decide +kernel) ⟨Nat.le_of_ble_eq_true rfl, Nat.le_of_ble_eq_true rfl⟩) ⟨fun a U g mk q => by obtain ⟨q0, q1, qP, qK, qD, qN⟩ := q; exact ⟨q0, q1, qP, va_K.moved (u := U) (U := U.calling g mk a) (Vm.Alike.refl U.vm) qK, qD, qN.same rfl⟩, va_recv hK hP (ci := 4) (q0 := h0) rfl (Wd_ob kg_66 sg_66 (by decide)), fun U hU hW => ⟨rfl, by rw [hU], by rw [hU]; exact hP, va_K.moved hW.alike hK, hD.weaken (fun _ _ _ _ => trivial), hN.warm hW⟩⟩ rfl rfl hl.1 rfl (lv_room (Nat.le_of_ble_eq_true rfl)) dX4_reckon_18 ⟨Nat.le_of_ble_eq_true rfl, Nat.le_of_ble_eq_true rfl⟩) hS (fun q _ h => hFc q h) hFc (fun rr u t H_72 locs ht hvm hw hB hz1 hk1 hS2 => ?_)
    rw [hw]
    clear hw
    obtain ⟨hP1, -, hD1⟩ := hB
    rw [ht] at hP1
    replace hD := hD1.weaken (fun _ _ _ h => hFc _ h)
    replace hP := hP1
    replace hS := hS2
    clear hP1 hD1 hS2 hFc hfc hz1 hk1 hvm ht
    obtain ⟨g_73, hf⟩ := grd_some hf
    obtain ⟨kg_73, sg_73, ig_73⟩ := okA_at g_73
    refine va_lald hx hb hK hP k_69 2 (Wd_al kg_73 sg_73) rfl ig_73 dX4_reckon_21 ?_
    refine lv_lsub hx hb dX4_reckon_22 ?_
    obtain ⟨z_74, _u, hfc, hf⟩ := cal_some hf
    have hFc := de_free hD hS hA
    refine va_callv (va_runV (As := [.int 1, .long 0, .long (1 - (z_70.2.1 k_69 r_71.toNatClampNeg))]) (rest := []) ⟨hx, hb, hml, hown, hts⟩ (de_X4_pushNumber l dC dI cy a sh n H_72.size F z_70 h0 1 0 (1 - (z_70.2.1 k_69 r_71.toNatClampNeg)) hfc) (cwV 3 hts gX4_reckon_X4_pushNumber rfl rfl rfl (by decide +kernel) ⟨Nat.le_of_ble_eq_true rfl, Nat.le_of_ble_eq_true rfl⟩) ⟨fun a U g mk q => by obtain ⟨q0, q1, qP, qK, qD, qN⟩ := q; exact ⟨q0, q1, qP, va_K.moved (u := U) (U := U.calling g mk a) (Vm.Alike.refl U.vm) qK, qD, qN.same rfl⟩, va_recv hK hP (ci := 4) (q0 := h0) rfl (Wd_ob kg_66 sg_66 (by decide)), fun U hU hW => ⟨rfl, by rw [hU], by rw [hU]; exact hP, va_K.moved hW.alike hK, hD.weaken (fun _ _ _ _ => trivial), hN.warm hW⟩⟩ rfl rfl hl.1 rfl (lv_room (Nat.le_of_ble_eq_true rfl)) dX4_reckon_23 ⟨Nat.le_of_ble_eq_true rfl, Nat.le_of_ble_eq_true rfl⟩) hS (fun q _ h => hFc q h) hFc (fun u t H_75 locs ht hvm hw hB hz1 hk1 hS2 => ?_)
    obtain ⟨hP1, -, hD1⟩ := hB
    rw [ht] at hP1
    replace hD := hD1.weaken (fun _ _ _ h => hFc _ h)
    replace hP := hP1
    replace hS := hS2
    clear hP1 hD1 hS2 hFc hfc hz1 hk1 hvm ht
    obtain ⟨h8, h9⟩ := ret_some hf
    rw [h8]
    exact W.vret hx hb hr (fun t ht hW => ⟨⟨(), rfl, trivial, by rw [ht]; exact hP, va_K.moved hW.alike hK, hD⟩, hS.F ht⟩) hS.2.2 dX4_reckon_26

theorem md_X13_onResource_2 : (.fieldLink RX13 72 "ResourceLedgerModel$Looker" "unit" "LResourceLedgerModel$Unit;" : Cond) ∈ wsX13_onResource := List.mem_of_getElem? (i := 2) rfl
theorem iwd_X13_onResource_X13 : ∀ w ∈ wsX130, w ∈ wsX13_onResource := fun _ h => List.mem_cons_of_mem _ (List.mem_append_left _ (List.mem_append_right _ h))
theorem md_X13_onResource_3 : (.fieldLink RX13 176 "ResourceLedgerModel$Looker" "now" "I" : Cond) ∈ wsX13_onResource := List.mem_of_getElem? (i := 3) rfl
theorem md_X13_onResource_4 : (.fieldLink RX13 48 "ResourceLedgerModel$Looker" "fault" "I" : Cond) ∈ wsX13_onResource := List.mem_of_getElem? (i := 4) rfl
theorem md_X13_onResource_1 : (.constantLong RX13 185 (5) : Cond) ∈ wsX13_onResource := List.mem_of_getElem? (i := 1) rfl
set_option maxHeartbeats 4000000 in
set_option maxRecDepth 100000 in
theorem de_X13_onResource (l : Launch) (dC : Nat → ClassId) (dI : Nat → Nat → Nat) (cy : Nat → ClassId) (a : Nat → Nat) (sh : Nat → Nat × Nat) (n sz : Nat) (F : Nat) (z : St) (h0 : Nat) (x0 : Int32) (x1 : Int32) {z8 : St} {r8 : Unit} (hf : fn_X13_onResource F sh n z h0 x0 x1 = some (z8, r8)) : Met l yX13_onResource wsX13_onResource ({ frames := 4, cells := 0, slots := 0, locals := 91 }) (va_Pc [.ref (a h0), .int x0, .int x1] (fun U => U.heap.size = sz ∧ va_P (dC, dI) vwCl (Wd cy a sh n z) U.heap ∧ va_K (dC, dI) vwCl (TYS cy) U ∧ va_D (fun _ => True) (Wd cy a sh n z) ∧ NK U)) (va_Qv (fun u : Unit => True) (fun u t => va_P (dC, dI) vwCl (Wd cy a sh n z8) t.heap ∧ va_K (dC, dI) vwCl (TYS cy) t ∧ va_D (va_A (Wd cy a sh n z) sz) (Wd cy a sh n z8)) (va_A (Wd cy a sh n z) sz)) 0 0 (va_A (Wd cy a sh n z) sz) := by
  refine Met.ofW (cc := cX13_onResource) (maxL := 6) (ret := none) (by decide) rfl ?_
  intro p e s m args below meth c s₁ B hml hv
  obtain ⟨rfl, hsz, hP, hK, hD0, hN⟩ := hv
  have hx := B.exec
  have hb := B.bytes
  have hr := B.returns
  have hts := atoms_spec (ws := wsX13_onResource) B.pre
  have hown : s.vm.findClass RX13 = some m.cls := findClass_of_methodNamed B.named
  have hlocks := B.notSynchronized
  subst hsz
  have hD := hD0.self (sz := s.heap.size)
  clear hD0
  generalize hAe : va_A (Wd cy a sh n z) s.heap.size = A at hD ⊢
  have hA : ∀ q : Nat, s.heap.size ≤ q → A q := fun q h => by rw [← hAe]; exact Or.inr h
  clear hAe
  have hS : va_S A s.heap s.heap [] := va_S.rf
  have hl := lv_entry ([.ref (a h0), .int x0, .int x1]) (n := 6) (Nat.le_of_ble_eq_true rfl)
  rw [lg_entry_eq]
  generalize (lg_sl ([.ref (a h0), .int x0, .int x1]) ++ List.replicate (6 - (lg_sl ([.ref (a h0), .int x0, .int x1])).length) Slot.unset).toArray = ls at hl ⊢
  replace hl : lv_has ls 6 [(0, .ref (a h0)), (1, .int x0), (2, .int x1)] := hl
  unfold fn_X13_onResource at hf
  refine de_start hS hP (fun H locs hS hP => ?_)
  refine lv_iload_n hx hb dX13_onResource_0 rfl (lv_at hl 2 rfl) ?_
  obtain ⟨z_1, r_2, hfc, hf⟩ := cal_some hf
  have hFc := de_free hD hS hA
  refine va_calll (va_runS (As := [.int x1]) (rest := []) ⟨hx, hb, hml, hown, hts⟩ (de_X13_structureType l dC dI cy a sh n H.size F z x1 hfc) (va_cwS 1 hts gX13_onResource_X13_structureType rfl rfl rfl (by decide +kernel) ⟨Nat.le_of_ble_eq_true rfl, Nat.le_of_ble_eq_true rfl⟩) ⟨fun a U g mk q => by obtain ⟨q0, q1, qP, qK, qD, qN⟩ := q; exact ⟨q0, q1, qP, va_K.moved (u := U) (U := U.calling g mk a) (Vm.Alike.refl U.vm) qK, qD, qN.same rfl⟩, fun U hU hW => ⟨rfl, by rw [hU], by rw [hU]; exact hP, va_K.moved hW.alike hK, hD.weaken (fun _ _ _ _ => trivial), hN.warm hW⟩⟩ rfl rfl hl.1 rfl (lv_room (Nat.le_of_ble_eq_true rfl)) dX13_onResource_1 ⟨Nat.le_of_ble_eq_true rfl, Nat.le_of_ble_eq_true rfl⟩) hS (fun q _ h => hFc q h) hFc (fun rr u t H_3 locs ht hvm hw hB hz1 hk1 hS2 => ?_)
  rw [hw]
  clear hw
  obtain ⟨hP1, -, hD1⟩ := hB
  rw [ht] at hP1
  replace hD := hD1.weaken (fun _ _ _ h => hFc _ h)
  replace hP := hP1
  replace hS := hS2
  clear hP1 hD1 hS2 hFc hfc hz1 hk1 hvm ht
  refine lv_lstore_n (lv' := [(3, .long r_2), (0, .ref (a h0)), (1, .int x0), (2, .int x1)]) hx hb dX13_onResource_4 rfl hl (by decide) rfl (fun ls hl2 => ?_)
  replace hl := hl2
  clear hl2
  refine lv_bipush (v := 48) hx hb dX13_onResource_5 (by decide) ?_
  refine lv_iload_n hx hb dX13_onResource_7 rfl (lv_at hl 3 rfl) ?_
  refine lv_bipush (v := 15) hx hb dX13_onResource_8 (by decide) ?_
  refine lv_irem hx hb dX13_onResource_10 (by decide) ?_
  refine lv_iadd hx hb dX13_onResource_11 ?_
  refine lv_topi (fun v_4 ev_4 => ?_)
  replace hf := lt_at ev_4 hf
  clear ev_4
  refine lv_istore (lv' := [(5, .int v_4), (3, .long r_2), (0, .ref (a h0)), (1, .int x0), (2, .int x1)]) hx hb dX13_onResource_12 hl (by decide) rfl (fun ls hl2 => ?_)
  replace hl := hl2
  clear hl2
  refine lv_iload_n hx hb dX13_onResource_14 rfl (lv_at hl 3 rfl) ?_
  refine lv_bipush (v := 47) hx hb dX13_onResource_15 (by decide) ?_
  refine de_cut (h := 35) (fun (x : St) => []) (fun x ls H locs => lv_has ls 6 [(5, .int v_4), (3, .long r_2), (0, .ref (a h0)), (1, .int x0), (2, .int x1)] ∧ va_P (dC, dI) vwCl (Wd cy a sh n x) H ∧ va_D A (Wd cy a sh n x) ∧ va_S A s.heap H locs) (fun x => fn_X13_onResource_B35 F sh n h0 x1 x0 v_4 r_2 x) (z8, r8) ?_ (fun B35 => ?_)
  · intro x ls H locs hI hf
    obtain ⟨z_5, ez⟩ : ∃ w, w = x := ⟨_, rfl⟩
    subst ez
    obtain ⟨hl2, hP2, hD2, hS2⟩ := hI
    replace hl : lv_has ls 6 [(5, .int v_4), (3, .long r_2), (0, .ref (a h0)), (1, .int x0), (2, .int x1)] := hl2
    replace hP := hP2
    replace hD := hD2
    replace hS := hS2
    clear hl2 hP2 hD2 hS2
    replace hf := fn_X13_onResource_B35_s hf
    refine W.eq (g2 := F0 m 35 ls []) rfl ?_
    refine lv_aload_n hx hb dX13_onResource_35 rfl (lv_at hl 2 rfl) ?_
    refine lv_aload_n hx hb dX13_onResource_36 rfl (lv_at hl 2 rfl) ?_
    obtain ⟨g_6, hf⟩ := grd_some hf
    obtain ⟨kg_6, sg_6⟩ := okO_at g_6
    obtain ⟨k_7, ek_7, hf⟩ := lnk_some hf
    refine va_get (D := (dC, dI)) (ci := 13) (v := .ref (a k_7)) (C := RX13) (T := TX13) (N := 22) hx hb hts iwd_X13_onResource_X13 hown hK hP h0 (Wd_ob kg_6 sg_6 (by decide)) rfl 0 (by decide) (hts _ md_X13_onResource_2) (fun _ h9 => h9) (fl_q rfl ek_7) dX13_onResource_37 ?_
    refine lv_aload_n hx hb dX13_onResource_40 rfl (lv_at hl 2 rfl) ?_
    refine va_get (D := (dC, dI)) (ci := 13) (v := .int (z_5.1 h0 1)) (C := RX13) (T := TX13) (N := 22) hx hb hts iwd_X13_onResource_X13 hown hK hP h0 (Wd_ob kg_6 sg_6 (by decide)) rfl 1 (by decide) (hts _ md_X13_onResource_3) (fun _ h9 => h9) (fl_at (t := 0) rfl) dX13_onResource_41 ?_
    obtain ⟨g_10, hf⟩ := grd_some hf
    obtain ⟨kg_10, sg_10⟩ := okO_at g_10
    obtain ⟨z_8, r_9, hfc, hf⟩ := cal_some hf
    have hFc := de_free hD hS hA
    refine va_calli (va_runV (As := [.int (z_5.1 h0 1)]) (rest := [.ref (a h0)]) ⟨hx, hb, hml, hown, hts⟩ (de_X16_flags l dC dI cy a sh n H.size F z_5 k_7 (z_5.1 h0 1) hfc) (cwV 1 hts gX13_onResource_X16_flags rfl rfl rfl (by decide +kernel) ⟨Nat.le_of_ble_eq_true rfl, Nat.le_of_ble_eq_true rfl⟩) ⟨fun a U g mk q => by obtain ⟨q0, q1, qP, qK, qD, qN⟩ := q; exact ⟨q0, q1, qP, va_K.moved (u := U) (U := U.calling g mk a) (Vm.Alike.refl U.vm) qK, qD, qN.same rfl⟩, va_recv hK hP (ci := 16) (q0 := k_7) rfl (Wd_ob kg_10 sg_10 (by decide)), fun U hU hW => ⟨rfl, by rw [hU], by rw [hU]; exact hP, va_K.moved hW.alike hK, hD.weaken (fun _ _ _ _ => trivial), hN.warm hW⟩⟩ rfl rfl hl.1 rfl (lv_room (Nat.le_of_ble_eq_true rfl)) dX13_onResource_44 ⟨Nat.le_of_ble_eq_true rfl, Nat.le_of_ble_eq_true rfl⟩) hS (fun q _ h => hFc q h) hFc (fun rr u t H_11 locs ht hvm hw hB hz1 hk1 hS2 => ?_)
    rw [hw]
    clear hw
    obtain ⟨hP1, -, hD1⟩ := hB
    rw [ht] at hP1
    replace hD := hD1.weaken (fun _ _ _ h => hFc _ h)
    replace hP := hP1
    replace hS := hS2
    clear hP1 hD1 hS2 hFc hfc hz1 hk1 hvm ht
    refine lv_iconst (v := 4) hx hb dX13_onResource_47 (by decide) ?_
    refine lv_iand hx hb dX13_onResource_48 ?_
    refine de_cut (h := 57) (fun (x : St × Int32) => [.int x.2, .ref (a h0)]) (fun x ls H locs => lv_has ls 6 [(5, .int v_4), (3, .long r_2), (0, .ref (a h0)), (1, .int x0), (2, .int x1)] ∧ va_P (dC, dI) vwCl (Wd cy a sh n x.1) H ∧ va_D A (Wd cy a sh n x.1) ∧ va_S A s.heap H locs) (fun x => fn_X13_onResource_B57 F sh n h0 x1 x0 v_4 r_2 x.1 x.2) (z8, r8) ?_ (fun B57 => ?_)
    · intro x ls H locs hI hf
      obtain ⟨z_13, p_12⟩ := x
      obtain ⟨hl2, hP2, hD2, hS2⟩ := hI
      replace hl : lv_has ls 6 [(5, .int v_4), (3, .long r_2), (0, .ref (a h0)), (1, .int x0), (2, .int x1)] := hl2
      replace hP := hP2
      replace hD := hD2
      replace hS := hS2
      clear hl2 hP2 hD2 hS2
      replace hf := fn_X13_onResource_B57_s hf
      refine W.eq (g2 := F0 m 57 ls [.int p_12, .ref (a h0)]) rfl ?_
      refine lv_bipush (v := 15) hx hb dX13_onResource_57 (by decide) ?_
      obtain ⟨z_14, _u, hfc, hf⟩ := cal_some hf
      have hFc := de_free hD hS hA
      refine va_callv (va_runV (As := [.int p_12, .int 15]) (rest := []) ⟨hx, hb, hml, hown, hts⟩ (de_X13_need l dC dI cy a sh n H.size F z_13 h0 p_12 15 hfc) (cwV 2 hts gX13_onResource_X13_need rfl rfl rfl (by decide +kernel) ⟨Nat.le_of_ble_eq_true rfl, Nat.le_of_ble_eq_true rfl⟩) ⟨fun a U g mk q => by obtain ⟨q0, q1, qP, qK, qD, qN⟩ := q; exact ⟨q0, q1, qP, va_K.moved (u := U) (U := U.calling g mk a) (Vm.Alike.refl U.vm) qK, qD, qN.same rfl⟩, va_recv hK hP (ci := 13) (q0 := h0) rfl (Wd_ob kg_6 sg_6 (by decide)), fun U hU hW => ⟨rfl, by rw [hU], by rw [hU]; exact hP, va_K.moved hW.alike hK, hD.weaken (fun _ _ _ _ => trivial), hN.warm hW⟩⟩ rfl rfl hl.1 rfl (lv_room (Nat.le_of_ble_eq_true rfl)) dX13_onResource_59 ⟨Nat.le_of_ble_eq_true rfl, Nat.le_of_ble_eq_true rfl⟩) hS (fun q _ h => hFc q h) hFc (fun u t H_15 locs ht hvm hw hB hz1 hk1 hS2 => ?_)
      obtain ⟨hP1, -, hD1⟩ := hB
      rw [ht] at hP1
      replace hD := hD1.weaken (fun _ _ _ h => hFc _ h)
      replace hP := hP1
      replace hS := hS2
      clear hP1 hD1 hS2 hFc hfc hz1 hk1 hvm ht
      refine lv_aload_n hx hb dX13_onResource_62 rfl (lv_at hl 2 rfl) ?_
      refine lv_aload_n hx hb dX13_onResource_63 rfl (lv_at hl 2 rfl) ?_
      obtain ⟨k_16, ek_16, hf⟩ := lnk_some hf
      refine va_get (D := (dC, dI)) (ci := 13) (v := .ref (a k_16)) (C := RX13) (T := TX13) (N := 22) hx hb hts iwd_X13_onResource_X13 hown hK hP h0 (Wd_ob kg_6 sg_6 (by decide)) rfl 0 (by decide) (hts _ md_X13_onResource_2) (fun _ h9 => h9) (fl_q rfl ek_16) dX13_onResource_64 ?_
      refine lv_iload_n hx hb dX13_onResource_67 rfl (lv_at hl 4 rfl) ?_
      obtain ⟨g_19, hf⟩ := grd_some hf
      obtain ⟨kg_19, sg_19⟩ := okO_at g_19
      obtain ⟨z_17, r_18, hfc, hf⟩ := cal_some hf
      have hFc := de_free hD hS hA
      refine va_calli (va_runV (As := [.int x1]) (rest := [.ref (a h0)]) ⟨hx, hb, hml, hown, hts⟩ (de_X16_abilitiesOf l dC dI cy a sh n H_15.size F z_14 k_16 x1 hfc) (cwV 1 hts gX13_onResource_X16_abilitiesOf rfl rfl rfl (by decide +kernel) ⟨Nat.le_of_ble_eq_true rfl, Nat.le_of_ble_eq_true rfl⟩) ⟨fun a U g mk q => by obtain ⟨q0, q1, qP, qK, qD, qN⟩ := q; exact ⟨q0, q1, qP, va_K.moved (u := U) (U := U.calling g mk a) (Vm.Alike.refl U.vm) qK, qD, qN.same rfl⟩, va_recv hK hP (ci := 16) (q0 := k_16) rfl (Wd_ob kg_19 sg_19 (by decide)), fun U hU hW => ⟨rfl, by rw [hU], by rw [hU]; exact hP, va_K.moved hW.alike hK, hD.weaken (fun _ _ _ _ => trivial), hN.warm hW⟩⟩ rfl rfl hl.1 rfl (lv_room (Nat.le_of_ble_eq_true rfl)) dX13_onResource_68 ⟨Nat.le_of_ble_eq_true rfl, Nat.le_of_ble_eq_true rfl⟩) hS (fun q _ h => hFc q h) hFc (fun rr u t H_20 locs ht hvm hw hB hz1 hk1 hS2 => ?_)
      rw [hw]
      clear hw
      obtain ⟨hP1, -, hD1⟩ := hB
      rw [ht] at hP1
      replace hD := hD1.weaken (fun _ _ _ h => hFc _ h)
      replace hP := hP1
      replace hS := hS2
      clear hP1 hD1 hS2 hFc hfc hz1 hk1 hvm ht
      refine lv_bipush (v := 8) hx hb dX13_onResource_71 (by decide) ?_
      refine lv_iand hx hb dX13_onResource_73 ?_
      refine de_cut (h := 82) (fun (x : St × Int32) => [.int x.2, .ref (a h0)]) (fun x ls H locs => lv_has ls 6 [(5, .int v_4), (3, .long r_2), (0, .ref (a h0)), (1, .int x0)] ∧ va_P (dC, dI) vwCl (Wd cy a sh n x.1) H ∧ va_D A (Wd cy a sh n x.1) ∧ va_S A s.heap H locs) (fun x => fn_X13_onResource_B82 F sh n h0 x0 v_4 r_2 x.1 x.2) (z8, r8) ?_ (fun B82 => ?_)
      · intro x ls H locs hI hf
        obtain ⟨z_22, p_21⟩ := x
        obtain ⟨hl2, hP2, hD2, hS2⟩ := hI
        replace hl : lv_has ls 6 [(5, .int v_4), (3, .long r_2), (0, .ref (a h0)), (1, .int x0)] := hl2
        replace hP := hP2
        replace hD := hD2
        replace hS := hS2
        clear hl2 hP2 hD2 hS2
        replace hf := fn_X13_onResource_B82_s hf
        refine W.eq (g2 := F0 m 82 ls [.int p_21, .ref (a h0)]) rfl ?_
        refine lv_iconst (v := 4) hx hb dX13_onResource_82 (by decide) ?_
        obtain ⟨z_23, _u, hfc, hf⟩ := cal_some hf
        have hFc := de_free hD hS hA
        refine va_callv (va_runV (As := [.int p_21, .int 4]) (rest := []) ⟨hx, hb, hml, hown, hts⟩ (de_X13_need l dC dI cy a sh n H.size F z_22 h0 p_21 4 hfc) (cwV 2 hts gX13_onResource_X13_need rfl rfl rfl (by decide +kernel) ⟨Nat.le_of_ble_eq_true rfl, Nat.le_of_ble_eq_true rfl⟩) ⟨fun a U g mk q => by obtain ⟨q0, q1, qP, qK, qD, qN⟩ := q; exact ⟨q0, q1, qP, va_K.moved (u := U) (U := U.calling g mk a) (Vm.Alike.refl U.vm) qK, qD, qN.same rfl⟩, va_recv hK hP (ci := 13) (q0 := h0) rfl (Wd_ob kg_6 sg_6 (by decide)), fun U hU hW => ⟨rfl, by rw [hU], by rw [hU]; exact hP, va_K.moved hW.alike hK, hD.weaken (fun _ _ _ _ => trivial), hN.warm hW⟩⟩ rfl rfl hl.1 rfl (lv_room (Nat.le_of_ble_eq_true rfl)) dX13_onResource_83 ⟨Nat.le_of_ble_eq_true rfl, Nat.le_of_ble_eq_true rfl⟩) hS (fun q _ h => hFc q h) hFc (fun u t H_24 locs ht hvm hw hB hz1 hk1 hS2 => ?_)
        obtain ⟨hP1, -, hD1⟩ := hB
        rw [ht] at hP1
        replace hD := hD1.weaken (fun _ _ _ h => hFc _ h)
        replace hP := hP1
        replace hS := hS2
        clear hP1 hD1 hS2 hFc hfc hz1 hk1 hvm ht
        refine lv_aload_n hx hb dX13_onResource_86 rfl (lv_at hl 2 rfl) ?_
        refine va_get (D := (dC, dI)) (ci := 13) (v := .int (z_23.1 h0 18)) (C := RX13) (T := TX13) (N := 22) hx hb hts iwd_X13_onResource_X13 hown hK hP h0 (Wd_ob kg_6 sg_6 (by decide)) rfl 18 (by decide) (hts _ md_X13_onResource_4) (fun _ h9 => h9) (fl_at (t := 0) rfl) dX13_onResource_87 ?_
        refine lv_if_eq (tgt := 94) hx hb dX13_onResource_90 (by decide) (fun c_25 => ?_) (fun c_25 => ?_)
        · skip
          rw [if_pos c_25] at hf
          refine lv_iload_n hx hb dX13_onResource_94 rfl (lv_at hl 3 rfl) ?_
          refine lv_bipush (v := 48) hx hb dX13_onResource_95 (by decide) ?_
          refine de_cut (h := 127) (fun (x : St) => []) (fun x ls H locs => lv_has ls 6 [(5, .int v_4), (3, .long r_2), (0, .ref (a h0)), (1, .int x0)] ∧ va_P (dC, dI) vwCl (Wd cy a sh n x) H ∧ va_D A (Wd cy a sh n x) ∧ va_S A s.heap H locs) (fun x => fn_X13_onResource_B127 F sh n x0 h0 v_4 r_2 x) (z8, r8) ?_ (fun B127 => ?_)
          · intro x ls H locs hI hf
            obtain ⟨z_26, ez⟩ : ∃ w, w = x := ⟨_, rfl⟩
            subst ez
            obtain ⟨hl2, hP2, hD2, hS2⟩ := hI
            replace hl : lv_has ls 6 [(5, .int v_4), (3, .long r_2), (0, .ref (a h0)), (1, .int x0)] := hl2
            replace hP := hP2
            replace hD := hD2
            replace hS := hS2
            clear hl2 hP2 hD2 hS2
            replace hf := fn_X13_onResource_B127_s hf
            refine W.eq (g2 := F0 m 127 ls []) rfl ?_
            refine lv_iload_n hx hb dX13_onResource_127 rfl (lv_at hl 3 rfl) ?_
            refine lv_bipush (v := 50) hx hb dX13_onResource_128 (by decide) ?_
            refine de_cut (h := 154) (fun (x : St) => []) (fun x ls H locs => lv_has ls 6 [(5, .int v_4), (3, .long r_2), (0, .ref (a h0)), (1, .int x0)] ∧ va_P (dC, dI) vwCl (Wd cy a sh n x) H ∧ va_D A (Wd cy a sh n x) ∧ va_S A s.heap H locs) (fun x => fn_X13_onResource_B154 F sh n x0 h0 r_2 v_4 x) (z8, r8) ?_ (fun B154 => ?_)
            · intro x ls H locs hI hf
              obtain ⟨z_27, ez⟩ : ∃ w, w = x := ⟨_, rfl⟩
              subst ez
              obtain ⟨hl2, hP2, hD2, hS2⟩ := hI
              replace hl : lv_has ls 6 [(5, .int v_4), (3, .long r_2), (0, .ref (a h0)), (1, .int x0)] := hl2
              replace hP := hP2
              replace hD := hD2
              replace hS := hS2
              clear hl2 hP2 hD2 hS2
              replace hf := fn_X13_onResource_B154_s hf
              refine W.eq (g2 := F0 m 154 ls []) rfl ?_
              refine lv_iload_n hx hb dX13_onResource_154 rfl (lv_at hl 3 rfl) ?_
              refine lv_bipush (v := 48) hx hb dX13_onResource_155 (by decide) ?_
              refine de_cut (h := 165) (fun (x : St) => []) (fun x ls H locs => lv_has ls 6 [(5, .int v_4), (3, .long r_2), (0, .ref (a h0)), (1, .int x0)] ∧ va_P (dC, dI) vwCl (Wd cy a sh n x) H ∧ va_D A (Wd cy a sh n x) ∧ va_S A s.heap H locs) (fun x => fn_X13_onResource_B165 F sh n x0 h0 r_2 v_4 x) (z8, r8) ?_ (fun B165 => ?_)
              · intro x ls H locs hI hf
                obtain ⟨z_28, ez⟩ : ∃ w, w = x := ⟨_, rfl⟩
                subst ez
                obtain ⟨hl2, hP2, hD2, hS2⟩ := hI
                replace hl : lv_has ls 6 [(5, .int v_4), (3, .long r_2), (0, .ref (a h0)), (1, .int x0)] := hl2
                replace hP := hP2
                replace hD := hD2
                replace hS := hS2
                clear hl2 hP2 hD2 hS2
                replace hf := fn_X13_onResource_B165_s hf
                refine W.eq (g2 := F0 m 165 ls []) rfl ?_
                refine lv_iload_n hx hb dX13_onResource_165 rfl (lv_at hl 3 rfl) ?_
                refine lv_bipush (v := 49) hx hb dX13_onResource_166 (by decide) ?_
                refine de_cut (h := 176) (fun (x : St) => []) (fun x ls H locs => lv_has ls 6 [(5, .int v_4), (3, .long r_2), (0, .ref (a h0)), (1, .int x0)] ∧ va_P (dC, dI) vwCl (Wd cy a sh n x) H ∧ va_D A (Wd cy a sh n x) ∧ va_S A s.heap H locs) (fun x => fn_X13_onResource_B176 F sh n x0 r_2 h0 v_4 x) (z8, r8) ?_ (fun B176 => ?_)
                · intro x ls H locs hI hf
                  obtain ⟨z_29, ez⟩ : ∃ w, w = x := ⟨_, rfl⟩
                  subst ez
                  obtain ⟨hl2, hP2, hD2, hS2⟩ := hI
                  replace hl : lv_has ls 6 [(5, .int v_4), (3, .long r_2), (0, .ref (a h0)), (1, .int x0)] := hl2
                  replace hP := hP2
                  replace hD := hD2
                  replace hS := hS2
                  clear hl2 hP2 hD2 hS2
                  replace hf := fn_X13_onResource_B176_s hf
                  refine W.eq (g2 := F0 m 176 ls []) rfl ?_
                  refine lv_iload_n hx hb dX13_onResource_176 rfl (lv_at hl 3 rfl) ?_
                  refine lv_bipush (v := 49) hx hb dX13_onResource_177 (by decide) ?_
                  refine lv_icmp_le (tgt := 208) hx hb dX13_onResource_179 (by decide) (fun c_30 => ?_) (fun c_30 => ?_)
                  · skip
                    rw [if_pos c_30] at hf
                    obtain ⟨h8, h9⟩ := ret_some hf
                    rw [h8]
                    exact W.vret hx hb hr (fun t ht hW => ⟨⟨(), rfl, trivial, by rw [ht]; exact hP, va_K.moved hW.alike hK, hD⟩, hS.F ht⟩) hS.2.2 dX13_onResource_208
                  · skip
                    rw [if_neg c_30] at hf
                    refine lv_aload_n hx hb dX13_onResource_182 rfl (lv_at hl 2 rfl) ?_
                    refine lv_iload_n hx hb dX13_onResource_183 rfl (lv_at hl 3 rfl) ?_
                    refine lv_bipush (v := 50) hx hb dX13_onResource_184 (by decide) ?_
                    refine de_cut (h := 196) (fun (x : St × Int32) => [.int x.2, .ref (a h0)]) (fun x ls H locs => lv_has ls 6 [(5, .int v_4), (3, .long r_2)] ∧ va_P (dC, dI) vwCl (Wd cy a sh n x.1) H ∧ va_D A (Wd cy a sh n x.1) ∧ va_S A s.heap H locs) (fun x => fn_X13_onResource_B196 F sh n r_2 h0 v_4 x.1 x.2) (z8, r8) ?_ (fun B196 => ?_)
                    · intro x ls H locs hI hf
                      obtain ⟨z_32, p_31⟩ := x
                      obtain ⟨hl2, hP2, hD2, hS2⟩ := hI
                      replace hl : lv_has ls 6 [(5, .int v_4), (3, .long r_2)] := hl2
                      replace hP := hP2
                      replace hD := hD2
                      replace hS := hS2
                      clear hl2 hP2 hD2 hS2
                      replace hf := fn_X13_onResource_B196_s hf
                      refine W.eq (g2 := F0 m 196 ls [.int p_31, .ref (a h0)]) rfl ?_
                      refine lv_lload_n hx hb dX13_onResource_196 rfl (lv_at hl 1 rfl) ?_
                      obtain ⟨z_33, r_34, hfc, hf⟩ := cal_some hf
                      have hFc := de_free hD hS hA
                      refine va_calll (va_runS (As := [.int p_31, .long r_2]) (rest := [.ref (a h0)]) ⟨hx, hb, hml, hown, hts⟩ (de_X13_before l dC dI cy a sh n H.size F z_32 p_31 r_2 hfc) (va_cwS 2 hts gX13_onResource_X13_before rfl rfl rfl (by decide +kernel) ⟨Nat.le_of_ble_eq_true rfl, Nat.le_of_ble_eq_true rfl⟩) ⟨fun a U g mk q => by obtain ⟨q0, q1, qP, qK, qD, qN⟩ := q; exact ⟨q0, q1, qP, va_K.moved (u := U) (U := U.calling g mk a) (Vm.Alike.refl U.vm) qK, qD, qN.same rfl⟩, fun U hU hW => ⟨rfl, by rw [hU], by rw [hU]; exact hP, va_K.moved hW.alike hK, hD.weaken (fun _ _ _ _ => trivial), hN.warm hW⟩⟩ rfl rfl hl.1 rfl (lv_room (Nat.le_of_ble_eq_true rfl)) dX13_onResource_197 ⟨Nat.le_of_ble_eq_true rfl, Nat.le_of_ble_eq_true rfl⟩) hS (fun q _ h => hFc q h) hFc (fun rr u t H_35 locs ht hvm hw hB hz1 hk1 hS2 => ?_)
                      rw [hw]
                      clear hw
                      obtain ⟨hP1, -, hD1⟩ := hB
                      rw [ht] at hP1
                      replace hD := hD1.weaken (fun _ _ _ h => hFc _ h)
                      replace hP := hP1
                      replace hS := hS2
                      clear hP1 hD1 hS2 hFc hfc hz1 hk1 hvm ht
                      refine lv_lconst (v := 1) hx hb dX13_onResource_200 (by decide) ?_
                      refine lv_iload hx hb dX13_onResource_201 (lv_at hl 0 rfl) ?_
                      refine lv_lshl (v := (1 <<< ((v_4 : Int32).toInt64 &&& 63))) hx hb dX13_onResource_203 rfl ?_
                      refine lv_iconst (v := 0) hx hb dX13_onResource_204 (by decide) ?_
                      obtain ⟨z_36, _u, hfc, hf⟩ := cal_some hf
                      have hFc := de_free hD hS hA
                      refine va_callv (va_runV (As := [.long r_34, .long ((1 <<< ((v_4 : Int32).toInt64 &&& 63))), .int 0]) (rest := []) ⟨hx, hb, hml, hown, hts⟩ (de_X13_push l dC dI cy a sh n H_35.size F z_33 h0 r_34 ((1 <<< ((v_4 : Int32).toInt64 &&& 63))) 0 hfc) (cwV 3 hts gX13_onResource_X13_push rfl rfl rfl (by decide +kernel) ⟨Nat.le_of_ble_eq_true rfl, Nat.le_of_ble_eq_true rfl⟩) ⟨fun a U g mk q => by obtain ⟨q0, q1, qP, qK, qD, qN⟩ := q; exact ⟨q0, q1, qP, va_K.moved (u := U) (U := U.calling g mk a) (Vm.Alike.refl U.vm) qK, qD, qN.same rfl⟩, va_recv hK hP (ci := 13) (q0 := h0) rfl (Wd_ob kg_6 sg_6 (by decide)), fun U hU hW => ⟨rfl, by rw [hU], by rw [hU]; exact hP, va_K.moved hW.alike hK, hD.weaken (fun _ _ _ _ => trivial), hN.warm hW⟩⟩ rfl rfl hl.1 rfl (lv_room (Nat.le_of_ble_eq_true rfl)) dX13_onResource_205 ⟨Nat.le_of_ble_eq_true rfl, Nat.le_of_ble_eq_true rfl⟩) hS (fun q _ h => hFc q h) hFc (fun u t H_37 locs ht hvm hw hB hz1 hk1 hS2 => ?_)
                      obtain ⟨hP1, -, hD1⟩ := hB
                      rw [ht] at hP1
                      replace hD := hD1.weaken (fun _ _ _ h => hFc _ h)
                      replace hP := hP1
                      replace hS := hS2
                      clear hP1 hD1 hS2 hFc hfc hz1 hk1 hvm ht
                      obtain ⟨h8, h9⟩ := ret_some hf
                      rw [h8]
                      exact W.vret hx hb hr (fun t ht hW => ⟨⟨(), rfl, trivial, by rw [ht]; exact hP, va_K.moved hW.alike hK, hD⟩, hS.F ht⟩) hS.2.2 dX13_onResource_208
                    refine lv_icmp_ne (tgt := 194) hx hb dX13_onResource_186 (by decide) (fun c_38 => ?_) (fun c_38 => ?_)
                    · skip
                      rw [if_neg c_38] at hf
                      refine lv_bipush (v := 9) hx hb dX13_onResource_194 (by decide) ?_
                      exact B196 (z_29, 9) ls H locs ⟨lv_sub hl [0, 1] rfl, hP, hD, hS⟩ hf
                    · skip
                      rw [if_pos c_38] at hf
                      refine lv_bipush (v := 8) hx hb dX13_onResource_189 (by decide) ?_
                      refine lv_goto (tgt := 196) hx hb dX13_onResource_191 (by decide) ?_
                      exact B196 (z_29, 8) ls H locs ⟨lv_sub hl [0, 1] rfl, hP, hD, hS⟩ hf
                refine lv_icmp_ne (tgt := 176) hx hb dX13_onResource_168 (by decide) (fun c_39 => ?_) (fun c_39 => ?_)
                · skip
                  rw [if_neg c_39] at hf
                  exact B176 (z_28) ls H locs ⟨lv_sub hl [0, 1, 2, 3] rfl, hP, hD, hS⟩ hf
                · skip
                  rw [if_pos c_39] at hf
                  refine lv_aload_n hx hb dX13_onResource_171 rfl (lv_at hl 2 rfl) ?_
                  refine lv_lconst (v := 1) hx hb dX13_onResource_172 (by decide) ?_
                  obtain ⟨z_40, _u, hfc, hf⟩ := cal_some hf
                  have hFc := de_free hD hS hA
                  refine va_callv (va_runV (As := [.long 1]) (rest := []) ⟨hx, hb, hml, hown, hts⟩ (de_X13_give l dC dI cy a sh n H.size F z_28 h0 1 hfc) (cwV 1 hts gX13_onResource_X13_give rfl rfl rfl (by decide +kernel) ⟨Nat.le_of_ble_eq_true rfl, Nat.le_of_ble_eq_true rfl⟩) ⟨fun a U g mk q => by obtain ⟨q0, q1, qP, qK, qD, qN⟩ := q; exact ⟨q0, q1, qP, va_K.moved (u := U) (U := U.calling g mk a) (Vm.Alike.refl U.vm) qK, qD, qN.same rfl⟩, va_recv hK hP (ci := 13) (q0 := h0) rfl (Wd_ob kg_6 sg_6 (by decide)), fun U hU hW => ⟨rfl, by rw [hU], by rw [hU]; exact hP, va_K.moved hW.alike hK, hD.weaken (fun _ _ _ _ => trivial), hN.warm hW⟩⟩ rfl rfl hl.1 rfl (lv_room (Nat.le_of_ble_eq_true rfl)) dX13_onResource_173 ⟨Nat.le_of_ble_eq_true rfl, Nat.le_of_ble_eq_true rfl⟩) hS (fun q _ h => hFc q h) hFc (fun u t H_41 locs ht hvm hw hB hz1 hk1 hS2 => ?_)
                  obtain ⟨hP1, -, hD1⟩ := hB
                  rw [ht] at hP1
                  replace hD := hD1.weaken (fun _ _ _ h => hFc _ h)
                  replace hP := hP1
                  replace hS := hS2
                  clear hP1 hD1 hS2 hFc hfc hz1 hk1 hvm ht
                  exact B176 (z_40) ls H_41 locs ⟨lv_sub hl [0, 1, 2, 3] rfl, hP, hD, hS⟩ hf
              refine lv_icmp_ne (tgt := 165) hx hb dX13_onResource_157 (by decide) (fun c_42 => ?_) (fun c_42 => ?_)
              · skip
                rw [if_neg c_42] at hf
                exact B165 (z_27) ls H locs ⟨lv_sub hl [0, 1, 2, 3] rfl, hP, hD, hS⟩ hf
              · skip
                rw [if_pos c_42] at hf
                refine lv_aload_n hx hb dX13_onResource_160 rfl (lv_at hl 2 rfl) ?_
                refine lv_lload_n hx hb dX13_onResource_161 rfl (lv_at hl 1 rfl) ?_
                obtain ⟨z_43, _u, hfc, hf⟩ := cal_some hf
                have hFc := de_free hD hS hA
                refine va_callv (va_runV (As := [.long r_2]) (rest := []) ⟨hx, hb, hml, hown, hts⟩ (de_X13_give l dC dI cy a sh n H.size F z_27 h0 r_2 hfc) (cwV 1 hts gX13_onResource_X13_give rfl rfl rfl (by decide +kernel) ⟨Nat.le_of_ble_eq_true rfl, Nat.le_of_ble_eq_true rfl⟩) ⟨fun a U g mk q => by obtain ⟨q0, q1, qP, qK, qD, qN⟩ := q; exact ⟨q0, q1, qP, va_K.moved (u := U) (U := U.calling g mk a) (Vm.Alike.refl U.vm) qK, qD, qN.same rfl⟩, va_recv hK hP (ci := 13) (q0 := h0) rfl (Wd_ob kg_6 sg_6 (by decide)), fun U hU hW => ⟨rfl, by rw [hU], by rw [hU]; exact hP, va_K.moved hW.alike hK, hD.weaken (fun _ _ _ _ => trivial), hN.warm hW⟩⟩ rfl rfl hl.1 rfl (lv_room (Nat.le_of_ble_eq_true rfl)) dX13_onResource_162 ⟨Nat.le_of_ble_eq_true rfl, Nat.le_of_ble_eq_true rfl⟩) hS (fun q _ h => hFc q h) hFc (fun u t H_44 locs ht hvm hw hB hz1 hk1 hS2 => ?_)
                obtain ⟨hP1, -, hD1⟩ := hB
                rw [ht] at hP1
                replace hD := hD1.weaken (fun _ _ _ h => hFc _ h)
                replace hP := hP1
                replace hS := hS2
                clear hP1 hD1 hS2 hFc hfc hz1 hk1 hvm ht
                exact B165 (z_43) ls H_44 locs ⟨lv_sub hl [0, 1, 2, 3] rfl, hP, hD, hS⟩ hf
            refine lv_icmp_ne (tgt := 154) hx hb dX13_onResource_130 (by decide) (fun c_45 => ?_) (fun c_45 => ?_)
            · skip
              rw [if_neg c_45] at hf
              exact B154 (z_26) ls H locs ⟨lv_sub hl [0, 1, 2, 3] rfl, hP, hD, hS⟩ hf
            · skip
              rw [if_pos c_45] at hf
              refine lv_aload_n hx hb dX13_onResource_133 rfl (lv_at hl 2 rfl) ?_
              refine lv_aload_n hx hb dX13_onResource_134 rfl (lv_at hl 2 rfl) ?_
              refine lv_iload hx hb dX13_onResource_135 (lv_at hl 0 rfl) ?_
              refine lv_iconst (v := 1) hx hb dX13_onResource_137 (by decide) ?_
              obtain ⟨z_46, r_47, hfc, hf⟩ := cal_some hf
              have hFc := de_free hD hS hA
              refine va_calli (va_runV (As := [.int v_4, .int 1]) (rest := [.ref (a h0)]) ⟨hx, hb, hml, hown, hts⟩ (de_X13_isPointed l dC dI cy a sh n H.size F z_26 h0 v_4 1 hfc) (cwV 2 hts gX13_onResource_X13_isPointed rfl rfl rfl (by decide +kernel) ⟨Nat.le_of_ble_eq_true rfl, Nat.le_of_ble_eq_true rfl⟩) ⟨fun a U g mk q => by obtain ⟨q0, q1, qP, qK, qD, qN⟩ := q; exact ⟨q0, q1, qP, va_K.moved (u := U) (U := U.calling g mk a) (Vm.Alike.refl U.vm) qK, qD, qN.same rfl⟩, va_recv hK hP (ci := 13) (q0 := h0) rfl (Wd_ob kg_6 sg_6 (by decide)), fun U hU hW => ⟨rfl, by rw [hU], by rw [hU]; exact hP, va_K.moved hW.alike hK, hD.weaken (fun _ _ _ _ => trivial), hN.warm hW⟩⟩ rfl rfl hl.1 rfl (lv_room (Nat.le_of_ble_eq_true rfl)) dX13_onResource_138 ⟨Nat.le_of_ble_eq_true rfl, Nat.le_of_ble_eq_true rfl⟩) hS (fun q _ h => hFc q h) hFc (fun rr u t H_48 locs ht hvm hw hB hz1 hk1 hS2 => ?_)
              rw [hw]
              clear hw
              obtain ⟨hP1, -, hD1⟩ := hB
              rw [ht] at hP1
              replace hD := hD1.weaken (fun _ _ _ h => hFc _ h)
              replace hP := hP1
              replace hS := hS2
              clear hP1 hD1 hS2 hFc hfc hz1 hk1 hvm ht
              refine de_cut (h := 149) (fun (x : St × Int32) => [.int x.2, .ref (a h0)]) (fun x ls H locs => lv_has ls 6 [(5, .int v_4), (3, .long r_2), (0, .ref (a h0)), (1, .int x0)] ∧ va_P (dC, dI) vwCl (Wd cy a sh n x.1) H ∧ va_D A (Wd cy a sh n x.1) ∧ va_S A s.heap H locs) (fun x => fn_X13_onResource_B149 F sh n h0 x0 r_2 v_4 x.1 x.2) (z8, r8) ?_ (fun B149 => ?_)
              · intro x ls H locs hI hf
                obtain ⟨z_50, p_49⟩ := x
                obtain ⟨hl2, hP2, hD2, hS2⟩ := hI
                replace hl : lv_has ls 6 [(5, .int v_4), (3, .long r_2), (0, .ref (a h0)), (1, .int x0)] := hl2
                replace hP := hP2
                replace hD := hD2
                replace hS := hS2
                clear hl2 hP2 hD2 hS2
                replace hf := fn_X13_onResource_B149_s hf
                refine W.eq (g2 := F0 m 149 ls [.int p_49, .ref (a h0)]) rfl ?_
                refine lv_bipush (v := 6) hx hb dX13_onResource_149 (by decide) ?_
                obtain ⟨z_51, _u, hfc, hf⟩ := cal_some hf
                have hFc := de_free hD hS hA
                refine va_callv (va_runV (As := [.int p_49, .int 6]) (rest := []) ⟨hx, hb, hml, hown, hts⟩ (de_X13_need l dC dI cy a sh n H.size F z_50 h0 p_49 6 hfc) (cwV 2 hts gX13_onResource_X13_need rfl rfl rfl (by decide +kernel) ⟨Nat.le_of_ble_eq_true rfl, Nat.le_of_ble_eq_true rfl⟩) ⟨fun a U g mk q => by obtain ⟨q0, q1, qP, qK, qD, qN⟩ := q; exact ⟨q0, q1, qP, va_K.moved (u := U) (U := U.calling g mk a) (Vm.Alike.refl U.vm) qK, qD, qN.same rfl⟩, va_recv hK hP (ci := 13) (q0 := h0) rfl (Wd_ob kg_6 sg_6 (by decide)), fun U hU hW => ⟨rfl, by rw [hU], by rw [hU]; exact hP, va_K.moved hW.alike hK, hD.weaken (fun _ _ _ _ => trivial), hN.warm hW⟩⟩ rfl rfl hl.1 rfl (lv_room (Nat.le_of_ble_eq_true rfl)) dX13_onResource_151 ⟨Nat.le_of_ble_eq_true rfl, Nat.le_of_ble_eq_true rfl⟩) hS (fun q _ h => hFc q h) hFc (fun u t H_52 locs ht hvm hw hB hz1 hk1 hS2 => ?_)
                obtain ⟨hP1, -, hD1⟩ := hB
                rw [ht] at hP1
                replace hD := hD1.weaken (fun _ _ _ h => hFc _ h)
                replace hP := hP1
                replace hS := hS2
                clear hP1 hD1 hS2 hFc hfc hz1 hk1 hvm ht
                exact B154 (z_51) ls H_52 locs ⟨lv_sub hl [0, 1, 2, 3] rfl, hP, hD, hS⟩ hf
              refine lv_if_ne (tgt := 148) hx hb dX13_onResource_141 (by decide) (fun c_53 => ?_) (fun c_53 => ?_)
              · skip
                rw [if_neg c_53] at hf
                refine lv_iconst (v := 0) hx hb dX13_onResource_148 (by decide) ?_
                exact B149 (z_46, 0) ls H_48 locs ⟨lv_sub hl [0, 1, 2, 3] rfl, hP, hD, hS⟩ hf
              · skip
                rw [if_pos c_53] at hf
                refine lv_iconst (v := 1) hx hb dX13_onResource_144 (by decide) ?_
                refine lv_goto (tgt := 149) hx hb dX13_onResource_145 (by decide) ?_
                exact B149 (z_46, 1) ls H_48 locs ⟨lv_sub hl [0, 1, 2, 3] rfl, hP, hD, hS⟩ hf
          refine de_cut (h := 106) (fun (x : St) => []) (fun x ls H locs => lv_has ls 6 [(5, .int v_4), (3, .long r_2), (0, .ref (a h0)), (1, .int x0)] ∧ va_P (dC, dI) vwCl (Wd cy a sh n x) H ∧ va_D A (Wd cy a sh n x) ∧ va_S A s.heap H locs) (fun x => fn_X13_onResource_B106 F sh n h0 v_4 x0 r_2 x) (z8, r8) ?_ (fun B106 => ?_)
          · intro x ls H locs hI hf
            obtain ⟨z_54, ez⟩ : ∃ w, w = x := ⟨_, rfl⟩
            subst ez
            obtain ⟨hl2, hP2, hD2, hS2⟩ := hI
            replace hl : lv_has ls 6 [(5, .int v_4), (3, .long r_2), (0, .ref (a h0)), (1, .int x0)] := hl2
            replace hP := hP2
            replace hD := hD2
            replace hS := hS2
            clear hl2 hP2 hD2 hS2
            replace hf := fn_X13_onResource_B106_s hf
            refine W.eq (g2 := F0 m 106 ls []) rfl ?_
            refine lv_aload_n hx hb dX13_onResource_106 rfl (lv_at hl 2 rfl) ?_
            refine lv_aload_n hx hb dX13_onResource_107 rfl (lv_at hl 2 rfl) ?_
            refine lv_iload hx hb dX13_onResource_108 (lv_at hl 0 rfl) ?_
            refine lv_iconst (v := 0) hx hb dX13_onResource_110 (by decide) ?_
            obtain ⟨z_55, r_56, hfc, hf⟩ := cal_some hf
            have hFc := de_free hD hS hA
            refine va_calli (va_runV (As := [.int v_4, .int 0]) (rest := [.ref (a h0)]) ⟨hx, hb, hml, hown, hts⟩ (de_X13_isPointed l dC dI cy a sh n H.size F z_54 h0 v_4 0 hfc) (cwV 2 hts gX13_onResource_X13_isPointed rfl rfl rfl (by decide +kernel) ⟨Nat.le_of_ble_eq_true rfl, Nat.le_of_ble_eq_true rfl⟩) ⟨fun a U g mk q => by obtain ⟨q0, q1, qP, qK, qD, qN⟩ := q; exact ⟨q0, q1, qP, va_K.moved (u := U) (U := U.calling g mk a) (Vm.Alike.refl U.vm) qK, qD, qN.same rfl⟩, va_recv hK hP (ci := 13) (q0 := h0) rfl (Wd_ob kg_6 sg_6 (by decide)), fun U hU hW => ⟨rfl, by rw [hU], by rw [hU]; exact hP, va_K.moved hW.alike hK, hD.weaken (fun _ _ _ _ => trivial), hN.warm hW⟩⟩ rfl rfl hl.1 rfl (lv_room (Nat.le_of_ble_eq_true rfl)) dX13_onResource_111 ⟨Nat.le_of_ble_eq_true rfl, Nat.le_of_ble_eq_true rfl⟩) hS (fun q _ h => hFc q h) hFc (fun rr u t H_57 locs ht hvm hw hB hz1 hk1 hS2 => ?_)
            rw [hw]
            clear hw
            obtain ⟨hP1, -, hD1⟩ := hB
            rw [ht] at hP1
            replace hD := hD1.weaken (fun _ _ _ h => hFc _ h)
            replace hP := hP1
            replace hS := hS2
            clear hP1 hD1 hS2 hFc hfc hz1 hk1 hvm ht
            refine de_cut (h := 122) (fun (x : St × Int32) => [.int x.2, .ref (a h0)]) (fun x ls H locs => lv_has ls 6 [(5, .int v_4), (3, .long r_2), (0, .ref (a h0)), (1, .int x0)] ∧ va_P (dC, dI) vwCl (Wd cy a sh n x.1) H ∧ va_D A (Wd cy a sh n x.1) ∧ va_S A s.heap H locs) (fun x => fn_X13_onResource_B122 F sh n h0 x0 v_4 r_2 x.1 x.2) (z8, r8) ?_ (fun B122 => ?_)
            · intro x ls H locs hI hf
              obtain ⟨z_59, p_58⟩ := x
              obtain ⟨hl2, hP2, hD2, hS2⟩ := hI
              replace hl : lv_has ls 6 [(5, .int v_4), (3, .long r_2), (0, .ref (a h0)), (1, .int x0)] := hl2
              replace hP := hP2
              replace hD := hD2
              replace hS := hS2
              clear hl2 hP2 hD2 hS2
              replace hf := fn_X13_onResource_B122_s hf
              refine W.eq (g2 := F0 m 122 ls [.int p_58, .ref (a h0)]) rfl ?_
              refine lv_bipush (v := 6) hx hb dX13_onResource_122 (by decide) ?_
              obtain ⟨z_60, _u, hfc, hf⟩ := cal_some hf
              have hFc := de_free hD hS hA
              refine va_callv (va_runV (As := [.int p_58, .int 6]) (rest := []) ⟨hx, hb, hml, hown, hts⟩ (de_X13_need l dC dI cy a sh n H.size F z_59 h0 p_58 6 hfc) (cwV 2 hts gX13_onResource_X13_need rfl rfl rfl (by decide +kernel) ⟨Nat.le_of_ble_eq_true rfl, Nat.le_of_ble_eq_true rfl⟩) ⟨fun a U g mk q => by obtain ⟨q0, q1, qP, qK, qD, qN⟩ := q; exact ⟨q0, q1, qP, va_K.moved (u := U) (U := U.calling g mk a) (Vm.Alike.refl U.vm) qK, qD, qN.same rfl⟩, va_recv hK hP (ci := 13) (q0 := h0) rfl (Wd_ob kg_6 sg_6 (by decide)), fun U hU hW => ⟨rfl, by rw [hU], by rw [hU]; exact hP, va_K.moved hW.alike hK, hD.weaken (fun _ _ _ _ => trivial), hN.warm hW⟩⟩ rfl rfl hl.1 rfl (lv_room (Nat.le_of_ble_eq_true rfl)) dX13_onResource_124 ⟨Nat.le_of_ble_eq_true rfl, Nat.le_of_ble_eq_true rfl⟩) hS (fun q _ h => hFc q h) hFc (fun u t H_61 locs ht hvm hw hB hz1 hk1 hS2 => ?_)
              obtain ⟨hP1, -, hD1⟩ := hB
              rw [ht] at hP1
              replace hD := hD1.weaken (fun _ _ _ h => hFc _ h)
              replace hP := hP1
              replace hS := hS2
              clear hP1 hD1 hS2 hFc hfc hz1 hk1 hvm ht
              exact B127 (z_60) ls H_61 locs ⟨lv_sub hl [0, 1, 2, 3] rfl, hP, hD, hS⟩ hf
            refine lv_if_ne (tgt := 121) hx hb dX13_onResource_114 (by decide) (fun c_62 => ?_) (fun c_62 => ?_)
            · skip
              rw [if_neg c_62] at hf
              refine lv_iconst (v := 0) hx hb dX13_onResource_121 (by decide) ?_
              exact B122 (z_55, 0) ls H_57 locs ⟨lv_sub hl [0, 1, 2, 3] rfl, hP, hD, hS⟩ hf
            · skip
              rw [if_pos c_62] at hf
              refine lv_iconst (v := 1) hx hb dX13_onResource_117 (by decide) ?_
              refine lv_goto (tgt := 122) hx hb dX13_onResource_118 (by decide) ?_
              exact B122 (z_55, 1) ls H_57 locs ⟨lv_sub hl [0, 1, 2, 3] rfl, hP, hD, hS⟩ hf
          refine lv_icmp_eq (tgt := 106) hx hb dX13_onResource_97 (by decide) (fun c_63 => ?_) (fun c_63 => ?_)
          · skip
            rw [if_pos c_63] at hf
            exact B106 (z_23) ls H_24 locs ⟨lv_sub hl [0, 1, 2, 3] rfl, hP, hD, hS⟩ hf
          · skip
            rw [if_neg c_63] at hf
            refine lv_iload_n hx hb dX13_onResource_100 rfl (lv_at hl 3 rfl) ?_
            refine lv_bipush (v := 51) hx hb dX13_onResource_101 (by decide) ?_
            refine lv_icmp_ne (tgt := 127) hx hb dX13_onResource_103 (by decide) (fun c_64 => ?_) (fun c_64 => ?_)
            · skip
              rw [if_neg c_64] at hf
              exact B127 (z_23) ls H_24 locs ⟨lv_sub hl [0, 1, 2, 3] rfl, hP, hD, hS⟩ hf
            · skip
              rw [if_pos c_64] at hf
              exact B106 (z_23) ls H_24 locs ⟨lv_sub hl [0, 1, 2, 3] rfl, hP, hD, hS⟩ hf
        · skip
          rw [if_neg c_25] at hf
          obtain ⟨h8, h9⟩ := ret_some hf
          rw [h8]
          exact W.vret hx hb hr (fun t ht hW => ⟨⟨(), rfl, trivial, by rw [ht]; exact hP, va_K.moved hW.alike hK, hD⟩, hS.F ht⟩) hS.2.2 dX13_onResource_93
      refine lv_if_eq (tgt := 81) hx hb dX13_onResource_74 (by decide) (fun c_65 => ?_) (fun c_65 => ?_)
      · skip
        rw [if_pos c_65] at hf
        refine lv_iconst (v := 0) hx hb dX13_onResource_81 (by decide) ?_
        exact B82 (z_17, 0) ls H_20 locs ⟨lv_sub hl [0, 1, 2, 3] rfl, hP, hD, hS⟩ hf
      · skip
        rw [if_neg c_65] at hf
        refine lv_iconst (v := 1) hx hb dX13_onResource_77 (by decide) ?_
        refine lv_goto (tgt := 82) hx hb dX13_onResource_78 (by decide) ?_
        exact B82 (z_17, 1) ls H_20 locs ⟨lv_sub hl [0, 1, 2, 3] rfl, hP, hD, hS⟩ hf
    refine lv_if_eq (tgt := 56) hx hb dX13_onResource_49 (by decide) (fun c_66 => ?_) (fun c_66 => ?_)
    · skip
      rw [if_pos c_66] at hf
      refine lv_iconst (v := 0) hx hb dX13_onResource_56 (by decide) ?_
      exact B57 (z_8, 0) ls H_11 locs ⟨lv_sub hl [0, 1, 2, 3, 4] rfl, hP, hD, hS⟩ hf
    · skip
      rw [if_neg c_66] at hf
      refine lv_iconst (v := 1) hx hb dX13_onResource_52 (by decide) ?_
      refine lv_goto (tgt := 57) hx hb dX13_onResource_53 (by decide) ?_
      exact B57 (z_8, 1) ls H_11 locs ⟨lv_sub hl [0, 1, 2, 3, 4] rfl, hP, hD, hS⟩ hf
  refine lv_icmp_ne (tgt := 28) hx hb dX13_onResource_17 (by decide) (fun c_67 => ?_) (fun c_67 => ?_)
  · skip
    rw [if_neg c_67] at hf
    refine lv_aload_n hx hb dX13_onResource_28 rfl (lv_at hl 2 rfl) ?_
    refine lv_ldc2 hx hb hown (hts _ md_X13_onResource_1) dX13_onResource_29 ?_
    obtain ⟨g_69, hf⟩ := grd_some hf
    obtain ⟨kg_69, sg_69⟩ := okO_at g_69
    obtain ⟨z_68, _u, hfc, hf⟩ := cal_some hf
    have hFc := de_free hD hS hA
    refine va_callv (va_runV (As := [.long 5]) (rest := []) ⟨hx, hb, hml, hown, hts⟩ (de_X13_take_ l dC dI cy a sh n H_3.size F z_1 h0 5 hfc) (cwV 1 hts gX13_onResource_X13_take_ rfl rfl rfl (by decide +kernel) ⟨Nat.le_of_ble_eq_true rfl, Nat.le_of_ble_eq_true rfl⟩) ⟨fun a U g mk q => by obtain ⟨q0, q1, qP, qK, qD, qN⟩ := q; exact ⟨q0, q1, qP, va_K.moved (u := U) (U := U.calling g mk a) (Vm.Alike.refl U.vm) qK, qD, qN.same rfl⟩, va_recv hK hP (ci := 13) (q0 := h0) rfl (Wd_ob kg_69 sg_69 (by decide)), fun U hU hW => ⟨rfl, by rw [hU], by rw [hU]; exact hP, va_K.moved hW.alike hK, hD.weaken (fun _ _ _ _ => trivial), hN.warm hW⟩⟩ rfl rfl hl.1 rfl (lv_room (Nat.le_of_ble_eq_true rfl)) dX13_onResource_32 ⟨Nat.le_of_ble_eq_true rfl, Nat.le_of_ble_eq_true rfl⟩) hS (fun q _ h => hFc q h) hFc (fun u t H_70 locs ht hvm hw hB hz1 hk1 hS2 => ?_)
    obtain ⟨hP1, -, hD1⟩ := hB
    rw [ht] at hP1
    replace hD := hD1.weaken (fun _ _ _ h => hFc _ h)
    replace hP := hP1
    replace hS := hS2
    clear hP1 hD1 hS2 hFc hfc hz1 hk1 hvm ht
    exact B35 (z_68) ls H_70 locs ⟨lv_sub hl [0, 1, 2, 3, 4] rfl, hP, hD, hS⟩ hf
  · skip
    rw [if_pos c_67] at hf
    refine lv_aload_n hx hb dX13_onResource_20 rfl (lv_at hl 2 rfl) ?_
    refine lv_lload_n hx hb dX13_onResource_21 rfl (lv_at hl 1 rfl) ?_
    obtain ⟨g_72, hf⟩ := grd_some hf
    obtain ⟨kg_72, sg_72⟩ := okO_at g_72
    obtain ⟨z_71, _u, hfc, hf⟩ := cal_some hf
    have hFc := de_free hD hS hA
    refine va_callv (va_runV (As := [.long r_2]) (rest := []) ⟨hx, hb, hml, hown, hts⟩ (de_X13_take_ l dC dI cy a sh n H_3.size F z_1 h0 r_2 hfc) (cwV 1 hts gX13_onResource_X13_take_ rfl rfl rfl (by decide +kernel) ⟨Nat.le_of_ble_eq_true rfl, Nat.le_of_ble_eq_true rfl⟩) ⟨fun a U g mk q => by obtain ⟨q0, q1, qP, qK, qD, qN⟩ := q; exact ⟨q0, q1, qP, va_K.moved (u := U) (U := U.calling g mk a) (Vm.Alike.refl U.vm) qK, qD, qN.same rfl⟩, va_recv hK hP (ci := 13) (q0 := h0) rfl (Wd_ob kg_72 sg_72 (by decide)), fun U hU hW => ⟨rfl, by rw [hU], by rw [hU]; exact hP, va_K.moved hW.alike hK, hD.weaken (fun _ _ _ _ => trivial), hN.warm hW⟩⟩ rfl rfl hl.1 rfl (lv_room (Nat.le_of_ble_eq_true rfl)) dX13_onResource_22 ⟨Nat.le_of_ble_eq_true rfl, Nat.le_of_ble_eq_true rfl⟩) hS (fun q _ h => hFc q h) hFc (fun u t H_73 locs ht hvm hw hB hz1 hk1 hS2 => ?_)
    obtain ⟨hP1, -, hD1⟩ := hB
    rw [ht] at hP1
    replace hD := hD1.weaken (fun _ _ _ h => hFc _ h)
    replace hP := hP1
    replace hS := hS2
    clear hP1 hD1 hS2 hFc hfc hz1 hk1 hvm ht
    refine lv_goto (tgt := 35) hx hb dX13_onResource_25 (by decide) ?_
    exact B35 (z_71) ls H_73 locs ⟨lv_sub hl [0, 1, 2, 3, 4] rfl, hP, hD, hS⟩ hf

theorem md_X13_onNumbers_3 : (.fieldLink RX13 48 "ResourceLedgerModel$Looker" "fault" "I" : Cond) ∈ wsX13_onNumbers := List.mem_of_getElem? (i := 3) rfl
theorem iwd_X13_onNumbers_X13 : ∀ w ∈ wsX130, w ∈ wsX13_onNumbers := fun _ h => List.mem_cons_of_mem _ (List.mem_append_left _ (List.mem_append_right _ h))
theorem md_X13_onNumbers_4 : (.constantLong RX13 183 (40) : Cond) ∈ wsX13_onNumbers := List.mem_of_getElem? (i := 4) rfl
theorem md_X13_onNumbers_1 : (.fieldLink RX13 99 "ResourceLedgerModel$Looker" "taken" "J" : Cond) ∈ wsX13_onNumbers := List.mem_of_getElem? (i := 1) rfl
theorem md_X13_onNumbers_2 : (.constantLong RX13 124 (2) : Cond) ∈ wsX13_onNumbers := List.mem_of_getElem? (i := 2) rfl
set_option maxHeartbeats 4000000 in
set_option maxRecDepth 100000 in
theorem de_X13_onNumbers (l : Launch) (dC : Nat → ClassId) (dI : Nat → Nat → Nat) (cy : Nat → ClassId) (a : Nat → Nat) (sh : Nat → Nat × Nat) (n sz : Nat) (F : Nat) (z : St) (h0 : Nat) (x0 : Int32) {z8 : St} {r8 : Unit} (hf : fn_X13_onNumbers F sh n z h0 x0 = some (z8, r8)) : Met l yX13_onNumbers wsX13_onNumbers ({ frames := 4, cells := 0, slots := 0, locals := 94 }) (va_Pc [.ref (a h0), .int x0] (fun U => U.heap.size = sz ∧ va_P (dC, dI) vwCl (Wd cy a sh n z) U.heap ∧ va_K (dC, dI) vwCl (TYS cy) U ∧ va_D (fun _ => True) (Wd cy a sh n z) ∧ NK U)) (va_Qv (fun u : Unit => True) (fun u t => va_P (dC, dI) vwCl (Wd cy a sh n z8) t.heap ∧ va_K (dC, dI) vwCl (TYS cy) t ∧ va_D (va_A (Wd cy a sh n z) sz) (Wd cy a sh n z8)) (va_A (Wd cy a sh n z) sz)) 0 0 (va_A (Wd cy a sh n z) sz) := by
  refine Met.ofW (cc := cX13_onNumbers) (maxL := 2) (ret := none) (by decide) rfl ?_
  intro p e s m args below meth c s₁ B hml hv
  obtain ⟨rfl, hsz, hP, hK, hD0, hN⟩ := hv
  have hx := B.exec
  have hb := B.bytes
  have hr := B.returns
  have hts := atoms_spec (ws := wsX13_onNumbers) B.pre
  have hown : s.vm.findClass RX13 = some m.cls := findClass_of_methodNamed B.named
  have hlocks := B.notSynchronized
  subst hsz
  have hD := hD0.self (sz := s.heap.size)
  clear hD0
  generalize hAe : va_A (Wd cy a sh n z) s.heap.size = A at hD ⊢
  have hA : ∀ q : Nat, s.heap.size ≤ q → A q := fun q h => by rw [← hAe]; exact Or.inr h
  clear hAe
  have hS : va_S A s.heap s.heap [] := va_S.rf
  have hl := lv_entry ([.ref (a h0), .int x0]) (n := 2) (Nat.le_of_ble_eq_true rfl)
  rw [lg_entry_eq]
  generalize (lg_sl ([.ref (a h0), .int x0]) ++ List.replicate (2 - (lg_sl ([.ref (a h0), .int x0])).length) Slot.unset).toArray = ls at hl ⊢
  replace hl : lv_has ls 2 [(0, .ref (a h0)), (1, .int x0)] := hl
  unfold fn_X13_onNumbers at hf
  refine de_start hS hP (fun H locs hS hP => ?_)
  refine lv_iload_n hx hb dX13_onNumbers_0 rfl (lv_at hl 1 rfl) ?_
  refine lv_bipush (v := 32) hx hb dX13_onNumbers_1 (by decide) ?_
  refine lv_icmp_ge (tgt := 32) hx hb dX13_onNumbers_3 (by decide) (fun c_1 => ?_) (fun c_1 => ?_)
  · skip
    rw [if_pos c_1] at hf
    refine lv_iload_n hx hb dX13_onNumbers_32 rfl (lv_at hl 1 rfl) ?_
    refine lv_bipush (v := 34) hx hb dX13_onNumbers_33 (by decide) ?_
    refine lv_icmp_ge (tgt := 79) hx hb dX13_onNumbers_35 (by decide) (fun c_2 => ?_) (fun c_2 => ?_)
    · skip
      rw [if_pos c_2] at hf
      refine lv_iload_n hx hb dX13_onNumbers_79 rfl (lv_at hl 1 rfl) ?_
      refine lv_bipush (v := 34) hx hb dX13_onNumbers_80 (by decide) ?_
      refine lv_icmp_ne (tgt := 98) hx hb dX13_onNumbers_82 (by decide) (fun c_3 => ?_) (fun c_3 => ?_)
      · skip
        rw [if_neg c_3] at hf
        refine lv_iload_n hx hb dX13_onNumbers_98 rfl (lv_at hl 1 rfl) ?_
        refine lv_bipush (v := 38) hx hb dX13_onNumbers_99 (by decide) ?_
        refine lv_icmp_ge (tgt := 172) hx hb dX13_onNumbers_101 (by decide) (fun c_4 => ?_) (fun c_4 => ?_)
        · skip
          rw [if_pos c_4] at hf
          refine lv_iload_n hx hb dX13_onNumbers_172 rfl (lv_at hl 1 rfl) ?_
          refine lv_bipush (v := 42) hx hb dX13_onNumbers_173 (by decide) ?_
          refine lv_icmp_ge (tgt := 191) hx hb dX13_onNumbers_175 (by decide) (fun c_5 => ?_) (fun c_5 => ?_)
          · skip
            rw [if_pos c_5] at hf
            refine lv_aload_n hx hb dX13_onNumbers_191 rfl (lv_at hl 0 rfl) ?_
            obtain ⟨g_7, hf⟩ := grd_some hf
            obtain ⟨kg_7, sg_7⟩ := okO_at g_7
            obtain ⟨z_6, _u, hfc, hf⟩ := cal_some hf
            have hFc := de_free hD hS hA
            refine va_callv (va_runV (As := []) (rest := []) ⟨hx, hb, hml, hown, hts⟩ (de_X13_take l dC dI cy a sh n H.size F z h0 hfc) (cwV 0 hts gX13_onNumbers_X13_take rfl rfl rfl (by decide +kernel) ⟨Nat.le_of_ble_eq_true rfl, Nat.le_of_ble_eq_true rfl⟩) ⟨fun a U g mk q => by obtain ⟨q0, q1, qP, qK, qD, qN⟩ := q; exact ⟨q0, q1, qP, va_K.moved (u := U) (U := U.calling g mk a) (Vm.Alike.refl U.vm) qK, qD, qN.same rfl⟩, va_recv hK hP (ci := 13) (q0 := h0) rfl (Wd_ob kg_7 sg_7 (by decide)), fun U hU hW => ⟨rfl, by rw [hU], by rw [hU]; exact hP, va_K.moved hW.alike hK, hD.weaken (fun _ _ _ _ => trivial), hN.warm hW⟩⟩ rfl rfl hl.1 rfl (lv_room (Nat.le_of_ble_eq_true rfl)) dX13_onNumbers_192 ⟨Nat.le_of_ble_eq_true rfl, Nat.le_of_ble_eq_true rfl⟩) hS (fun q _ h => hFc q h) hFc (fun u t H_8 locs ht hvm hw hB hz1 hk1 hS2 => ?_)
            obtain ⟨hP1, -, hD1⟩ := hB
            rw [ht] at hP1
            replace hD := hD1.weaken (fun _ _ _ h => hFc _ h)
            replace hP := hP1
            replace hS := hS2
            clear hP1 hD1 hS2 hFc hfc hz1 hk1 hvm ht
            refine lv_aload_n hx hb dX13_onNumbers_195 rfl (lv_at hl 0 rfl) ?_
            refine va_get (D := (dC, dI)) (ci := 13) (v := .int (z_6.1 h0 18)) (C := RX13) (T := TX13) (N := 22) hx hb hts iwd_X13_onNumbers_X13 hown hK hP h0 (Wd_ob kg_7 sg_7 (by decide)) rfl 18 (by decide) (hts _ md_X13_onNumbers_3) (fun _ h9 => h9) (fl_at (t := 0) rfl) dX13_onNumbers_196 ?_
            refine lv_if_ne (tgt := 214) hx hb dX13_onNumbers_199 (by decide) (fun c_9 => ?_) (fun c_9 => ?_)
            · skip
              rw [if_neg c_9] at hf
              refine lv_aload_n hx hb dX13_onNumbers_214 rfl (lv_at hl 0 rfl) ?_
              refine lv_iload_n hx hb dX13_onNumbers_215 rfl (lv_at hl 1 rfl) ?_
              refine lv_i2l (v := (x0 : Int32).toInt64) hx hb dX13_onNumbers_216 rfl ?_
              refine lv_ldc2 hx hb hown (hts _ md_X13_onNumbers_4) dX13_onNumbers_217 ?_
              refine lv_lsub hx hb dX13_onNumbers_220 ?_
              obtain ⟨z_10, _u, hfc, hf⟩ := cal_some hf
              have hFc := de_free hD hS hA
              refine va_callv (va_runV (As := [.long (((x0 : Int32).toInt64) - 40)]) (rest := []) ⟨hx, hb, hml, hown, hts⟩ (de_X13_give l dC dI cy a sh n H_8.size F z_6 h0 (((x0 : Int32).toInt64) - 40) hfc) (cwV 1 hts gX13_onNumbers_X13_give rfl rfl rfl (by decide +kernel) ⟨Nat.le_of_ble_eq_true rfl, Nat.le_of_ble_eq_true rfl⟩) ⟨fun a U g mk q => by obtain ⟨q0, q1, qP, qK, qD, qN⟩ := q; exact ⟨q0, q1, qP, va_K.moved (u := U) (U := U.calling g mk a) (Vm.Alike.refl U.vm) qK, qD, qN.same rfl⟩, va_recv hK hP (ci := 13) (q0 := h0) rfl (Wd_ob kg_7 sg_7 (by decide)), fun U hU hW => ⟨rfl, by rw [hU], by rw [hU]; exact hP, va_K.moved hW.alike hK, hD.weaken (fun _ _ _ _ => trivial), hN.warm hW⟩⟩ rfl rfl hl.1 rfl (lv_room (Nat.le_of_ble_eq_true rfl)) dX13_onNumbers_221 ⟨Nat.le_of_ble_eq_true rfl, Nat.le_of_ble_eq_true rfl⟩) hS (fun q _ h => hFc q h) hFc (fun u t H_11 locs ht hvm hw hB hz1 hk1 hS2 => ?_)
              obtain ⟨hP1, -, hD1⟩ := hB
              rw [ht] at hP1
              replace hD := hD1.weaken (fun _ _ _ h => hFc _ h)
              replace hP := hP1
              replace hS := hS2
              clear hP1 hD1 hS2 hFc hfc hz1 hk1 hvm ht
              obtain ⟨h8, h9⟩ := ret_some hf
              rw [h8]
              exact W.vret hx hb hr (fun t ht hW => ⟨⟨(), rfl, trivial, by rw [ht]; exact hP, va_K.moved hW.alike hK, hD⟩, hS.F ht⟩) hS.2.2 dX13_onNumbers_224
            · skip
              rw [if_pos c_9] at hf
              refine lv_aload_n hx hb dX13_onNumbers_202 rfl (lv_at hl 0 rfl) ?_
              refine lv_aload_n hx hb dX13_onNumbers_203 rfl (lv_at hl 0 rfl) ?_
              refine va_get (D := (dC, dI)) (ci := 13) (v := .long (z_6.2.1 h0 19)) (C := RX13) (T := TX13) (N := 22) hx hb hts iwd_X13_onNumbers_X13 hown hK hP h0 (Wd_ob kg_7 sg_7 (by decide)) rfl 19 (by decide) (hts _ md_X13_onNumbers_1) (fun _ h9 => h9) (fl_at (t := 1) rfl) dX13_onNumbers_204 ?_
              obtain ⟨z_12, r_13, hfc, hf⟩ := cal_some hf
              have hFc := de_free hD hS hA
              refine va_calli (va_runS (As := [.long (z_6.2.1 h0 19)]) (rest := [.ref (a h0)]) ⟨hx, hb, hml, hown, hts⟩ (de_X13_isNumber l dC dI cy a sh n H_8.size F z_6 (z_6.2.1 h0 19) hfc) (va_cwS 1 hts gX13_onNumbers_X13_isNumber rfl rfl rfl (by decide +kernel) ⟨Nat.le_of_ble_eq_true rfl, Nat.le_of_ble_eq_true rfl⟩) ⟨fun a U g mk q => by obtain ⟨q0, q1, qP, qK, qD, qN⟩ := q; exact ⟨q0, q1, qP, va_K.moved (u := U) (U := U.calling g mk a) (Vm.Alike.refl U.vm) qK, qD, qN.same rfl⟩, fun U hU hW => ⟨rfl, by rw [hU], by rw [hU]; exact hP, va_K.moved hW.alike hK, hD.weaken (fun _ _ _ _ => trivial), hN.warm hW⟩⟩ rfl rfl hl.1 rfl (lv_room (Nat.le_of_ble_eq_true rfl)) dX13_onNumbers_207 ⟨Nat.le_of_ble_eq_true rfl, Nat.le_of_ble_eq_true rfl⟩) hS (fun q _ h => hFc q h) hFc (fun rr u t H_14 locs ht hvm hw hB hz1 hk1 hS2 => ?_)
              rw [hw]
              clear hw
              obtain ⟨hP1, -, hD1⟩ := hB
              rw [ht] at hP1
              replace hD := hD1.weaken (fun _ _ _ h => hFc _ h)
              replace hP := hP1
              replace hS := hS2
              clear hP1 hD1 hS2 hFc hfc hz1 hk1 hvm ht
              refine lv_iconst (v := 3) hx hb dX13_onNumbers_210 (by decide) ?_
              obtain ⟨z_15, _u, hfc, hf⟩ := cal_some hf
              have hFc := de_free hD hS hA
              refine va_callv (va_runV (As := [.int r_13, .int 3]) (rest := []) ⟨hx, hb, hml, hown, hts⟩ (de_X13_need l dC dI cy a sh n H_14.size F z_12 h0 r_13 3 hfc) (cwV 2 hts gX13_onNumbers_X13_need rfl rfl rfl (by decide +kernel) ⟨Nat.le_of_ble_eq_true rfl, Nat.le_of_ble_eq_true rfl⟩) ⟨fun a U g mk q => by obtain ⟨q0, q1, qP, qK, qD, qN⟩ := q; exact ⟨q0, q1, qP, va_K.moved (u := U) (U := U.calling g mk a) (Vm.Alike.refl U.vm) qK, qD, qN.same rfl⟩, va_recv hK hP (ci := 13) (q0 := h0) rfl (Wd_ob kg_7 sg_7 (by decide)), fun U hU hW => ⟨rfl, by rw [hU], by rw [hU]; exact hP, va_K.moved hW.alike hK, hD.weaken (fun _ _ _ _ => trivial), hN.warm hW⟩⟩ rfl rfl hl.1 rfl (lv_room (Nat.le_of_ble_eq_true rfl)) dX13_onNumbers_211 ⟨Nat.le_of_ble_eq_true rfl, Nat.le_of_ble_eq_true rfl⟩) hS (fun q _ h => hFc q h) hFc (fun u t H_16 locs ht hvm hw hB hz1 hk1 hS2 => ?_)
              obtain ⟨hP1, -, hD1⟩ := hB
              rw [ht] at hP1
              replace hD := hD1.weaken (fun _ _ _ h => hFc _ h)
              replace hP := hP1
              replace hS := hS2
              clear hP1 hD1 hS2 hFc hfc hz1 hk1 hvm ht
              refine lv_aload_n hx hb dX13_onNumbers_214 rfl (lv_at hl 0 rfl) ?_
              refine lv_iload_n hx hb dX13_onNumbers_215 rfl (lv_at hl 1 rfl) ?_
              refine lv_i2l (v := (x0 : Int32).toInt64) hx hb dX13_onNumbers_216 rfl ?_
              refine lv_ldc2 hx hb hown (hts _ md_X13_onNumbers_4) dX13_onNumbers_217 ?_
              refine lv_lsub hx hb dX13_onNumbers_220 ?_
              obtain ⟨z_17, _u, hfc, hf⟩ := cal_some hf
              have hFc := de_free hD hS hA
              refine va_callv (va_runV (As := [.long (((x0 : Int32).toInt64) - 40)]) (rest := []) ⟨hx, hb, hml, hown, hts⟩ (de_X13_give l dC dI cy a sh n H_16.size F z_15 h0 (((x0 : Int32).toInt64) - 40) hfc) (cwV 1 hts gX13_onNumbers_X13_give rfl rfl rfl (by decide +kernel) ⟨Nat.le_of_ble_eq_true rfl, Nat.le_of_ble_eq_true rfl⟩) ⟨fun a U g mk q => by obtain ⟨q0, q1, qP, qK, qD, qN⟩ := q; exact ⟨q0, q1, qP, va_K.moved (u := U) (U := U.calling g mk a) (Vm.Alike.refl U.vm) qK, qD, qN.same rfl⟩, va_recv hK hP (ci := 13) (q0 := h0) rfl (Wd_ob kg_7 sg_7 (by decide)), fun U hU hW => ⟨rfl, by rw [hU], by rw [hU]; exact hP, va_K.moved hW.alike hK, hD.weaken (fun _ _ _ _ => trivial), hN.warm hW⟩⟩ rfl rfl hl.1 rfl (lv_room (Nat.le_of_ble_eq_true rfl)) dX13_onNumbers_221 ⟨Nat.le_of_ble_eq_true rfl, Nat.le_of_ble_eq_true rfl⟩) hS (fun q _ h => hFc q h) hFc (fun u t H_18 locs ht hvm hw hB hz1 hk1 hS2 => ?_)
              obtain ⟨hP1, -, hD1⟩ := hB
              rw [ht] at hP1
              replace hD := hD1.weaken (fun _ _ _ h => hFc _ h)
              replace hP := hP1
              replace hS := hS2
              clear hP1 hD1 hS2 hFc hfc hz1 hk1 hvm ht
              obtain ⟨h8, h9⟩ := ret_some hf
              rw [h8]
              exact W.vret hx hb hr (fun t ht hW => ⟨⟨(), rfl, trivial, by rw [ht]; exact hP, va_K.moved hW.alike hK, hD⟩, hS.F ht⟩) hS.2.2 dX13_onNumbers_224
          · skip
            rw [if_neg c_5] at hf
            refine lv_aload_n hx hb dX13_onNumbers_178 rfl (lv_at hl 0 rfl) ?_
            refine lv_iconst (v := 0) hx hb dX13_onNumbers_179 (by decide) ?_
            obtain ⟨g_20, hf⟩ := grd_some hf
            obtain ⟨kg_20, sg_20⟩ := okO_at g_20
            obtain ⟨z_19, _u, hfc, hf⟩ := cal_some hf
            have hFc := de_free hD hS hA
            refine va_callv (va_runV (As := [.int 0]) (rest := []) ⟨hx, hb, hml, hown, hts⟩ (de_X13_takeNumbers l dC dI cy a sh n H.size F z h0 0 hfc) (cwV 1 hts gX13_onNumbers_X13_takeNumbers rfl rfl rfl (by decide +kernel) ⟨Nat.le_of_ble_eq_true rfl, Nat.le_of_ble_eq_true rfl⟩) ⟨fun a U g mk q => by obtain ⟨q0, q1, qP, qK, qD, qN⟩ := q; exact ⟨q0, q1, qP, va_K.moved (u := U) (U := U.calling g mk a) (Vm.Alike.refl U.vm) qK, qD, qN.same rfl⟩, va_recv hK hP (ci := 13) (q0 := h0) rfl (Wd_ob kg_20 sg_20 (by decide)), fun U hU hW => ⟨rfl, by rw [hU], by rw [hU]; exact hP, va_K.moved hW.alike hK, hD.weaken (fun _ _ _ _ => trivial), hN.warm hW⟩⟩ rfl rfl hl.1 rfl (lv_room (Nat.le_of_ble_eq_true rfl)) dX13_onNumbers_180 ⟨Nat.le_of_ble_eq_true rfl, Nat.le_of_ble_eq_true rfl⟩) hS (fun q _ h => hFc q h) hFc (fun u t H_21 locs ht hvm hw hB hz1 hk1 hS2 => ?_)
            obtain ⟨hP1, -, hD1⟩ := hB
            rw [ht] at hP1
            replace hD := hD1.weaken (fun _ _ _ h => hFc _ h)
            replace hP := hP1
            replace hS := hS2
            clear hP1 hD1 hS2 hFc hfc hz1 hk1 hvm ht
            refine lv_aload_n hx hb dX13_onNumbers_183 rfl (lv_at hl 0 rfl) ?_
            refine lv_lconst (v := 1) hx hb dX13_onNumbers_184 (by decide) ?_
            obtain ⟨z_22, _u, hfc, hf⟩ := cal_some hf
            have hFc := de_free hD hS hA
            refine va_callv (va_runV (As := [.long 1]) (rest := []) ⟨hx, hb, hml, hown, hts⟩ (de_X13_give l dC dI cy a sh n H_21.size F z_19 h0 1 hfc) (cwV 1 hts gX13_onNumbers_X13_give rfl rfl rfl (by decide +kernel) ⟨Nat.le_of_ble_eq_true rfl, Nat.le_of_ble_eq_true rfl⟩) ⟨fun a U g mk q => by obtain ⟨q0, q1, qP, qK, qD, qN⟩ := q; exact ⟨q0, q1, qP, va_K.moved (u := U) (U := U.calling g mk a) (Vm.Alike.refl U.vm) qK, qD, qN.same rfl⟩, va_recv hK hP (ci := 13) (q0 := h0) rfl (Wd_ob kg_20 sg_20 (by decide)), fun U hU hW => ⟨rfl, by rw [hU], by rw [hU]; exact hP, va_K.moved hW.alike hK, hD.weaken (fun _ _ _ _ => trivial), hN.warm hW⟩⟩ rfl rfl hl.1 rfl (lv_room (Nat.le_of_ble_eq_true rfl)) dX13_onNumbers_185 ⟨Nat.le_of_ble_eq_true rfl, Nat.le_of_ble_eq_true rfl⟩) hS (fun q _ h => hFc q h) hFc (fun u t H_23 locs ht hvm hw hB hz1 hk1 hS2 => ?_)
            obtain ⟨hP1, -, hD1⟩ := hB
            rw [ht] at hP1
            replace hD := hD1.weaken (fun _ _ _ h => hFc _ h)
            replace hP := hP1
            replace hS := hS2
            clear hP1 hD1 hS2 hFc hfc hz1 hk1 hvm ht
            refine lv_goto (tgt := 224) hx hb dX13_onNumbers_188 (by decide) ?_
            obtain ⟨h8, h9⟩ := ret_some hf
            rw [h8]
            exact W.vret hx hb hr (fun t ht hW => ⟨⟨(), rfl, trivial, by rw [ht]; exact hP, va_K.moved hW.alike hK, hD⟩, hS.F ht⟩) hS.2.2 dX13_onNumbers_224
        · skip
          rw [if_neg c_4] at hf
          refine lv_aload_n hx hb dX13_onNumbers_104 rfl (lv_at hl 0 rfl) ?_
          obtain ⟨g_25, hf⟩ := grd_some hf
          obtain ⟨kg_25, sg_25⟩ := okO_at g_25
          obtain ⟨z_24, _u, hfc, hf⟩ := cal_some hf
          have hFc := de_free hD hS hA
          refine va_callv (va_runV (As := []) (rest := []) ⟨hx, hb, hml, hown, hts⟩ (de_X13_take l dC dI cy a sh n H.size F z h0 hfc) (cwV 0 hts gX13_onNumbers_X13_take rfl rfl rfl (by decide +kernel) ⟨Nat.le_of_ble_eq_true rfl, Nat.le_of_ble_eq_true rfl⟩) ⟨fun a U g mk q => by obtain ⟨q0, q1, qP, qK, qD, qN⟩ := q; exact ⟨q0, q1, qP, va_K.moved (u := U) (U := U.calling g mk a) (Vm.Alike.refl U.vm) qK, qD, qN.same rfl⟩, va_recv hK hP (ci := 13) (q0 := h0) rfl (Wd_ob kg_25 sg_25 (by decide)), fun U hU hW => ⟨rfl, by rw [hU], by rw [hU]; exact hP, va_K.moved hW.alike hK, hD.weaken (fun _ _ _ _ => trivial), hN.warm hW⟩⟩ rfl rfl hl.1 rfl (lv_room (Nat.le_of_ble_eq_true rfl)) dX13_onNumbers_105 ⟨Nat.le_of_ble_eq_true rfl, Nat.le_of_ble_eq_true rfl⟩) hS (fun q _ h => hFc q h) hFc (fun u t H_26 locs ht hvm hw hB hz1 hk1 hS2 => ?_)
          obtain ⟨hP1, -, hD1⟩ := hB
          rw [ht] at hP1
          replace hD := hD1.weaken (fun _ _ _ h => hFc _ h)
          replace hP := hP1
          replace hS := hS2
          clear hP1 hD1 hS2 hFc hfc hz1 hk1 hvm ht
          refine lv_aload_n hx hb dX13_onNumbers_108 rfl (lv_at hl 0 rfl) ?_
          refine va_get (D := (dC, dI)) (ci := 13) (v := .int (z_24.1 h0 18)) (C := RX13) (T := TX13) (N := 22) hx hb hts iwd_X13_onNumbers_X13 hown hK hP h0 (Wd_ob kg_25 sg_25 (by decide)) rfl 18 (by decide) (hts _ md_X13_onNumbers_3) (fun _ h9 => h9) (fl_at (t := 0) rfl) dX13_onNumbers_109 ?_
          refine de_cut (h := 135) (fun (x : St) => []) (fun x ls H locs => lv_has ls 2 [(0, .ref (a h0))] ∧ va_P (dC, dI) vwCl (Wd cy a sh n x) H ∧ va_D A (Wd cy a sh n x) ∧ va_S A s.heap H locs) (fun x => fn_X13_onNumbers_B135 F sh n h0 x) (z8, r8) ?_ (fun B135 => ?_)
          · intro x ls H locs hI hf
            obtain ⟨z_27, ez⟩ : ∃ w, w = x := ⟨_, rfl⟩
            subst ez
            obtain ⟨hl2, hP2, hD2, hS2⟩ := hI
            replace hl : lv_has ls 2 [(0, .ref (a h0))] := hl2
            replace hP := hP2
            replace hD := hD2
            replace hS := hS2
            clear hl2 hP2 hD2 hS2
            replace hf := fn_X13_onNumbers_B135_s hf
            refine W.eq (g2 := F0 m 135 ls []) rfl ?_
            refine lv_aload_n hx hb dX13_onNumbers_135 rfl (lv_at hl 0 rfl) ?_
            refine lv_aload_n hx hb dX13_onNumbers_136 rfl (lv_at hl 0 rfl) ?_
            refine va_get (D := (dC, dI)) (ci := 13) (v := .long (z_27.2.1 h0 19)) (C := RX13) (T := TX13) (N := 22) hx hb hts iwd_X13_onNumbers_X13 hown hK hP h0 (Wd_ob kg_25 sg_25 (by decide)) rfl 19 (by decide) (hts _ md_X13_onNumbers_1) (fun _ h9 => h9) (fl_at (t := 1) rfl) dX13_onNumbers_137 ?_
            obtain ⟨z_28, _u, hfc, hf⟩ := cal_some hf
            have hFc := de_free hD hS hA
            refine va_callv (va_runV (As := [.long (z_27.2.1 h0 19)]) (rest := []) ⟨hx, hb, hml, hown, hts⟩ (de_X13_take_ l dC dI cy a sh n H.size F z_27 h0 (z_27.2.1 h0 19) hfc) (cwV 1 hts gX13_onNumbers_X13_take_ rfl rfl rfl (by decide +kernel) ⟨Nat.le_of_ble_eq_true rfl, Nat.le_of_ble_eq_true rfl⟩) ⟨fun a U g mk q => by obtain ⟨q0, q1, qP, qK, qD, qN⟩ := q; exact ⟨q0, q1, qP, va_K.moved (u := U) (U := U.calling g mk a) (Vm.Alike.refl U.vm) qK, qD, qN.same rfl⟩, va_recv hK hP (ci := 13) (q0 := h0) rfl (Wd_ob kg_25 sg_25 (by decide)), fun U hU hW => ⟨rfl, by rw [hU], by rw [hU]; exact hP, va_K.moved hW.alike hK, hD.weaken (fun _ _ _ _ => trivial), hN.warm hW⟩⟩ rfl rfl hl.1 rfl (lv_room (Nat.le_of_ble_eq_true rfl)) dX13_onNumbers_140 ⟨Nat.le_of_ble_eq_true rfl, Nat.le_of_ble_eq_true rfl⟩) hS (fun q _ h => hFc q h) hFc (fun u t H_29 locs ht hvm hw hB hz1 hk1 hS2 => ?_)
            obtain ⟨hP1, -, hD1⟩ := hB
            rw [ht] at hP1
            replace hD := hD1.weaken (fun _ _ _ h => hFc _ h)
            replace hP := hP1
            replace hS := hS2
            clear hP1 hD1 hS2 hFc hfc hz1 hk1 hvm ht
            refine lv_aload_n hx hb dX13_onNumbers_143 rfl (lv_at hl 0 rfl) ?_
            refine va_get (D := (dC, dI)) (ci := 13) (v := .int (z_28.1 h0 18)) (C := RX13) (T := TX13) (N := 22) hx hb hts iwd_X13_onNumbers_X13 hown hK hP h0 (Wd_ob kg_25 sg_25 (by decide)) rfl 18 (by decide) (hts _ md_X13_onNumbers_3) (fun _ h9 => h9) (fl_at (t := 0) rfl) dX13_onNumbers_144 ?_
            refine lv_if_ne (tgt := 164) hx hb dX13_onNumbers_147 (by decide) (fun c_30 => ?_) (fun c_30 => ?_)
            · skip
              rw [if_neg c_30] at hf
              refine lv_aload_n hx hb dX13_onNumbers_164 rfl (lv_at hl 0 rfl) ?_
              refine lv_lconst (v := 1) hx hb dX13_onNumbers_165 (by decide) ?_
              obtain ⟨z_31, _u, hfc, hf⟩ := cal_some hf
              have hFc := de_free hD hS hA
              refine va_callv (va_runV (As := [.long 1]) (rest := []) ⟨hx, hb, hml, hown, hts⟩ (de_X13_give l dC dI cy a sh n H_29.size F z_28 h0 1 hfc) (cwV 1 hts gX13_onNumbers_X13_give rfl rfl rfl (by decide +kernel) ⟨Nat.le_of_ble_eq_true rfl, Nat.le_of_ble_eq_true rfl⟩) ⟨fun a U g mk q => by obtain ⟨q0, q1, qP, qK, qD, qN⟩ := q; exact ⟨q0, q1, qP, va_K.moved (u := U) (U := U.calling g mk a) (Vm.Alike.refl U.vm) qK, qD, qN.same rfl⟩, va_recv hK hP (ci := 13) (q0 := h0) rfl (Wd_ob kg_25 sg_25 (by decide)), fun U hU hW => ⟨rfl, by rw [hU], by rw [hU]; exact hP, va_K.moved hW.alike hK, hD.weaken (fun _ _ _ _ => trivial), hN.warm hW⟩⟩ rfl rfl hl.1 rfl (lv_room (Nat.le_of_ble_eq_true rfl)) dX13_onNumbers_166 ⟨Nat.le_of_ble_eq_true rfl, Nat.le_of_ble_eq_true rfl⟩) hS (fun q _ h => hFc q h) hFc (fun u t H_32 locs ht hvm hw hB hz1 hk1 hS2 => ?_)
              obtain ⟨hP1, -, hD1⟩ := hB
              rw [ht] at hP1
              replace hD := hD1.weaken (fun _ _ _ h => hFc _ h)
              replace hP := hP1
              replace hS := hS2
              clear hP1 hD1 hS2 hFc hfc hz1 hk1 hvm ht
              refine lv_goto (tgt := 224) hx hb dX13_onNumbers_169 (by decide) ?_
              obtain ⟨h8, h9⟩ := ret_some hf
              rw [h8]
              exact W.vret hx hb hr (fun t ht hW => ⟨⟨(), rfl, trivial, by rw [ht]; exact hP, va_K.moved hW.alike hK, hD⟩, hS.F ht⟩) hS.2.2 dX13_onNumbers_224
            · skip
              rw [if_pos c_30] at hf
              refine lv_aload_n hx hb dX13_onNumbers_150 rfl (lv_at hl 0 rfl) ?_
              refine lv_aload_n hx hb dX13_onNumbers_151 rfl (lv_at hl 0 rfl) ?_
              refine lv_aload_n hx hb dX13_onNumbers_152 rfl (lv_at hl 0 rfl) ?_
              refine va_get (D := (dC, dI)) (ci := 13) (v := .long (z_28.2.1 h0 19)) (C := RX13) (T := TX13) (N := 22) hx hb hts iwd_X13_onNumbers_X13 hown hK hP h0 (Wd_ob kg_25 sg_25 (by decide)) rfl 19 (by decide) (hts _ md_X13_onNumbers_1) (fun _ h9 => h9) (fl_at (t := 1) rfl) dX13_onNumbers_153 ?_
              refine lv_iconst (v := 2) hx hb dX13_onNumbers_156 (by decide) ?_
              obtain ⟨z_33, r_34, hfc, hf⟩ := cal_some hf
              have hFc := de_free hD hS hA
              refine va_calli (va_runV (As := [.long (z_28.2.1 h0 19), .int 2]) (rest := [.ref (a h0)]) ⟨hx, hb, hml, hown, hts⟩ (de_X13_has l dC dI cy a sh n H_29.size F z_28 h0 (z_28.2.1 h0 19) 2 hfc) (cwV 2 hts gX13_onNumbers_X13_has rfl rfl rfl (by decide +kernel) ⟨Nat.le_of_ble_eq_true rfl, Nat.le_of_ble_eq_true rfl⟩) ⟨fun a U g mk q => by obtain ⟨q0, q1, qP, qK, qD, qN⟩ := q; exact ⟨q0, q1, qP, va_K.moved (u := U) (U := U.calling g mk a) (Vm.Alike.refl U.vm) qK, qD, qN.same rfl⟩, va_recv hK hP (ci := 13) (q0 := h0) rfl (Wd_ob kg_25 sg_25 (by decide)), fun U hU hW => ⟨rfl, by rw [hU], by rw [hU]; exact hP, va_K.moved hW.alike hK, hD.weaken (fun _ _ _ _ => trivial), hN.warm hW⟩⟩ rfl rfl hl.1 rfl (lv_room (Nat.le_of_ble_eq_true rfl)) dX13_onNumbers_157 ⟨Nat.le_of_ble_eq_true rfl, Nat.le_of_ble_eq_true rfl⟩) hS (fun q _ h => hFc q h) hFc (fun rr u t H_35 locs ht hvm hw hB hz1 hk1 hS2 => ?_)
              rw [hw]
              clear hw
              obtain ⟨hP1, -, hD1⟩ := hB
              rw [ht] at hP1
              replace hD := hD1.weaken (fun _ _ _ h => hFc _ h)
              replace hP := hP1
              replace hS := hS2
              clear hP1 hD1 hS2 hFc hfc hz1 hk1 hvm ht
              refine lv_iconst (v := 4) hx hb dX13_onNumbers_160 (by decide) ?_
              obtain ⟨z_36, _u, hfc, hf⟩ := cal_some hf
              have hFc := de_free hD hS hA
              refine va_callv (va_runV (As := [.int r_34, .int 4]) (rest := []) ⟨hx, hb, hml, hown, hts⟩ (de_X13_need l dC dI cy a sh n H_35.size F z_33 h0 r_34 4 hfc) (cwV 2 hts gX13_onNumbers_X13_need rfl rfl rfl (by decide +kernel) ⟨Nat.le_of_ble_eq_true rfl, Nat.le_of_ble_eq_true rfl⟩) ⟨fun a U g mk q => by obtain ⟨q0, q1, qP, qK, qD, qN⟩ := q; exact ⟨q0, q1, qP, va_K.moved (u := U) (U := U.calling g mk a) (Vm.Alike.refl U.vm) qK, qD, qN.same rfl⟩, va_recv hK hP (ci := 13) (q0 := h0) rfl (Wd_ob kg_25 sg_25 (by decide)), fun U hU hW => ⟨rfl, by rw [hU], by rw [hU]; exact hP, va_K.moved hW.alike hK, hD.weaken (fun _ _ _ _ => trivial), hN.warm hW⟩⟩ rfl rfl hl.1 rfl (lv_room (Nat.le_of_ble_eq_true rfl)) dX13_onNumbers_161 ⟨Nat.le_of_ble_eq_true rfl, Nat.le_of_ble_eq_true rfl⟩) hS (fun q _ h => hFc q h) hFc (fun u t H_37 locs ht hvm hw hB hz1 hk1 hS2 => ?_)
              obtain ⟨hP1, -, hD1⟩ := hB
              rw [ht] at hP1
              replace hD := hD1.weaken (fun _ _ _ h => hFc _ h)
              replace hP := hP1
              replace hS := hS2
              clear hP1 hD1 hS2 hFc hfc hz1 hk1 hvm ht
              refine lv_aload_n hx hb dX13_onNumbers_164 rfl (lv_at hl 0 rfl) ?_
              refine lv_lconst (v := 1) hx hb dX13_onNumbers_165 (by decide) ?_
              obtain ⟨z_38, _u, hfc, hf⟩ := cal_some hf
              have hFc := de_free hD hS hA
              refine va_callv (va_runV (As := [.long 1]) (rest := []) ⟨hx, hb, hml, hown, hts⟩ (de_X13_give l dC dI cy a sh n H_37.size F z_36 h0 1 hfc) (cwV 1 hts gX13_onNumbers_X13_give rfl rfl rfl (by decide +kernel) ⟨Nat.le_of_ble_eq_true rfl, Nat.le_of_ble_eq_true rfl⟩) ⟨fun a U g mk q => by obtain ⟨q0, q1, qP, qK, qD, qN⟩ := q; exact ⟨q0, q1, qP, va_K.moved (u := U) (U := U.calling g mk a) (Vm.Alike.refl U.vm) qK, qD, qN.same rfl⟩, va_recv hK hP (ci := 13) (q0 := h0) rfl (Wd_ob kg_25 sg_25 (by decide)), fun U hU hW => ⟨rfl, by rw [hU], by rw [hU]; exact hP, va_K.moved hW.alike hK, hD.weaken (fun _ _ _ _ => trivial), hN.warm hW⟩⟩ rfl rfl hl.1 rfl (lv_room (Nat.le_of_ble_eq_true rfl)) dX13_onNumbers_166 ⟨Nat.le_of_ble_eq_true rfl, Nat.le_of_ble_eq_true rfl⟩) hS (fun q _ h => hFc q h) hFc (fun u t H_39 locs ht hvm hw hB hz1 hk1 hS2 => ?_)
              obtain ⟨hP1, -, hD1⟩ := hB
              rw [ht] at hP1
              replace hD := hD1.weaken (fun _ _ _ h => hFc _ h)
              replace hP := hP1
              replace hS := hS2
              clear hP1 hD1 hS2 hFc hfc hz1 hk1 hvm ht
              refine lv_goto (tgt := 224) hx hb dX13_onNumbers_169 (by decide) ?_
              obtain ⟨h8, h9⟩ := ret_some hf
              rw [h8]
              exact W.vret hx hb hr (fun t ht hW => ⟨⟨(), rfl, trivial, by rw [ht]; exact hP, va_K.moved hW.alike hK, hD⟩, hS.F ht⟩) hS.2.2 dX13_onNumbers_224
          refine lv_if_ne (tgt := 135) hx hb dX13_onNumbers_112 (by decide) (fun c_40 => ?_) (fun c_40 => ?_)
          · skip
            rw [if_neg c_40] at hf
            exact B135 (z_24) ls H_26 locs ⟨lv_sub hl [0] rfl, hP, hD, hS⟩ hf
          · skip
            rw [if_pos c_40] at hf
            refine lv_aload_n hx hb dX13_onNumbers_115 rfl (lv_at hl 0 rfl) ?_
            refine lv_aload_n hx hb dX13_onNumbers_116 rfl (lv_at hl 0 rfl) ?_
            refine va_get (D := (dC, dI)) (ci := 13) (v := .long (z_24.2.1 h0 19)) (C := RX13) (T := TX13) (N := 22) hx hb hts iwd_X13_onNumbers_X13 hown hK hP h0 (Wd_ob kg_25 sg_25 (by decide)) rfl 19 (by decide) (hts _ md_X13_onNumbers_1) (fun _ h9 => h9) (fl_at (t := 1) rfl) dX13_onNumbers_117 ?_
            obtain ⟨z_41, r_42, hfc, hf⟩ := cal_some hf
            have hFc := de_free hD hS hA
            refine va_calli (va_runS (As := [.long (z_24.2.1 h0 19)]) (rest := [.ref (a h0)]) ⟨hx, hb, hml, hown, hts⟩ (de_X13_isReference l dC dI cy a sh n H_26.size F z_24 (z_24.2.1 h0 19) hfc) (va_cwS 1 hts gX13_onNumbers_X13_isReference rfl rfl rfl (by decide +kernel) ⟨Nat.le_of_ble_eq_true rfl, Nat.le_of_ble_eq_true rfl⟩) ⟨fun a U g mk q => by obtain ⟨q0, q1, qP, qK, qD, qN⟩ := q; exact ⟨q0, q1, qP, va_K.moved (u := U) (U := U.calling g mk a) (Vm.Alike.refl U.vm) qK, qD, qN.same rfl⟩, fun U hU hW => ⟨rfl, by rw [hU], by rw [hU]; exact hP, va_K.moved hW.alike hK, hD.weaken (fun _ _ _ _ => trivial), hN.warm hW⟩⟩ rfl rfl hl.1 rfl (lv_room (Nat.le_of_ble_eq_true rfl)) dX13_onNumbers_120 ⟨Nat.le_of_ble_eq_true rfl, Nat.le_of_ble_eq_true rfl⟩) hS (fun q _ h => hFc q h) hFc (fun rr u t H_43 locs ht hvm hw hB hz1 hk1 hS2 => ?_)
            rw [hw]
            clear hw
            obtain ⟨hP1, -, hD1⟩ := hB
            rw [ht] at hP1
            replace hD := hD1.weaken (fun _ _ _ h => hFc _ h)
            replace hP := hP1
            replace hS := hS2
            clear hP1 hD1 hS2 hFc hfc hz1 hk1 hvm ht
            refine de_cut (h := 131) (fun (x : St × Int32) => [.int x.2, .ref (a h0)]) (fun x ls H locs => lv_has ls 2 [(0, .ref (a h0))] ∧ va_P (dC, dI) vwCl (Wd cy a sh n x.1) H ∧ va_D A (Wd cy a sh n x.1) ∧ va_S A s.heap H locs) (fun x => fn_X13_onNumbers_B131 F sh n h0 x.1 x.2) (z8, r8) ?_ (fun B131 => ?_)
            · intro x ls H locs hI hf
              obtain ⟨z_45, p_44⟩ := x
              obtain ⟨hl2, hP2, hD2, hS2⟩ := hI
              replace hl : lv_has ls 2 [(0, .ref (a h0))] := hl2
              replace hP := hP2
              replace hD := hD2
              replace hS := hS2
              clear hl2 hP2 hD2 hS2
              replace hf := fn_X13_onNumbers_B131_s hf
              refine W.eq (g2 := F0 m 131 ls [.int p_44, .ref (a h0)]) rfl ?_
              refine lv_iconst (v := 3) hx hb dX13_onNumbers_131 (by decide) ?_
              obtain ⟨z_46, _u, hfc, hf⟩ := cal_some hf
              have hFc := de_free hD hS hA
              refine va_callv (va_runV (As := [.int p_44, .int 3]) (rest := []) ⟨hx, hb, hml, hown, hts⟩ (de_X13_need l dC dI cy a sh n H.size F z_45 h0 p_44 3 hfc) (cwV 2 hts gX13_onNumbers_X13_need rfl rfl rfl (by decide +kernel) ⟨Nat.le_of_ble_eq_true rfl, Nat.le_of_ble_eq_true rfl⟩) ⟨fun a U g mk q => by obtain ⟨q0, q1, qP, qK, qD, qN⟩ := q; exact ⟨q0, q1, qP, va_K.moved (u := U) (U := U.calling g mk a) (Vm.Alike.refl U.vm) qK, qD, qN.same rfl⟩, va_recv hK hP (ci := 13) (q0 := h0) rfl (Wd_ob kg_25 sg_25 (by decide)), fun U hU hW => ⟨rfl, by rw [hU], by rw [hU]; exact hP, va_K.moved hW.alike hK, hD.weaken (fun _ _ _ _ => trivial), hN.warm hW⟩⟩ rfl rfl hl.1 rfl (lv_room (Nat.le_of_ble_eq_true rfl)) dX13_onNumbers_132 ⟨Nat.le_of_ble_eq_true rfl, Nat.le_of_ble_eq_true rfl⟩) hS (fun q _ h => hFc q h) hFc (fun u t H_47 locs ht hvm hw hB hz1 hk1 hS2 => ?_)
              obtain ⟨hP1, -, hD1⟩ := hB
              rw [ht] at hP1
              replace hD := hD1.weaken (fun _ _ _ h => hFc _ h)
              replace hP := hP1
              replace hS := hS2
              clear hP1 hD1 hS2 hFc hfc hz1 hk1 hvm ht
              exact B135 (z_46) ls H_47 locs ⟨lv_sub hl [0] rfl, hP, hD, hS⟩ hf
            refine lv_if_ne (tgt := 130) hx hb dX13_onNumbers_123 (by decide) (fun c_48 => ?_) (fun c_48 => ?_)
            · skip
              rw [if_neg c_48] at hf
              refine lv_iconst (v := 0) hx hb dX13_onNumbers_130 (by decide) ?_
              exact B131 (z_41, 0) ls H_43 locs ⟨lv_sub hl [0] rfl, hP, hD, hS⟩ hf
            · skip
              rw [if_pos c_48] at hf
              refine lv_iconst (v := 1) hx hb dX13_onNumbers_126 (by decide) ?_
              refine lv_goto (tgt := 131) hx hb dX13_onNumbers_127 (by decide) ?_
              exact B131 (z_41, 1) ls H_43 locs ⟨lv_sub hl [0] rfl, hP, hD, hS⟩ hf
      · skip
        rw [if_pos c_3] at hf
        refine lv_aload_n hx hb dX13_onNumbers_85 rfl (lv_at hl 0 rfl) ?_
        refine lv_lconst (v := 1) hx hb dX13_onNumbers_86 (by decide) ?_
        obtain ⟨g_50, hf⟩ := grd_some hf
        obtain ⟨kg_50, sg_50⟩ := okO_at g_50
        obtain ⟨z_49, _u, hfc, hf⟩ := cal_some hf
        have hFc := de_free hD hS hA
        refine va_callv (va_runV (As := [.long 1]) (rest := []) ⟨hx, hb, hml, hown, hts⟩ (de_X13_take_ l dC dI cy a sh n H.size F z h0 1 hfc) (cwV 1 hts gX13_onNumbers_X13_take_ rfl rfl rfl (by decide +kernel) ⟨Nat.le_of_ble_eq_true rfl, Nat.le_of_ble_eq_true rfl⟩) ⟨fun a U g mk q => by obtain ⟨q0, q1, qP, qK, qD, qN⟩ := q; exact ⟨q0, q1, qP, va_K.moved (u := U) (U := U.calling g mk a) (Vm.Alike.refl U.vm) qK, qD, qN.same rfl⟩, va_recv hK hP (ci := 13) (q0 := h0) rfl (Wd_ob kg_50 sg_50 (by decide)), fun U hU hW => ⟨rfl, by rw [hU], by rw [hU]; exact hP, va_K.moved hW.alike hK, hD.weaken (fun _ _ _ _ => trivial), hN.warm hW⟩⟩ rfl rfl hl.1 rfl (lv_room (Nat.le_of_ble_eq_true rfl)) dX13_onNumbers_87 ⟨Nat.le_of_ble_eq_true rfl, Nat.le_of_ble_eq_true rfl⟩) hS (fun q _ h => hFc q h) hFc (fun u t H_51 locs ht hvm hw hB hz1 hk1 hS2 => ?_)
        obtain ⟨hP1, -, hD1⟩ := hB
        rw [ht] at hP1
        replace hD := hD1.weaken (fun _ _ _ h => hFc _ h)
        replace hP := hP1
        replace hS := hS2
        clear hP1 hD1 hS2 hFc hfc hz1 hk1 hvm ht
        refine lv_aload_n hx hb dX13_onNumbers_90 rfl (lv_at hl 0 rfl) ?_
        refine lv_lconst (v := 1) hx hb dX13_onNumbers_91 (by decide) ?_
        obtain ⟨z_52, _u, hfc, hf⟩ := cal_some hf
        have hFc := de_free hD hS hA
        refine va_callv (va_runV (As := [.long 1]) (rest := []) ⟨hx, hb, hml, hown, hts⟩ (de_X13_give l dC dI cy a sh n H_51.size F z_49 h0 1 hfc) (cwV 1 hts gX13_onNumbers_X13_give rfl rfl rfl (by decide +kernel) ⟨Nat.le_of_ble_eq_true rfl, Nat.le_of_ble_eq_true rfl⟩) ⟨fun a U g mk q => by obtain ⟨q0, q1, qP, qK, qD, qN⟩ := q; exact ⟨q0, q1, qP, va_K.moved (u := U) (U := U.calling g mk a) (Vm.Alike.refl U.vm) qK, qD, qN.same rfl⟩, va_recv hK hP (ci := 13) (q0 := h0) rfl (Wd_ob kg_50 sg_50 (by decide)), fun U hU hW => ⟨rfl, by rw [hU], by rw [hU]; exact hP, va_K.moved hW.alike hK, hD.weaken (fun _ _ _ _ => trivial), hN.warm hW⟩⟩ rfl rfl hl.1 rfl (lv_room (Nat.le_of_ble_eq_true rfl)) dX13_onNumbers_92 ⟨Nat.le_of_ble_eq_true rfl, Nat.le_of_ble_eq_true rfl⟩) hS (fun q _ h => hFc q h) hFc (fun u t H_53 locs ht hvm hw hB hz1 hk1 hS2 => ?_)
        obtain ⟨hP1, -, hD1⟩ := hB
        rw [ht] at hP1
        replace hD := hD1.weaken (fun _ _ _ h => hFc _ h)
        replace hP := hP1
        replace hS := hS2
        clear hP1 hD1 hS2 hFc hfc hz1 hk1 hvm ht
        refine lv_goto (tgt := 224) hx hb dX13_onNumbers_95 (by decide) ?_
        obtain ⟨h8, h9⟩ := ret_some hf
        rw [h8]
        exact W.vret hx hb hr (fun t ht hW => ⟨⟨(), rfl, trivial, by rw [ht]; exact hP, va_K.moved hW.alike hK, hD⟩, hS.F ht⟩) hS.2.2 dX13_onNumbers_224
    · skip
      rw [if_neg c_2] at hf
      refine lv_aload_n hx hb dX13_onNumbers_38 rfl (lv_at hl 0 rfl) ?_
      refine lv_ldc2 hx hb hown (hts _ md_X13_onNumbers_2) dX13_onNumbers_39 ?_
      obtain ⟨g_55, hf⟩ := grd_some hf
      obtain ⟨kg_55, sg_55⟩ := okO_at g_55
      obtain ⟨z_54, _u, hfc, hf⟩ := cal_some hf
      have hFc := de_free hD hS hA
      refine va_callv (va_runV (As := [.long 2]) (rest := []) ⟨hx, hb, hml, hown, hts⟩ (de_X13_take_ l dC dI cy a sh n H.size F z h0 2 hfc) (cwV 1 hts gX13_onNumbers_X13_take_ rfl rfl rfl (by decide +kernel) ⟨Nat.le_of_ble_eq_true rfl, Nat.le_of_ble_eq_true rfl⟩) ⟨fun a U g mk q => by obtain ⟨q0, q1, qP, qK, qD, qN⟩ := q; exact ⟨q0, q1, qP, va_K.moved (u := U) (U := U.calling g mk a) (Vm.Alike.refl U.vm) qK, qD, qN.same rfl⟩, va_recv hK hP (ci := 13) (q0 := h0) rfl (Wd_ob kg_55 sg_55 (by decide)), fun U hU hW => ⟨rfl, by rw [hU], by rw [hU]; exact hP, va_K.moved hW.alike hK, hD.weaken (fun _ _ _ _ => trivial), hN.warm hW⟩⟩ rfl rfl hl.1 rfl (lv_room (Nat.le_of_ble_eq_true rfl)) dX13_onNumbers_42 ⟨Nat.le_of_ble_eq_true rfl, Nat.le_of_ble_eq_true rfl⟩) hS (fun q _ h => hFc q h) hFc (fun u t H_56 locs ht hvm hw hB hz1 hk1 hS2 => ?_)
      obtain ⟨hP1, -, hD1⟩ := hB
      rw [ht] at hP1
      replace hD := hD1.weaken (fun _ _ _ h => hFc _ h)
      replace hP := hP1
      replace hS := hS2
      clear hP1 hD1 hS2 hFc hfc hz1 hk1 hvm ht
      refine lv_aload_n hx hb dX13_onNumbers_45 rfl (lv_at hl 0 rfl) ?_
      obtain ⟨z_57, _u, hfc, hf⟩ := cal_some hf
      have hFc := de_free hD hS hA
      refine va_callv (va_runV (As := []) (rest := []) ⟨hx, hb, hml, hown, hts⟩ (de_X13_take l dC dI cy a sh n H_56.size F z_54 h0 hfc) (cwV 0 hts gX13_onNumbers_X13_take rfl rfl rfl (by decide +kernel) ⟨Nat.le_of_ble_eq_true rfl, Nat.le_of_ble_eq_true rfl⟩) ⟨fun a U g mk q => by obtain ⟨q0, q1, qP, qK, qD, qN⟩ := q; exact ⟨q0, q1, qP, va_K.moved (u := U) (U := U.calling g mk a) (Vm.Alike.refl U.vm) qK, qD, qN.same rfl⟩, va_recv hK hP (ci := 13) (q0 := h0) rfl (Wd_ob kg_55 sg_55 (by decide)), fun U hU hW => ⟨rfl, by rw [hU], by rw [hU]; exact hP, va_K.moved hW.alike hK, hD.weaken (fun _ _ _ _ => trivial), hN.warm hW⟩⟩ rfl rfl hl.1 rfl (lv_room (Nat.le_of_ble_eq_true rfl)) dX13_onNumbers_46 ⟨Nat.le_of_ble_eq_true rfl, Nat.le_of_ble_eq_true rfl⟩) hS (fun q _ h => hFc q h) hFc (fun u t H_58 locs ht hvm hw hB hz1 hk1 hS2 => ?_)
      obtain ⟨hP1, -, hD1⟩ := hB
      rw [ht] at hP1
      replace hD := hD1.weaken (fun _ _ _ h => hFc _ h)
      replace hP := hP1
      replace hS := hS2
      clear hP1 hD1 hS2 hFc hfc hz1 hk1 hvm ht
      refine lv_aload_n hx hb dX13_onNumbers_49 rfl (lv_at hl 0 rfl) ?_
      refine va_get (D := (dC, dI)) (ci := 13) (v := .int (z_57.1 h0 18)) (C := RX13) (T := TX13) (N := 22) hx hb hts iwd_X13_onNumbers_X13 hown hK hP h0 (Wd_ob kg_55 sg_55 (by decide)) rfl 18 (by decide) (hts _ md_X13_onNumbers_3) (fun _ h9 => h9) (fl_at (t := 0) rfl) dX13_onNumbers_50 ?_
      refine lv_if_ne (tgt := 68) hx hb dX13_onNumbers_53 (by decide) (fun c_59 => ?_) (fun c_59 => ?_)
      · skip
        rw [if_neg c_59] at hf
        refine lv_aload_n hx hb dX13_onNumbers_68 rfl (lv_at hl 0 rfl) ?_
        refine lv_aload_n hx hb dX13_onNumbers_69 rfl (lv_at hl 0 rfl) ?_
        refine va_get (D := (dC, dI)) (ci := 13) (v := .long (z_57.2.1 h0 19)) (C := RX13) (T := TX13) (N := 22) hx hb hts iwd_X13_onNumbers_X13 hown hK hP h0 (Wd_ob kg_55 sg_55 (by decide)) rfl 19 (by decide) (hts _ md_X13_onNumbers_1) (fun _ h9 => h9) (fl_at (t := 1) rfl) dX13_onNumbers_70 ?_
        obtain ⟨z_60, _u, hfc, hf⟩ := cal_some hf
        have hFc := de_free hD hS hA
        refine va_callv (va_runV (As := [.long (z_57.2.1 h0 19)]) (rest := []) ⟨hx, hb, hml, hown, hts⟩ (de_X13_give l dC dI cy a sh n H_58.size F z_57 h0 (z_57.2.1 h0 19) hfc) (cwV 1 hts gX13_onNumbers_X13_give rfl rfl rfl (by decide +kernel) ⟨Nat.le_of_ble_eq_true rfl, Nat.le_of_ble_eq_true rfl⟩) ⟨fun a U g mk q => by obtain ⟨q0, q1, qP, qK, qD, qN⟩ := q; exact ⟨q0, q1, qP, va_K.moved (u := U) (U := U.calling g mk a) (Vm.Alike.refl U.vm) qK, qD, qN.same rfl⟩, va_recv hK hP (ci := 13) (q0 := h0) rfl (Wd_ob kg_55 sg_55 (by decide)), fun U hU hW => ⟨rfl, by rw [hU], by rw [hU]; exact hP, va_K.moved hW.alike hK, hD.weaken (fun _ _ _ _ => trivial), hN.warm hW⟩⟩ rfl rfl hl.1 rfl (lv_room (Nat.le_of_ble_eq_true rfl)) dX13_onNumbers_73 ⟨Nat.le_of_ble_eq_true rfl, Nat.le_of_ble_eq_true rfl⟩) hS (fun q _ h => hFc q h) hFc (fun u t H_61 locs ht hvm hw hB hz1 hk1 hS2 => ?_)
        obtain ⟨hP1, -, hD1⟩ := hB
        rw [ht] at hP1
        replace hD := hD1.weaken (fun _ _ _ h => hFc _ h)
        replace hP := hP1
        replace hS := hS2
        clear hP1 hD1 hS2 hFc hfc hz1 hk1 hvm ht
        refine lv_goto (tgt := 224) hx hb dX13_onNumbers_76 (by decide) ?_
        obtain ⟨h8, h9⟩ := ret_some hf
        rw [h8]
        exact W.vret hx hb hr (fun t ht hW => ⟨⟨(), rfl, trivial, by rw [ht]; exact hP, va_K.moved hW.alike hK, hD⟩, hS.F ht⟩) hS.2.2 dX13_onNumbers_224
      · skip
        rw [if_pos c_59] at hf
        refine lv_aload_n hx hb dX13_onNumbers_56 rfl (lv_at hl 0 rfl) ?_
        refine lv_aload_n hx hb dX13_onNumbers_57 rfl (lv_at hl 0 rfl) ?_
        refine va_get (D := (dC, dI)) (ci := 13) (v := .long (z_57.2.1 h0 19)) (C := RX13) (T := TX13) (N := 22) hx hb hts iwd_X13_onNumbers_X13 hown hK hP h0 (Wd_ob kg_55 sg_55 (by decide)) rfl 19 (by decide) (hts _ md_X13_onNumbers_1) (fun _ h9 => h9) (fl_at (t := 1) rfl) dX13_onNumbers_58 ?_
        obtain ⟨z_62, r_63, hfc, hf⟩ := cal_some hf
        have hFc := de_free hD hS hA
        refine va_calli (va_runS (As := [.long (z_57.2.1 h0 19)]) (rest := [.ref (a h0)]) ⟨hx, hb, hml, hown, hts⟩ (de_X13_isNumber l dC dI cy a sh n H_58.size F z_57 (z_57.2.1 h0 19) hfc) (va_cwS 1 hts gX13_onNumbers_X13_isNumber rfl rfl rfl (by decide +kernel) ⟨Nat.le_of_ble_eq_true rfl, Nat.le_of_ble_eq_true rfl⟩) ⟨fun a U g mk q => by obtain ⟨q0, q1, qP, qK, qD, qN⟩ := q; exact ⟨q0, q1, qP, va_K.moved (u := U) (U := U.calling g mk a) (Vm.Alike.refl U.vm) qK, qD, qN.same rfl⟩, fun U hU hW => ⟨rfl, by rw [hU], by rw [hU]; exact hP, va_K.moved hW.alike hK, hD.weaken (fun _ _ _ _ => trivial), hN.warm hW⟩⟩ rfl rfl hl.1 rfl (lv_room (Nat.le_of_ble_eq_true rfl)) dX13_onNumbers_61 ⟨Nat.le_of_ble_eq_true rfl, Nat.le_of_ble_eq_true rfl⟩) hS (fun q _ h => hFc q h) hFc (fun rr u t H_64 locs ht hvm hw hB hz1 hk1 hS2 => ?_)
        rw [hw]
        clear hw
        obtain ⟨hP1, -, hD1⟩ := hB
        rw [ht] at hP1
        replace hD := hD1.weaken (fun _ _ _ h => hFc _ h)
        replace hP := hP1
        replace hS := hS2
        clear hP1 hD1 hS2 hFc hfc hz1 hk1 hvm ht
        refine lv_iconst (v := 3) hx hb dX13_onNumbers_64 (by decide) ?_
        obtain ⟨z_65, _u, hfc, hf⟩ := cal_some hf
        have hFc := de_free hD hS hA
        refine va_callv (va_runV (As := [.int r_63, .int 3]) (rest := []) ⟨hx, hb, hml, hown, hts⟩ (de_X13_need l dC dI cy a sh n H_64.size F z_62 h0 r_63 3 hfc) (cwV 2 hts gX13_onNumbers_X13_need rfl rfl rfl (by decide +kernel) ⟨Nat.le_of_ble_eq_true rfl, Nat.le_of_ble_eq_true rfl⟩) ⟨fun a U g mk q => by obtain ⟨q0, q1, qP, qK, qD, qN⟩ := q; exact ⟨q0, q1, qP, va_K.moved (u := U) (U := U.calling g mk a) (Vm.Alike.refl U.vm) qK, qD, qN.same rfl⟩, va_recv hK hP (ci := 13) (q0 := h0) rfl (Wd_ob kg_55 sg_55 (by decide)), fun U hU hW => ⟨rfl, by rw [hU], by rw [hU]; exact hP, va_K.moved hW.alike hK, hD.weaken (fun _ _ _ _ => trivial), hN.warm hW⟩⟩ rfl rfl hl.1 rfl (lv_room (Nat.le_of_ble_eq_true rfl)) dX13_onNumbers_65 ⟨Nat.le_of_ble_eq_true rfl, Nat.le_of_ble_eq_true rfl⟩) hS (fun q _ h => hFc q h) hFc (fun u t H_66 locs ht hvm hw hB hz1 hk1 hS2 => ?_)
        obtain ⟨hP1, -, hD1⟩ := hB
        rw [ht] at hP1
        replace hD := hD1.weaken (fun _ _ _ h => hFc _ h)
        replace hP := hP1
        replace hS := hS2
        clear hP1 hD1 hS2 hFc hfc hz1 hk1 hvm ht
        refine lv_aload_n hx hb dX13_onNumbers_68 rfl (lv_at hl 0 rfl) ?_
        refine lv_aload_n hx hb dX13_onNumbers_69 rfl (lv_at hl 0 rfl) ?_
        refine va_get (D := (dC, dI)) (ci := 13) (v := .long (z_65.2.1 h0 19)) (C := RX13) (T := TX13) (N := 22) hx hb hts iwd_X13_onNumbers_X13 hown hK hP h0 (Wd_ob kg_55 sg_55 (by decide)) rfl 19 (by decide) (hts _ md_X13_onNumbers_1) (fun _ h9 => h9) (fl_at (t := 1) rfl) dX13_onNumbers_70 ?_
        obtain ⟨z_67, _u, hfc, hf⟩ := cal_some hf
        have hFc := de_free hD hS hA
        refine va_callv (va_runV (As := [.long (z_65.2.1 h0 19)]) (rest := []) ⟨hx, hb, hml, hown, hts⟩ (de_X13_give l dC dI cy a sh n H_66.size F z_65 h0 (z_65.2.1 h0 19) hfc) (cwV 1 hts gX13_onNumbers_X13_give rfl rfl rfl (by decide +kernel) ⟨Nat.le_of_ble_eq_true rfl, Nat.le_of_ble_eq_true rfl⟩) ⟨fun a U g mk q => by obtain ⟨q0, q1, qP, qK, qD, qN⟩ := q; exact ⟨q0, q1, qP, va_K.moved (u := U) (U := U.calling g mk a) (Vm.Alike.refl U.vm) qK, qD, qN.same rfl⟩, va_recv hK hP (ci := 13) (q0 := h0) rfl (Wd_ob kg_55 sg_55 (by decide)), fun U hU hW => ⟨rfl, by rw [hU], by rw [hU]; exact hP, va_K.moved hW.alike hK, hD.weaken (fun _ _ _ _ => trivial), hN.warm hW⟩⟩ rfl rfl hl.1 rfl (lv_room (Nat.le_of_ble_eq_true rfl)) dX13_onNumbers_73 ⟨Nat.le_of_ble_eq_true rfl, Nat.le_of_ble_eq_true rfl⟩) hS (fun q _ h => hFc q h) hFc (fun u t H_68 locs ht hvm hw hB hz1 hk1 hS2 => ?_)
        obtain ⟨hP1, -, hD1⟩ := hB
        rw [ht] at hP1
        replace hD := hD1.weaken (fun _ _ _ h => hFc _ h)
        replace hP := hP1
        replace hS := hS2
        clear hP1 hD1 hS2 hFc hfc hz1 hk1 hvm ht
        refine lv_goto (tgt := 224) hx hb dX13_onNumbers_76 (by decide) ?_
        obtain ⟨h8, h9⟩ := ret_some hf
        rw [h8]
        exact W.vret hx hb hr (fun t ht hW => ⟨⟨(), rfl, trivial, by rw [ht]; exact hP, va_K.moved hW.alike hK, hD⟩, hS.F ht⟩) hS.2.2 dX13_onNumbers_224
  · skip
    rw [if_neg c_1] at hf
    refine lv_aload_n hx hb dX13_onNumbers_6 rfl (lv_at hl 0 rfl) ?_
    refine lv_iload_n hx hb dX13_onNumbers_7 rfl (lv_at hl 1 rfl) ?_
    refine lv_bipush (v := 28) hx hb dX13_onNumbers_8 (by decide) ?_
    refine lv_icmp_le (tgt := 17) hx hb dX13_onNumbers_10 (by decide) (fun c_69 => ?_) (fun c_69 => ?_)
    · skip
      rw [if_pos c_69] at hf
      refine lv_iconst (v := 0) hx hb dX13_onNumbers_17 (by decide) ?_
      obtain ⟨g_71, hf⟩ := grd_some hf
      obtain ⟨kg_71, sg_71⟩ := okO_at g_71
      obtain ⟨z_70, _u, hfc, hf⟩ := cal_some hf
      have hFc := de_free hD hS hA
      refine va_callv (va_runV (As := [.int 0]) (rest := []) ⟨hx, hb, hml, hown, hts⟩ (de_X13_takeNumbers l dC dI cy a sh n H.size F z h0 0 hfc) (cwV 1 hts gX13_onNumbers_X13_takeNumbers rfl rfl rfl (by decide +kernel) ⟨Nat.le_of_ble_eq_true rfl, Nat.le_of_ble_eq_true rfl⟩) ⟨fun a U g mk q => by obtain ⟨q0, q1, qP, qK, qD, qN⟩ := q; exact ⟨q0, q1, qP, va_K.moved (u := U) (U := U.calling g mk a) (Vm.Alike.refl U.vm) qK, qD, qN.same rfl⟩, va_recv hK hP (ci := 13) (q0 := h0) rfl (Wd_ob kg_71 sg_71 (by decide)), fun U hU hW => ⟨rfl, by rw [hU], by rw [hU]; exact hP, va_K.moved hW.alike hK, hD.weaken (fun _ _ _ _ => trivial), hN.warm hW⟩⟩ rfl rfl hl.1 rfl (lv_room (Nat.le_of_ble_eq_true rfl)) dX13_onNumbers_18 ⟨Nat.le_of_ble_eq_true rfl, Nat.le_of_ble_eq_true rfl⟩) hS (fun q _ h => hFc q h) hFc (fun u t H_72 locs ht hvm hw hB hz1 hk1 hS2 => ?_)
      obtain ⟨hP1, -, hD1⟩ := hB
      rw [ht] at hP1
      replace hD := hD1.weaken (fun _ _ _ h => hFc _ h)
      replace hP := hP1
      replace hS := hS2
      clear hP1 hD1 hS2 hFc hfc hz1 hk1 hvm ht
      refine lv_aload_n hx hb dX13_onNumbers_21 rfl (lv_at hl 0 rfl) ?_
      refine lv_aload_n hx hb dX13_onNumbers_22 rfl (lv_at hl 0 rfl) ?_
      refine va_get (D := (dC, dI)) (ci := 13) (v := .long (z_70.2.1 h0 19)) (C := RX13) (T := TX13) (N := 22) hx hb hts iwd_X13_onNumbers_X13 hown hK hP h0 (Wd_ob kg_71 sg_71 (by decide)) rfl 19 (by decide) (hts _ md_X13_onNumbers_1) (fun _ h9 => h9) (fl_at (t := 1) rfl) dX13_onNumbers_23 ?_
      obtain ⟨z_73, _u, hfc, hf⟩ := cal_some hf
      have hFc := de_free hD hS hA
      refine va_callv (va_runV (As := [.long (z_70.2.1 h0 19)]) (rest := []) ⟨hx, hb, hml, hown, hts⟩ (de_X13_give l dC dI cy a sh n H_72.size F z_70 h0 (z_70.2.1 h0 19) hfc) (cwV 1 hts gX13_onNumbers_X13_give rfl rfl rfl (by decide +kernel) ⟨Nat.le_of_ble_eq_true rfl, Nat.le_of_ble_eq_true rfl⟩) ⟨fun a U g mk q => by obtain ⟨q0, q1, qP, qK, qD, qN⟩ := q; exact ⟨q0, q1, qP, va_K.moved (u := U) (U := U.calling g mk a) (Vm.Alike.refl U.vm) qK, qD, qN.same rfl⟩, va_recv hK hP (ci := 13) (q0 := h0) rfl (Wd_ob kg_71 sg_71 (by decide)), fun U hU hW => ⟨rfl, by rw [hU], by rw [hU]; exact hP, va_K.moved hW.alike hK, hD.weaken (fun _ _ _ _ => trivial), hN.warm hW⟩⟩ rfl rfl hl.1 rfl (lv_room (Nat.le_of_ble_eq_true rfl)) dX13_onNumbers_26 ⟨Nat.le_of_ble_eq_true rfl, Nat.le_of_ble_eq_true rfl⟩) hS (fun q _ h => hFc q h) hFc (fun u t H_74 locs ht hvm hw hB hz1 hk1 hS2 => ?_)
      obtain ⟨hP1, -, hD1⟩ := hB
      rw [ht] at hP1
      replace hD := hD1.weaken (fun _ _ _ h => hFc _ h)
      replace hP := hP1
      replace hS := hS2
      clear hP1 hD1 hS2 hFc hfc hz1 hk1 hvm ht
      refine lv_goto (tgt := 224) hx hb dX13_onNumbers_29 (by decide) ?_
      obtain ⟨h8, h9⟩ := ret_some hf
      rw [h8]
      exact W.vret hx hb hr (fun t ht hW => ⟨⟨(), rfl, trivial, by rw [ht]; exact hP, va_K.moved hW.alike hK, hD⟩, hS.F ht⟩) hS.2.2 dX13_onNumbers_224
    · skip
      rw [if_neg c_69] at hf
      refine lv_iconst (v := 1) hx hb dX13_onNumbers_13 (by decide) ?_
      refine lv_goto (tgt := 18) hx hb dX13_onNumbers_14 (by decide) ?_
      obtain ⟨g_76, hf⟩ := grd_some hf
      obtain ⟨kg_76, sg_76⟩ := okO_at g_76
      obtain ⟨z_75, _u, hfc, hf⟩ := cal_some hf
      have hFc := de_free hD hS hA
      refine va_callv (va_runV (As := [.int 1]) (rest := []) ⟨hx, hb, hml, hown, hts⟩ (de_X13_takeNumbers l dC dI cy a sh n H.size F z h0 1 hfc) (cwV 1 hts gX13_onNumbers_X13_takeNumbers rfl rfl rfl (by decide +kernel) ⟨Nat.le_of_ble_eq_true rfl, Nat.le_of_ble_eq_true rfl⟩) ⟨fun a U g mk q => by obtain ⟨q0, q1, qP, qK, qD, qN⟩ := q; exact ⟨q0, q1, qP, va_K.moved (u := U) (U := U.calling g mk a) (Vm.Alike.refl U.vm) qK, qD, qN.same rfl⟩, va_recv hK hP (ci := 13) (q0 := h0) rfl (Wd_ob kg_76 sg_76 (by decide)), fun U hU hW => ⟨rfl, by rw [hU], by rw [hU]; exact hP, va_K.moved hW.alike hK, hD.weaken (fun _ _ _ _ => trivial), hN.warm hW⟩⟩ rfl rfl hl.1 rfl (lv_room (Nat.le_of_ble_eq_true rfl)) dX13_onNumbers_18 ⟨Nat.le_of_ble_eq_true rfl, Nat.le_of_ble_eq_true rfl⟩) hS (fun q _ h => hFc q h) hFc (fun u t H_77 locs ht hvm hw hB hz1 hk1 hS2 => ?_)
      obtain ⟨hP1, -, hD1⟩ := hB
      rw [ht] at hP1
      replace hD := hD1.weaken (fun _ _ _ h => hFc _ h)
      replace hP := hP1
      replace hS := hS2
      clear hP1 hD1 hS2 hFc hfc hz1 hk1 hvm ht
      refine lv_aload_n hx hb dX13_onNumbers_21 rfl (lv_at hl 0 rfl) ?_
      refine lv_aload_n hx hb dX13_onNumbers_22 rfl (lv_at hl 0 rfl) ?_
      refine va_get (D := (dC, dI)) (ci := 13) (v := .long (z_75.2.1 h0 19)) (C := RX13) (T := TX13) (N := 22) hx hb hts iwd_X13_onNumbers_X13 hown hK hP h0 (Wd_ob kg_76 sg_76 (by decide)) rfl 19 (by decide) (hts _ md_X13_onNumbers_1) (fun _ h9 => h9) (fl_at (t := 1) rfl) dX13_onNumbers_23 ?_
      obtain ⟨z_78, _u, hfc, hf⟩ := cal_some hf
      have hFc := de_free hD hS hA
      refine va_callv (va_runV (As := [.long (z_75.2.1 h0 19)]) (rest := []) ⟨hx, hb, hml, hown, hts⟩ (de_X13_give l dC dI cy a sh n H_77.size F z_75 h0 (z_75.2.1 h0 19) hfc) (cwV 1 hts gX13_onNumbers_X13_give rfl rfl rfl (by decide +kernel) ⟨Nat.le_of_ble_eq_true rfl, Nat.le_of_ble_eq_true rfl⟩) ⟨fun a U g mk q => by obtain ⟨q0, q1, qP, qK, qD, qN⟩ := q; exact ⟨q0, q1, qP, va_K.moved (u := U) (U := U.calling g mk a) (Vm.Alike.refl U.vm) qK, qD, qN.same rfl⟩, va_recv hK hP (ci := 13) (q0 := h0) rfl (Wd_ob kg_76 sg_76 (by decide)), fun U hU hW => ⟨rfl, by rw [hU], by rw [hU]; exact hP, va_K.moved hW.alike hK, hD.weaken (fun _ _ _ _ => trivial), hN.warm hW⟩⟩ rfl rfl hl.1 rfl (lv_room (Nat.le_of_ble_eq_true rfl)) dX13_onNumbers_26 ⟨Nat.le_of_ble_eq_true rfl, Nat.le_of_ble_eq_true rfl⟩) hS (fun q _ h => hFc q h) hFc (fun u t H_79 locs ht hvm hw hB hz1 hk1 hS2 => ?_)
      obtain ⟨hP1, -, hD1⟩ := hB
      rw [ht] at hP1
      replace hD := hD1.weaken (fun _ _ _ h => hFc _ h)
      replace hP := hP1
      replace hS := hS2
      clear hP1 hD1 hS2 hFc hfc hz1 hk1 hvm ht
      refine lv_goto (tgt := 224) hx hb dX13_onNumbers_29 (by decide) ?_
      obtain ⟨h8, h9⟩ := ret_some hf
      rw [h8]
      exact W.vret hx hb hr (fun t ht hW => ⟨⟨(), rfl, trivial, by rw [ht]; exact hP, va_K.moved hW.alike hK, hD⟩, hS.F ht⟩) hS.2.2 dX13_onNumbers_224

theorem md_X13_onVector_2 : (.fieldLink RX13 72 "ResourceLedgerModel$Looker" "unit" "LResourceLedgerModel$Unit;" : Cond) ∈ wsX13_onVector := List.mem_of_getElem? (i := 2) rfl
theorem iwd_X13_onVector_X13 : ∀ w ∈ wsX130, w ∈ wsX13_onVector := fun _ h => List.mem_cons_of_mem _ (List.mem_append_left _ (List.mem_append_right _ h))
theorem md_X13_onVector_4 : (.fieldLink RX13 103 "ResourceLedgerModel$Looker" "takenOrigins" "J" : Cond) ∈ wsX13_onVector := List.mem_of_getElem? (i := 4) rfl
theorem md_X13_onVector_5 : (.fieldLink RX13 48 "ResourceLedgerModel$Looker" "fault" "I" : Cond) ∈ wsX13_onVector := List.mem_of_getElem? (i := 5) rfl
theorem md_X13_onVector_3 : (.constantLong RX13 126 (3) : Cond) ∈ wsX13_onVector := List.mem_of_getElem? (i := 3) rfl
theorem md_X13_onVector_1 : (.constantLong RX13 187 (1794) : Cond) ∈ wsX13_onVector := List.mem_of_getElem? (i := 1) rfl
set_option maxHeartbeats 4000000 in
set_option maxRecDepth 100000 in
theorem de_X13_onVector (l : Launch) (dC : Nat → ClassId) (dI : Nat → Nat → Nat) (cy : Nat → ClassId) (a : Nat → Nat) (sh : Nat → Nat × Nat) (n sz : Nat) (F : Nat) (z : St) (h0 : Nat) (x0 : Int32) (x1 : Int32) (x2 : Int32) {z8 : St} {r8 : Unit} (hf : fn_X13_onVector F sh n z h0 x0 x1 x2 = some (z8, r8)) : Met l yX13_onVector wsX13_onVector ({ frames := 4, cells := 0, slots := 0, locals := 91 }) (va_Pc [.ref (a h0), .int x0, .int x1, .int x2] (fun U => U.heap.size = sz ∧ va_P (dC, dI) vwCl (Wd cy a sh n z) U.heap ∧ va_K (dC, dI) vwCl (TYS cy) U ∧ va_D (fun _ => True) (Wd cy a sh n z) ∧ NK U)) (va_Qv (fun u : Unit => True) (fun u t => va_P (dC, dI) vwCl (Wd cy a sh n z8) t.heap ∧ va_K (dC, dI) vwCl (TYS cy) t ∧ va_D (va_A (Wd cy a sh n z) sz) (Wd cy a sh n z8)) (va_A (Wd cy a sh n z) sz)) 0 0 (va_A (Wd cy a sh n z) sz) := by
  refine Met.ofW (cc := cX13_onVector) (maxL := 10) (ret := none) (by decide) rfl ?_
  intro p e s m args below meth c s₁ B hml hv
  obtain ⟨rfl, hsz, hP, hK, hD0, hN⟩ := hv
  have hx := B.exec
  have hb := B.bytes
  have hr := B.returns
  have hts := atoms_spec (ws := wsX13_onVector) B.pre
  have hown : s.vm.findClass RX13 = some m.cls := findClass_of_methodNamed B.named
  have hlocks := B.notSynchronized
  subst hsz
  have hD := hD0.self (sz := s.heap.size)
  clear hD0
  generalize hAe : va_A (Wd cy a sh n z) s.heap.size = A at hD ⊢
  have hA : ∀ q : Nat, s.heap.size ≤ q → A q := fun q h => by rw [← hAe]; exact Or.inr h
  clear hAe
  have hS : va_S A s.heap s.heap [] := va_S.rf
  have hl := lv_entry ([.ref (a h0), .int x0, .int x1, .int x2]) (n := 10) (Nat.le_of_ble_eq_true rfl)
  rw [lg_entry_eq]
  generalize (lg_sl ([.ref (a h0), .int x0, .int x1, .int x2]) ++ List.replicate (10 - (lg_sl ([.ref (a h0), .int x0, .int x1, .int x2])).length) Slot.unset).toArray = ls at hl ⊢
  replace hl : lv_has ls 10 [(0, .ref (a h0)), (1, .int x0), (2, .int x1), (3, .int x2)] := hl
  unfold fn_X13_onVector at hf
  refine de_start hS hP (fun H locs hS hP => ?_)
  refine lv_iload_n hx hb dX13_onVector_0 rfl (lv_at hl 1 rfl) ?_
  refine lv_bipush (v := 59) hx hb dX13_onVector_1 (by decide) ?_
  refine lv_icmp_ne (tgt := 21) hx hb dX13_onVector_3 (by decide) (fun c_1 => ?_) (fun c_1 => ?_)
  · skip
    rw [if_neg c_1] at hf
    refine lv_aload_n hx hb dX13_onVector_21 rfl (lv_at hl 0 rfl) ?_
    obtain ⟨g_2, hf⟩ := grd_some hf
    obtain ⟨kg_2, sg_2⟩ := okO_at g_2
    obtain ⟨k_3, ek_3, hf⟩ := lnk_some hf
    refine va_get (D := (dC, dI)) (ci := 13) (v := .ref (a k_3)) (C := RX13) (T := TX13) (N := 22) hx hb hts iwd_X13_onVector_X13 hown hK hP h0 (Wd_ob kg_2 sg_2 (by decide)) rfl 0 (by decide) (hts _ md_X13_onVector_2) (fun _ h9 => h9) (fl_q rfl ek_3) dX13_onVector_22 ?_
    refine lv_iload_n hx hb dX13_onVector_25 rfl (lv_at hl 2 rfl) ?_
    obtain ⟨g_6, hf⟩ := grd_some hf
    obtain ⟨kg_6, sg_6⟩ := okO_at g_6
    obtain ⟨z_4, r_5, hfc, hf⟩ := cal_some hf
    have hFc := de_free hD hS hA
    refine va_calll (va_runV (As := [.int x1]) (rest := []) ⟨hx, hb, hml, hown, hts⟩ (de_X16_element l dC dI cy a sh n H.size F z k_3 x1 hfc) (cwV 1 hts gX13_onVector_X16_element rfl rfl rfl (by decide +kernel) ⟨Nat.le_of_ble_eq_true rfl, Nat.le_of_ble_eq_true rfl⟩) ⟨fun a U g mk q => by obtain ⟨q0, q1, qP, qK, qD, qN⟩ := q; exact ⟨q0, q1, qP, va_K.moved (u := U) (U := U.calling g mk a) (Vm.Alike.refl U.vm) qK, qD, qN.same rfl⟩, va_recv hK hP (ci := 16) (q0 := k_3) rfl (Wd_ob kg_6 sg_6 (by decide)), fun U hU hW => ⟨rfl, by rw [hU], by rw [hU]; exact hP, va_K.moved hW.alike hK, hD.weaken (fun _ _ _ _ => trivial), hN.warm hW⟩⟩ rfl rfl hl.1 rfl (lv_room (Nat.le_of_ble_eq_true rfl)) dX13_onVector_26 ⟨Nat.le_of_ble_eq_true rfl, Nat.le_of_ble_eq_true rfl⟩) hS (fun q _ h => hFc q h) hFc (fun rr u t H_7 locs ht hvm hw hB hz1 hk1 hS2 => ?_)
    rw [hw]
    clear hw
    obtain ⟨hP1, -, hD1⟩ := hB
    rw [ht] at hP1
    replace hD := hD1.weaken (fun _ _ _ h => hFc _ h)
    replace hP := hP1
    replace hS := hS2
    clear hP1 hD1 hS2 hFc hfc hz1 hk1 hvm ht
    refine lv_lstore (lv' := [(4, .long r_5), (0, .ref (a h0)), (1, .int x0), (2, .int x1), (3, .int x2)]) hx hb dX13_onVector_29 hl (by decide) rfl (fun ls hl2 => ?_)
    replace hl := hl2
    clear hl2
    refine lv_bipush (v := 7) hx hb dX13_onVector_31 (by decide) ?_
    refine lv_lload hx hb dX13_onVector_33 (lv_at hl 0 rfl) ?_
    obtain ⟨z_8, r_9, hfc, hf⟩ := cal_some hf
    have hFc := de_free hD hS hA
    refine va_calll (va_runS (As := [.int 7, .long r_5]) (rest := []) ⟨hx, hb, hml, hown, hts⟩ (de_X13_before l dC dI cy a sh n H_7.size F z_4 7 r_5 hfc) (va_cwS 2 hts gX13_onVector_X13_before rfl rfl rfl (by decide +kernel) ⟨Nat.le_of_ble_eq_true rfl, Nat.le_of_ble_eq_true rfl⟩) ⟨fun a U g mk q => by obtain ⟨q0, q1, qP, qK, qD, qN⟩ := q; exact ⟨q0, q1, qP, va_K.moved (u := U) (U := U.calling g mk a) (Vm.Alike.refl U.vm) qK, qD, qN.same rfl⟩, fun U hU hW => ⟨rfl, by rw [hU], by rw [hU]; exact hP, va_K.moved hW.alike hK, hD.weaken (fun _ _ _ _ => trivial), hN.warm hW⟩⟩ rfl rfl hl.1 rfl (lv_room (Nat.le_of_ble_eq_true rfl)) dX13_onVector_35 ⟨Nat.le_of_ble_eq_true rfl, Nat.le_of_ble_eq_true rfl⟩) hS (fun q _ h => hFc q h) hFc (fun rr u t H_10 locs ht hvm hw hB hz1 hk1 hS2 => ?_)
    rw [hw]
    clear hw
    obtain ⟨hP1, -, hD1⟩ := hB
    rw [ht] at hP1
    replace hD := hD1.weaken (fun _ _ _ h => hFc _ h)
    replace hP := hP1
    replace hS := hS2
    clear hP1 hD1 hS2 hFc hfc hz1 hk1 hvm ht
    refine lv_lstore (lv' := [(6, .long r_9), (4, .long r_5), (0, .ref (a h0)), (1, .int x0), (2, .int x1), (3, .int x2)]) hx hb dX13_onVector_38 hl (by decide) rfl (fun ls hl2 => ?_)
    replace hl := hl2
    clear hl2
    refine lv_iload_n hx hb dX13_onVector_40 rfl (lv_at hl 3 rfl) ?_
    refine lv_bipush (v := 52) hx hb dX13_onVector_41 (by decide) ?_
    refine lv_icmp_ne (tgt := 74) hx hb dX13_onVector_43 (by decide) (fun c_11 => ?_) (fun c_11 => ?_)
    · skip
      rw [if_neg c_11] at hf
      refine lv_iload_n hx hb dX13_onVector_74 rfl (lv_at hl 3 rfl) ?_
      refine lv_bipush (v := 54) hx hb dX13_onVector_75 (by decide) ?_
      refine de_cut (h := 99) (fun (x : St) => []) (fun x ls H locs => lv_has ls 10 [(6, .long r_9), (4, .long r_5), (0, .ref (a h0)), (1, .int x0)] ∧ va_P (dC, dI) vwCl (Wd cy a sh n x) H ∧ va_D A (Wd cy a sh n x) ∧ va_S A s.heap H locs) (fun x => fn_X13_onVector_B99 F sh n x0 h0 r_5 r_9 x) (z8, r8) ?_ (fun B99 => ?_)
      · intro x ls H locs hI hf
        obtain ⟨z_12, ez⟩ : ∃ w, w = x := ⟨_, rfl⟩
        subst ez
        obtain ⟨hl2, hP2, hD2, hS2⟩ := hI
        replace hl : lv_has ls 10 [(6, .long r_9), (4, .long r_5), (0, .ref (a h0)), (1, .int x0)] := hl2
        replace hP := hP2
        replace hD := hD2
        replace hS := hS2
        clear hl2 hP2 hD2 hS2
        replace hf := fn_X13_onVector_B99_s hf
        refine W.eq (g2 := F0 m 99 ls []) rfl ?_
        refine lv_iload_n hx hb dX13_onVector_99 rfl (lv_at hl 3 rfl) ?_
        refine lv_bipush (v := 58) hx hb dX13_onVector_100 (by decide) ?_
        refine de_cut (h := 112) (fun (x : St) => []) (fun x ls H locs => lv_has ls 10 [(6, .long r_9), (4, .long r_5), (0, .ref (a h0)), (1, .int x0)] ∧ va_P (dC, dI) vwCl (Wd cy a sh n x) H ∧ va_D A (Wd cy a sh n x) ∧ va_S A s.heap H locs) (fun x => fn_X13_onVector_B112 F sh n x0 h0 r_5 r_9 x) (z8, r8) ?_ (fun B112 => ?_)
        · intro x ls H locs hI hf
          obtain ⟨z_13, ez⟩ : ∃ w, w = x := ⟨_, rfl⟩
          subst ez
          obtain ⟨hl2, hP2, hD2, hS2⟩ := hI
          replace hl : lv_has ls 10 [(6, .long r_9), (4, .long r_5), (0, .ref (a h0)), (1, .int x0)] := hl2
          replace hP := hP2
          replace hD := hD2
          replace hS := hS2
          clear hl2 hP2 hD2 hS2
          replace hf := fn_X13_onVector_B112_s hf
          refine W.eq (g2 := F0 m 112 ls []) rfl ?_
          refine lv_iload_n hx hb dX13_onVector_112 rfl (lv_at hl 3 rfl) ?_
          refine lv_bipush (v := 56) hx hb dX13_onVector_113 (by decide) ?_
          refine de_cut (h := 124) (fun (x : St) => []) (fun x ls H locs => lv_has ls 10 [(6, .long r_9), (4, .long r_5), (0, .ref (a h0)), (1, .int x0)] ∧ va_P (dC, dI) vwCl (Wd cy a sh n x) H ∧ va_D A (Wd cy a sh n x) ∧ va_S A s.heap H locs) (fun x => fn_X13_onVector_B124 F sh n x0 h0 r_9 r_5 x) (z8, r8) ?_ (fun B124 => ?_)
          · intro x ls H locs hI hf
            obtain ⟨z_14, ez⟩ : ∃ w, w = x := ⟨_, rfl⟩
            subst ez
            obtain ⟨hl2, hP2, hD2, hS2⟩ := hI
            replace hl : lv_has ls 10 [(6, .long r_9), (4, .long r_5), (0, .ref (a h0)), (1, .int x0)] := hl2
            replace hP := hP2
            replace hD := hD2
            replace hS := hS2
            clear hl2 hP2 hD2 hS2
            replace hf := fn_X13_onVector_B124_s hf
            refine W.eq (g2 := F0 m 124 ls []) rfl ?_
            refine lv_aload_n hx hb dX13_onVector_124 rfl (lv_at hl 2 rfl) ?_
            refine lv_lload hx hb dX13_onVector_125 (lv_at hl 0 rfl) ?_
            refine lv_iload_n hx hb dX13_onVector_127 rfl (lv_at hl 3 rfl) ?_
            refine lv_bipush (v := 54) hx hb dX13_onVector_128 (by decide) ?_
            refine de_cut (h := 138) (fun (x : St × Int32) => [.int x.2, .long r_9, .ref (a h0)]) (fun x ls H locs => lv_has ls 10 [(4, .long r_5), (0, .ref (a h0)), (1, .int x0)] ∧ va_P (dC, dI) vwCl (Wd cy a sh n x.1) H ∧ va_D A (Wd cy a sh n x.1) ∧ va_S A s.heap H locs) (fun x => fn_X13_onVector_B138 F sh n h0 r_9 x0 r_5 x.1 x.2) (z8, r8) ?_ (fun B138 => ?_)
            · intro x ls H locs hI hf
              obtain ⟨z_16, p_15⟩ := x
              obtain ⟨hl2, hP2, hD2, hS2⟩ := hI
              replace hl : lv_has ls 10 [(4, .long r_5), (0, .ref (a h0)), (1, .int x0)] := hl2
              replace hP := hP2
              replace hD := hD2
              replace hS := hS2
              clear hl2 hP2 hD2 hS2
              replace hf := fn_X13_onVector_B138_s hf
              refine W.eq (g2 := F0 m 138 ls [.int p_15, .long r_9, .ref (a h0)]) rfl ?_
              obtain ⟨z_17, _u, hfc, hf⟩ := cal_some hf
              have hFc := de_free hD hS hA
              refine va_callv (va_runV (As := [.long r_9, .int p_15]) (rest := []) ⟨hx, hb, hml, hown, hts⟩ (de_X13_takeReference l dC dI cy a sh n H.size F z_16 h0 r_9 p_15 hfc) (cwV 2 hts gX13_onVector_X13_takeReference rfl rfl rfl (by decide +kernel) ⟨Nat.le_of_ble_eq_true rfl, Nat.le_of_ble_eq_true rfl⟩) ⟨fun a U g mk q => by obtain ⟨q0, q1, qP, qK, qD, qN⟩ := q; exact ⟨q0, q1, qP, va_K.moved (u := U) (U := U.calling g mk a) (Vm.Alike.refl U.vm) qK, qD, qN.same rfl⟩, va_recv hK hP (ci := 13) (q0 := h0) rfl (Wd_ob kg_2 sg_2 (by decide)), fun U hU hW => ⟨rfl, by rw [hU], by rw [hU]; exact hP, va_K.moved hW.alike hK, hD.weaken (fun _ _ _ _ => trivial), hN.warm hW⟩⟩ rfl rfl hl.1 rfl (lv_room (Nat.le_of_ble_eq_true rfl)) dX13_onVector_138 ⟨Nat.le_of_ble_eq_true rfl, Nat.le_of_ble_eq_true rfl⟩) hS (fun q _ h => hFc q h) hFc (fun u t H_18 locs ht hvm hw hB hz1 hk1 hS2 => ?_)
              obtain ⟨hP1, -, hD1⟩ := hB
              rw [ht] at hP1
              replace hD := hD1.weaken (fun _ _ _ h => hFc _ h)
              replace hP := hP1
              replace hS := hS2
              clear hP1 hD1 hS2 hFc hfc hz1 hk1 hvm ht
              refine lv_aload_n hx hb dX13_onVector_141 rfl (lv_at hl 1 rfl) ?_
              refine va_get (D := (dC, dI)) (ci := 13) (v := .long (z_17.2.1 h0 20)) (C := RX13) (T := TX13) (N := 22) hx hb hts iwd_X13_onVector_X13 hown hK hP h0 (Wd_ob kg_2 sg_2 (by decide)) rfl 20 (by decide) (hts _ md_X13_onVector_4) (fun _ h9 => h9) (fl_at (t := 1) rfl) dX13_onVector_142 ?_
              refine lv_topl (fun v_19 ev_19 => ?_)
              replace hf := lt_at ev_19 hf
              clear ev_19
              refine lv_lstore (lv' := [(8, .long v_19), (4, .long r_5), (0, .ref (a h0)), (1, .int x0)]) hx hb dX13_onVector_145 hl (by decide) rfl (fun ls hl2 => ?_)
              replace hl := hl2
              clear hl2
              refine lv_aload_n hx hb dX13_onVector_147 rfl (lv_at hl 2 rfl) ?_
              refine va_get (D := (dC, dI)) (ci := 13) (v := .int (z_17.1 h0 18)) (C := RX13) (T := TX13) (N := 22) hx hb hts iwd_X13_onVector_X13 hown hK hP h0 (Wd_ob kg_2 sg_2 (by decide)) rfl 18 (by decide) (hts _ md_X13_onVector_5) (fun _ h9 => h9) (fl_at (t := 0) rfl) dX13_onVector_148 ?_
              refine lv_if_eq (tgt := 155) hx hb dX13_onVector_151 (by decide) (fun c_20 => ?_) (fun c_20 => ?_)
              · skip
                rw [if_pos c_20] at hf
                refine lv_iload_n hx hb dX13_onVector_155 rfl (lv_at hl 3 rfl) ?_
                refine lv_bipush (v := 55) hx hb dX13_onVector_156 (by decide) ?_
                refine de_cut (h := 173) (fun (x : St) => []) (fun x ls H locs => lv_has ls 10 [(8, .long v_19), (4, .long r_5), (0, .ref (a h0)), (1, .int x0)] ∧ va_P (dC, dI) vwCl (Wd cy a sh n x) H ∧ va_D A (Wd cy a sh n x) ∧ va_S A s.heap H locs) (fun x => fn_X13_onVector_B173 F sh n x0 h0 r_5 v_19 x) (z8, r8) ?_ (fun B173 => ?_)
                · intro x ls H locs hI hf
                  obtain ⟨z_21, ez⟩ : ∃ w, w = x := ⟨_, rfl⟩
                  subst ez
                  obtain ⟨hl2, hP2, hD2, hS2⟩ := hI
                  replace hl : lv_has ls 10 [(8, .long v_19), (4, .long r_5), (0, .ref (a h0)), (1, .int x0)] := hl2
                  replace hP := hP2
                  replace hD := hD2
                  replace hS := hS2
                  clear hl2 hP2 hD2 hS2
                  replace hf := fn_X13_onVector_B173_s hf
                  refine W.eq (g2 := F0 m 173 ls []) rfl ?_
                  refine lv_iload_n hx hb dX13_onVector_173 rfl (lv_at hl 3 rfl) ?_
                  refine lv_bipush (v := 53) hx hb dX13_onVector_174 (by decide) ?_
                  refine de_cut (h := 186) (fun (x : St) => []) (fun x ls H locs => lv_has ls 10 [(8, .long v_19), (4, .long r_5), (0, .ref (a h0)), (1, .int x0)] ∧ va_P (dC, dI) vwCl (Wd cy a sh n x) H ∧ va_D A (Wd cy a sh n x) ∧ va_S A s.heap H locs) (fun x => fn_X13_onVector_B186 F sh n x0 r_5 h0 v_19 x) (z8, r8) ?_ (fun B186 => ?_)
                  · intro x ls H locs hI hf
                    obtain ⟨z_22, ez⟩ : ∃ w, w = x := ⟨_, rfl⟩
                    subst ez
                    obtain ⟨hl2, hP2, hD2, hS2⟩ := hI
                    replace hl : lv_has ls 10 [(8, .long v_19), (4, .long r_5), (0, .ref (a h0)), (1, .int x0)] := hl2
                    replace hP := hP2
                    replace hD := hD2
                    replace hS := hS2
                    clear hl2 hP2 hD2 hS2
                    replace hf := fn_X13_onVector_B186_s hf
                    refine W.eq (g2 := F0 m 186 ls []) rfl ?_
                    refine lv_iload_n hx hb dX13_onVector_186 rfl (lv_at hl 3 rfl) ?_
                    refine lv_bipush (v := 54) hx hb dX13_onVector_187 (by decide) ?_
                    refine de_cut (h := 223) (fun (x : St) => []) (fun x ls H locs => lv_has ls 10 [(4, .long r_5), (0, .ref (a h0)), (1, .int x0)] ∧ va_P (dC, dI) vwCl (Wd cy a sh n x) H ∧ va_D A (Wd cy a sh n x) ∧ va_S A s.heap H locs) (fun x => fn_X13_onVector_B223 F sh n x0 h0 r_5 x) (z8, r8) ?_ (fun B223 => ?_)
                    · intro x ls H locs hI hf
                      obtain ⟨z_23, ez⟩ : ∃ w, w = x := ⟨_, rfl⟩
                      subst ez
                      obtain ⟨hl2, hP2, hD2, hS2⟩ := hI
                      replace hl : lv_has ls 10 [(4, .long r_5), (0, .ref (a h0)), (1, .int x0)] := hl2
                      replace hP := hP2
                      replace hD := hD2
                      replace hS := hS2
                      clear hl2 hP2 hD2 hS2
                      replace hf := fn_X13_onVector_B223_s hf
                      refine W.eq (g2 := F0 m 223 ls []) rfl ?_
                      refine lv_iload_n hx hb dX13_onVector_223 rfl (lv_at hl 2 rfl) ?_
                      refine lv_bipush (v := 57) hx hb dX13_onVector_224 (by decide) ?_
                      refine lv_icmp_ne (tgt := 235) hx hb dX13_onVector_226 (by decide) (fun c_24 => ?_) (fun c_24 => ?_)
                      · skip
                        rw [if_neg c_24] at hf
                        obtain ⟨h8, h9⟩ := ret_some hf
                        rw [h8]
                        exact W.vret hx hb hr (fun t ht hW => ⟨⟨(), rfl, trivial, by rw [ht]; exact hP, va_K.moved hW.alike hK, hD⟩, hS.F ht⟩) hS.2.2 dX13_onVector_235
                      · skip
                        rw [if_pos c_24] at hf
                        refine lv_aload_n hx hb dX13_onVector_229 rfl (lv_at hl 1 rfl) ?_
                        refine lv_lload hx hb dX13_onVector_230 (lv_at hl 0 rfl) ?_
                        obtain ⟨z_25, _u, hfc, hf⟩ := cal_some hf
                        have hFc := de_free hD hS hA
                        refine va_callv (va_runV (As := [.long r_5]) (rest := []) ⟨hx, hb, hml, hown, hts⟩ (de_X13_give l dC dI cy a sh n H.size F z_23 h0 r_5 hfc) (cwV 1 hts gX13_onVector_X13_give rfl rfl rfl (by decide +kernel) ⟨Nat.le_of_ble_eq_true rfl, Nat.le_of_ble_eq_true rfl⟩) ⟨fun a U g mk q => by obtain ⟨q0, q1, qP, qK, qD, qN⟩ := q; exact ⟨q0, q1, qP, va_K.moved (u := U) (U := U.calling g mk a) (Vm.Alike.refl U.vm) qK, qD, qN.same rfl⟩, va_recv hK hP (ci := 13) (q0 := h0) rfl (Wd_ob kg_2 sg_2 (by decide)), fun U hU hW => ⟨rfl, by rw [hU], by rw [hU]; exact hP, va_K.moved hW.alike hK, hD.weaken (fun _ _ _ _ => trivial), hN.warm hW⟩⟩ rfl rfl hl.1 rfl (lv_room (Nat.le_of_ble_eq_true rfl)) dX13_onVector_232 ⟨Nat.le_of_ble_eq_true rfl, Nat.le_of_ble_eq_true rfl⟩) hS (fun q _ h => hFc q h) hFc (fun u t H_26 locs ht hvm hw hB hz1 hk1 hS2 => ?_)
                        obtain ⟨hP1, -, hD1⟩ := hB
                        rw [ht] at hP1
                        replace hD := hD1.weaken (fun _ _ _ h => hFc _ h)
                        replace hP := hP1
                        replace hS := hS2
                        clear hP1 hD1 hS2 hFc hfc hz1 hk1 hvm ht
                        obtain ⟨h8, h9⟩ := ret_some hf
                        rw [h8]
                        exact W.vret hx hb hr (fun t ht hW => ⟨⟨(), rfl, trivial, by rw [ht]; exact hP, va_K.moved hW.alike hK, hD⟩, hS.F ht⟩) hS.2.2 dX13_onVector_235
                    refine de_cut (h := 198) (fun (x : St) => []) (fun x ls H locs => lv_has ls 10 [(8, .long v_19), (4, .long r_5), (0, .ref (a h0)), (1, .int x0)] ∧ va_P (dC, dI) vwCl (Wd cy a sh n x) H ∧ va_D A (Wd cy a sh n x) ∧ va_S A s.heap H locs) (fun x => fn_X13_onVector_B198 F sh n x0 r_5 h0 v_19 x) (z8, r8) ?_ (fun B198 => ?_)
                    · intro x ls H locs hI hf
                      obtain ⟨z_27, ez⟩ : ∃ w, w = x := ⟨_, rfl⟩
                      subst ez
                      obtain ⟨hl2, hP2, hD2, hS2⟩ := hI
                      replace hl : lv_has ls 10 [(8, .long v_19), (4, .long r_5), (0, .ref (a h0)), (1, .int x0)] := hl2
                      replace hP := hP2
                      replace hD := hD2
                      replace hS := hS2
                      clear hl2 hP2 hD2 hS2
                      replace hf := fn_X13_onVector_B198_s hf
                      refine W.eq (g2 := F0 m 198 ls []) rfl ?_
                      refine lv_aload_n hx hb dX13_onVector_198 rfl (lv_at hl 2 rfl) ?_
                      refine lv_iload_n hx hb dX13_onVector_199 rfl (lv_at hl 3 rfl) ?_
                      refine lv_bipush (v := 55) hx hb dX13_onVector_200 (by decide) ?_
                      refine de_cut (h := 212) (fun (x : St × Int32) => [.int x.2, .ref (a h0)]) (fun x ls H locs => lv_has ls 10 [(8, .long v_19), (4, .long r_5), (0, .ref (a h0)), (1, .int x0)] ∧ va_P (dC, dI) vwCl (Wd cy a sh n x.1) H ∧ va_D A (Wd cy a sh n x.1) ∧ va_S A s.heap H locs) (fun x => fn_X13_onVector_B212 F sh n r_5 h0 v_19 x0 x.1 x.2) (z8, r8) ?_ (fun B212 => ?_)
                      · intro x ls H locs hI hf
                        obtain ⟨z_29, p_28⟩ := x
                        obtain ⟨hl2, hP2, hD2, hS2⟩ := hI
                        replace hl : lv_has ls 10 [(8, .long v_19), (4, .long r_5), (0, .ref (a h0)), (1, .int x0)] := hl2
                        replace hP := hP2
                        replace hD := hD2
                        replace hS := hS2
                        clear hl2 hP2 hD2 hS2
                        replace hf := fn_X13_onVector_B212_s hf
                        refine W.eq (g2 := F0 m 212 ls [.int p_28, .ref (a h0)]) rfl ?_
                        refine lv_lload hx hb dX13_onVector_212 (lv_at hl 1 rfl) ?_
                        obtain ⟨z_30, r_31, hfc, hf⟩ := cal_some hf
                        have hFc := de_free hD hS hA
                        refine va_calll (va_runS (As := [.int p_28, .long r_5]) (rest := [.ref (a h0)]) ⟨hx, hb, hml, hown, hts⟩ (de_X13_before l dC dI cy a sh n H.size F z_29 p_28 r_5 hfc) (va_cwS 2 hts gX13_onVector_X13_before rfl rfl rfl (by decide +kernel) ⟨Nat.le_of_ble_eq_true rfl, Nat.le_of_ble_eq_true rfl⟩) ⟨fun a U g mk q => by obtain ⟨q0, q1, qP, qK, qD, qN⟩ := q; exact ⟨q0, q1, qP, va_K.moved (u := U) (U := U.calling g mk a) (Vm.Alike.refl U.vm) qK, qD, qN.same rfl⟩, fun U hU hW => ⟨rfl, by rw [hU], by rw [hU]; exact hP, va_K.moved hW.alike hK, hD.weaken (fun _ _ _ _ => trivial), hN.warm hW⟩⟩ rfl rfl hl.1 rfl (lv_room (Nat.le_of_ble_eq_true rfl)) dX13_onVector_214 ⟨Nat.le_of_ble_eq_true rfl, Nat.le_of_ble_eq_true rfl⟩) hS (fun q _ h => hFc q h) hFc (fun rr u t H_32 locs ht hvm hw hB hz1 hk1 hS2 => ?_)
                        rw [hw]
                        clear hw
                        obtain ⟨hP1, -, hD1⟩ := hB
                        rw [ht] at hP1
                        replace hD := hD1.weaken (fun _ _ _ h => hFc _ h)
                        replace hP := hP1
                        replace hS := hS2
                        clear hP1 hD1 hS2 hFc hfc hz1 hk1 hvm ht
                        refine lv_lload hx hb dX13_onVector_217 (lv_at hl 0 rfl) ?_
                        refine lv_iconst (v := 1) hx hb dX13_onVector_219 (by decide) ?_
                        obtain ⟨z_33, _u, hfc, hf⟩ := cal_some hf
                        have hFc := de_free hD hS hA
                        refine va_callv (va_runV (As := [.long r_31, .long v_19, .int 1]) (rest := []) ⟨hx, hb, hml, hown, hts⟩ (de_X13_push l dC dI cy a sh n H_32.size F z_30 h0 r_31 v_19 1 hfc) (cwV 3 hts gX13_onVector_X13_push rfl rfl rfl (by decide +kernel) ⟨Nat.le_of_ble_eq_true rfl, Nat.le_of_ble_eq_true rfl⟩) ⟨fun a U g mk q => by obtain ⟨q0, q1, qP, qK, qD, qN⟩ := q; exact ⟨q0, q1, qP, va_K.moved (u := U) (U := U.calling g mk a) (Vm.Alike.refl U.vm) qK, qD, qN.same rfl⟩, va_recv hK hP (ci := 13) (q0 := h0) rfl (Wd_ob kg_2 sg_2 (by decide)), fun U hU hW => ⟨rfl, by rw [hU], by rw [hU]; exact hP, va_K.moved hW.alike hK, hD.weaken (fun _ _ _ _ => trivial), hN.warm hW⟩⟩ rfl rfl hl.1 rfl (lv_room (Nat.le_of_ble_eq_true rfl)) dX13_onVector_220 ⟨Nat.le_of_ble_eq_true rfl, Nat.le_of_ble_eq_true rfl⟩) hS (fun q _ h => hFc q h) hFc (fun u t H_34 locs ht hvm hw hB hz1 hk1 hS2 => ?_)
                        obtain ⟨hP1, -, hD1⟩ := hB
                        rw [ht] at hP1
                        replace hD := hD1.weaken (fun _ _ _ h => hFc _ h)
                        replace hP := hP1
                        replace hS := hS2
                        clear hP1 hD1 hS2 hFc hfc hz1 hk1 hvm ht
                        exact B223 (z_33) ls H_34 locs ⟨lv_sub hl [1, 2, 3] rfl, hP, hD, hS⟩ hf
                      refine lv_icmp_ne (tgt := 210) hx hb dX13_onVector_202 (by decide) (fun c_35 => ?_) (fun c_35 => ?_)
                      · skip
                        rw [if_neg c_35] at hf
                        refine lv_bipush (v := 8) hx hb dX13_onVector_210 (by decide) ?_
                        exact B212 (z_27, 8) ls H locs ⟨lv_sub hl [0, 1, 2, 3] rfl, hP, hD, hS⟩ hf
                      · skip
                        rw [if_pos c_35] at hf
                        refine lv_bipush (v := 9) hx hb dX13_onVector_205 (by decide) ?_
                        refine lv_goto (tgt := 212) hx hb dX13_onVector_207 (by decide) ?_
                        exact B212 (z_27, 9) ls H locs ⟨lv_sub hl [0, 1, 2, 3] rfl, hP, hD, hS⟩ hf
                    refine lv_icmp_eq (tgt := 198) hx hb dX13_onVector_189 (by decide) (fun c_36 => ?_) (fun c_36 => ?_)
                    · skip
                      rw [if_pos c_36] at hf
                      exact B198 (z_22) ls H locs ⟨lv_sub hl [0, 1, 2, 3] rfl, hP, hD, hS⟩ hf
                    · skip
                      rw [if_neg c_36] at hf
                      refine lv_iload_n hx hb dX13_onVector_192 rfl (lv_at hl 3 rfl) ?_
                      refine lv_bipush (v := 55) hx hb dX13_onVector_193 (by decide) ?_
                      refine lv_icmp_ne (tgt := 223) hx hb dX13_onVector_195 (by decide) (fun c_37 => ?_) (fun c_37 => ?_)
                      · skip
                        rw [if_neg c_37] at hf
                        exact B223 (z_22) ls H locs ⟨lv_sub hl [1, 2, 3] rfl, hP, hD, hS⟩ hf
                      · skip
                        rw [if_pos c_37] at hf
                        exact B198 (z_22) ls H locs ⟨lv_sub hl [0, 1, 2, 3] rfl, hP, hD, hS⟩ hf
                  refine lv_icmp_ne (tgt := 186) hx hb dX13_onVector_176 (by decide) (fun c_38 => ?_) (fun c_38 => ?_)
                  · skip
                    rw [if_neg c_38] at hf
                    exact B186 (z_21) ls H locs ⟨lv_sub hl [0, 1, 2, 3] rfl, hP, hD, hS⟩ hf
                  · skip
                    rw [if_pos c_38] at hf
                    refine lv_aload_n hx hb dX13_onVector_179 rfl (lv_at hl 2 rfl) ?_
                    refine lv_ldc2 hx hb hown (hts _ md_X13_onVector_3) dX13_onVector_180 ?_
                    obtain ⟨z_39, _u, hfc, hf⟩ := cal_some hf
                    have hFc := de_free hD hS hA
                    refine va_callv (va_runV (As := [.long 3]) (rest := []) ⟨hx, hb, hml, hown, hts⟩ (de_X13_give l dC dI cy a sh n H.size F z_21 h0 3 hfc) (cwV 1 hts gX13_onVector_X13_give rfl rfl rfl (by decide +kernel) ⟨Nat.le_of_ble_eq_true rfl, Nat.le_of_ble_eq_true rfl⟩) ⟨fun a U g mk q => by obtain ⟨q0, q1, qP, qK, qD, qN⟩ := q; exact ⟨q0, q1, qP, va_K.moved (u := U) (U := U.calling g mk a) (Vm.Alike.refl U.vm) qK, qD, qN.same rfl⟩, va_recv hK hP (ci := 13) (q0 := h0) rfl (Wd_ob kg_2 sg_2 (by decide)), fun U hU hW => ⟨rfl, by rw [hU], by rw [hU]; exact hP, va_K.moved hW.alike hK, hD.weaken (fun _ _ _ _ => trivial), hN.warm hW⟩⟩ rfl rfl hl.1 rfl (lv_room (Nat.le_of_ble_eq_true rfl)) dX13_onVector_183 ⟨Nat.le_of_ble_eq_true rfl, Nat.le_of_ble_eq_true rfl⟩) hS (fun q _ h => hFc q h) hFc (fun u t H_40 locs ht hvm hw hB hz1 hk1 hS2 => ?_)
                    obtain ⟨hP1, -, hD1⟩ := hB
                    rw [ht] at hP1
                    replace hD := hD1.weaken (fun _ _ _ h => hFc _ h)
                    replace hP := hP1
                    replace hS := hS2
                    clear hP1 hD1 hS2 hFc hfc hz1 hk1 hvm ht
                    exact B186 (z_39) ls H_40 locs ⟨lv_sub hl [0, 1, 2, 3] rfl, hP, hD, hS⟩ hf
                refine lv_icmp_le (tgt := 173) hx hb dX13_onVector_158 (by decide) (fun c_41 => ?_) (fun c_41 => ?_)
                · skip
                  rw [if_pos c_41] at hf
                  exact B173 (z_17) ls H_18 locs ⟨lv_sub hl [0, 1, 2, 3] rfl, hP, hD, hS⟩ hf
                · skip
                  rw [if_neg c_41] at hf
                  refine lv_aload_n hx hb dX13_onVector_161 rfl (lv_at hl 2 rfl) ?_
                  refine lv_aload_n hx hb dX13_onVector_162 rfl (lv_at hl 2 rfl) ?_
                  refine lv_lload hx hb dX13_onVector_163 (lv_at hl 0 rfl) ?_
                  obtain ⟨z_42, r_43, hfc, hf⟩ := cal_some hf
                  have hFc := de_free hD hS hA
                  refine va_calli (va_runV (As := [.long v_19]) (rest := [.ref (a h0)]) ⟨hx, hb, hml, hown, hts⟩ (de_X13_isSole l dC dI cy a sh n H_18.size F z_17 h0 v_19 hfc) (cwV 1 hts gX13_onVector_X13_isSole rfl rfl rfl (by decide +kernel) ⟨Nat.le_of_ble_eq_true rfl, Nat.le_of_ble_eq_true rfl⟩) ⟨fun a U g mk q => by obtain ⟨q0, q1, qP, qK, qD, qN⟩ := q; exact ⟨q0, q1, qP, va_K.moved (u := U) (U := U.calling g mk a) (Vm.Alike.refl U.vm) qK, qD, qN.same rfl⟩, va_recv hK hP (ci := 13) (q0 := h0) rfl (Wd_ob kg_2 sg_2 (by decide)), fun U hU hW => ⟨rfl, by rw [hU], by rw [hU]; exact hP, va_K.moved hW.alike hK, hD.weaken (fun _ _ _ _ => trivial), hN.warm hW⟩⟩ rfl rfl hl.1 rfl (lv_room (Nat.le_of_ble_eq_true rfl)) dX13_onVector_165 ⟨Nat.le_of_ble_eq_true rfl, Nat.le_of_ble_eq_true rfl⟩) hS (fun q _ h => hFc q h) hFc (fun rr u t H_44 locs ht hvm hw hB hz1 hk1 hS2 => ?_)
                  rw [hw]
                  clear hw
                  obtain ⟨hP1, -, hD1⟩ := hB
                  rw [ht] at hP1
                  replace hD := hD1.weaken (fun _ _ _ h => hFc _ h)
                  replace hP := hP1
                  replace hS := hS2
                  clear hP1 hD1 hS2 hFc hfc hz1 hk1 hvm ht
                  refine lv_bipush (v := 6) hx hb dX13_onVector_168 (by decide) ?_
                  obtain ⟨z_45, _u, hfc, hf⟩ := cal_some hf
                  have hFc := de_free hD hS hA
                  refine va_callv (va_runV (As := [.int r_43, .int 6]) (rest := []) ⟨hx, hb, hml, hown, hts⟩ (de_X13_need l dC dI cy a sh n H_44.size F z_42 h0 r_43 6 hfc) (cwV 2 hts gX13_onVector_X13_need rfl rfl rfl (by decide +kernel) ⟨Nat.le_of_ble_eq_true rfl, Nat.le_of_ble_eq_true rfl⟩) ⟨fun a U g mk q => by obtain ⟨q0, q1, qP, qK, qD, qN⟩ := q; exact ⟨q0, q1, qP, va_K.moved (u := U) (U := U.calling g mk a) (Vm.Alike.refl U.vm) qK, qD, qN.same rfl⟩, va_recv hK hP (ci := 13) (q0 := h0) rfl (Wd_ob kg_2 sg_2 (by decide)), fun U hU hW => ⟨rfl, by rw [hU], by rw [hU]; exact hP, va_K.moved hW.alike hK, hD.weaken (fun _ _ _ _ => trivial), hN.warm hW⟩⟩ rfl rfl hl.1 rfl (lv_room (Nat.le_of_ble_eq_true rfl)) dX13_onVector_170 ⟨Nat.le_of_ble_eq_true rfl, Nat.le_of_ble_eq_true rfl⟩) hS (fun q _ h => hFc q h) hFc (fun u t H_46 locs ht hvm hw hB hz1 hk1 hS2 => ?_)
                  obtain ⟨hP1, -, hD1⟩ := hB
                  rw [ht] at hP1
                  replace hD := hD1.weaken (fun _ _ _ h => hFc _ h)
                  replace hP := hP1
                  replace hS := hS2
                  clear hP1 hD1 hS2 hFc hfc hz1 hk1 hvm ht
                  exact B173 (z_45) ls H_46 locs ⟨lv_sub hl [0, 1, 2, 3] rfl, hP, hD, hS⟩ hf
              · skip
                rw [if_neg c_20] at hf
                obtain ⟨h8, h9⟩ := ret_some hf
                rw [h8]
                exact W.vret hx hb hr (fun t ht hW => ⟨⟨(), rfl, trivial, by rw [ht]; exact hP, va_K.moved hW.alike hK, hD⟩, hS.F ht⟩) hS.2.2 dX13_onVector_154
            refine lv_icmp_le (tgt := 137) hx hb dX13_onVector_130 (by decide) (fun c_47 => ?_) (fun c_47 => ?_)
            · skip
              rw [if_pos c_47] at hf
              refine lv_iconst (v := 0) hx hb dX13_onVector_137 (by decide) ?_
              exact B138 (z_14, 0) ls H locs ⟨lv_sub hl [1, 2, 3] rfl, hP, hD, hS⟩ hf
            · skip
              rw [if_neg c_47] at hf
              refine lv_iconst (v := 1) hx hb dX13_onVector_133 (by decide) ?_
              refine lv_goto (tgt := 138) hx hb dX13_onVector_134 (by decide) ?_
              exact B138 (z_14, 1) ls H locs ⟨lv_sub hl [1, 2, 3] rfl, hP, hD, hS⟩ hf
          refine lv_icmp_ne (tgt := 124) hx hb dX13_onVector_115 (by decide) (fun c_48 => ?_) (fun c_48 => ?_)
          · skip
            rw [if_neg c_48] at hf
            exact B124 (z_13) ls H locs ⟨lv_sub hl [0, 1, 2, 3] rfl, hP, hD, hS⟩ hf
          · skip
            rw [if_pos c_48] at hf
            refine lv_aload_n hx hb dX13_onVector_118 rfl (lv_at hl 2 rfl) ?_
            refine lv_lload hx hb dX13_onVector_119 (lv_at hl 1 rfl) ?_
            obtain ⟨z_49, _u, hfc, hf⟩ := cal_some hf
            have hFc := de_free hD hS hA
            refine va_callv (va_runV (As := [.long r_5]) (rest := []) ⟨hx, hb, hml, hown, hts⟩ (de_X13_take_ l dC dI cy a sh n H.size F z_13 h0 r_5 hfc) (cwV 1 hts gX13_onVector_X13_take_ rfl rfl rfl (by decide +kernel) ⟨Nat.le_of_ble_eq_true rfl, Nat.le_of_ble_eq_true rfl⟩) ⟨fun a U g mk q => by obtain ⟨q0, q1, qP, qK, qD, qN⟩ := q; exact ⟨q0, q1, qP, va_K.moved (u := U) (U := U.calling g mk a) (Vm.Alike.refl U.vm) qK, qD, qN.same rfl⟩, va_recv hK hP (ci := 13) (q0 := h0) rfl (Wd_ob kg_2 sg_2 (by decide)), fun U hU hW => ⟨rfl, by rw [hU], by rw [hU]; exact hP, va_K.moved hW.alike hK, hD.weaken (fun _ _ _ _ => trivial), hN.warm hW⟩⟩ rfl rfl hl.1 rfl (lv_room (Nat.le_of_ble_eq_true rfl)) dX13_onVector_121 ⟨Nat.le_of_ble_eq_true rfl, Nat.le_of_ble_eq_true rfl⟩) hS (fun q _ h => hFc q h) hFc (fun u t H_50 locs ht hvm hw hB hz1 hk1 hS2 => ?_)
            obtain ⟨hP1, -, hD1⟩ := hB
            rw [ht] at hP1
            replace hD := hD1.weaken (fun _ _ _ h => hFc _ h)
            replace hP := hP1
            replace hS := hS2
            clear hP1 hD1 hS2 hFc hfc hz1 hk1 hvm ht
            exact B124 (z_49) ls H_50 locs ⟨lv_sub hl [0, 1, 2, 3] rfl, hP, hD, hS⟩ hf
        refine lv_icmp_ne (tgt := 112) hx hb dX13_onVector_102 (by decide) (fun c_51 => ?_) (fun c_51 => ?_)
        · skip
          rw [if_neg c_51] at hf
          exact B112 (z_12) ls H locs ⟨lv_sub hl [0, 1, 2, 3] rfl, hP, hD, hS⟩ hf
        · skip
          rw [if_pos c_51] at hf
          refine lv_aload_n hx hb dX13_onVector_105 rfl (lv_at hl 2 rfl) ?_
          refine lv_ldc2 hx hb hown (hts _ md_X13_onVector_3) dX13_onVector_106 ?_
          obtain ⟨z_52, _u, hfc, hf⟩ := cal_some hf
          have hFc := de_free hD hS hA
          refine va_callv (va_runV (As := [.long 3]) (rest := []) ⟨hx, hb, hml, hown, hts⟩ (de_X13_take_ l dC dI cy a sh n H.size F z_12 h0 3 hfc) (cwV 1 hts gX13_onVector_X13_take_ rfl rfl rfl (by decide +kernel) ⟨Nat.le_of_ble_eq_true rfl, Nat.le_of_ble_eq_true rfl⟩) ⟨fun a U g mk q => by obtain ⟨q0, q1, qP, qK, qD, qN⟩ := q; exact ⟨q0, q1, qP, va_K.moved (u := U) (U := U.calling g mk a) (Vm.Alike.refl U.vm) qK, qD, qN.same rfl⟩, va_recv hK hP (ci := 13) (q0 := h0) rfl (Wd_ob kg_2 sg_2 (by decide)), fun U hU hW => ⟨rfl, by rw [hU], by rw [hU]; exact hP, va_K.moved hW.alike hK, hD.weaken (fun _ _ _ _ => trivial), hN.warm hW⟩⟩ rfl rfl hl.1 rfl (lv_room (Nat.le_of_ble_eq_true rfl)) dX13_onVector_109 ⟨Nat.le_of_ble_eq_true rfl, Nat.le_of_ble_eq_true rfl⟩) hS (fun q _ h => hFc q h) hFc (fun u t H_53 locs ht hvm hw hB hz1 hk1 hS2 => ?_)
          obtain ⟨hP1, -, hD1⟩ := hB
          rw [ht] at hP1
          replace hD := hD1.weaken (fun _ _ _ h => hFc _ h)
          replace hP := hP1
          replace hS := hS2
          clear hP1 hD1 hS2 hFc hfc hz1 hk1 hvm ht
          exact B112 (z_52) ls H_53 locs ⟨lv_sub hl [0, 1, 2, 3] rfl, hP, hD, hS⟩ hf
      refine de_cut (h := 92) (fun (x : St) => []) (fun x ls H locs => lv_has ls 10 [(6, .long r_9), (4, .long r_5), (0, .ref (a h0)), (1, .int x0)] ∧ va_P (dC, dI) vwCl (Wd cy a sh n x) H ∧ va_D A (Wd cy a sh n x) ∧ va_S A s.heap H locs) (fun x => fn_X13_onVector_B92 F sh n h0 x0 r_5 r_9 x) (z8, r8) ?_ (fun B92 => ?_)
      · intro x ls H locs hI hf
        obtain ⟨z_54, ez⟩ : ∃ w, w = x := ⟨_, rfl⟩
        subst ez
        obtain ⟨hl2, hP2, hD2, hS2⟩ := hI
        replace hl : lv_has ls 10 [(6, .long r_9), (4, .long r_5), (0, .ref (a h0)), (1, .int x0)] := hl2
        replace hP := hP2
        replace hD := hD2
        replace hS := hS2
        clear hl2 hP2 hD2 hS2
        replace hf := fn_X13_onVector_B92_s hf
        refine W.eq (g2 := F0 m 92 ls []) rfl ?_
        refine lv_aload_n hx hb dX13_onVector_92 rfl (lv_at hl 2 rfl) ?_
        refine lv_ldc2 hx hb hown (hts _ md_X13_onVector_3) dX13_onVector_93 ?_
        obtain ⟨z_55, _u, hfc, hf⟩ := cal_some hf
        have hFc := de_free hD hS hA
        refine va_callv (va_runV (As := [.long 3]) (rest := []) ⟨hx, hb, hml, hown, hts⟩ (de_X13_take_ l dC dI cy a sh n H.size F z_54 h0 3 hfc) (cwV 1 hts gX13_onVector_X13_take_ rfl rfl rfl (by decide +kernel) ⟨Nat.le_of_ble_eq_true rfl, Nat.le_of_ble_eq_true rfl⟩) ⟨fun a U g mk q => by obtain ⟨q0, q1, qP, qK, qD, qN⟩ := q; exact ⟨q0, q1, qP, va_K.moved (u := U) (U := U.calling g mk a) (Vm.Alike.refl U.vm) qK, qD, qN.same rfl⟩, va_recv hK hP (ci := 13) (q0 := h0) rfl (Wd_ob kg_2 sg_2 (by decide)), fun U hU hW => ⟨rfl, by rw [hU], by rw [hU]; exact hP, va_K.moved hW.alike hK, hD.weaken (fun _ _ _ _ => trivial), hN.warm hW⟩⟩ rfl rfl hl.1 rfl (lv_room (Nat.le_of_ble_eq_true rfl)) dX13_onVector_96 ⟨Nat.le_of_ble_eq_true rfl, Nat.le_of_ble_eq_true rfl⟩) hS (fun q _ h => hFc q h) hFc (fun u t H_56 locs ht hvm hw hB hz1 hk1 hS2 => ?_)
        obtain ⟨hP1, -, hD1⟩ := hB
        rw [ht] at hP1
        replace hD := hD1.weaken (fun _ _ _ h => hFc _ h)
        replace hP := hP1
        replace hS := hS2
        clear hP1 hD1 hS2 hFc hfc hz1 hk1 hvm ht
        exact B99 (z_55) ls H_56 locs ⟨lv_sub hl [0, 1, 2, 3] rfl, hP, hD, hS⟩ hf
      refine lv_icmp_eq (tgt := 92) hx hb dX13_onVector_77 (by decide) (fun c_57 => ?_) (fun c_57 => ?_)
      · skip
        rw [if_pos c_57] at hf
        exact B92 (z_8) ls H_10 locs ⟨lv_sub hl [0, 1, 2, 3] rfl, hP, hD, hS⟩ hf
      · skip
        rw [if_neg c_57] at hf
        refine lv_iload_n hx hb dX13_onVector_80 rfl (lv_at hl 3 rfl) ?_
        refine lv_bipush (v := 55) hx hb dX13_onVector_81 (by decide) ?_
        refine lv_icmp_eq (tgt := 92) hx hb dX13_onVector_83 (by decide) (fun c_58 => ?_) (fun c_58 => ?_)
        · skip
          rw [if_pos c_58] at hf
          exact B92 (z_8) ls H_10 locs ⟨lv_sub hl [0, 1, 2, 3] rfl, hP, hD, hS⟩ hf
        · skip
          rw [if_neg c_58] at hf
          refine lv_iload_n hx hb dX13_onVector_86 rfl (lv_at hl 3 rfl) ?_
          refine lv_bipush (v := 58) hx hb dX13_onVector_87 (by decide) ?_
          refine lv_icmp_ne (tgt := 99) hx hb dX13_onVector_89 (by decide) (fun c_59 => ?_) (fun c_59 => ?_)
          · skip
            rw [if_neg c_59] at hf
            exact B99 (z_8) ls H_10 locs ⟨lv_sub hl [0, 1, 2, 3] rfl, hP, hD, hS⟩ hf
          · skip
            rw [if_pos c_59] at hf
            exact B92 (z_8) ls H_10 locs ⟨lv_sub hl [0, 1, 2, 3] rfl, hP, hD, hS⟩ hf
    · skip
      rw [if_pos c_11] at hf
      refine lv_iconst (v := 0) hx hb dX13_onVector_46 (by decide) ?_
      refine lv_istore (lv' := [(8, .int 0), (6, .long r_9), (4, .long r_5), (0, .ref (a h0)), (1, .int x0), (2, .int x1), (3, .int x2)]) hx hb dX13_onVector_47 hl (by decide) rfl (fun ls hl2 => ?_)
      replace hl := hl2
      clear hl2
      have hl0 : lv_has ls 10 [(8, .int 0), (6, .long r_9), (4, .long r_5), (0, .ref (a h0)), (3, .int x2)] := lv_sub hl [0, 1, 2, 3, 6] rfl
      refine de_loop (h := 49) (fun (x : St × Int32) ls H locs => lv_has ls 10 [(8, .int x.2), (6, .long r_9), (4, .long r_5), (0, .ref (a h0)), (3, .int x2)] ∧ va_P (dC, dI) vwCl (Wd cy a sh n x.1) H ∧ va_D A (Wd cy a sh n x.1) ∧ va_S A s.heap H locs) (fun f x => fn_X13_onVector_L49 F sh n x2 h0 r_9 r_5 f x.1 x.2) (z8, r8) ?_ (fun _ => rfl) F (z_8, 0) ls H_10 locs ⟨hl0, hP, hD, hS⟩ hf
      intro f_62 x ls H locs ih49 hI hf
      obtain ⟨z_61, p_60⟩ := x
      obtain ⟨hl2, hP2, hD2, hS2⟩ := hI
      replace hl : lv_has ls 10 [(8, .int p_60), (6, .long r_9), (4, .long r_5), (0, .ref (a h0)), (3, .int x2)] := hl2
      replace hP := hP2
      replace hD := hD2
      replace hS := hS2
      clear hl2 hP2 hD2 hS2 hl0
      replace hf := fn_X13_onVector_L49_s hf
      refine lv_iload hx hb dX13_onVector_49 (lv_at hl 0 rfl) ?_
      refine lv_iload_n hx hb dX13_onVector_51 rfl (lv_at hl 4 rfl) ?_
      refine lv_icmp_ge (tgt := 67) hx hb dX13_onVector_52 (by decide) (fun c_63 => ?_) (fun c_63 => ?_)
      · skip
        rw [if_pos c_63] at hf
        refine lv_aload_n hx hb dX13_onVector_67 rfl (lv_at hl 3 rfl) ?_
        refine lv_lload hx hb dX13_onVector_68 (lv_at hl 1 rfl) ?_
        obtain ⟨z_64, _u, hfc, hf⟩ := cal_some hf
        have hFc := de_free hD hS hA
        refine va_callv (va_runV (As := [.long r_9]) (rest := []) ⟨hx, hb, hml, hown, hts⟩ (de_X13_give l dC dI cy a sh n H.size F z_61 h0 r_9 hfc) (cwV 1 hts gX13_onVector_X13_give rfl rfl rfl (by decide +kernel) ⟨Nat.le_of_ble_eq_true rfl, Nat.le_of_ble_eq_true rfl⟩) ⟨fun a U g mk q => by obtain ⟨q0, q1, qP, qK, qD, qN⟩ := q; exact ⟨q0, q1, qP, va_K.moved (u := U) (U := U.calling g mk a) (Vm.Alike.refl U.vm) qK, qD, qN.same rfl⟩, va_recv hK hP (ci := 13) (q0 := h0) rfl (Wd_ob kg_2 sg_2 (by decide)), fun U hU hW => ⟨rfl, by rw [hU], by rw [hU]; exact hP, va_K.moved hW.alike hK, hD.weaken (fun _ _ _ _ => trivial), hN.warm hW⟩⟩ rfl rfl hl.1 rfl (lv_room (Nat.le_of_ble_eq_true rfl)) dX13_onVector_70 ⟨Nat.le_of_ble_eq_true rfl, Nat.le_of_ble_eq_true rfl⟩) hS (fun q _ h => hFc q h) hFc (fun u t H_65 locs ht hvm hw hB hz1 hk1 hS2 => ?_)
        obtain ⟨hP1, -, hD1⟩ := hB
        rw [ht] at hP1
        replace hD := hD1.weaken (fun _ _ _ h => hFc _ h)
        replace hP := hP1
        replace hS := hS2
        clear hP1 hD1 hS2 hFc hfc hz1 hk1 hvm ht
        obtain ⟨h8, h9⟩ := ret_some hf
        rw [h8]
        exact W.vret hx hb hr (fun t ht hW => ⟨⟨(), rfl, trivial, by rw [ht]; exact hP, va_K.moved hW.alike hK, hD⟩, hS.F ht⟩) hS.2.2 dX13_onVector_73
      · skip
        rw [if_neg c_63] at hf
        refine lv_aload_n hx hb dX13_onVector_55 rfl (lv_at hl 3 rfl) ?_
        refine lv_lload hx hb dX13_onVector_56 (lv_at hl 2 rfl) ?_
        obtain ⟨z_66, _u, hfc, hf⟩ := cal_some hf
        have hFc := de_free hD hS hA
        refine va_callv (va_runV (As := [.long r_5]) (rest := []) ⟨hx, hb, hml, hown, hts⟩ (de_X13_take_ l dC dI cy a sh n H.size F z_61 h0 r_5 hfc) (cwV 1 hts gX13_onVector_X13_take_ rfl rfl rfl (by decide +kernel) ⟨Nat.le_of_ble_eq_true rfl, Nat.le_of_ble_eq_true rfl⟩) ⟨fun a U g mk q => by obtain ⟨q0, q1, qP, qK, qD, qN⟩ := q; exact ⟨q0, q1, qP, va_K.moved (u := U) (U := U.calling g mk a) (Vm.Alike.refl U.vm) qK, qD, qN.same rfl⟩, va_recv hK hP (ci := 13) (q0 := h0) rfl (Wd_ob kg_2 sg_2 (by decide)), fun U hU hW => ⟨rfl, by rw [hU], by rw [hU]; exact hP, va_K.moved hW.alike hK, hD.weaken (fun _ _ _ _ => trivial), hN.warm hW⟩⟩ rfl rfl hl.1 rfl (lv_room (Nat.le_of_ble_eq_true rfl)) dX13_onVector_58 ⟨Nat.le_of_ble_eq_true rfl, Nat.le_of_ble_eq_true rfl⟩) hS (fun q _ h => hFc q h) hFc (fun u t H_67 locs ht hvm hw hB hz1 hk1 hS2 => ?_)
        obtain ⟨hP1, -, hD1⟩ := hB
        rw [ht] at hP1
        replace hD := hD1.weaken (fun _ _ _ h => hFc _ h)
        replace hP := hP1
        replace hS := hS2
        clear hP1 hD1 hS2 hFc hfc hz1 hk1 hvm ht
        refine lv_iinc (v := (p_60 + 1)) (lv' := [(8, .int (p_60 + 1)), (6, .long r_9), (4, .long r_5), (0, .ref (a h0)), (3, .int x2)]) hx hb dX13_onVector_61 hl (k := 0) rfl rfl (by decide) rfl (fun ls hl2 => ?_)
        replace hl := hl2
        clear hl2
        refine lv_goto (tgt := 49) hx hb dX13_onVector_64 (by decide) ?_
        exact ih49 (z_66, (p_60 + 1)) ls H_67 locs ⟨lv_sub hl [0, 1, 2, 3, 4] rfl, hP, hD, hS⟩ hf
  · skip
    rw [if_pos c_1] at hf
    refine lv_aload_n hx hb dX13_onVector_6 rfl (lv_at hl 0 rfl) ?_
    refine lv_ldc2 hx hb hown (hts _ md_X13_onVector_1) dX13_onVector_7 ?_
    obtain ⟨g_69, hf⟩ := grd_some hf
    obtain ⟨kg_69, sg_69⟩ := okO_at g_69
    obtain ⟨z_68, _u, hfc, hf⟩ := cal_some hf
    have hFc := de_free hD hS hA
    refine va_callv (va_runV (As := [.long 1794]) (rest := []) ⟨hx, hb, hml, hown, hts⟩ (de_X13_take_ l dC dI cy a sh n H.size F z h0 1794 hfc) (cwV 1 hts gX13_onVector_X13_take_ rfl rfl rfl (by decide +kernel) ⟨Nat.le_of_ble_eq_true rfl, Nat.le_of_ble_eq_true rfl⟩) ⟨fun a U g mk q => by obtain ⟨q0, q1, qP, qK, qD, qN⟩ := q; exact ⟨q0, q1, qP, va_K.moved (u := U) (U := U.calling g mk a) (Vm.Alike.refl U.vm) qK, qD, qN.same rfl⟩, va_recv hK hP (ci := 13) (q0 := h0) rfl (Wd_ob kg_69 sg_69 (by decide)), fun U hU hW => ⟨rfl, by rw [hU], by rw [hU]; exact hP, va_K.moved hW.alike hK, hD.weaken (fun _ _ _ _ => trivial), hN.warm hW⟩⟩ rfl rfl hl.1 rfl (lv_room (Nat.le_of_ble_eq_true rfl)) dX13_onVector_10 ⟨Nat.le_of_ble_eq_true rfl, Nat.le_of_ble_eq_true rfl⟩) hS (fun q _ h => hFc q h) hFc (fun u t H_70 locs ht hvm hw hB hz1 hk1 hS2 => ?_)
    obtain ⟨hP1, -, hD1⟩ := hB
    rw [ht] at hP1
    replace hD := hD1.weaken (fun _ _ _ h => hFc _ h)
    replace hP := hP1
    replace hS := hS2
    clear hP1 hD1 hS2 hFc hfc hz1 hk1 hvm ht
    refine lv_aload_n hx hb dX13_onVector_13 rfl (lv_at hl 0 rfl) ?_
    refine lv_ldc2 hx hb hown (hts _ md_X13_onVector_1) dX13_onVector_14 ?_
    obtain ⟨z_71, _u, hfc, hf⟩ := cal_some hf
    have hFc := de_free hD hS hA
    refine va_callv (va_runV (As := [.long 1794]) (rest := []) ⟨hx, hb, hml, hown, hts⟩ (de_X13_give l dC dI cy a sh n H_70.size F z_68 h0 1794 hfc) (cwV 1 hts gX13_onVector_X13_give rfl rfl rfl (by decide +kernel) ⟨Nat.le_of_ble_eq_true rfl, Nat.le_of_ble_eq_true rfl⟩) ⟨fun a U g mk q => by obtain ⟨q0, q1, qP, qK, qD, qN⟩ := q; exact ⟨q0, q1, qP, va_K.moved (u := U) (U := U.calling g mk a) (Vm.Alike.refl U.vm) qK, qD, qN.same rfl⟩, va_recv hK hP (ci := 13) (q0 := h0) rfl (Wd_ob kg_69 sg_69 (by decide)), fun U hU hW => ⟨rfl, by rw [hU], by rw [hU]; exact hP, va_K.moved hW.alike hK, hD.weaken (fun _ _ _ _ => trivial), hN.warm hW⟩⟩ rfl rfl hl.1 rfl (lv_room (Nat.le_of_ble_eq_true rfl)) dX13_onVector_17 ⟨Nat.le_of_ble_eq_true rfl, Nat.le_of_ble_eq_true rfl⟩) hS (fun q _ h => hFc q h) hFc (fun u t H_72 locs ht hvm hw hB hz1 hk1 hS2 => ?_)
    obtain ⟨hP1, -, hD1⟩ := hB
    rw [ht] at hP1
    replace hD := hD1.weaken (fun _ _ _ h => hFc _ h)
    replace hP := hP1
    replace hS := hS2
    clear hP1 hD1 hS2 hFc hfc hz1 hk1 hvm ht
    obtain ⟨h8, h9⟩ := ret_some hf
    rw [h8]
    exact W.vret hx hb hr (fun t ht hW => ⟨⟨(), rfl, trivial, by rw [ht]; exact hP, va_K.moved hW.alike hK, hD⟩, hS.F ht⟩) hS.2.2 dX13_onVector_20

theorem md_X9_addPlace_1 : (.fieldLink RX9 18 "ResourceLedger$Tree" "digest" "LResourceLedger$Digest;" : Cond) ∈ wsX9_addPlace := List.mem_of_getElem? (i := 1) rfl
theorem iwd_X9_addPlace_X9 : ∀ w ∈ wsX90, w ∈ wsX9_addPlace := fun _ h => List.mem_cons_of_mem _ (List.mem_append_left _ (List.mem_append_right _ h))
theorem md_X9_addPlace_2 : (.fieldLink RX9 52 "ResourceLedger$Tree" "count" "I" : Cond) ∈ wsX9_addPlace := List.mem_of_getElem? (i := 2) rfl
theorem md_X9_addPlace_3 : (.fieldLink RX9 22 "ResourceLedger$Tree" "rows" "[J" : Cond) ∈ wsX9_addPlace := List.mem_of_getElem? (i := 3) rfl
theorem md_X9_addPlace_4 : (.fieldLink RX9 28 "ResourceLedger$Tree" "value" "[J" : Cond) ∈ wsX9_addPlace := List.mem_of_getElem? (i := 4) rfl
theorem md_X9_addPlace_5 : (.fieldLink RX9 25 "ResourceLedger$Tree" "leaves" "[J" : Cond) ∈ wsX9_addPlace := List.mem_of_getElem? (i := 5) rfl
theorem md_X9_addPlace_6 : (.fieldLink RX9 31 "ResourceLedger$Tree" "order" "[I" : Cond) ∈ wsX9_addPlace := List.mem_of_getElem? (i := 6) rfl
set_option maxHeartbeats 4000000 in
set_option maxRecDepth 100000 in
theorem de_X9_addPlace (l : Launch) (dC : Nat → ClassId) (dI : Nat → Nat → Nat) (cy : Nat → ClassId) (a : Nat → Nat) (sh : Nat → Nat × Nat) (n sz : Nat) (F : Nat) (sk : Nat → Nat) (z : St) (h0 : Nat) (x0 : Int32) (x1 : Int64) (x2 : Int32) (x3 : Int32) {z8 : St} {r8 : Unit} (hf : fn_X9_addPlace F sh n z h0 x0 x1 x2 x3 = some (z8, r8)) : Met l yX9_addPlace wsX9_addPlace ({ frames := 4, cells := 0, slots := 0, locals := 99 }) (va_Pc [.ref (a h0), .int x0, .long x1, .int x2, .int x3] (fun U => U.heap.size = sz ∧ va_P (dC, dI) vwCl (Wd cy a sh n z) U.heap ∧ va_K (dC, dI) vwCl (TYS cy) U ∧ va_D (fun _ => True) (Wd cy a sh n z) ∧ NK U ∧ SKs sk (a CBK) (va_A (Wd cy a sh n z) sz) U U.heap)) (va_Qv (fun u : Unit => True) (fun u t => va_P (dC, dI) vwCl (Wd cy a sh n z8) t.heap ∧ va_K (dC, dI) vwCl (TYS cy) t ∧ va_D (va_A (Wd cy a sh n z) sz) (Wd cy a sh n z8)) (va_A (Wd cy a sh n z) sz)) 0 0 (va_A (Wd cy a sh n z) sz) := by
  refine Met.ofW (cc := cX9_addPlace) (maxL := 8) (ret := none) (by decide) rfl ?_
  intro p e s m args below meth c s₁ B hml hv
  obtain ⟨rfl, hsz, hP, hK, hD0, hN, hSK⟩ := hv
  have hx := B.exec
  have hb := B.bytes
  have hr := B.returns
  have hts := atoms_spec (ws := wsX9_addPlace) B.pre
  have hown : s.vm.findClass RX9 = some m.cls := findClass_of_methodNamed B.named
  have hlocks := B.notSynchronized
  subst hsz
  have hD := hD0.self (sz := s.heap.size)
  clear hD0
  generalize hAe : va_A (Wd cy a sh n z) s.heap.size = A at hD hSK ⊢
  have hA : ∀ q : Nat, s.heap.size ≤ q → A q := fun q h => by rw [← hAe]; exact Or.inr h
  clear hAe
  have hS : va_S A s.heap s.heap [] := va_S.rf
  have hl := lv_entry ([.ref (a h0), .int x0, .long x1, .int x2, .int x3]) (n := 8) (Nat.le_of_ble_eq_true rfl)
  rw [lg_entry_eq]
  generalize (lg_sl ([.ref (a h0), .int x0, .long x1, .int x2, .int x3]) ++ List.replicate (8 - (lg_sl ([.ref (a h0), .int x0, .long x1, .int x2, .int x3])).length) Slot.unset).toArray = ls at hl ⊢
  replace hl : lv_has ls 8 [(0, .ref (a h0)), (1, .int x0), (2, .long x1), (4, .int x2), (5, .int x3)] := hl
  unfold fn_X9_addPlace at hf
  refine de_start hS hP (fun H locs hS hP => ?_)
  refine lv_aload_n hx hb dX9_addPlace_0 rfl (lv_at hl 0 rfl) ?_
  obtain ⟨g_1, hf⟩ := grd_some hf
  obtain ⟨kg_1, sg_1⟩ := okO_at g_1
  obtain ⟨k_2, ek_2, hf⟩ := lnk_some hf
  refine va_get (D := (dC, dI)) (ci := 9) (v := .ref (a k_2)) (C := RX9) (T := TX9) (N := 13) hx hb hts iwd_X9_addPlace_X9 hown hK hP h0 (Wd_ob kg_1 sg_1 (by decide)) rfl 2 (by decide) (hts _ md_X9_addPlace_1) (fun _ h9 => h9) (fl_q rfl ek_2) dX9_addPlace_1 ?_
  obtain ⟨g_4, hf⟩ := grd_some hf
  obtain ⟨kg_4, sg_4⟩ := okO_at g_4
  obtain ⟨z_3, _u, hfc, hf⟩ := cal_some hf
  have hFc := de_free hD hS hA
  refine va_callv (va_runV (As := []) (rest := []) ⟨hx, hb, hml, hown, hts⟩ (de_X0_finish l dC dI cy a sh n H.size F sk z k_2 hfc) (cwV 0 hts gX9_addPlace_X0_finish rfl rfl rfl (by decide +kernel) ⟨Nat.le_of_ble_eq_true rfl, Nat.le_of_ble_eq_true rfl⟩) ⟨fun a U g mk q => by obtain ⟨q0, q1, qP, qK, qD, qN, qS⟩ := q; exact ⟨q0, q1, qP, va_K.moved (u := U) (U := U.calling g mk a) (Vm.Alike.refl U.vm) qK, qD, qN.same rfl, SKs.moved (u := U) (U := U.calling g mk a) (Vm.Alike.refl U.vm) qS⟩, va_recv hK hP (ci := 0) (q0 := k_2) rfl (Wd_ob kg_4 sg_4 (by decide)), fun U hU hW => ⟨rfl, by rw [hU], by rw [hU]; exact hP, va_K.moved hW.alike hK, hD.weaken (fun _ _ _ _ => trivial), hN.warm hW, by rw [hU]; exact ((hSK.kept hS.2.1).narrow hFc).moved hW.alike⟩⟩ rfl rfl hl.1 rfl (lv_room (Nat.le_of_ble_eq_true rfl)) dX9_addPlace_4 ⟨Nat.le_of_ble_eq_true rfl, Nat.le_of_ble_eq_true rfl⟩) hS (fun q _ h => hFc q h) hFc (fun u t H_5 locs ht hvm hw hB hz1 hk1 hS2 => ?_)
  obtain ⟨hP1, -, hD1⟩ := hB
  rw [ht] at hP1
  replace hD := hD1.weaken (fun _ _ _ h => hFc _ h)
  replace hP := hP1
  replace hS := hS2
  clear hP1 hD1 hS2 hFc hfc hz1 hk1 hvm ht
  refine lv_aload_n hx hb dX9_addPlace_7 rfl (lv_at hl 0 rfl) ?_
  refine va_get (D := (dC, dI)) (ci := 9) (v := .int (z_3.1 h0 7)) (C := RX9) (T := TX9) (N := 13) hx hb hts iwd_X9_addPlace_X9 hown hK hP h0 (Wd_ob kg_1 sg_1 (by decide)) rfl 7 (by decide) (hts _ md_X9_addPlace_2) (fun _ h9 => h9) (fl_at (t := 0) rfl) dX9_addPlace_8 ?_
  refine lv_sipush (v := 256) hx hb dX9_addPlace_11 (by decide) ?_
  refine lv_icmp_lt (tgt := 18) hx hb dX9_addPlace_14 (by decide) (fun c_6 => ?_) (fun c_6 => ?_)
  · skip
    rw [if_pos c_6] at hf
    refine lv_aload_n hx hb dX9_addPlace_18 rfl (lv_at hl 0 rfl) ?_
    refine va_get (D := (dC, dI)) (ci := 9) (v := .int (z_3.1 h0 7)) (C := RX9) (T := TX9) (N := 13) hx hb hts iwd_X9_addPlace_X9 hown hK hP h0 (Wd_ob kg_1 sg_1 (by decide)) rfl 7 (by decide) (hts _ md_X9_addPlace_2) (fun _ h9 => h9) (fl_at (t := 0) rfl) dX9_addPlace_19 ?_
    refine lv_bipush (v := 7) hx hb dX9_addPlace_22 (by decide) ?_
    refine lv_imul hx hb dX9_addPlace_24 ?_
    refine lv_topi (fun v_7 ev_7 => ?_)
    replace hf := lt_at ev_7 hf
    clear ev_7
    refine lv_istore (lv' := [(6, .int v_7), (0, .ref (a h0)), (1, .int x0), (2, .long x1), (4, .int x2), (5, .int x3)]) hx hb dX9_addPlace_25 hl (by decide) rfl (fun ls hl2 => ?_)
    replace hl := hl2
    clear hl2
    refine lv_aload_n hx hb dX9_addPlace_27 rfl (lv_at hl 1 rfl) ?_
    obtain ⟨k_8, ek_8, hf⟩ := lnk_some hf
    refine va_get (D := (dC, dI)) (ci := 9) (v := .ref (a k_8)) (C := RX9) (T := TX9) (N := 13) hx hb hts iwd_X9_addPlace_X9 hown hK hP h0 (Wd_ob kg_1 sg_1 (by decide)) rfl 2 (by decide) (hts _ md_X9_addPlace_1) (fun _ h9 => h9) (fl_q rfl ek_8) dX9_addPlace_28 ?_
    refine lv_aload_n hx hb dX9_addPlace_31 rfl (lv_at hl 1 rfl) ?_
    obtain ⟨k_9, ek_9, hf⟩ := lnk_some hf
    refine va_get (D := (dC, dI)) (ci := 9) (v := .ref (a k_9)) (C := RX9) (T := TX9) (N := 13) hx hb hts iwd_X9_addPlace_X9 hown hK hP h0 (Wd_ob kg_1 sg_1 (by decide)) rfl 3 (by decide) (hts _ md_X9_addPlace_3) (fun _ h9 => h9) (fl_q rfl ek_9) dX9_addPlace_32 ?_
    refine lv_iload hx hb dX9_addPlace_35 (lv_at hl 0 rfl) ?_
    obtain ⟨g_11, hf⟩ := grd_some hf
    obtain ⟨kg_11, sg_11⟩ := okO_at g_11
    obtain ⟨z_10, _u, hfc, hf⟩ := cal_some hf
    have hFc := de_free hD hS hA
    refine va_callv (va_runV (As := [.ref (a k_9), .int v_7]) (rest := []) ⟨hx, hb, hml, hown, hts⟩ (de_X0_copyTo l dC dI cy a sh n H_5.size F z_3 k_8 k_9 v_7 hfc) (cwV 2 hts gX9_addPlace_X0_copyTo rfl rfl rfl (by decide +kernel) ⟨Nat.le_of_ble_eq_true rfl, Nat.le_of_ble_eq_true rfl⟩) ⟨fun a U g mk q => by obtain ⟨q0, q1, qP, qK, qD, qN⟩ := q; exact ⟨q0, q1, qP, va_K.moved (u := U) (U := U.calling g mk a) (Vm.Alike.refl U.vm) qK, qD, qN.same rfl⟩, va_recv hK hP (ci := 0) (q0 := k_8) rfl (Wd_ob kg_11 sg_11 (by decide)), fun U hU hW => ⟨rfl, by rw [hU], by rw [hU]; exact hP, va_K.moved hW.alike hK, hD.weaken (fun _ _ _ _ => trivial), hN.warm hW⟩⟩ rfl rfl hl.1 rfl (lv_room (Nat.le_of_ble_eq_true rfl)) dX9_addPlace_37 ⟨Nat.le_of_ble_eq_true rfl, Nat.le_of_ble_eq_true rfl⟩) hS (fun q _ h => hFc q h) hFc (fun u t H_12 locs ht hvm hw hB hz1 hk1 hS2 => ?_)
    obtain ⟨hP1, -, hD1⟩ := hB
    rw [ht] at hP1
    replace hD := hD1.weaken (fun _ _ _ h => hFc _ h)
    replace hP := hP1
    replace hS := hS2
    clear hP1 hD1 hS2 hFc hfc hz1 hk1 hvm ht
    refine lv_aload_n hx hb dX9_addPlace_40 rfl (lv_at hl 1 rfl) ?_
    obtain ⟨k_13, ek_13, hf⟩ := lnk_some hf
    refine va_get (D := (dC, dI)) (ci := 9) (v := .ref (a k_13)) (C := RX9) (T := TX9) (N := 13) hx hb hts iwd_X9_addPlace_X9 hown hK hP h0 (Wd_ob kg_1 sg_1 (by decide)) rfl 3 (by decide) (hts _ md_X9_addPlace_3) (fun _ h9 => h9) (fl_q rfl ek_13) dX9_addPlace_41 ?_
    refine lv_iload hx hb dX9_addPlace_44 (lv_at hl 0 rfl) ?_
    refine lv_iconst (v := 4) hx hb dX9_addPlace_46 (by decide) ?_
    refine lv_iadd hx hb dX9_addPlace_47 ?_
    refine lv_iload_n hx hb dX9_addPlace_48 rfl (lv_at hl 2 rfl) ?_
    refine lv_i2l (v := (x0 : Int32).toInt64) hx hb dX9_addPlace_49 rfl ?_
    obtain ⟨g_14, hf⟩ := grd_some hf
    obtain ⟨kg_14, sg_14, ig_14⟩ := okA_at g_14
    refine va_last hx hb hK hP hD hS k_13 2 (Wd_al kg_14 sg_14) rfl ig_14 dX9_addPlace_50 (fun H_15 locs hP2 hD2 hS2 => ?_)
    rw [Wd_tl sg_14] at hP2 hD2
    obtain ⟨z_16, ez_16⟩ : ∃ w, w = sl z_10 k_13 (v_7 + 4).toNatClampNeg ((x0 : Int32).toInt64) := ⟨_, rfl⟩
    rw [← ez_16] at hP2 hD2
    replace hf := lt_at ez_16 hf
    clear ez_16
    replace hP := hP2
    replace hD := hD2
    replace hS := hS2
    clear hP2 hD2 hS2
    refine lv_aload_n hx hb dX9_addPlace_51 rfl (lv_at hl 1 rfl) ?_
    obtain ⟨k_17, ek_17, hf⟩ := lnk_some hf
    refine va_get (D := (dC, dI)) (ci := 9) (v := .ref (a k_17)) (C := RX9) (T := TX9) (N := 13) hx hb hts iwd_X9_addPlace_X9 hown hK hP h0 (Wd_ob kg_1 sg_1 (by decide)) rfl 3 (by decide) (hts _ md_X9_addPlace_3) (fun _ h9 => h9) (fl_q rfl ek_17) dX9_addPlace_52 ?_
    refine lv_iload hx hb dX9_addPlace_55 (lv_at hl 0 rfl) ?_
    refine lv_iconst (v := 4) hx hb dX9_addPlace_57 (by decide) ?_
    refine lv_iadd hx hb dX9_addPlace_58 ?_
    refine lv_iconst (v := 1) hx hb dX9_addPlace_59 (by decide) ?_
    refine lv_iadd hx hb dX9_addPlace_60 ?_
    refine lv_lload_n hx hb dX9_addPlace_61 rfl (lv_at hl 3 rfl) ?_
    obtain ⟨g_18, hf⟩ := grd_some hf
    obtain ⟨kg_18, sg_18, ig_18⟩ := okA_at g_18
    refine va_last hx hb hK hP hD hS k_17 2 (Wd_al kg_18 sg_18) rfl ig_18 dX9_addPlace_62 (fun H_19 locs hP2 hD2 hS2 => ?_)
    rw [Wd_tl sg_18] at hP2 hD2
    obtain ⟨z_20, ez_20⟩ : ∃ w, w = sl z_16 k_17 ((v_7 + 4) + 1).toNatClampNeg x1 := ⟨_, rfl⟩
    rw [← ez_20] at hP2 hD2
    replace hf := lt_at ez_20 hf
    clear ez_20
    replace hP := hP2
    replace hD := hD2
    replace hS := hS2
    clear hP2 hD2 hS2
    refine lv_aload_n hx hb dX9_addPlace_63 rfl (lv_at hl 1 rfl) ?_
    obtain ⟨k_21, ek_21, hf⟩ := lnk_some hf
    refine va_get (D := (dC, dI)) (ci := 9) (v := .ref (a k_21)) (C := RX9) (T := TX9) (N := 13) hx hb hts iwd_X9_addPlace_X9 hown hK hP h0 (Wd_ob kg_1 sg_1 (by decide)) rfl 3 (by decide) (hts _ md_X9_addPlace_3) (fun _ h9 => h9) (fl_q rfl ek_21) dX9_addPlace_64 ?_
    refine lv_iload hx hb dX9_addPlace_67 (lv_at hl 0 rfl) ?_
    refine lv_iconst (v := 4) hx hb dX9_addPlace_69 (by decide) ?_
    refine lv_iadd hx hb dX9_addPlace_70 ?_
    refine lv_iconst (v := 2) hx hb dX9_addPlace_71 (by decide) ?_
    refine lv_iadd hx hb dX9_addPlace_72 ?_
    refine lv_iload hx hb dX9_addPlace_73 (lv_at hl 4 rfl) ?_
    refine lv_i2l (v := (x2 : Int32).toInt64) hx hb dX9_addPlace_75 rfl ?_
    refine lv_bipush (v := 8) hx hb dX9_addPlace_76 (by decide) ?_
    refine lv_lshl (v := (((x2 : Int32).toInt64) <<< ((8 : Int32).toInt64 &&& 63))) hx hb dX9_addPlace_78 rfl ?_
    refine lv_iload hx hb dX9_addPlace_79 (lv_at hl 5 rfl) ?_
    refine lv_i2l (v := (x3 : Int32).toInt64) hx hb dX9_addPlace_81 rfl ?_
    refine lv_lor hx hb dX9_addPlace_82 ?_
    obtain ⟨g_22, hf⟩ := grd_some hf
    obtain ⟨kg_22, sg_22, ig_22⟩ := okA_at g_22
    refine va_last hx hb hK hP hD hS k_21 2 (Wd_al kg_22 sg_22) rfl ig_22 dX9_addPlace_83 (fun H_23 locs hP2 hD2 hS2 => ?_)
    rw [Wd_tl sg_22] at hP2 hD2
    obtain ⟨z_24, ez_24⟩ : ∃ w, w = sl z_20 k_21 ((v_7 + 4) + 2).toNatClampNeg (((((x2 : Int32).toInt64) <<< ((8 : Int32).toInt64 &&& 63))) ||| ((x3 : Int32).toInt64)) := ⟨_, rfl⟩
    rw [← ez_24] at hP2 hD2
    replace hf := lt_at ez_24 hf
    clear ez_24
    replace hP := hP2
    replace hD := hD2
    replace hS := hS2
    clear hP2 hD2 hS2
    refine lv_aload_n hx hb dX9_addPlace_84 rfl (lv_at hl 1 rfl) ?_
    obtain ⟨k_25, ek_25, hf⟩ := lnk_some hf
    refine va_get (D := (dC, dI)) (ci := 9) (v := .ref (a k_25)) (C := RX9) (T := TX9) (N := 13) hx hb hts iwd_X9_addPlace_X9 hown hK hP h0 (Wd_ob kg_1 sg_1 (by decide)) rfl 2 (by decide) (hts _ md_X9_addPlace_1) (fun _ h9 => h9) (fl_q rfl ek_25) dX9_addPlace_85 ?_
    obtain ⟨g_27, hf⟩ := grd_some hf
    obtain ⟨kg_27, sg_27⟩ := okO_at g_27
    obtain ⟨z_26, _u, hfc, hf⟩ := cal_some hf
    have hFc := de_free hD hS hA
    refine va_callv (va_runV (As := []) (rest := []) ⟨hx, hb, hml, hown, hts⟩ (de_X0_start l dC dI cy a sh n H_23.size F sk z_24 k_25 hfc) (cwV 0 hts gX9_addPlace_X0_start rfl rfl rfl (by decide +kernel) ⟨Nat.le_of_ble_eq_true rfl, Nat.le_of_ble_eq_true rfl⟩) ⟨fun a U g mk q => by obtain ⟨q0, q1, qP, qK, qD, qN, qS⟩ := q; exact ⟨q0, q1, qP, va_K.moved (u := U) (U := U.calling g mk a) (Vm.Alike.refl U.vm) qK, qD, qN.same rfl, SKs.moved (u := U) (U := U.calling g mk a) (Vm.Alike.refl U.vm) qS⟩, va_recv hK hP (ci := 0) (q0 := k_25) rfl (Wd_ob kg_27 sg_27 (by decide)), fun U hU hW => ⟨rfl, by rw [hU], by rw [hU]; exact hP, va_K.moved hW.alike hK, hD.weaken (fun _ _ _ _ => trivial), hN.warm hW, by rw [hU]; exact ((hSK.kept hS.2.1).narrow hFc).moved hW.alike⟩⟩ rfl rfl hl.1 rfl (lv_room (Nat.le_of_ble_eq_true rfl)) dX9_addPlace_88 ⟨Nat.le_of_ble_eq_true rfl, Nat.le_of_ble_eq_true rfl⟩) hS (fun q _ h => hFc q h) hFc (fun u t H_28 locs ht hvm hw hB hz1 hk1 hS2 => ?_)
    obtain ⟨hP1, -, hD1⟩ := hB
    rw [ht] at hP1
    replace hD := hD1.weaken (fun _ _ _ h => hFc _ h)
    replace hP := hP1
    replace hS := hS2
    clear hP1 hD1 hS2 hFc hfc hz1 hk1 hvm ht
    refine lv_aload_n hx hb dX9_addPlace_91 rfl (lv_at hl 1 rfl) ?_
    obtain ⟨k_29, ek_29, hf⟩ := lnk_some hf
    refine va_get (D := (dC, dI)) (ci := 9) (v := .ref (a k_29)) (C := RX9) (T := TX9) (N := 13) hx hb hts iwd_X9_addPlace_X9 hown hK hP h0 (Wd_ob kg_1 sg_1 (by decide)) rfl 2 (by decide) (hts _ md_X9_addPlace_1) (fun _ h9 => h9) (fl_q rfl ek_29) dX9_addPlace_92 ?_
    refine lv_iconst (v := 0) hx hb dX9_addPlace_95 (by decide) ?_
    obtain ⟨g_31, hf⟩ := grd_some hf
    obtain ⟨kg_31, sg_31⟩ := okO_at g_31
    obtain ⟨z_30, _u, hfc, hf⟩ := cal_some hf
    have hFc := de_free hD hS hA
    refine va_callv (va_runV (As := [.int 0]) (rest := []) ⟨hx, hb, hml, hown, hts⟩ (de_X0_put l dC dI cy a sh n H_28.size F sk z_26 k_29 0 hfc) (cwV 1 hts gX9_addPlace_X0_put rfl rfl rfl (by decide +kernel) ⟨Nat.le_of_ble_eq_true rfl, Nat.le_of_ble_eq_true rfl⟩) ⟨fun a U g mk q => by obtain ⟨q0, q1, qP, qK, qD, qN, qS⟩ := q; exact ⟨q0, q1, qP, va_K.moved (u := U) (U := U.calling g mk a) (Vm.Alike.refl U.vm) qK, qD, qN.same rfl, SKs.moved (u := U) (U := U.calling g mk a) (Vm.Alike.refl U.vm) qS⟩, va_recv hK hP (ci := 0) (q0 := k_29) rfl (Wd_ob kg_31 sg_31 (by decide)), fun U hU hW => ⟨rfl, by rw [hU], by rw [hU]; exact hP, va_K.moved hW.alike hK, hD.weaken (fun _ _ _ _ => trivial), hN.warm hW, by rw [hU]; exact ((hSK.kept hS.2.1).narrow hFc).moved hW.alike⟩⟩ rfl rfl hl.1 rfl (lv_room (Nat.le_of_ble_eq_true rfl)) dX9_addPlace_96 ⟨Nat.le_of_ble_eq_true rfl, Nat.le_of_ble_eq_true rfl⟩) hS (fun q _ h => hFc q h) hFc (fun u t H_32 locs ht hvm hw hB hz1 hk1 hS2 => ?_)
    obtain ⟨hP1, -, hD1⟩ := hB
    rw [ht] at hP1
    replace hD := hD1.weaken (fun _ _ _ h => hFc _ h)
    replace hP := hP1
    replace hS := hS2
    clear hP1 hD1 hS2 hFc hfc hz1 hk1 hvm ht
    refine lv_aload_n hx hb dX9_addPlace_99 rfl (lv_at hl 1 rfl) ?_
    obtain ⟨k_33, ek_33, hf⟩ := lnk_some hf
    refine va_get (D := (dC, dI)) (ci := 9) (v := .ref (a k_33)) (C := RX9) (T := TX9) (N := 13) hx hb hts iwd_X9_addPlace_X9 hown hK hP h0 (Wd_ob kg_1 sg_1 (by decide)) rfl 2 (by decide) (hts _ md_X9_addPlace_1) (fun _ h9 => h9) (fl_q rfl ek_33) dX9_addPlace_100 ?_
    refine lv_aload_n hx hb dX9_addPlace_103 rfl (lv_at hl 1 rfl) ?_
    obtain ⟨k_34, ek_34, hf⟩ := lnk_some hf
    refine va_get (D := (dC, dI)) (ci := 9) (v := .ref (a k_34)) (C := RX9) (T := TX9) (N := 13) hx hb hts iwd_X9_addPlace_X9 hown hK hP h0 (Wd_ob kg_1 sg_1 (by decide)) rfl 3 (by decide) (hts _ md_X9_addPlace_3) (fun _ h9 => h9) (fl_q rfl ek_34) dX9_addPlace_104 ?_
    refine lv_iload hx hb dX9_addPlace_107 (lv_at hl 0 rfl) ?_
    obtain ⟨g_36, hf⟩ := grd_some hf
    obtain ⟨kg_36, sg_36⟩ := okO_at g_36
    obtain ⟨z_35, _u, hfc, hf⟩ := cal_some hf
    have hFc := de_free hD hS hA
    refine va_callv (va_runV (As := [.ref (a k_34), .int v_7]) (rest := []) ⟨hx, hb, hml, hown, hts⟩ (de_X0_putLongs l dC dI cy a sh n H_32.size F sk z_30 k_33 k_34 v_7 hfc) (cwV 2 hts gX9_addPlace_X0_putLongs rfl rfl rfl (by decide +kernel) ⟨Nat.le_of_ble_eq_true rfl, Nat.le_of_ble_eq_true rfl⟩) ⟨fun a U g mk q => by obtain ⟨q0, q1, qP, qK, qD, qN, qS⟩ := q; exact ⟨q0, q1, qP, va_K.moved (u := U) (U := U.calling g mk a) (Vm.Alike.refl U.vm) qK, qD, qN.same rfl, SKs.moved (u := U) (U := U.calling g mk a) (Vm.Alike.refl U.vm) qS⟩, va_recv hK hP (ci := 0) (q0 := k_33) rfl (Wd_ob kg_36 sg_36 (by decide)), fun U hU hW => ⟨rfl, by rw [hU], by rw [hU]; exact hP, va_K.moved hW.alike hK, hD.weaken (fun _ _ _ _ => trivial), hN.warm hW, by rw [hU]; exact ((hSK.kept hS.2.1).narrow hFc).moved hW.alike⟩⟩ rfl rfl hl.1 rfl (lv_room (Nat.le_of_ble_eq_true rfl)) dX9_addPlace_109 ⟨Nat.le_of_ble_eq_true rfl, Nat.le_of_ble_eq_true rfl⟩) hS (fun q _ h => hFc q h) hFc (fun u t H_37 locs ht hvm hw hB hz1 hk1 hS2 => ?_)
    obtain ⟨hP1, -, hD1⟩ := hB
    rw [ht] at hP1
    replace hD := hD1.weaken (fun _ _ _ h => hFc _ h)
    replace hP := hP1
    replace hS := hS2
    clear hP1 hD1 hS2 hFc hfc hz1 hk1 hvm ht
    refine lv_aload_n hx hb dX9_addPlace_112 rfl (lv_at hl 1 rfl) ?_
    obtain ⟨k_38, ek_38, hf⟩ := lnk_some hf
    refine va_get (D := (dC, dI)) (ci := 9) (v := .ref (a k_38)) (C := RX9) (T := TX9) (N := 13) hx hb hts iwd_X9_addPlace_X9 hown hK hP h0 (Wd_ob kg_1 sg_1 (by decide)) rfl 2 (by decide) (hts _ md_X9_addPlace_1) (fun _ h9 => h9) (fl_q rfl ek_38) dX9_addPlace_113 ?_
    refine lv_aload_n hx hb dX9_addPlace_116 rfl (lv_at hl 1 rfl) ?_
    obtain ⟨k_39, ek_39, hf⟩ := lnk_some hf
    refine va_get (D := (dC, dI)) (ci := 9) (v := .ref (a k_39)) (C := RX9) (T := TX9) (N := 13) hx hb hts iwd_X9_addPlace_X9 hown hK hP h0 (Wd_ob kg_1 sg_1 (by decide)) rfl 5 (by decide) (hts _ md_X9_addPlace_4) (fun _ h9 => h9) (fl_q rfl ek_39) dX9_addPlace_117 ?_
    refine lv_iconst (v := 0) hx hb dX9_addPlace_120 (by decide) ?_
    obtain ⟨g_41, hf⟩ := grd_some hf
    obtain ⟨kg_41, sg_41⟩ := okO_at g_41
    obtain ⟨z_40, _u, hfc, hf⟩ := cal_some hf
    have hFc := de_free hD hS hA
    refine va_callv (va_runV (As := [.ref (a k_39), .int 0]) (rest := []) ⟨hx, hb, hml, hown, hts⟩ (de_X0_putLongs l dC dI cy a sh n H_37.size F sk z_35 k_38 k_39 0 hfc) (cwV 2 hts gX9_addPlace_X0_putLongs rfl rfl rfl (by decide +kernel) ⟨Nat.le_of_ble_eq_true rfl, Nat.le_of_ble_eq_true rfl⟩) ⟨fun a U g mk q => by obtain ⟨q0, q1, qP, qK, qD, qN, qS⟩ := q; exact ⟨q0, q1, qP, va_K.moved (u := U) (U := U.calling g mk a) (Vm.Alike.refl U.vm) qK, qD, qN.same rfl, SKs.moved (u := U) (U := U.calling g mk a) (Vm.Alike.refl U.vm) qS⟩, va_recv hK hP (ci := 0) (q0 := k_38) rfl (Wd_ob kg_41 sg_41 (by decide)), fun U hU hW => ⟨rfl, by rw [hU], by rw [hU]; exact hP, va_K.moved hW.alike hK, hD.weaken (fun _ _ _ _ => trivial), hN.warm hW, by rw [hU]; exact ((hSK.kept hS.2.1).narrow hFc).moved hW.alike⟩⟩ rfl rfl hl.1 rfl (lv_room (Nat.le_of_ble_eq_true rfl)) dX9_addPlace_121 ⟨Nat.le_of_ble_eq_true rfl, Nat.le_of_ble_eq_true rfl⟩) hS (fun q _ h => hFc q h) hFc (fun u t H_42 locs ht hvm hw hB hz1 hk1 hS2 => ?_)
    obtain ⟨hP1, -, hD1⟩ := hB
    rw [ht] at hP1
    replace hD := hD1.weaken (fun _ _ _ h => hFc _ h)
    replace hP := hP1
    replace hS := hS2
    clear hP1 hD1 hS2 hFc hfc hz1 hk1 hvm ht
    refine lv_aload_n hx hb dX9_addPlace_124 rfl (lv_at hl 1 rfl) ?_
    obtain ⟨k_43, ek_43, hf⟩ := lnk_some hf
    refine va_get (D := (dC, dI)) (ci := 9) (v := .ref (a k_43)) (C := RX9) (T := TX9) (N := 13) hx hb hts iwd_X9_addPlace_X9 hown hK hP h0 (Wd_ob kg_1 sg_1 (by decide)) rfl 2 (by decide) (hts _ md_X9_addPlace_1) (fun _ h9 => h9) (fl_q rfl ek_43) dX9_addPlace_125 ?_
    obtain ⟨g_45, hf⟩ := grd_some hf
    obtain ⟨kg_45, sg_45⟩ := okO_at g_45
    obtain ⟨z_44, _u, hfc, hf⟩ := cal_some hf
    have hFc := de_free hD hS hA
    refine va_callv (va_runV (As := []) (rest := []) ⟨hx, hb, hml, hown, hts⟩ (de_X0_finish l dC dI cy a sh n H_42.size F sk z_40 k_43 hfc) (cwV 0 hts gX9_addPlace_X0_finish rfl rfl rfl (by decide +kernel) ⟨Nat.le_of_ble_eq_true rfl, Nat.le_of_ble_eq_true rfl⟩) ⟨fun a U g mk q => by obtain ⟨q0, q1, qP, qK, qD, qN, qS⟩ := q; exact ⟨q0, q1, qP, va_K.moved (u := U) (U := U.calling g mk a) (Vm.Alike.refl U.vm) qK, qD, qN.same rfl, SKs.moved (u := U) (U := U.calling g mk a) (Vm.Alike.refl U.vm) qS⟩, va_recv hK hP (ci := 0) (q0 := k_43) rfl (Wd_ob kg_45 sg_45 (by decide)), fun U hU hW => ⟨rfl, by rw [hU], by rw [hU]; exact hP, va_K.moved hW.alike hK, hD.weaken (fun _ _ _ _ => trivial), hN.warm hW, by rw [hU]; exact ((hSK.kept hS.2.1).narrow hFc).moved hW.alike⟩⟩ rfl rfl hl.1 rfl (lv_room (Nat.le_of_ble_eq_true rfl)) dX9_addPlace_128 ⟨Nat.le_of_ble_eq_true rfl, Nat.le_of_ble_eq_true rfl⟩) hS (fun q _ h => hFc q h) hFc (fun u t H_46 locs ht hvm hw hB hz1 hk1 hS2 => ?_)
    obtain ⟨hP1, -, hD1⟩ := hB
    rw [ht] at hP1
    replace hD := hD1.weaken (fun _ _ _ h => hFc _ h)
    replace hP := hP1
    replace hS := hS2
    clear hP1 hD1 hS2 hFc hfc hz1 hk1 hvm ht
    refine lv_aload_n hx hb dX9_addPlace_131 rfl (lv_at hl 1 rfl) ?_
    obtain ⟨k_47, ek_47, hf⟩ := lnk_some hf
    refine va_get (D := (dC, dI)) (ci := 9) (v := .ref (a k_47)) (C := RX9) (T := TX9) (N := 13) hx hb hts iwd_X9_addPlace_X9 hown hK hP h0 (Wd_ob kg_1 sg_1 (by decide)) rfl 2 (by decide) (hts _ md_X9_addPlace_1) (fun _ h9 => h9) (fl_q rfl ek_47) dX9_addPlace_132 ?_
    refine lv_aload_n hx hb dX9_addPlace_135 rfl (lv_at hl 1 rfl) ?_
    obtain ⟨k_48, ek_48, hf⟩ := lnk_some hf
    refine va_get (D := (dC, dI)) (ci := 9) (v := .ref (a k_48)) (C := RX9) (T := TX9) (N := 13) hx hb hts iwd_X9_addPlace_X9 hown hK hP h0 (Wd_ob kg_1 sg_1 (by decide)) rfl 4 (by decide) (hts _ md_X9_addPlace_5) (fun _ h9 => h9) (fl_q rfl ek_48) dX9_addPlace_136 ?_
    refine lv_aload_n hx hb dX9_addPlace_139 rfl (lv_at hl 1 rfl) ?_
    refine va_get (D := (dC, dI)) (ci := 9) (v := .int (z_44.1 h0 7)) (C := RX9) (T := TX9) (N := 13) hx hb hts iwd_X9_addPlace_X9 hown hK hP h0 (Wd_ob kg_1 sg_1 (by decide)) rfl 7 (by decide) (hts _ md_X9_addPlace_2) (fun _ h9 => h9) (fl_at (t := 0) rfl) dX9_addPlace_140 ?_
    refine lv_iconst (v := 4) hx hb dX9_addPlace_143 (by decide) ?_
    refine lv_imul hx hb dX9_addPlace_144 ?_
    obtain ⟨g_50, hf⟩ := grd_some hf
    obtain ⟨kg_50, sg_50⟩ := okO_at g_50
    obtain ⟨z_49, _u, hfc, hf⟩ := cal_some hf
    have hFc := de_free hD hS hA
    refine va_callv (va_runV (As := [.ref (a k_48), .int ((z_44.1 h0 7) * 4)]) (rest := []) ⟨hx, hb, hml, hown, hts⟩ (de_X0_copyTo l dC dI cy a sh n H_46.size F z_44 k_47 k_48 ((z_44.1 h0 7) * 4) hfc) (cwV 2 hts gX9_addPlace_X0_copyTo rfl rfl rfl (by decide +kernel) ⟨Nat.le_of_ble_eq_true rfl, Nat.le_of_ble_eq_true rfl⟩) ⟨fun a U g mk q => by obtain ⟨q0, q1, qP, qK, qD, qN⟩ := q; exact ⟨q0, q1, qP, va_K.moved (u := U) (U := U.calling g mk a) (Vm.Alike.refl U.vm) qK, qD, qN.same rfl⟩, va_recv hK hP (ci := 0) (q0 := k_47) rfl (Wd_ob kg_50 sg_50 (by decide)), fun U hU hW => ⟨rfl, by rw [hU], by rw [hU]; exact hP, va_K.moved hW.alike hK, hD.weaken (fun _ _ _ _ => trivial), hN.warm hW⟩⟩ rfl rfl hl.1 rfl (lv_room (Nat.le_of_ble_eq_true rfl)) dX9_addPlace_145 ⟨Nat.le_of_ble_eq_true rfl, Nat.le_of_ble_eq_true rfl⟩) hS (fun q _ h => hFc q h) hFc (fun u t H_51 locs ht hvm hw hB hz1 hk1 hS2 => ?_)
    obtain ⟨hP1, -, hD1⟩ := hB
    rw [ht] at hP1
    replace hD := hD1.weaken (fun _ _ _ h => hFc _ h)
    replace hP := hP1
    replace hS := hS2
    clear hP1 hD1 hS2 hFc hfc hz1 hk1 hvm ht
    refine lv_aload_n hx hb dX9_addPlace_148 rfl (lv_at hl 1 rfl) ?_
    refine va_get (D := (dC, dI)) (ci := 9) (v := .int (z_49.1 h0 7)) (C := RX9) (T := TX9) (N := 13) hx hb hts iwd_X9_addPlace_X9 hown hK hP h0 (Wd_ob kg_1 sg_1 (by decide)) rfl 7 (by decide) (hts _ md_X9_addPlace_2) (fun _ h9 => h9) (fl_at (t := 0) rfl) dX9_addPlace_149 ?_
    refine lv_topi (fun v_52 ev_52 => ?_)
    replace hf := lt_at ev_52 hf
    clear ev_52
    refine lv_istore (lv' := [(7, .int v_52), (6, .int v_7), (0, .ref (a h0)), (1, .int x0), (2, .long x1), (4, .int x2), (5, .int x3)]) hx hb dX9_addPlace_152 hl (by decide) rfl (fun ls hl2 => ?_)
    replace hl := hl2
    clear hl2
    have hl0 : lv_has ls 8 [(7, .int v_52), (0, .ref (a h0))] := lv_sub hl [0, 2] rfl
    refine de_loop (h := 154) (fun (x : St × Int32) ls H locs => lv_has ls 8 [(7, .int x.2), (0, .ref (a h0))] ∧ va_P (dC, dI) vwCl (Wd cy a sh n x.1) H ∧ va_D A (Wd cy a sh n x.1) ∧ va_S A s.heap H locs) (fun f x => fn_X9_addPlace_L154 F sh n h0 f x.1 x.2) (z8, r8) ?_ (fun _ => rfl) F (z_49, v_52) ls H_51 locs ⟨hl0, hP, hD, hS⟩ hf
    intro f_55 x ls H locs ih154 hI hf
    obtain ⟨z_54, p_53⟩ := x
    obtain ⟨hl2, hP2, hD2, hS2⟩ := hI
    replace hl : lv_has ls 8 [(7, .int p_53), (0, .ref (a h0))] := hl2
    replace hP := hP2
    replace hD := hD2
    replace hS := hS2
    clear hl2 hP2 hD2 hS2 hl0
    replace hf := fn_X9_addPlace_L154_s hf
    refine lv_iload hx hb dX9_addPlace_154 (lv_at hl 0 rfl) ?_
    refine de_cut (h := 201) (fun (x : St × Int32) => []) (fun x ls H locs => lv_has ls 8 [(7, .int x.2), (0, .ref (a h0))] ∧ va_P (dC, dI) vwCl (Wd cy a sh n x.1) H ∧ va_D A (Wd cy a sh n x.1) ∧ va_S A s.heap H locs) (fun x => fn_X9_addPlace_B201 F sh n h0 x.1 x.2) (z8, r8) ?_ (fun B201 => ?_)
    · intro x ls H locs hI hf
      obtain ⟨z_57, p_56⟩ := x
      obtain ⟨hl2, hP2, hD2, hS2⟩ := hI
      replace hl : lv_has ls 8 [(7, .int p_56), (0, .ref (a h0))] := hl2
      replace hP := hP2
      replace hD := hD2
      replace hS := hS2
      clear hl2 hP2 hD2 hS2
      replace hf := fn_X9_addPlace_B201_s hf
      refine W.eq (g2 := F0 m 201 ls []) rfl ?_
      refine lv_aload_n hx hb dX9_addPlace_201 rfl (lv_at hl 1 rfl) ?_
      obtain ⟨k_58, ek_58, hf⟩ := lnk_some hf
      refine va_get (D := (dC, dI)) (ci := 9) (v := .ref (a k_58)) (C := RX9) (T := TX9) (N := 13) hx hb hts iwd_X9_addPlace_X9 hown hK hP h0 (Wd_ob kg_1 sg_1 (by decide)) rfl 6 (by decide) (hts _ md_X9_addPlace_6) (fun _ h9 => h9) (fl_q rfl ek_58) dX9_addPlace_202 ?_
      refine lv_iload hx hb dX9_addPlace_205 (lv_at hl 0 rfl) ?_
      refine lv_aload_n hx hb dX9_addPlace_207 rfl (lv_at hl 1 rfl) ?_
      refine va_get (D := (dC, dI)) (ci := 9) (v := .int (z_57.1 h0 7)) (C := RX9) (T := TX9) (N := 13) hx hb hts iwd_X9_addPlace_X9 hown hK hP h0 (Wd_ob kg_1 sg_1 (by decide)) rfl 7 (by decide) (hts _ md_X9_addPlace_2) (fun _ h9 => h9) (fl_at (t := 0) rfl) dX9_addPlace_208 ?_
      obtain ⟨g_59, hf⟩ := grd_some hf
      obtain ⟨kg_59, sg_59, ig_59⟩ := okA_at g_59
      refine va_iast hx hb hK hP hD hS k_58 1 (Wd_ai kg_59 sg_59) rfl ig_59 dX9_addPlace_211 (fun H_60 locs hP2 hD2 hS2 => ?_)
      rw [Wd_ti sg_59] at hP2 hD2
      obtain ⟨z_61, ez_61⟩ : ∃ w, w = si z_57 k_58 p_56.toNatClampNeg (z_57.1 h0 7) := ⟨_, rfl⟩
      rw [← ez_61] at hP2 hD2
      replace hf := lt_at ez_61 hf
      clear ez_61
      replace hP := hP2
      replace hD := hD2
      replace hS := hS2
      clear hP2 hD2 hS2
      refine lv_aload_n hx hb dX9_addPlace_212 rfl (lv_at hl 1 rfl) ?_
      refine lv_dup hx hb dX9_addPlace_213 rfl ?_
      refine va_get (D := (dC, dI)) (ci := 9) (v := .int (z_61.1 h0 7)) (C := RX9) (T := TX9) (N := 13) hx hb hts iwd_X9_addPlace_X9 hown hK hP h0 (Wd_ob kg_1 sg_1 (by decide)) rfl 7 (by decide) (hts _ md_X9_addPlace_2) (fun _ h9 => h9) (fl_at (t := 0) rfl) dX9_addPlace_214 ?_
      refine lv_iconst (v := 1) hx hb dX9_addPlace_217 (by decide) ?_
      refine lv_iadd hx hb dX9_addPlace_218 ?_
      refine va_put (D := (dC, dI)) (ci := 9) (v := .int ((z_61.1 h0 7) + 1)) (ty := .int) (C := RX9) (T := TX9) (N := 13) hx hb hts iwd_X9_addPlace_X9 tyX9 tyX9_ok nmX9 hown hK hP hD hS h0 (Wd_ob kg_1 sg_1 (by decide)) rfl 7 (by decide) (hts _ md_X9_addPlace_2) (fun _ h9 => h9) rfl (by decide +kernel) rfl rfl (by rw [fl_len]; decide) dX9_addPlace_219 (fun H_62 locs hP2 hD2 hS2 => ?_)
      rw [Wd_si sg_1 (by decide) rfl] at hP2 hD2
      obtain ⟨z_63, ez_63⟩ : ∃ w, w = si z_61 h0 7 ((z_61.1 h0 7) + 1) := ⟨_, rfl⟩
      rw [← ez_63] at hP2 hD2
      replace hf := lt_at ez_63 hf
      clear ez_63
      replace hP := hP2
      replace hD := hD2
      replace hS := hS2
      clear hP2 hD2 hS2
      obtain ⟨h8, h9⟩ := ret_some hf
      rw [h8]
      exact W.vret hx hb hr (fun t ht hW => ⟨⟨(), rfl, trivial, by rw [ht]; exact hP, va_K.moved hW.alike hK, hD⟩, hS.F ht⟩) hS.2.2 dX9_addPlace_222
    refine lv_if_le (tgt := 201) hx hb dX9_addPlace_156 (by decide) (fun c_64 => ?_) (fun c_64 => ?_)
    · skip
      rw [if_pos c_64] at hf
      exact B201 (z_54, p_53) ls H locs ⟨lv_sub hl [0, 1] rfl, hP, hD, hS⟩ hf
    · skip
      rw [if_neg c_64] at hf
      refine lv_aload_n hx hb dX9_addPlace_159 rfl (lv_at hl 1 rfl) ?_
      refine lv_aload_n hx hb dX9_addPlace_160 rfl (lv_at hl 1 rfl) ?_
      refine va_get (D := (dC, dI)) (ci := 9) (v := .int (z_54.1 h0 7)) (C := RX9) (T := TX9) (N := 13) hx hb hts iwd_X9_addPlace_X9 hown hK hP h0 (Wd_ob kg_1 sg_1 (by decide)) rfl 7 (by decide) (hts _ md_X9_addPlace_2) (fun _ h9 => h9) (fl_at (t := 0) rfl) dX9_addPlace_161 ?_
      refine lv_aload_n hx hb dX9_addPlace_164 rfl (lv_at hl 1 rfl) ?_
      obtain ⟨k_65, ek_65, hf⟩ := lnk_some hf
      refine va_get (D := (dC, dI)) (ci := 9) (v := .ref (a k_65)) (C := RX9) (T := TX9) (N := 13) hx hb hts iwd_X9_addPlace_X9 hown hK hP h0 (Wd_ob kg_1 sg_1 (by decide)) rfl 6 (by decide) (hts _ md_X9_addPlace_6) (fun _ h9 => h9) (fl_q rfl ek_65) dX9_addPlace_165 ?_
      refine lv_iload hx hb dX9_addPlace_168 (lv_at hl 0 rfl) ?_
      refine lv_iconst (v := 1) hx hb dX9_addPlace_170 (by decide) ?_
      refine lv_isub hx hb dX9_addPlace_171 ?_
      obtain ⟨g_66, hf⟩ := grd_some hf
      obtain ⟨kg_66, sg_66, ig_66⟩ := okA_at g_66
      refine va_iald hx hb hK hP k_65 1 (Wd_ai kg_66 sg_66) rfl ig_66 dX9_addPlace_172 ?_
      obtain ⟨z_67, r_68, hfc, hf⟩ := cal_some hf
      have hFc := de_free hD hS hA
      refine va_calli (va_runV (As := [.int (z_54.1 h0 7), .int (z_54.1 k_65 (p_53 - 1).toNatClampNeg)]) (rest := []) ⟨hx, hb, hml, hown, hts⟩ (de_X9_isBelow l dC dI cy a sh n H.size F z_54 h0 (z_54.1 h0 7) (z_54.1 k_65 (p_53 - 1).toNatClampNeg) hfc) (cwV 2 hts gX9_addPlace_X9_isBelow rfl rfl rfl (by decide +kernel) ⟨Nat.le_of_ble_eq_true rfl, Nat.le_of_ble_eq_true rfl⟩) ⟨fun a U g mk q => by obtain ⟨q0, q1, qP, qK, qD, qN⟩ := q; exact ⟨q0, q1, qP, va_K.moved (u := U) (U := U.calling g mk a) (Vm.Alike.refl U.vm) qK, qD, qN.same rfl⟩, va_recv hK hP (ci := 9) (q0 := h0) rfl (Wd_ob kg_1 sg_1 (by decide)), fun U hU hW => ⟨rfl, by rw [hU], by rw [hU]; exact hP, va_K.moved hW.alike hK, hD.weaken (fun _ _ _ _ => trivial), hN.warm hW⟩⟩ rfl rfl hl.1 rfl (lv_room (Nat.le_of_ble_eq_true rfl)) dX9_addPlace_173 ⟨Nat.le_of_ble_eq_true rfl, Nat.le_of_ble_eq_true rfl⟩) hS (fun q _ h => hFc q h) hFc (fun rr u t H_69 locs ht hvm hw hB hz1 hk1 hS2 => ?_)
      rw [hw]
      clear hw
      obtain ⟨hP1, -, hD1⟩ := hB
      rw [ht] at hP1
      replace hD := hD1.weaken (fun _ _ _ h => hFc _ h)
      replace hP := hP1
      replace hS := hS2
      clear hP1 hD1 hS2 hFc hfc hz1 hk1 hvm ht
      refine lv_if_eq (tgt := 201) hx hb dX9_addPlace_176 (by decide) (fun c_70 => ?_) (fun c_70 => ?_)
      · skip
        rw [if_pos c_70] at hf
        exact B201 (z_67, p_53) ls H_69 locs ⟨lv_sub hl [0, 1] rfl, hP, hD, hS⟩ hf
      · skip
        rw [if_neg c_70] at hf
        refine lv_aload_n hx hb dX9_addPlace_179 rfl (lv_at hl 1 rfl) ?_
        obtain ⟨k_71, ek_71, hf⟩ := lnk_some hf
        refine va_get (D := (dC, dI)) (ci := 9) (v := .ref (a k_71)) (C := RX9) (T := TX9) (N := 13) hx hb hts iwd_X9_addPlace_X9 hown hK hP h0 (Wd_ob kg_1 sg_1 (by decide)) rfl 6 (by decide) (hts _ md_X9_addPlace_6) (fun _ h9 => h9) (fl_q rfl ek_71) dX9_addPlace_180 ?_
        refine lv_iload hx hb dX9_addPlace_183 (lv_at hl 0 rfl) ?_
        refine lv_aload_n hx hb dX9_addPlace_185 rfl (lv_at hl 1 rfl) ?_
        obtain ⟨k_72, ek_72, hf⟩ := lnk_some hf
        refine va_get (D := (dC, dI)) (ci := 9) (v := .ref (a k_72)) (C := RX9) (T := TX9) (N := 13) hx hb hts iwd_X9_addPlace_X9 hown hK hP h0 (Wd_ob kg_1 sg_1 (by decide)) rfl 6 (by decide) (hts _ md_X9_addPlace_6) (fun _ h9 => h9) (fl_q rfl ek_72) dX9_addPlace_186 ?_
        refine lv_iload hx hb dX9_addPlace_189 (lv_at hl 0 rfl) ?_
        refine lv_iconst (v := 1) hx hb dX9_addPlace_191 (by decide) ?_
        refine lv_isub hx hb dX9_addPlace_192 ?_
        obtain ⟨g_73, hf⟩ := grd_some hf
        obtain ⟨kg_73, sg_73, ig_73⟩ := okA_at g_73
        refine va_iald hx hb hK hP k_72 1 (Wd_ai kg_73 sg_73) rfl ig_73 dX9_addPlace_193 ?_
        obtain ⟨g_74, hf⟩ := grd_some hf
        obtain ⟨kg_74, sg_74, ig_74⟩ := okA_at g_74
        refine va_iast hx hb hK hP hD hS k_71 1 (Wd_ai kg_74 sg_74) rfl ig_74 dX9_addPlace_194 (fun H_75 locs hP2 hD2 hS2 => ?_)
        rw [Wd_ti sg_74] at hP2 hD2
        obtain ⟨z_76, ez_76⟩ : ∃ w, w = si z_67 k_71 p_53.toNatClampNeg (z_67.1 k_72 (p_53 - 1).toNatClampNeg) := ⟨_, rfl⟩
        rw [← ez_76] at hP2 hD2
        replace hf := lt_at ez_76 hf
        clear ez_76
        replace hP := hP2
        replace hD := hD2
        replace hS := hS2
        clear hP2 hD2 hS2
        refine lv_iinc (v := (p_53 + (-1))) (lv' := [(7, .int (p_53 + (-1))), (0, .ref (a h0))]) hx hb dX9_addPlace_195 hl (k := 0) rfl rfl (by decide) rfl (fun ls hl2 => ?_)
        replace hl := hl2
        clear hl2
        refine lv_goto (tgt := 154) hx hb dX9_addPlace_198 (by decide) ?_
        exact ih154 (z_76, (p_53 + (-1))) ls H_75 locs ⟨lv_sub hl [0, 1] rfl, hP, hD, hS⟩ hf
  · skip
    rw [if_neg c_6] at hf
    obtain ⟨h8, h9⟩ := ret_some hf
    rw [h8]
    exact W.vret hx hb hr (fun t ht hW => ⟨⟨(), rfl, trivial, by rw [ht]; exact hP, va_K.moved hW.alike hK, hD⟩, hS.F ht⟩) hS.2.2 dX9_addPlace_17

theorem md_X13_onReference_1 : (.fieldLink RX13 48 "ResourceLedgerModel$Looker" "fault" "I" : Cond) ∈ wsX13_onReference := List.mem_of_getElem? (i := 1) rfl
theorem iwd_X13_onReference_X13 : ∀ w ∈ wsX130, w ∈ wsX13_onReference := fun _ h => List.mem_cons_of_mem _ (List.mem_append_left _ (List.mem_append_right _ h))
theorem md_X13_onReference_2 : (.fieldLink RX13 72 "ResourceLedgerModel$Looker" "unit" "LResourceLedgerModel$Unit;" : Cond) ∈ wsX13_onReference := List.mem_of_getElem? (i := 2) rfl
theorem md_X13_onReference_3 : (.fieldLink RX13 103 "ResourceLedgerModel$Looker" "takenOrigins" "J" : Cond) ∈ wsX13_onReference := List.mem_of_getElem? (i := 3) rfl
theorem md_X13_onReference_4 : (.fieldLink RX13 99 "ResourceLedgerModel$Looker" "taken" "J" : Cond) ∈ wsX13_onReference := List.mem_of_getElem? (i := 4) rfl
theorem md_X13_onReference_5 : (.fieldLink RX13 106 "ResourceLedgerModel$Looker" "takenInside" "Z" : Cond) ∈ wsX13_onReference := List.mem_of_getElem? (i := 5) rfl
set_option maxHeartbeats 4000000 in
set_option maxRecDepth 100000 in
theorem de_X13_onReference (l : Launch) (dC : Nat → ClassId) (dI : Nat → Nat → Nat) (cy : Nat → ClassId) (a : Nat → Nat) (sh : Nat → Nat × Nat) (n sz : Nat) (F : Nat) (z : St) (h0 : Nat) (x0 : Int32) (x1 : Int32) (x2 : Int32) {z8 : St} {r8 : Unit} (hf : fn_X13_onReference F sh n z h0 x0 x1 x2 = some (z8, r8)) : Met l yX13_onReference wsX13_onReference ({ frames := 4, cells := 0, slots := 0, locals := 94 }) (va_Pc [.ref (a h0), .int x0, .int x1, .int x2] (fun U => U.heap.size = sz ∧ va_P (dC, dI) vwCl (Wd cy a sh n z) U.heap ∧ va_K (dC, dI) vwCl (TYS cy) U ∧ va_D (fun _ => True) (Wd cy a sh n z) ∧ NK U)) (va_Qv (fun u : Unit => True) (fun u t => va_P (dC, dI) vwCl (Wd cy a sh n z8) t.heap ∧ va_K (dC, dI) vwCl (TYS cy) t ∧ va_D (va_A (Wd cy a sh n z) sz) (Wd cy a sh n z8)) (va_A (Wd cy a sh n z) sz)) 0 0 (va_A (Wd cy a sh n z) sz) := by
  refine Met.ofW (cc := cX13_onReference) (maxL := 6) (ret := none) (by decide) rfl ?_
  intro p e s m args below meth c s₁ B hml hv
  obtain ⟨rfl, hsz, hP, hK, hD0, hN⟩ := hv
  have hx := B.exec
  have hb := B.bytes
  have hr := B.returns
  have hts := atoms_spec (ws := wsX13_onReference) B.pre
  have hown : s.vm.findClass RX13 = some m.cls := findClass_of_methodNamed B.named
  have hlocks := B.notSynchronized
  subst hsz
  have hD := hD0.self (sz := s.heap.size)
  clear hD0
  generalize hAe : va_A (Wd cy a sh n z) s.heap.size = A at hD ⊢
  have hA : ∀ q : Nat, s.heap.size ≤ q → A q := fun q h => by rw [← hAe]; exact Or.inr h
  clear hAe
  have hS : va_S A s.heap s.heap [] := va_S.rf
  have hl := lv_entry ([.ref (a h0), .int x0, .int x1, .int x2]) (n := 6) (Nat.le_of_ble_eq_true rfl)
  rw [lg_entry_eq]
  generalize (lg_sl ([.ref (a h0), .int x0, .int x1, .int x2]) ++ List.replicate (6 - (lg_sl ([.ref (a h0), .int x0, .int x1, .int x2])).length) Slot.unset).toArray = ls at hl ⊢
  replace hl : lv_has ls 6 [(0, .ref (a h0)), (1, .int x0), (2, .int x1), (3, .int x2)] := hl
  unfold fn_X13_onReference at hf
  refine de_start hS hP (fun H locs hS hP => ?_)
  refine lv_iload_n hx hb dX13_onReference_0 rfl (lv_at hl 1 rfl) ?_
  refine lv_bipush (v := 16) hx hb dX13_onReference_1 (by decide) ?_
  refine de_cut (h := 12) (fun (x : St) => []) (fun x ls H locs => lv_has ls 6 [(0, .ref (a h0)), (1, .int x0), (2, .int x1), (3, .int x2)] ∧ va_P (dC, dI) vwCl (Wd cy a sh n x) H ∧ va_D A (Wd cy a sh n x) ∧ va_S A s.heap H locs) (fun x => fn_X13_onReference_B12 F sh n x1 x0 h0 x2 x) (z8, r8) ?_ (fun B12 => ?_)
  · intro x ls H locs hI hf
    obtain ⟨z_1, ez⟩ : ∃ w, w = x := ⟨_, rfl⟩
    subst ez
    obtain ⟨hl2, hP2, hD2, hS2⟩ := hI
    replace hl : lv_has ls 6 [(0, .ref (a h0)), (1, .int x0), (2, .int x1), (3, .int x2)] := hl2
    replace hP := hP2
    replace hD := hD2
    replace hS := hS2
    clear hl2 hP2 hD2 hS2
    replace hf := fn_X13_onReference_B12_s hf
    refine W.eq (g2 := F0 m 12 ls []) rfl ?_
    refine lv_aload_n hx hb dX13_onReference_12 rfl (lv_at hl 0 rfl) ?_
    refine lv_iload_n hx hb dX13_onReference_13 rfl (lv_at hl 2 rfl) ?_
    obtain ⟨z_2, r_3, hfc, hf⟩ := cal_some hf
    have hFc := de_free hD hS hA
    refine va_calll (va_runS (As := [.int x1]) (rest := [.ref (a h0)]) ⟨hx, hb, hml, hown, hts⟩ (de_X13_structureType l dC dI cy a sh n H.size F z_1 x1 hfc) (va_cwS 1 hts gX13_onReference_X13_structureType rfl rfl rfl (by decide +kernel) ⟨Nat.le_of_ble_eq_true rfl, Nat.le_of_ble_eq_true rfl⟩) ⟨fun a U g mk q => by obtain ⟨q0, q1, qP, qK, qD, qN⟩ := q; exact ⟨q0, q1, qP, va_K.moved (u := U) (U := U.calling g mk a) (Vm.Alike.refl U.vm) qK, qD, qN.same rfl⟩, fun U hU hW => ⟨rfl, by rw [hU], by rw [hU]; exact hP, va_K.moved hW.alike hK, hD.weaken (fun _ _ _ _ => trivial), hN.warm hW⟩⟩ rfl rfl hl.1 rfl (lv_room (Nat.le_of_ble_eq_true rfl)) dX13_onReference_14 ⟨Nat.le_of_ble_eq_true rfl, Nat.le_of_ble_eq_true rfl⟩) hS (fun q _ h => hFc q h) hFc (fun rr u t H_4 locs ht hvm hw hB hz1 hk1 hS2 => ?_)
    rw [hw]
    clear hw
    obtain ⟨hP1, -, hD1⟩ := hB
    rw [ht] at hP1
    replace hD := hD1.weaken (fun _ _ _ h => hFc _ h)
    replace hP := hP1
    replace hS := hS2
    clear hP1 hD1 hS2 hFc hfc hz1 hk1 hvm ht
    refine lv_iload_n hx hb dX13_onReference_17 rfl (lv_at hl 1 rfl) ?_
    refine lv_bipush (v := 17) hx hb dX13_onReference_18 (by decide) ?_
    refine de_cut (h := 28) (fun (x : St × Int32) => [.int x.2, .long r_3, .ref (a h0)]) (fun x ls H locs => lv_has ls 6 [(0, .ref (a h0)), (1, .int x0), (2, .int x1), (3, .int x2)] ∧ va_P (dC, dI) vwCl (Wd cy a sh n x.1) H ∧ va_D A (Wd cy a sh n x.1) ∧ va_S A s.heap H locs) (fun x => fn_X13_onReference_B28 F sh n h0 r_3 x0 x1 x2 x.1 x.2) (z8, r8) ?_ (fun B28 => ?_)
    · intro x ls H locs hI hf
      obtain ⟨z_6, p_5⟩ := x
      obtain ⟨hl2, hP2, hD2, hS2⟩ := hI
      replace hl : lv_has ls 6 [(0, .ref (a h0)), (1, .int x0), (2, .int x1), (3, .int x2)] := hl2
      replace hP := hP2
      replace hD := hD2
      replace hS := hS2
      clear hl2 hP2 hD2 hS2
      replace hf := fn_X13_onReference_B28_s hf
      refine W.eq (g2 := F0 m 28 ls [.int p_5, .long r_3, .ref (a h0)]) rfl ?_
      obtain ⟨g_8, hf⟩ := grd_some hf
      obtain ⟨kg_8, sg_8⟩ := okO_at g_8
      obtain ⟨z_7, _u, hfc, hf⟩ := cal_some hf
      have hFc := de_free hD hS hA
      refine va_callv (va_runV (As := [.long r_3, .int p_5]) (rest := []) ⟨hx, hb, hml, hown, hts⟩ (de_X13_takeReference l dC dI cy a sh n H.size F z_6 h0 r_3 p_5 hfc) (cwV 2 hts gX13_onReference_X13_takeReference rfl rfl rfl (by decide +kernel) ⟨Nat.le_of_ble_eq_true rfl, Nat.le_of_ble_eq_true rfl⟩) ⟨fun a U g mk q => by obtain ⟨q0, q1, qP, qK, qD, qN⟩ := q; exact ⟨q0, q1, qP, va_K.moved (u := U) (U := U.calling g mk a) (Vm.Alike.refl U.vm) qK, qD, qN.same rfl⟩, va_recv hK hP (ci := 13) (q0 := h0) rfl (Wd_ob kg_8 sg_8 (by decide)), fun U hU hW => ⟨rfl, by rw [hU], by rw [hU]; exact hP, va_K.moved hW.alike hK, hD.weaken (fun _ _ _ _ => trivial), hN.warm hW⟩⟩ rfl rfl hl.1 rfl (lv_room (Nat.le_of_ble_eq_true rfl)) dX13_onReference_28 ⟨Nat.le_of_ble_eq_true rfl, Nat.le_of_ble_eq_true rfl⟩) hS (fun q _ h => hFc q h) hFc (fun u t H_9 locs ht hvm hw hB hz1 hk1 hS2 => ?_)
      obtain ⟨hP1, -, hD1⟩ := hB
      rw [ht] at hP1
      replace hD := hD1.weaken (fun _ _ _ h => hFc _ h)
      replace hP := hP1
      replace hS := hS2
      clear hP1 hD1 hS2 hFc hfc hz1 hk1 hvm ht
      refine lv_aload_n hx hb dX13_onReference_31 rfl (lv_at hl 0 rfl) ?_
      refine va_get (D := (dC, dI)) (ci := 13) (v := .int (z_7.1 h0 18)) (C := RX13) (T := TX13) (N := 22) hx hb hts iwd_X13_onReference_X13 hown hK hP h0 (Wd_ob kg_8 sg_8 (by decide)) rfl 18 (by decide) (hts _ md_X13_onReference_1) (fun _ h9 => h9) (fl_at (t := 0) rfl) dX13_onReference_32 ?_
      refine lv_if_ne (tgt := 248) hx hb dX13_onReference_35 (by decide) (fun c_10 => ?_) (fun c_10 => ?_)
      · skip
        rw [if_neg c_10] at hf
        obtain ⟨h8, h9⟩ := ret_some hf
        rw [h8]
        exact W.vret hx hb hr (fun t ht hW => ⟨⟨(), rfl, trivial, by rw [ht]; exact hP, va_K.moved hW.alike hK, hD⟩, hS.F ht⟩) hS.2.2 dX13_onReference_248
      · skip
        rw [if_pos c_10] at hf
        refine lv_aload_n hx hb dX13_onReference_38 rfl (lv_at hl 0 rfl) ?_
        refine lv_iload_n hx hb dX13_onReference_39 rfl (lv_at hl 1 rfl) ?_
        refine lv_bipush (v := 17) hx hb dX13_onReference_40 (by decide) ?_
        refine de_cut (h := 52) (fun (x : St × Int32) => [.int x.2, .ref (a h0)]) (fun x ls H locs => lv_has ls 6 [(0, .ref (a h0)), (2, .int x1), (3, .int x2)] ∧ va_P (dC, dI) vwCl (Wd cy a sh n x.1) H ∧ va_D A (Wd cy a sh n x.1) ∧ va_S A s.heap H locs) (fun x => fn_X13_onReference_B52 F sh n h0 x1 x2 x.1 x.2) (z8, r8) ?_ (fun B52 => ?_)
        · intro x ls H locs hI hf
          obtain ⟨z_12, p_11⟩ := x
          obtain ⟨hl2, hP2, hD2, hS2⟩ := hI
          replace hl : lv_has ls 6 [(0, .ref (a h0)), (2, .int x1), (3, .int x2)] := hl2
          replace hP := hP2
          replace hD := hD2
          replace hS := hS2
          clear hl2 hP2 hD2 hS2
          replace hf := fn_X13_onReference_B52_s hf
          refine W.eq (g2 := F0 m 52 ls [.int p_11, .ref (a h0)]) rfl ?_
          refine lv_aload_n hx hb dX13_onReference_52 rfl (lv_at hl 0 rfl) ?_
          obtain ⟨k_13, ek_13, hf⟩ := lnk_some hf
          refine va_get (D := (dC, dI)) (ci := 13) (v := .ref (a k_13)) (C := RX13) (T := TX13) (N := 22) hx hb hts iwd_X13_onReference_X13 hown hK hP h0 (Wd_ob kg_8 sg_8 (by decide)) rfl 0 (by decide) (hts _ md_X13_onReference_2) (fun _ h9 => h9) (fl_q rfl ek_13) dX13_onReference_53 ?_
          refine lv_iload_n hx hb dX13_onReference_56 rfl (lv_at hl 1 rfl) ?_
          refine lv_iload_n hx hb dX13_onReference_57 rfl (lv_at hl 2 rfl) ?_
          obtain ⟨g_16, hf⟩ := grd_some hf
          obtain ⟨kg_16, sg_16⟩ := okO_at g_16
          obtain ⟨z_14, r_15, hfc, hf⟩ := cal_some hf
          have hFc := de_free hD hS hA
          refine va_calll (va_runV (As := [.int x1, .int x2]) (rest := [.int p_11, .ref (a h0)]) ⟨hx, hb, hml, hown, hts⟩ (de_X16_field l dC dI cy a sh n H.size F z_12 k_13 x1 x2 hfc) (cwV 2 hts gX13_onReference_X16_field rfl rfl rfl (by decide +kernel) ⟨Nat.le_of_ble_eq_true rfl, Nat.le_of_ble_eq_true rfl⟩) ⟨fun a U g mk q => by obtain ⟨q0, q1, qP, qK, qD, qN⟩ := q; exact ⟨q0, q1, qP, va_K.moved (u := U) (U := U.calling g mk a) (Vm.Alike.refl U.vm) qK, qD, qN.same rfl⟩, va_recv hK hP (ci := 16) (q0 := k_13) rfl (Wd_ob kg_16 sg_16 (by decide)), fun U hU hW => ⟨rfl, by rw [hU], by rw [hU]; exact hP, va_K.moved hW.alike hK, hD.weaken (fun _ _ _ _ => trivial), hN.warm hW⟩⟩ rfl rfl hl.1 rfl (lv_room (Nat.le_of_ble_eq_true rfl)) dX13_onReference_58 ⟨Nat.le_of_ble_eq_true rfl, Nat.le_of_ble_eq_true rfl⟩) hS (fun q _ h => hFc q h) hFc (fun rr u t H_17 locs ht hvm hw hB hz1 hk1 hS2 => ?_)
          rw [hw]
          clear hw
          obtain ⟨hP1, -, hD1⟩ := hB
          rw [ht] at hP1
          replace hD := hD1.weaken (fun _ _ _ h => hFc _ h)
          replace hP := hP1
          replace hS := hS2
          clear hP1 hD1 hS2 hFc hfc hz1 hk1 hvm ht
          obtain ⟨z_18, r_19, hfc, hf⟩ := cal_some hf
          have hFc := de_free hD hS hA
          refine va_calll (va_runS (As := [.int p_11, .long r_15]) (rest := [.ref (a h0)]) ⟨hx, hb, hml, hown, hts⟩ (de_X13_before l dC dI cy a sh n H_17.size F z_14 p_11 r_15 hfc) (va_cwS 2 hts gX13_onReference_X13_before rfl rfl rfl (by decide +kernel) ⟨Nat.le_of_ble_eq_true rfl, Nat.le_of_ble_eq_true rfl⟩) ⟨fun a U g mk q => by obtain ⟨q0, q1, qP, qK, qD, qN⟩ := q; exact ⟨q0, q1, qP, va_K.moved (u := U) (U := U.calling g mk a) (Vm.Alike.refl U.vm) qK, qD, qN.same rfl⟩, fun U hU hW => ⟨rfl, by rw [hU], by rw [hU]; exact hP, va_K.moved hW.alike hK, hD.weaken (fun _ _ _ _ => trivial), hN.warm hW⟩⟩ rfl rfl hl.1 rfl (lv_room (Nat.le_of_ble_eq_true rfl)) dX13_onReference_61 ⟨Nat.le_of_ble_eq_true rfl, Nat.le_of_ble_eq_true rfl⟩) hS (fun q _ h => hFc q h) hFc (fun rr u t H_20 locs ht hvm hw hB hz1 hk1 hS2 => ?_)
          rw [hw]
          clear hw
          obtain ⟨hP1, -, hD1⟩ := hB
          rw [ht] at hP1
          replace hD := hD1.weaken (fun _ _ _ h => hFc _ h)
          replace hP := hP1
          replace hS := hS2
          clear hP1 hD1 hS2 hFc hfc hz1 hk1 hvm ht
          refine lv_aload_n hx hb dX13_onReference_64 rfl (lv_at hl 0 rfl) ?_
          refine va_get (D := (dC, dI)) (ci := 13) (v := .long (z_18.2.1 h0 20)) (C := RX13) (T := TX13) (N := 22) hx hb hts iwd_X13_onReference_X13 hown hK hP h0 (Wd_ob kg_8 sg_8 (by decide)) rfl 20 (by decide) (hts _ md_X13_onReference_3) (fun _ h9 => h9) (fl_at (t := 1) rfl) dX13_onReference_65 ?_
          refine lv_iconst (v := 1) hx hb dX13_onReference_68 (by decide) ?_
          obtain ⟨z_21, _u, hfc, hf⟩ := cal_some hf
          have hFc := de_free hD hS hA
          refine va_callv (va_runV (As := [.long r_19, .long (z_18.2.1 h0 20), .int 1]) (rest := []) ⟨hx, hb, hml, hown, hts⟩ (de_X13_push l dC dI cy a sh n H_20.size F z_18 h0 r_19 (z_18.2.1 h0 20) 1 hfc) (cwV 3 hts gX13_onReference_X13_push rfl rfl rfl (by decide +kernel) ⟨Nat.le_of_ble_eq_true rfl, Nat.le_of_ble_eq_true rfl⟩) ⟨fun a U g mk q => by obtain ⟨q0, q1, qP, qK, qD, qN⟩ := q; exact ⟨q0, q1, qP, va_K.moved (u := U) (U := U.calling g mk a) (Vm.Alike.refl U.vm) qK, qD, qN.same rfl⟩, va_recv hK hP (ci := 13) (q0 := h0) rfl (Wd_ob kg_8 sg_8 (by decide)), fun U hU hW => ⟨rfl, by rw [hU], by rw [hU]; exact hP, va_K.moved hW.alike hK, hD.weaken (fun _ _ _ _ => trivial), hN.warm hW⟩⟩ rfl rfl hl.1 rfl (lv_room (Nat.le_of_ble_eq_true rfl)) dX13_onReference_69 ⟨Nat.le_of_ble_eq_true rfl, Nat.le_of_ble_eq_true rfl⟩) hS (fun q _ h => hFc q h) hFc (fun u t H_22 locs ht hvm hw hB hz1 hk1 hS2 => ?_)
          obtain ⟨hP1, -, hD1⟩ := hB
          rw [ht] at hP1
          replace hD := hD1.weaken (fun _ _ _ h => hFc _ h)
          replace hP := hP1
          replace hS := hS2
          clear hP1 hD1 hS2 hFc hfc hz1 hk1 hvm ht
          refine lv_goto (tgt := 248) hx hb dX13_onReference_72 (by decide) ?_
          obtain ⟨h8, h9⟩ := ret_some hf
          rw [h8]
          exact W.vret hx hb hr (fun t ht hW => ⟨⟨(), rfl, trivial, by rw [ht]; exact hP, va_K.moved hW.alike hK, hD⟩, hS.F ht⟩) hS.2.2 dX13_onReference_248
        refine lv_icmp_ne (tgt := 50) hx hb dX13_onReference_42 (by decide) (fun c_23 => ?_) (fun c_23 => ?_)
        · skip
          rw [if_neg c_23] at hf
          refine lv_bipush (v := 8) hx hb dX13_onReference_50 (by decide) ?_
          exact B52 (z_7, 8) ls H_9 locs ⟨lv_sub hl [0, 2, 3] rfl, hP, hD, hS⟩ hf
        · skip
          rw [if_pos c_23] at hf
          refine lv_bipush (v := 9) hx hb dX13_onReference_45 (by decide) ?_
          refine lv_goto (tgt := 52) hx hb dX13_onReference_47 (by decide) ?_
          exact B52 (z_7, 9) ls H_9 locs ⟨lv_sub hl [0, 2, 3] rfl, hP, hD, hS⟩ hf
    refine lv_icmp_ne (tgt := 27) hx hb dX13_onReference_20 (by decide) (fun c_24 => ?_) (fun c_24 => ?_)
    · skip
      rw [if_neg c_24] at hf
      refine lv_iconst (v := 0) hx hb dX13_onReference_27 (by decide) ?_
      exact B28 (z_2, 0) ls H_4 locs ⟨lv_sub hl [0, 1, 2, 3] rfl, hP, hD, hS⟩ hf
    · skip
      rw [if_pos c_24] at hf
      refine lv_iconst (v := 1) hx hb dX13_onReference_23 (by decide) ?_
      refine lv_goto (tgt := 28) hx hb dX13_onReference_24 (by decide) ?_
      exact B28 (z_2, 1) ls H_4 locs ⟨lv_sub hl [0, 1, 2, 3] rfl, hP, hD, hS⟩ hf
  refine lv_icmp_eq (tgt := 12) hx hb dX13_onReference_3 (by decide) (fun c_25 => ?_) (fun c_25 => ?_)
  · skip
    rw [if_pos c_25] at hf
    exact B12 (z) ls H locs ⟨lv_sub hl [0, 1, 2, 3] rfl, hP, hD, hS⟩ hf
  · skip
    rw [if_neg c_25] at hf
    refine lv_iload_n hx hb dX13_onReference_6 rfl (lv_at hl 1 rfl) ?_
    refine lv_bipush (v := 17) hx hb dX13_onReference_7 (by decide) ?_
    refine lv_icmp_ne (tgt := 75) hx hb dX13_onReference_9 (by decide) (fun c_26 => ?_) (fun c_26 => ?_)
    · skip
      rw [if_neg c_26] at hf
      refine lv_iload_n hx hb dX13_onReference_75 rfl (lv_at hl 1 rfl) ?_
      refine lv_bipush (v := 18) hx hb dX13_onReference_76 (by decide) ?_
      refine lv_icmp_ne (tgt := 132) hx hb dX13_onReference_78 (by decide) (fun c_27 => ?_) (fun c_27 => ?_)
      · skip
        rw [if_neg c_27] at hf
        refine lv_iload_n hx hb dX13_onReference_132 rfl (lv_at hl 1 rfl) ?_
        refine lv_bipush (v := 19) hx hb dX13_onReference_133 (by decide) ?_
        refine lv_icmp_ne (tgt := 211) hx hb dX13_onReference_135 (by decide) (fun c_28 => ?_) (fun c_28 => ?_)
        · skip
          rw [if_neg c_28] at hf
          refine lv_aload_n hx hb dX13_onReference_211 rfl (lv_at hl 0 rfl) ?_
          refine lv_lconst (v := 0) hx hb dX13_onReference_212 (by decide) ?_
          refine lv_iconst (v := 1) hx hb dX13_onReference_213 (by decide) ?_
          obtain ⟨g_30, hf⟩ := grd_some hf
          obtain ⟨kg_30, sg_30⟩ := okO_at g_30
          obtain ⟨z_29, _u, hfc, hf⟩ := cal_some hf
          have hFc := de_free hD hS hA
          refine va_callv (va_runV (As := [.long 0, .int 1]) (rest := []) ⟨hx, hb, hml, hown, hts⟩ (de_X13_takeReference l dC dI cy a sh n H.size F z h0 0 1 hfc) (cwV 2 hts gX13_onReference_X13_takeReference rfl rfl rfl (by decide +kernel) ⟨Nat.le_of_ble_eq_true rfl, Nat.le_of_ble_eq_true rfl⟩) ⟨fun a U g mk q => by obtain ⟨q0, q1, qP, qK, qD, qN⟩ := q; exact ⟨q0, q1, qP, va_K.moved (u := U) (U := U.calling g mk a) (Vm.Alike.refl U.vm) qK, qD, qN.same rfl⟩, va_recv hK hP (ci := 13) (q0 := h0) rfl (Wd_ob kg_30 sg_30 (by decide)), fun U hU hW => ⟨rfl, by rw [hU], by rw [hU]; exact hP, va_K.moved hW.alike hK, hD.weaken (fun _ _ _ _ => trivial), hN.warm hW⟩⟩ rfl rfl hl.1 rfl (lv_room (Nat.le_of_ble_eq_true rfl)) dX13_onReference_214 ⟨Nat.le_of_ble_eq_true rfl, Nat.le_of_ble_eq_true rfl⟩) hS (fun q _ h => hFc q h) hFc (fun u t H_31 locs ht hvm hw hB hz1 hk1 hS2 => ?_)
          obtain ⟨hP1, -, hD1⟩ := hB
          rw [ht] at hP1
          replace hD := hD1.weaken (fun _ _ _ h => hFc _ h)
          replace hP := hP1
          replace hS := hS2
          clear hP1 hD1 hS2 hFc hfc hz1 hk1 hvm ht
          refine lv_aload_n hx hb dX13_onReference_217 rfl (lv_at hl 0 rfl) ?_
          refine va_get (D := (dC, dI)) (ci := 13) (v := .int (z_29.1 h0 18)) (C := RX13) (T := TX13) (N := 22) hx hb hts iwd_X13_onReference_X13 hown hK hP h0 (Wd_ob kg_30 sg_30 (by decide)) rfl 18 (by decide) (hts _ md_X13_onReference_1) (fun _ h9 => h9) (fl_at (t := 0) rfl) dX13_onReference_218 ?_
          refine lv_if_ne (tgt := 248) hx hb dX13_onReference_221 (by decide) (fun c_32 => ?_) (fun c_32 => ?_)
          · skip
            rw [if_neg c_32] at hf
            obtain ⟨h8, h9⟩ := ret_some hf
            rw [h8]
            exact W.vret hx hb hr (fun t ht hW => ⟨⟨(), rfl, trivial, by rw [ht]; exact hP, va_K.moved hW.alike hK, hD⟩, hS.F ht⟩) hS.2.2 dX13_onReference_248
          · skip
            rw [if_pos c_32] at hf
            refine lv_aload_n hx hb dX13_onReference_224 rfl (lv_at hl 0 rfl) ?_
            refine lv_bipush (v := 8) hx hb dX13_onReference_225 (by decide) ?_
            refine lv_aload_n hx hb dX13_onReference_227 rfl (lv_at hl 0 rfl) ?_
            refine va_get (D := (dC, dI)) (ci := 13) (v := .long (z_29.2.1 h0 19)) (C := RX13) (T := TX13) (N := 22) hx hb hts iwd_X13_onReference_X13 hown hK hP h0 (Wd_ob kg_30 sg_30 (by decide)) rfl 19 (by decide) (hts _ md_X13_onReference_4) (fun _ h9 => h9) (fl_at (t := 1) rfl) dX13_onReference_228 ?_
            obtain ⟨z_33, r_34, hfc, hf⟩ := cal_some hf
            have hFc := de_free hD hS hA
            refine va_calll (va_runS (As := [.long (z_29.2.1 h0 19)]) (rest := [.int 8, .ref (a h0)]) ⟨hx, hb, hml, hown, hts⟩ (de_X13_pointed l dC dI cy a sh n H_31.size F z_29 (z_29.2.1 h0 19) hfc) (va_cwS 1 hts gX13_onReference_X13_pointed rfl rfl rfl (by decide +kernel) ⟨Nat.le_of_ble_eq_true rfl, Nat.le_of_ble_eq_true rfl⟩) ⟨fun a U g mk q => by obtain ⟨q0, q1, qP, qK, qD, qN⟩ := q; exact ⟨q0, q1, qP, va_K.moved (u := U) (U := U.calling g mk a) (Vm.Alike.refl U.vm) qK, qD, qN.same rfl⟩, fun U hU hW => ⟨rfl, by rw [hU], by rw [hU]; exact hP, va_K.moved hW.alike hK, hD.weaken (fun _ _ _ _ => trivial), hN.warm hW⟩⟩ rfl rfl hl.1 rfl (lv_room (Nat.le_of_ble_eq_true rfl)) dX13_onReference_231 ⟨Nat.le_of_ble_eq_true rfl, Nat.le_of_ble_eq_true rfl⟩) hS (fun q _ h => hFc q h) hFc (fun rr u t H_35 locs ht hvm hw hB hz1 hk1 hS2 => ?_)
            rw [hw]
            clear hw
            obtain ⟨hP1, -, hD1⟩ := hB
            rw [ht] at hP1
            replace hD := hD1.weaken (fun _ _ _ h => hFc _ h)
            replace hP := hP1
            replace hS := hS2
            clear hP1 hD1 hS2 hFc hfc hz1 hk1 hvm ht
            obtain ⟨z_36, r_37, hfc, hf⟩ := cal_some hf
            have hFc := de_free hD hS hA
            refine va_calll (va_runS (As := [.int 8, .long r_34]) (rest := [.ref (a h0)]) ⟨hx, hb, hml, hown, hts⟩ (de_X13_before l dC dI cy a sh n H_35.size F z_33 8 r_34 hfc) (va_cwS 2 hts gX13_onReference_X13_before rfl rfl rfl (by decide +kernel) ⟨Nat.le_of_ble_eq_true rfl, Nat.le_of_ble_eq_true rfl⟩) ⟨fun a U g mk q => by obtain ⟨q0, q1, qP, qK, qD, qN⟩ := q; exact ⟨q0, q1, qP, va_K.moved (u := U) (U := U.calling g mk a) (Vm.Alike.refl U.vm) qK, qD, qN.same rfl⟩, fun U hU hW => ⟨rfl, by rw [hU], by rw [hU]; exact hP, va_K.moved hW.alike hK, hD.weaken (fun _ _ _ _ => trivial), hN.warm hW⟩⟩ rfl rfl hl.1 rfl (lv_room (Nat.le_of_ble_eq_true rfl)) dX13_onReference_234 ⟨Nat.le_of_ble_eq_true rfl, Nat.le_of_ble_eq_true rfl⟩) hS (fun q _ h => hFc q h) hFc (fun rr u t H_38 locs ht hvm hw hB hz1 hk1 hS2 => ?_)
            rw [hw]
            clear hw
            obtain ⟨hP1, -, hD1⟩ := hB
            rw [ht] at hP1
            replace hD := hD1.weaken (fun _ _ _ h => hFc _ h)
            replace hP := hP1
            replace hS := hS2
            clear hP1 hD1 hS2 hFc hfc hz1 hk1 hvm ht
            refine lv_aload_n hx hb dX13_onReference_237 rfl (lv_at hl 0 rfl) ?_
            refine va_get (D := (dC, dI)) (ci := 13) (v := .long (z_36.2.1 h0 20)) (C := RX13) (T := TX13) (N := 22) hx hb hts iwd_X13_onReference_X13 hown hK hP h0 (Wd_ob kg_30 sg_30 (by decide)) rfl 20 (by decide) (hts _ md_X13_onReference_3) (fun _ h9 => h9) (fl_at (t := 1) rfl) dX13_onReference_238 ?_
            refine lv_aload_n hx hb dX13_onReference_241 rfl (lv_at hl 0 rfl) ?_
            refine va_get (D := (dC, dI)) (ci := 13) (v := .int (z_36.1 h0 21)) (C := RX13) (T := TX13) (N := 22) hx hb hts iwd_X13_onReference_X13 hown hK hP h0 (Wd_ob kg_30 sg_30 (by decide)) rfl 21 (by decide) (hts _ md_X13_onReference_5) (fun _ h9 => h9) (fl_at (t := 0) rfl) dX13_onReference_242 ?_
            obtain ⟨z_39, _u, hfc, hf⟩ := cal_some hf
            have hFc := de_free hD hS hA
            refine va_callv (va_runV (As := [.long r_37, .long (z_36.2.1 h0 20), .int (z_36.1 h0 21)]) (rest := []) ⟨hx, hb, hml, hown, hts⟩ (de_X13_push l dC dI cy a sh n H_38.size F z_36 h0 r_37 (z_36.2.1 h0 20) (z_36.1 h0 21) hfc) (cwV 3 hts gX13_onReference_X13_push rfl rfl rfl (by decide +kernel) ⟨Nat.le_of_ble_eq_true rfl, Nat.le_of_ble_eq_true rfl⟩) ⟨fun a U g mk q => by obtain ⟨q0, q1, qP, qK, qD, qN⟩ := q; exact ⟨q0, q1, qP, va_K.moved (u := U) (U := U.calling g mk a) (Vm.Alike.refl U.vm) qK, qD, qN.same rfl⟩, va_recv hK hP (ci := 13) (q0 := h0) rfl (Wd_ob kg_30 sg_30 (by decide)), fun U hU hW => ⟨rfl, by rw [hU], by rw [hU]; exact hP, va_K.moved hW.alike hK, hD.weaken (fun _ _ _ _ => trivial), hN.warm hW⟩⟩ rfl rfl hl.1 rfl (lv_room (Nat.le_of_ble_eq_true rfl)) dX13_onReference_245 ⟨Nat.le_of_ble_eq_true rfl, Nat.le_of_ble_eq_true rfl⟩) hS (fun q _ h => hFc q h) hFc (fun u t H_40 locs ht hvm hw hB hz1 hk1 hS2 => ?_)
            obtain ⟨hP1, -, hD1⟩ := hB
            rw [ht] at hP1
            replace hD := hD1.weaken (fun _ _ _ h => hFc _ h)
            replace hP := hP1
            replace hS := hS2
            clear hP1 hD1 hS2 hFc hfc hz1 hk1 hvm ht
            obtain ⟨h8, h9⟩ := ret_some hf
            rw [h8]
            exact W.vret hx hb hr (fun t ht hW => ⟨⟨(), rfl, trivial, by rw [ht]; exact hP, va_K.moved hW.alike hK, hD⟩, hS.F ht⟩) hS.2.2 dX13_onReference_248
        · skip
          rw [if_pos c_28] at hf
          refine lv_aload_n hx hb dX13_onReference_138 rfl (lv_at hl 0 rfl) ?_
          refine lv_lconst (v := 0) hx hb dX13_onReference_139 (by decide) ?_
          refine lv_iconst (v := 1) hx hb dX13_onReference_140 (by decide) ?_
          obtain ⟨g_42, hf⟩ := grd_some hf
          obtain ⟨kg_42, sg_42⟩ := okO_at g_42
          obtain ⟨z_41, _u, hfc, hf⟩ := cal_some hf
          have hFc := de_free hD hS hA
          refine va_callv (va_runV (As := [.long 0, .int 1]) (rest := []) ⟨hx, hb, hml, hown, hts⟩ (de_X13_takeReference l dC dI cy a sh n H.size F z h0 0 1 hfc) (cwV 2 hts gX13_onReference_X13_takeReference rfl rfl rfl (by decide +kernel) ⟨Nat.le_of_ble_eq_true rfl, Nat.le_of_ble_eq_true rfl⟩) ⟨fun a U g mk q => by obtain ⟨q0, q1, qP, qK, qD, qN⟩ := q; exact ⟨q0, q1, qP, va_K.moved (u := U) (U := U.calling g mk a) (Vm.Alike.refl U.vm) qK, qD, qN.same rfl⟩, va_recv hK hP (ci := 13) (q0 := h0) rfl (Wd_ob kg_42 sg_42 (by decide)), fun U hU hW => ⟨rfl, by rw [hU], by rw [hU]; exact hP, va_K.moved hW.alike hK, hD.weaken (fun _ _ _ _ => trivial), hN.warm hW⟩⟩ rfl rfl hl.1 rfl (lv_room (Nat.le_of_ble_eq_true rfl)) dX13_onReference_141 ⟨Nat.le_of_ble_eq_true rfl, Nat.le_of_ble_eq_true rfl⟩) hS (fun q _ h => hFc q h) hFc (fun u t H_43 locs ht hvm hw hB hz1 hk1 hS2 => ?_)
          obtain ⟨hP1, -, hD1⟩ := hB
          rw [ht] at hP1
          replace hD := hD1.weaken (fun _ _ _ h => hFc _ h)
          replace hP := hP1
          replace hS := hS2
          clear hP1 hD1 hS2 hFc hfc hz1 hk1 hvm ht
          refine lv_aload_n hx hb dX13_onReference_144 rfl (lv_at hl 0 rfl) ?_
          refine va_get (D := (dC, dI)) (ci := 13) (v := .long (z_41.2.1 h0 20)) (C := RX13) (T := TX13) (N := 22) hx hb hts iwd_X13_onReference_X13 hown hK hP h0 (Wd_ob kg_42 sg_42 (by decide)) rfl 20 (by decide) (hts _ md_X13_onReference_3) (fun _ h9 => h9) (fl_at (t := 1) rfl) dX13_onReference_145 ?_
          refine lv_topl (fun v_44 ev_44 => ?_)
          replace hf := lt_at ev_44 hf
          clear ev_44
          refine lv_lstore (lv' := [(4, .long v_44), (0, .ref (a h0)), (1, .int x0), (2, .int x1), (3, .int x2)]) hx hb dX13_onReference_148 hl (by decide) rfl (fun ls hl2 => ?_)
          replace hl := hl2
          clear hl2
          refine lv_aload_n hx hb dX13_onReference_150 rfl (lv_at hl 1 rfl) ?_
          refine va_get (D := (dC, dI)) (ci := 13) (v := .int (z_41.1 h0 18)) (C := RX13) (T := TX13) (N := 22) hx hb hts iwd_X13_onReference_X13 hown hK hP h0 (Wd_ob kg_42 sg_42 (by decide)) rfl 18 (by decide) (hts _ md_X13_onReference_1) (fun _ h9 => h9) (fl_at (t := 0) rfl) dX13_onReference_151 ?_
          refine de_cut (h := 168) (fun (x : St) => []) (fun x ls H locs => lv_has ls 6 [(4, .long v_44), (0, .ref (a h0))] ∧ va_P (dC, dI) vwCl (Wd cy a sh n x) H ∧ va_D A (Wd cy a sh n x) ∧ va_S A s.heap H locs) (fun x => fn_X13_onReference_B168 F sh n h0 v_44 x) (z8, r8) ?_ (fun B168 => ?_)
          · intro x ls H locs hI hf
            obtain ⟨z_45, ez⟩ : ∃ w, w = x := ⟨_, rfl⟩
            subst ez
            obtain ⟨hl2, hP2, hD2, hS2⟩ := hI
            replace hl : lv_has ls 6 [(4, .long v_44), (0, .ref (a h0))] := hl2
            replace hP := hP2
            replace hD := hD2
            replace hS := hS2
            clear hl2 hP2 hD2 hS2
            replace hf := fn_X13_onReference_B168_s hf
            refine W.eq (g2 := F0 m 168 ls []) rfl ?_
            refine lv_aload_n hx hb dX13_onReference_168 rfl (lv_at hl 1 rfl) ?_
            refine va_get (D := (dC, dI)) (ci := 13) (v := .int (z_45.1 h0 18)) (C := RX13) (T := TX13) (N := 22) hx hb hts iwd_X13_onReference_X13 hown hK hP h0 (Wd_ob kg_42 sg_42 (by decide)) rfl 18 (by decide) (hts _ md_X13_onReference_1) (fun _ h9 => h9) (fl_at (t := 0) rfl) dX13_onReference_169 ?_
            refine de_cut (h := 189) (fun (x : St) => []) (fun x ls H locs => lv_has ls 6 [(4, .long v_44), (0, .ref (a h0))] ∧ va_P (dC, dI) vwCl (Wd cy a sh n x) H ∧ va_D A (Wd cy a sh n x) ∧ va_S A s.heap H locs) (fun x => fn_X13_onReference_B189 F sh n h0 v_44 x) (z8, r8) ?_ (fun B189 => ?_)
            · intro x ls H locs hI hf
              obtain ⟨z_46, ez⟩ : ∃ w, w = x := ⟨_, rfl⟩
              subst ez
              obtain ⟨hl2, hP2, hD2, hS2⟩ := hI
              replace hl : lv_has ls 6 [(4, .long v_44), (0, .ref (a h0))] := hl2
              replace hP := hP2
              replace hD := hD2
              replace hS := hS2
              clear hl2 hP2 hD2 hS2
              replace hf := fn_X13_onReference_B189_s hf
              refine W.eq (g2 := F0 m 189 ls []) rfl ?_
              refine lv_aload_n hx hb dX13_onReference_189 rfl (lv_at hl 1 rfl) ?_
              refine va_get (D := (dC, dI)) (ci := 13) (v := .int (z_46.1 h0 18)) (C := RX13) (T := TX13) (N := 22) hx hb hts iwd_X13_onReference_X13 hown hK hP h0 (Wd_ob kg_42 sg_42 (by decide)) rfl 18 (by decide) (hts _ md_X13_onReference_1) (fun _ h9 => h9) (fl_at (t := 0) rfl) dX13_onReference_190 ?_
              refine lv_if_ne (tgt := 208) hx hb dX13_onReference_193 (by decide) (fun c_47 => ?_) (fun c_47 => ?_)
              · skip
                rw [if_neg c_47] at hf
                refine lv_goto (tgt := 248) hx hb dX13_onReference_208 (by decide) ?_
                obtain ⟨h8, h9⟩ := ret_some hf
                rw [h8]
                exact W.vret hx hb hr (fun t ht hW => ⟨⟨(), rfl, trivial, by rw [ht]; exact hP, va_K.moved hW.alike hK, hD⟩, hS.F ht⟩) hS.2.2 dX13_onReference_248
              · skip
                rw [if_pos c_47] at hf
                refine lv_aload_n hx hb dX13_onReference_196 rfl (lv_at hl 1 rfl) ?_
                refine lv_aload_n hx hb dX13_onReference_197 rfl (lv_at hl 1 rfl) ?_
                refine lv_lload hx hb dX13_onReference_198 (lv_at hl 0 rfl) ?_
                obtain ⟨z_48, r_49, hfc, hf⟩ := cal_some hf
                have hFc := de_free hD hS hA
                refine va_calli (va_runV (As := [.long v_44]) (rest := [.ref (a h0)]) ⟨hx, hb, hml, hown, hts⟩ (de_X13_isSole l dC dI cy a sh n H.size F z_46 h0 v_44 hfc) (cwV 1 hts gX13_onReference_X13_isSole rfl rfl rfl (by decide +kernel) ⟨Nat.le_of_ble_eq_true rfl, Nat.le_of_ble_eq_true rfl⟩) ⟨fun a U g mk q => by obtain ⟨q0, q1, qP, qK, qD, qN⟩ := q; exact ⟨q0, q1, qP, va_K.moved (u := U) (U := U.calling g mk a) (Vm.Alike.refl U.vm) qK, qD, qN.same rfl⟩, va_recv hK hP (ci := 13) (q0 := h0) rfl (Wd_ob kg_42 sg_42 (by decide)), fun U hU hW => ⟨rfl, by rw [hU], by rw [hU]; exact hP, va_K.moved hW.alike hK, hD.weaken (fun _ _ _ _ => trivial), hN.warm hW⟩⟩ rfl rfl hl.1 rfl (lv_room (Nat.le_of_ble_eq_true rfl)) dX13_onReference_200 ⟨Nat.le_of_ble_eq_true rfl, Nat.le_of_ble_eq_true rfl⟩) hS (fun q _ h => hFc q h) hFc (fun rr u t H_50 locs ht hvm hw hB hz1 hk1 hS2 => ?_)
                rw [hw]
                clear hw
                obtain ⟨hP1, -, hD1⟩ := hB
                rw [ht] at hP1
                replace hD := hD1.weaken (fun _ _ _ h => hFc _ h)
                replace hP := hP1
                replace hS := hS2
                clear hP1 hD1 hS2 hFc hfc hz1 hk1 hvm ht
                refine lv_bipush (v := 6) hx hb dX13_onReference_203 (by decide) ?_
                obtain ⟨z_51, _u, hfc, hf⟩ := cal_some hf
                have hFc := de_free hD hS hA
                refine va_callv (va_runV (As := [.int r_49, .int 6]) (rest := []) ⟨hx, hb, hml, hown, hts⟩ (de_X13_need l dC dI cy a sh n H_50.size F z_48 h0 r_49 6 hfc) (cwV 2 hts gX13_onReference_X13_need rfl rfl rfl (by decide +kernel) ⟨Nat.le_of_ble_eq_true rfl, Nat.le_of_ble_eq_true rfl⟩) ⟨fun a U g mk q => by obtain ⟨q0, q1, qP, qK, qD, qN⟩ := q; exact ⟨q0, q1, qP, va_K.moved (u := U) (U := U.calling g mk a) (Vm.Alike.refl U.vm) qK, qD, qN.same rfl⟩, va_recv hK hP (ci := 13) (q0 := h0) rfl (Wd_ob kg_42 sg_42 (by decide)), fun U hU hW => ⟨rfl, by rw [hU], by rw [hU]; exact hP, va_K.moved hW.alike hK, hD.weaken (fun _ _ _ _ => trivial), hN.warm hW⟩⟩ rfl rfl hl.1 rfl (lv_room (Nat.le_of_ble_eq_true rfl)) dX13_onReference_205 ⟨Nat.le_of_ble_eq_true rfl, Nat.le_of_ble_eq_true rfl⟩) hS (fun q _ h => hFc q h) hFc (fun u t H_52 locs ht hvm hw hB hz1 hk1 hS2 => ?_)
                obtain ⟨hP1, -, hD1⟩ := hB
                rw [ht] at hP1
                replace hD := hD1.weaken (fun _ _ _ h => hFc _ h)
                replace hP := hP1
                replace hS := hS2
                clear hP1 hD1 hS2 hFc hfc hz1 hk1 hvm ht
                refine lv_goto (tgt := 248) hx hb dX13_onReference_208 (by decide) ?_
                obtain ⟨h8, h9⟩ := ret_some hf
                rw [h8]
                exact W.vret hx hb hr (fun t ht hW => ⟨⟨(), rfl, trivial, by rw [ht]; exact hP, va_K.moved hW.alike hK, hD⟩, hS.F ht⟩) hS.2.2 dX13_onReference_248
            refine lv_if_ne (tgt := 189) hx hb dX13_onReference_172 (by decide) (fun c_53 => ?_) (fun c_53 => ?_)
            · skip
              rw [if_neg c_53] at hf
              exact B189 (z_45) ls H locs ⟨lv_sub hl [0, 1] rfl, hP, hD, hS⟩ hf
            · skip
              rw [if_pos c_53] at hf
              refine lv_aload_n hx hb dX13_onReference_175 rfl (lv_at hl 1 rfl) ?_
              refine lv_aload_n hx hb dX13_onReference_176 rfl (lv_at hl 1 rfl) ?_
              refine lv_aload_n hx hb dX13_onReference_177 rfl (lv_at hl 1 rfl) ?_
              refine va_get (D := (dC, dI)) (ci := 13) (v := .long (z_45.2.1 h0 19)) (C := RX13) (T := TX13) (N := 22) hx hb hts iwd_X13_onReference_X13 hown hK hP h0 (Wd_ob kg_42 sg_42 (by decide)) rfl 19 (by decide) (hts _ md_X13_onReference_4) (fun _ h9 => h9) (fl_at (t := 1) rfl) dX13_onReference_178 ?_
              refine lv_iconst (v := 2) hx hb dX13_onReference_181 (by decide) ?_
              obtain ⟨z_54, r_55, hfc, hf⟩ := cal_some hf
              have hFc := de_free hD hS hA
              refine va_calli (va_runV (As := [.long (z_45.2.1 h0 19), .int 2]) (rest := [.ref (a h0)]) ⟨hx, hb, hml, hown, hts⟩ (de_X13_has l dC dI cy a sh n H.size F z_45 h0 (z_45.2.1 h0 19) 2 hfc) (cwV 2 hts gX13_onReference_X13_has rfl rfl rfl (by decide +kernel) ⟨Nat.le_of_ble_eq_true rfl, Nat.le_of_ble_eq_true rfl⟩) ⟨fun a U g mk q => by obtain ⟨q0, q1, qP, qK, qD, qN⟩ := q; exact ⟨q0, q1, qP, va_K.moved (u := U) (U := U.calling g mk a) (Vm.Alike.refl U.vm) qK, qD, qN.same rfl⟩, va_recv hK hP (ci := 13) (q0 := h0) rfl (Wd_ob kg_42 sg_42 (by decide)), fun U hU hW => ⟨rfl, by rw [hU], by rw [hU]; exact hP, va_K.moved hW.alike hK, hD.weaken (fun _ _ _ _ => trivial), hN.warm hW⟩⟩ rfl rfl hl.1 rfl (lv_room (Nat.le_of_ble_eq_true rfl)) dX13_onReference_182 ⟨Nat.le_of_ble_eq_true rfl, Nat.le_of_ble_eq_true rfl⟩) hS (fun q _ h => hFc q h) hFc (fun rr u t H_56 locs ht hvm hw hB hz1 hk1 hS2 => ?_)
              rw [hw]
              clear hw
              obtain ⟨hP1, -, hD1⟩ := hB
              rw [ht] at hP1
              replace hD := hD1.weaken (fun _ _ _ h => hFc _ h)
              replace hP := hP1
              replace hS := hS2
              clear hP1 hD1 hS2 hFc hfc hz1 hk1 hvm ht
              refine lv_iconst (v := 4) hx hb dX13_onReference_185 (by decide) ?_
              obtain ⟨z_57, _u, hfc, hf⟩ := cal_some hf
              have hFc := de_free hD hS hA
              refine va_callv (va_runV (As := [.int r_55, .int 4]) (rest := []) ⟨hx, hb, hml, hown, hts⟩ (de_X13_need l dC dI cy a sh n H_56.size F z_54 h0 r_55 4 hfc) (cwV 2 hts gX13_onReference_X13_need rfl rfl rfl (by decide +kernel) ⟨Nat.le_of_ble_eq_true rfl, Nat.le_of_ble_eq_true rfl⟩) ⟨fun a U g mk q => by obtain ⟨q0, q1, qP, qK, qD, qN⟩ := q; exact ⟨q0, q1, qP, va_K.moved (u := U) (U := U.calling g mk a) (Vm.Alike.refl U.vm) qK, qD, qN.same rfl⟩, va_recv hK hP (ci := 13) (q0 := h0) rfl (Wd_ob kg_42 sg_42 (by decide)), fun U hU hW => ⟨rfl, by rw [hU], by rw [hU]; exact hP, va_K.moved hW.alike hK, hD.weaken (fun _ _ _ _ => trivial), hN.warm hW⟩⟩ rfl rfl hl.1 rfl (lv_room (Nat.le_of_ble_eq_true rfl)) dX13_onReference_186 ⟨Nat.le_of_ble_eq_true rfl, Nat.le_of_ble_eq_true rfl⟩) hS (fun q _ h => hFc q h) hFc (fun u t H_58 locs ht hvm hw hB hz1 hk1 hS2 => ?_)
              obtain ⟨hP1, -, hD1⟩ := hB
              rw [ht] at hP1
              replace hD := hD1.weaken (fun _ _ _ h => hFc _ h)
              replace hP := hP1
              replace hS := hS2
              clear hP1 hD1 hS2 hFc hfc hz1 hk1 hvm ht
              exact B189 (z_57) ls H_58 locs ⟨lv_sub hl [0, 1] rfl, hP, hD, hS⟩ hf
          refine lv_if_ne (tgt := 168) hx hb dX13_onReference_154 (by decide) (fun c_59 => ?_) (fun c_59 => ?_)
          · skip
            rw [if_neg c_59] at hf
            exact B168 (z_41) ls H_43 locs ⟨lv_sub hl [0, 1] rfl, hP, hD, hS⟩ hf
          · skip
            rw [if_pos c_59] at hf
            refine lv_aload_n hx hb dX13_onReference_157 rfl (lv_at hl 1 rfl) ?_
            refine lv_aload_n hx hb dX13_onReference_158 rfl (lv_at hl 1 rfl) ?_
            refine va_get (D := (dC, dI)) (ci := 13) (v := .long (z_41.2.1 h0 19)) (C := RX13) (T := TX13) (N := 22) hx hb hts iwd_X13_onReference_X13 hown hK hP h0 (Wd_ob kg_42 sg_42 (by decide)) rfl 19 (by decide) (hts _ md_X13_onReference_4) (fun _ h9 => h9) (fl_at (t := 1) rfl) dX13_onReference_159 ?_
            obtain ⟨z_60, r_61, hfc, hf⟩ := cal_some hf
            have hFc := de_free hD hS hA
            refine va_calll (va_runS (As := [.long (z_41.2.1 h0 19)]) (rest := [.ref (a h0)]) ⟨hx, hb, hml, hown, hts⟩ (de_X13_pointed l dC dI cy a sh n H_43.size F z_41 (z_41.2.1 h0 19) hfc) (va_cwS 1 hts gX13_onReference_X13_pointed rfl rfl rfl (by decide +kernel) ⟨Nat.le_of_ble_eq_true rfl, Nat.le_of_ble_eq_true rfl⟩) ⟨fun a U g mk q => by obtain ⟨q0, q1, qP, qK, qD, qN⟩ := q; exact ⟨q0, q1, qP, va_K.moved (u := U) (U := U.calling g mk a) (Vm.Alike.refl U.vm) qK, qD, qN.same rfl⟩, fun U hU hW => ⟨rfl, by rw [hU], by rw [hU]; exact hP, va_K.moved hW.alike hK, hD.weaken (fun _ _ _ _ => trivial), hN.warm hW⟩⟩ rfl rfl hl.1 rfl (lv_room (Nat.le_of_ble_eq_true rfl)) dX13_onReference_162 ⟨Nat.le_of_ble_eq_true rfl, Nat.le_of_ble_eq_true rfl⟩) hS (fun q _ h => hFc q h) hFc (fun rr u t H_62 locs ht hvm hw hB hz1 hk1 hS2 => ?_)
            rw [hw]
            clear hw
            obtain ⟨hP1, -, hD1⟩ := hB
            rw [ht] at hP1
            replace hD := hD1.weaken (fun _ _ _ h => hFc _ h)
            replace hP := hP1
            replace hS := hS2
            clear hP1 hD1 hS2 hFc hfc hz1 hk1 hvm ht
            obtain ⟨z_63, _u, hfc, hf⟩ := cal_some hf
            have hFc := de_free hD hS hA
            refine va_callv (va_runV (As := [.long r_61]) (rest := []) ⟨hx, hb, hml, hown, hts⟩ (de_X13_take_ l dC dI cy a sh n H_62.size F z_60 h0 r_61 hfc) (cwV 1 hts gX13_onReference_X13_take_ rfl rfl rfl (by decide +kernel) ⟨Nat.le_of_ble_eq_true rfl, Nat.le_of_ble_eq_true rfl⟩) ⟨fun a U g mk q => by obtain ⟨q0, q1, qP, qK, qD, qN⟩ := q; exact ⟨q0, q1, qP, va_K.moved (u := U) (U := U.calling g mk a) (Vm.Alike.refl U.vm) qK, qD, qN.same rfl⟩, va_recv hK hP (ci := 13) (q0 := h0) rfl (Wd_ob kg_42 sg_42 (by decide)), fun U hU hW => ⟨rfl, by rw [hU], by rw [hU]; exact hP, va_K.moved hW.alike hK, hD.weaken (fun _ _ _ _ => trivial), hN.warm hW⟩⟩ rfl rfl hl.1 rfl (lv_room (Nat.le_of_ble_eq_true rfl)) dX13_onReference_165 ⟨Nat.le_of_ble_eq_true rfl, Nat.le_of_ble_eq_true rfl⟩) hS (fun q _ h => hFc q h) hFc (fun u t H_64 locs ht hvm hw hB hz1 hk1 hS2 => ?_)
            obtain ⟨hP1, -, hD1⟩ := hB
            rw [ht] at hP1
            replace hD := hD1.weaken (fun _ _ _ h => hFc _ h)
            replace hP := hP1
            replace hS := hS2
            clear hP1 hD1 hS2 hFc hfc hz1 hk1 hvm ht
            exact B168 (z_63) ls H_64 locs ⟨lv_sub hl [0, 1] rfl, hP, hD, hS⟩ hf
      · skip
        rw [if_pos c_27] at hf
        refine lv_aload_n hx hb dX13_onReference_81 rfl (lv_at hl 0 rfl) ?_
        refine lv_lconst (v := 0) hx hb dX13_onReference_82 (by decide) ?_
        refine lv_iconst (v := 0) hx hb dX13_onReference_83 (by decide) ?_
        obtain ⟨g_66, hf⟩ := grd_some hf
        obtain ⟨kg_66, sg_66⟩ := okO_at g_66
        obtain ⟨z_65, _u, hfc, hf⟩ := cal_some hf
        have hFc := de_free hD hS hA
        refine va_callv (va_runV (As := [.long 0, .int 0]) (rest := []) ⟨hx, hb, hml, hown, hts⟩ (de_X13_takeReference l dC dI cy a sh n H.size F z h0 0 0 hfc) (cwV 2 hts gX13_onReference_X13_takeReference rfl rfl rfl (by decide +kernel) ⟨Nat.le_of_ble_eq_true rfl, Nat.le_of_ble_eq_true rfl⟩) ⟨fun a U g mk q => by obtain ⟨q0, q1, qP, qK, qD, qN⟩ := q; exact ⟨q0, q1, qP, va_K.moved (u := U) (U := U.calling g mk a) (Vm.Alike.refl U.vm) qK, qD, qN.same rfl⟩, va_recv hK hP (ci := 13) (q0 := h0) rfl (Wd_ob kg_66 sg_66 (by decide)), fun U hU hW => ⟨rfl, by rw [hU], by rw [hU]; exact hP, va_K.moved hW.alike hK, hD.weaken (fun _ _ _ _ => trivial), hN.warm hW⟩⟩ rfl rfl hl.1 rfl (lv_room (Nat.le_of_ble_eq_true rfl)) dX13_onReference_84 ⟨Nat.le_of_ble_eq_true rfl, Nat.le_of_ble_eq_true rfl⟩) hS (fun q _ h => hFc q h) hFc (fun u t H_67 locs ht hvm hw hB hz1 hk1 hS2 => ?_)
        obtain ⟨hP1, -, hD1⟩ := hB
        rw [ht] at hP1
        replace hD := hD1.weaken (fun _ _ _ h => hFc _ h)
        replace hP := hP1
        replace hS := hS2
        clear hP1 hD1 hS2 hFc hfc hz1 hk1 hvm ht
        refine lv_aload_n hx hb dX13_onReference_87 rfl (lv_at hl 0 rfl) ?_
        refine va_get (D := (dC, dI)) (ci := 13) (v := .int (z_65.1 h0 18)) (C := RX13) (T := TX13) (N := 22) hx hb hts iwd_X13_onReference_X13 hown hK hP h0 (Wd_ob kg_66 sg_66 (by decide)) rfl 18 (by decide) (hts _ md_X13_onReference_1) (fun _ h9 => h9) (fl_at (t := 0) rfl) dX13_onReference_88 ?_
        refine de_cut (h := 111) (fun (x : St) => []) (fun x ls H locs => lv_has ls 6 [(0, .ref (a h0))] ∧ va_P (dC, dI) vwCl (Wd cy a sh n x) H ∧ va_D A (Wd cy a sh n x) ∧ va_S A s.heap H locs) (fun x => fn_X13_onReference_B111 F sh n h0 x) (z8, r8) ?_ (fun B111 => ?_)
        · intro x ls H locs hI hf
          obtain ⟨z_68, ez⟩ : ∃ w, w = x := ⟨_, rfl⟩
          subst ez
          obtain ⟨hl2, hP2, hD2, hS2⟩ := hI
          replace hl : lv_has ls 6 [(0, .ref (a h0))] := hl2
          replace hP := hP2
          replace hD := hD2
          replace hS := hS2
          clear hl2 hP2 hD2 hS2
          replace hf := fn_X13_onReference_B111_s hf
          refine W.eq (g2 := F0 m 111 ls []) rfl ?_
          refine lv_aload_n hx hb dX13_onReference_111 rfl (lv_at hl 0 rfl) ?_
          refine va_get (D := (dC, dI)) (ci := 13) (v := .int (z_68.1 h0 18)) (C := RX13) (T := TX13) (N := 22) hx hb hts iwd_X13_onReference_X13 hown hK hP h0 (Wd_ob kg_66 sg_66 (by decide)) rfl 18 (by decide) (hts _ md_X13_onReference_1) (fun _ h9 => h9) (fl_at (t := 0) rfl) dX13_onReference_112 ?_
          refine lv_if_ne (tgt := 248) hx hb dX13_onReference_115 (by decide) (fun c_69 => ?_) (fun c_69 => ?_)
          · skip
            rw [if_neg c_69] at hf
            obtain ⟨h8, h9⟩ := ret_some hf
            rw [h8]
            exact W.vret hx hb hr (fun t ht hW => ⟨⟨(), rfl, trivial, by rw [ht]; exact hP, va_K.moved hW.alike hK, hD⟩, hS.F ht⟩) hS.2.2 dX13_onReference_248
          · skip
            rw [if_pos c_69] at hf
            refine lv_aload_n hx hb dX13_onReference_118 rfl (lv_at hl 0 rfl) ?_
            refine lv_aload_n hx hb dX13_onReference_119 rfl (lv_at hl 0 rfl) ?_
            refine va_get (D := (dC, dI)) (ci := 13) (v := .long (z_68.2.1 h0 19)) (C := RX13) (T := TX13) (N := 22) hx hb hts iwd_X13_onReference_X13 hown hK hP h0 (Wd_ob kg_66 sg_66 (by decide)) rfl 19 (by decide) (hts _ md_X13_onReference_4) (fun _ h9 => h9) (fl_at (t := 1) rfl) dX13_onReference_120 ?_
            obtain ⟨z_70, r_71, hfc, hf⟩ := cal_some hf
            have hFc := de_free hD hS hA
            refine va_calll (va_runS (As := [.long (z_68.2.1 h0 19)]) (rest := [.ref (a h0)]) ⟨hx, hb, hml, hown, hts⟩ (de_X13_pointed l dC dI cy a sh n H.size F z_68 (z_68.2.1 h0 19) hfc) (va_cwS 1 hts gX13_onReference_X13_pointed rfl rfl rfl (by decide +kernel) ⟨Nat.le_of_ble_eq_true rfl, Nat.le_of_ble_eq_true rfl⟩) ⟨fun a U g mk q => by obtain ⟨q0, q1, qP, qK, qD, qN⟩ := q; exact ⟨q0, q1, qP, va_K.moved (u := U) (U := U.calling g mk a) (Vm.Alike.refl U.vm) qK, qD, qN.same rfl⟩, fun U hU hW => ⟨rfl, by rw [hU], by rw [hU]; exact hP, va_K.moved hW.alike hK, hD.weaken (fun _ _ _ _ => trivial), hN.warm hW⟩⟩ rfl rfl hl.1 rfl (lv_room (Nat.le_of_ble_eq_true rfl)) dX13_onReference_123 ⟨Nat.le_of_ble_eq_true rfl, Nat.le_of_ble_eq_true rfl⟩) hS (fun q _ h => hFc q h) hFc (fun rr u t H_72 locs ht hvm hw hB hz1 hk1 hS2 => ?_)
            rw [hw]
            clear hw
            obtain ⟨hP1, -, hD1⟩ := hB
            rw [ht] at hP1
            replace hD := hD1.weaken (fun _ _ _ h => hFc _ h)
            replace hP := hP1
            replace hS := hS2
            clear hP1 hD1 hS2 hFc hfc hz1 hk1 hvm ht
            obtain ⟨z_73, _u, hfc, hf⟩ := cal_some hf
            have hFc := de_free hD hS hA
            refine va_callv (va_runV (As := [.long r_71]) (rest := []) ⟨hx, hb, hml, hown, hts⟩ (de_X13_give l dC dI cy a sh n H_72.size F z_70 h0 r_71 hfc) (cwV 1 hts gX13_onReference_X13_give rfl rfl rfl (by decide +kernel) ⟨Nat.le_of_ble_eq_true rfl, Nat.le_of_ble_eq_true rfl⟩) ⟨fun a U g mk q => by obtain ⟨q0, q1, qP, qK, qD, qN⟩ := q; exact ⟨q0, q1, qP, va_K.moved (u := U) (U := U.calling g mk a) (Vm.Alike.refl U.vm) qK, qD, qN.same rfl⟩, va_recv hK hP (ci := 13) (q0 := h0) rfl (Wd_ob kg_66 sg_66 (by decide)), fun U hU hW => ⟨rfl, by rw [hU], by rw [hU]; exact hP, va_K.moved hW.alike hK, hD.weaken (fun _ _ _ _ => trivial), hN.warm hW⟩⟩ rfl rfl hl.1 rfl (lv_room (Nat.le_of_ble_eq_true rfl)) dX13_onReference_126 ⟨Nat.le_of_ble_eq_true rfl, Nat.le_of_ble_eq_true rfl⟩) hS (fun q _ h => hFc q h) hFc (fun u t H_74 locs ht hvm hw hB hz1 hk1 hS2 => ?_)
            obtain ⟨hP1, -, hD1⟩ := hB
            rw [ht] at hP1
            replace hD := hD1.weaken (fun _ _ _ h => hFc _ h)
            replace hP := hP1
            replace hS := hS2
            clear hP1 hD1 hS2 hFc hfc hz1 hk1 hvm ht
            refine lv_goto (tgt := 248) hx hb dX13_onReference_129 (by decide) ?_
            obtain ⟨h8, h9⟩ := ret_some hf
            rw [h8]
            exact W.vret hx hb hr (fun t ht hW => ⟨⟨(), rfl, trivial, by rw [ht]; exact hP, va_K.moved hW.alike hK, hD⟩, hS.F ht⟩) hS.2.2 dX13_onReference_248
        refine lv_if_ne (tgt := 111) hx hb dX13_onReference_91 (by decide) (fun c_75 => ?_) (fun c_75 => ?_)
        · skip
          rw [if_neg c_75] at hf
          exact B111 (z_65) ls H_67 locs ⟨lv_sub hl [0] rfl, hP, hD, hS⟩ hf
        · skip
          rw [if_pos c_75] at hf
          refine lv_aload_n hx hb dX13_onReference_94 rfl (lv_at hl 0 rfl) ?_
          refine lv_aload_n hx hb dX13_onReference_95 rfl (lv_at hl 0 rfl) ?_
          refine lv_aload_n hx hb dX13_onReference_96 rfl (lv_at hl 0 rfl) ?_
          refine va_get (D := (dC, dI)) (ci := 13) (v := .long (z_65.2.1 h0 19)) (C := RX13) (T := TX13) (N := 22) hx hb hts iwd_X13_onReference_X13 hown hK hP h0 (Wd_ob kg_66 sg_66 (by decide)) rfl 19 (by decide) (hts _ md_X13_onReference_4) (fun _ h9 => h9) (fl_at (t := 1) rfl) dX13_onReference_97 ?_
          obtain ⟨z_76, r_77, hfc, hf⟩ := cal_some hf
          have hFc := de_free hD hS hA
          refine va_calll (va_runS (As := [.long (z_65.2.1 h0 19)]) (rest := [.ref (a h0), .ref (a h0)]) ⟨hx, hb, hml, hown, hts⟩ (de_X13_pointed l dC dI cy a sh n H_67.size F z_65 (z_65.2.1 h0 19) hfc) (va_cwS 1 hts gX13_onReference_X13_pointed rfl rfl rfl (by decide +kernel) ⟨Nat.le_of_ble_eq_true rfl, Nat.le_of_ble_eq_true rfl⟩) ⟨fun a U g mk q => by obtain ⟨q0, q1, qP, qK, qD, qN⟩ := q; exact ⟨q0, q1, qP, va_K.moved (u := U) (U := U.calling g mk a) (Vm.Alike.refl U.vm) qK, qD, qN.same rfl⟩, fun U hU hW => ⟨rfl, by rw [hU], by rw [hU]; exact hP, va_K.moved hW.alike hK, hD.weaken (fun _ _ _ _ => trivial), hN.warm hW⟩⟩ rfl rfl hl.1 rfl (lv_room (Nat.le_of_ble_eq_true rfl)) dX13_onReference_100 ⟨Nat.le_of_ble_eq_true rfl, Nat.le_of_ble_eq_true rfl⟩) hS (fun q _ h => hFc q h) hFc (fun rr u t H_78 locs ht hvm hw hB hz1 hk1 hS2 => ?_)
          rw [hw]
          clear hw
          obtain ⟨hP1, -, hD1⟩ := hB
          rw [ht] at hP1
          replace hD := hD1.weaken (fun _ _ _ h => hFc _ h)
          replace hP := hP1
          replace hS := hS2
          clear hP1 hD1 hS2 hFc hfc hz1 hk1 hvm ht
          refine lv_iconst (v := 1) hx hb dX13_onReference_103 (by decide) ?_
          obtain ⟨z_79, r_80, hfc, hf⟩ := cal_some hf
          have hFc := de_free hD hS hA
          refine va_calli (va_runV (As := [.long r_77, .int 1]) (rest := [.ref (a h0)]) ⟨hx, hb, hml, hown, hts⟩ (de_X13_has l dC dI cy a sh n H_78.size F z_76 h0 r_77 1 hfc) (cwV 2 hts gX13_onReference_X13_has rfl rfl rfl (by decide +kernel) ⟨Nat.le_of_ble_eq_true rfl, Nat.le_of_ble_eq_true rfl⟩) ⟨fun a U g mk q => by obtain ⟨q0, q1, qP, qK, qD, qN⟩ := q; exact ⟨q0, q1, qP, va_K.moved (u := U) (U := U.calling g mk a) (Vm.Alike.refl U.vm) qK, qD, qN.same rfl⟩, va_recv hK hP (ci := 13) (q0 := h0) rfl (Wd_ob kg_66 sg_66 (by decide)), fun U hU hW => ⟨rfl, by rw [hU], by rw [hU]; exact hP, va_K.moved hW.alike hK, hD.weaken (fun _ _ _ _ => trivial), hN.warm hW⟩⟩ rfl rfl hl.1 rfl (lv_room (Nat.le_of_ble_eq_true rfl)) dX13_onReference_104 ⟨Nat.le_of_ble_eq_true rfl, Nat.le_of_ble_eq_true rfl⟩) hS (fun q _ h => hFc q h) hFc (fun rr u t H_81 locs ht hvm hw hB hz1 hk1 hS2 => ?_)
          rw [hw]
          clear hw
          obtain ⟨hP1, -, hD1⟩ := hB
          rw [ht] at hP1
          replace hD := hD1.weaken (fun _ _ _ h => hFc _ h)
          replace hP := hP1
          replace hS := hS2
          clear hP1 hD1 hS2 hFc hfc hz1 hk1 hvm ht
          refine lv_iconst (v := 4) hx hb dX13_onReference_107 (by decide) ?_
          obtain ⟨z_82, _u, hfc, hf⟩ := cal_some hf
          have hFc := de_free hD hS hA
          refine va_callv (va_runV (As := [.int r_80, .int 4]) (rest := []) ⟨hx, hb, hml, hown, hts⟩ (de_X13_need l dC dI cy a sh n H_81.size F z_79 h0 r_80 4 hfc) (cwV 2 hts gX13_onReference_X13_need rfl rfl rfl (by decide +kernel) ⟨Nat.le_of_ble_eq_true rfl, Nat.le_of_ble_eq_true rfl⟩) ⟨fun a U g mk q => by obtain ⟨q0, q1, qP, qK, qD, qN⟩ := q; exact ⟨q0, q1, qP, va_K.moved (u := U) (U := U.calling g mk a) (Vm.Alike.refl U.vm) qK, qD, qN.same rfl⟩, va_recv hK hP (ci := 13) (q0 := h0) rfl (Wd_ob kg_66 sg_66 (by decide)), fun U hU hW => ⟨rfl, by rw [hU], by rw [hU]; exact hP, va_K.moved hW.alike hK, hD.weaken (fun _ _ _ _ => trivial), hN.warm hW⟩⟩ rfl rfl hl.1 rfl (lv_room (Nat.le_of_ble_eq_true rfl)) dX13_onReference_108 ⟨Nat.le_of_ble_eq_true rfl, Nat.le_of_ble_eq_true rfl⟩) hS (fun q _ h => hFc q h) hFc (fun u t H_83 locs ht hvm hw hB hz1 hk1 hS2 => ?_)
          obtain ⟨hP1, -, hD1⟩ := hB
          rw [ht] at hP1
          replace hD := hD1.weaken (fun _ _ _ h => hFc _ h)
          replace hP := hP1
          replace hS := hS2
          clear hP1 hD1 hS2 hFc hfc hz1 hk1 hvm ht
          exact B111 (z_82) ls H_83 locs ⟨lv_sub hl [0] rfl, hP, hD, hS⟩ hf
    · skip
      rw [if_pos c_26] at hf
      exact B12 (z) ls H locs ⟨lv_sub hl [0, 1, 2, 3] rfl, hP, hD, hS⟩ hf

theorem md_X4_keep_5 : (.fieldLink RX4 67 "ResourceLedger$Machine" "journal" "LResourceLedger$Journal;" : Cond) ∈ wsX4_keep := List.mem_of_getElem? (i := 5) rfl
theorem iwd_X4_keep_X4 : ∀ w ∈ wsX40, w ∈ wsX4_keep := fun _ h => List.mem_cons_of_mem _ (List.mem_append_left _ (List.mem_append_left _ (List.mem_append_left _ (List.mem_append_left _ (List.mem_append_right _ h)))))
theorem md_X4_keep_9 : (.fieldLink RX4 385 "ResourceLedger$Journal" "node" "[I" : Cond) ∈ wsX4_keep := List.mem_of_getElem? (i := 9) rfl
theorem iwd_X4_keep_X2 : ∀ w ∈ wsX20, w ∈ wsX4_keep := fun _ h => List.mem_cons_of_mem _ (List.mem_append_left _ (List.mem_append_right _ h))
theorem md_X4_keep_7 : (.fieldLink RX4 313 "ResourceLedger$Journal" "isThere" "[Z" : Cond) ∈ wsX4_keep := List.mem_of_getElem? (i := 7) rfl
theorem md_X4_keep_3 : (.fieldLink RX4 12 "ResourceLedger$Machine" "heap" "LResourceLedger$Heap;" : Cond) ∈ wsX4_keep := List.mem_of_getElem? (i := 3) rfl
theorem md_X4_keep_8 : (.constantLong RX4 383 (3) : Cond) ∈ wsX4_keep := List.mem_of_getElem? (i := 8) rfl
theorem md_X4_keep_6 : (.constantLong RX4 146 (4) : Cond) ∈ wsX4_keep := List.mem_of_getElem? (i := 6) rfl
theorem md_X4_keep_4 : (.fieldLink RX4 158 "ResourceLedger$Heap" "low" "[J" : Cond) ∈ wsX4_keep := List.mem_of_getElem? (i := 4) rfl
theorem iwd_X4_keep_X1 : ∀ w ∈ wsX10, w ∈ wsX4_keep := fun _ h => List.mem_cons_of_mem _ (List.mem_append_left _ (List.mem_append_left _ (List.mem_append_right _ h)))
theorem md_X4_keep_1 : (.fieldLink RX4 76 "ResourceLedger$Machine" "t" "LResourceLedger$Transaction;" : Cond) ∈ wsX4_keep := List.mem_of_getElem? (i := 1) rfl
theorem md_X4_keep_2 : (.fieldLink RX4 265 "ResourceLedger$Transaction" "sender" "J" : Cond) ∈ wsX4_keep := List.mem_of_getElem? (i := 2) rfl
theorem iwd_X4_keep_X8 : ∀ w ∈ wsX80, w ∈ wsX4_keep := fun _ h => List.mem_cons_of_mem _ (List.mem_append_left _ (List.mem_append_left _ (List.mem_append_left _ (List.mem_append_right _ h))))
set_option maxHeartbeats 4000000 in
set_option maxRecDepth 100000 in
theorem de_X4_keep (l : Launch) (dC : Nat → ClassId) (dI : Nat → Nat → Nat) (cy : Nat → ClassId) (a : Nat → Nat) (sh : Nat → Nat × Nat) (n sz : Nat) (F : Nat) (z : St) (h0 : Nat) (x0 : Int32) (x1 : Int32) (x2 : Int32) {z8 : St} {r8 : Unit} (hf : fn_X4_keep F sh n z h0 x0 x1 x2 = some (z8, r8)) : Met l yX4_keep wsX4_keep ({ frames := 52, cells := 0, slots := 0, locals := 1446 }) (va_Pc [.ref (a h0), .int x0, .int x1, .int x2] (fun U => U.heap.size = sz ∧ va_P (dC, dI) vwCl (Wd cy a sh n z) U.heap ∧ va_K (dC, dI) vwCl (TYS cy) U ∧ va_D (fun _ => True) (Wd cy a sh n z) ∧ NK U)) (va_Qv (fun u : Unit => True) (fun u t => va_P (dC, dI) vwCl (Wd cy a sh n z8) t.heap ∧ va_K (dC, dI) vwCl (TYS cy) t ∧ va_D (va_A (Wd cy a sh n z) sz) (Wd cy a sh n z8)) (va_A (Wd cy a sh n z) sz)) 0 0 (va_A (Wd cy a sh n z) sz) := by
  refine Met.ofW (cc := cX4_keep) (maxL := 8) (ret := none) (by decide) rfl ?_
  intro p e s m args below meth c s₁ B hml hv
  obtain ⟨rfl, hsz, hP, hK, hD0, hN⟩ := hv
  have hx := B.exec
  have hb := B.bytes
  have hr := B.returns
  have hts := atoms_spec (ws := wsX4_keep) B.pre
  have hown : s.vm.findClass RX4 = some m.cls := findClass_of_methodNamed B.named
  have hlocks := B.notSynchronized
  subst hsz
  have hD := hD0.self (sz := s.heap.size)
  clear hD0
  generalize hAe : va_A (Wd cy a sh n z) s.heap.size = A at hD ⊢
  have hA : ∀ q : Nat, s.heap.size ≤ q → A q := fun q h => by rw [← hAe]; exact Or.inr h
  clear hAe
  have hS : va_S A s.heap s.heap [] := va_S.rf
  have hl := lv_entry ([.ref (a h0), .int x0, .int x1, .int x2]) (n := 8) (Nat.le_of_ble_eq_true rfl)
  rw [lg_entry_eq]
  generalize (lg_sl ([.ref (a h0), .int x0, .int x1, .int x2]) ++ List.replicate (8 - (lg_sl ([.ref (a h0), .int x0, .int x1, .int x2])).length) Slot.unset).toArray = ls at hl ⊢
  replace hl : lv_has ls 8 [(0, .ref (a h0)), (1, .int x0), (2, .int x1), (3, .int x2)] := hl
  unfold fn_X4_keep at hf
  refine de_start hS hP (fun H locs hS hP => ?_)
  refine lv_aload_n hx hb dX4_keep_0 rfl (lv_at hl 0 rfl) ?_
  obtain ⟨g_3, hf⟩ := grd_some hf
  obtain ⟨kg_3, sg_3⟩ := okO_at g_3
  obtain ⟨z_1, r_2, hfc, hf⟩ := cal_some hf
  have hFc := de_free hD hS hA
  refine va_calli (va_runV (As := []) (rest := []) ⟨hx, hb, hml, hown, hts⟩ (de_X4_pop l dC dI cy a sh n H.size F z h0 hfc) (cwV 0 hts gX4_keep_X4_pop rfl rfl rfl (by decide +kernel) ⟨Nat.le_of_ble_eq_true rfl, Nat.le_of_ble_eq_true rfl⟩) ⟨fun a U g mk q => by obtain ⟨q0, q1, qP, qK, qD, qN⟩ := q; exact ⟨q0, q1, qP, va_K.moved (u := U) (U := U.calling g mk a) (Vm.Alike.refl U.vm) qK, qD, qN.same rfl⟩, va_recv hK hP (ci := 4) (q0 := h0) rfl (Wd_ob kg_3 sg_3 (by decide)), fun U hU hW => ⟨rfl, by rw [hU], by rw [hU]; exact hP, va_K.moved hW.alike hK, hD.weaken (fun _ _ _ _ => trivial), hN.warm hW⟩⟩ rfl rfl hl.1 rfl (lv_room (Nat.le_of_ble_eq_true rfl)) dX4_keep_1 ⟨Nat.le_of_ble_eq_true rfl, Nat.le_of_ble_eq_true rfl⟩) hS (fun q _ h => hFc q h) hFc (fun rr u t H_4 locs ht hvm hw hB hz1 hk1 hS2 => ?_)
  rw [hw]
  clear hw
  obtain ⟨hP1, -, hD1⟩ := hB
  rw [ht] at hP1
  replace hD := hD1.weaken (fun _ _ _ h => hFc _ h)
  replace hP := hP1
  replace hS := hS2
  clear hP1 hD1 hS2 hFc hfc hz1 hk1 hvm ht
  refine lv_istore (lv' := [(4, .int r_2), (0, .ref (a h0)), (1, .int x0), (2, .int x1), (3, .int x2)]) hx hb dX4_keep_4 hl (by decide) rfl (fun ls hl2 => ?_)
  replace hl := hl2
  clear hl2
  refine lv_iload_n hx hb dX4_keep_6 rfl (lv_at hl 2 rfl) ?_
  refine lv_bipush (v := 47) hx hb dX4_keep_7 (by decide) ?_
  refine de_cut (h := 32) (fun (x : St × Int64) => [.long x.2]) (fun x ls H locs => lv_has ls 8 [(4, .int r_2), (0, .ref (a h0)), (1, .int x0), (2, .int x1), (3, .int x2)] ∧ va_P (dC, dI) vwCl (Wd cy a sh n x.1) H ∧ va_D A (Wd cy a sh n x.1) ∧ va_S A s.heap H locs) (fun x => fn_X4_keep_B32 F sh n h0 x1 x2 x0 r_2 x.1 x.2) (z8, r8) ?_ (fun B32 => ?_)
  · intro x ls H locs hI hf
    obtain ⟨z_6, p_5⟩ := x
    obtain ⟨hl2, hP2, hD2, hS2⟩ := hI
    replace hl : lv_has ls 8 [(4, .int r_2), (0, .ref (a h0)), (1, .int x0), (2, .int x1), (3, .int x2)] := hl2
    replace hP := hP2
    replace hD := hD2
    replace hS := hS2
    clear hl2 hP2 hD2 hS2
    replace hf := fn_X4_keep_B32_s hf
    refine W.eq (g2 := F0 m 32 ls [.long p_5]) rfl ?_
    refine lv_lstore (lv' := [(5, .long p_5), (4, .int r_2), (0, .ref (a h0)), (1, .int x0), (2, .int x1), (3, .int x2)]) hx hb dX4_keep_32 hl (by decide) rfl (fun ls hl2 => ?_)
    replace hl := hl2
    clear hl2
    refine lv_aload_n hx hb dX4_keep_34 rfl (lv_at hl 2 rfl) ?_
    obtain ⟨k_7, ek_7, hf⟩ := lnk_some hf
    refine va_get (D := (dC, dI)) (ci := 4) (v := .ref (a k_7)) (C := RX4) (T := TX4) (N := 19) hx hb hts iwd_X4_keep_X4 hown hK hP h0 (Wd_ob kg_3 sg_3 (by decide)) rfl 2 (by decide) (hts _ md_X4_keep_5) (fun _ h9 => h9) (fl_q rfl ek_7) dX4_keep_35 ?_
    refine lv_iconst (v := 3) hx hb dX4_keep_38 (by decide) ?_
    refine lv_lload hx hb dX4_keep_39 (lv_at hl 0 rfl) ?_
    refine lv_iload_n hx hb dX4_keep_41 rfl (lv_at hl 4 rfl) ?_
    refine lv_iload_n hx hb dX4_keep_42 rfl (lv_at hl 5 rfl) ?_
    obtain ⟨g_10, hf⟩ := grd_some hf
    obtain ⟨kg_10, sg_10⟩ := okO_at g_10
    obtain ⟨z_8, r_9, hfc, hf⟩ := cal_some hf
    have hFc := de_free hD hS hA
    refine va_calli (va_runV (As := [.int 3, .long p_5, .int x1, .int x2]) (rest := []) ⟨hx, hb, hml, hown, hts⟩ (de_X2_ask l dC dI cy a sh n H.size F z_6 k_7 3 p_5 x1 x2 hfc) (cwV 4 hts gX4_keep_X2_ask rfl rfl rfl (by decide +kernel) ⟨Nat.le_of_ble_eq_true rfl, Nat.le_of_ble_eq_true rfl⟩) ⟨fun a U g mk q => by obtain ⟨q0, q1, qP, qK, qD, qN⟩ := q; exact ⟨q0, q1, qP, va_K.moved (u := U) (U := U.calling g mk a) (Vm.Alike.refl U.vm) qK, qD, qN.same rfl⟩, va_recv hK hP (ci := 2) (q0 := k_7) rfl (Wd_ob kg_10 sg_10 (by decide)), fun U hU hW => ⟨rfl, by rw [hU], by rw [hU]; exact hP, va_K.moved hW.alike hK, hD.weaken (fun _ _ _ _ => trivial), hN.warm hW⟩⟩ rfl rfl hl.1 rfl (lv_room (Nat.le_of_ble_eq_true rfl)) dX4_keep_43 ⟨Nat.le_of_ble_eq_true rfl, Nat.le_of_ble_eq_true rfl⟩) hS (fun q _ h => hFc q h) hFc (fun rr u t H_11 locs ht hvm hw hB hz1 hk1 hS2 => ?_)
    rw [hw]
    clear hw
    obtain ⟨hP1, -, hD1⟩ := hB
    rw [ht] at hP1
    replace hD := hD1.weaken (fun _ _ _ h => hFc _ h)
    replace hP := hP1
    replace hS := hS2
    clear hP1 hD1 hS2 hFc hfc hz1 hk1 hvm ht
    refine lv_istore (lv' := [(7, .int r_9), (5, .long p_5), (4, .int r_2), (0, .ref (a h0)), (1, .int x0), (2, .int x1), (3, .int x2)]) hx hb dX4_keep_46 hl (by decide) rfl (fun ls hl2 => ?_)
    replace hl := hl2
    clear hl2
    refine lv_iload hx hb dX4_keep_48 (lv_at hl 0 rfl) ?_
    refine lv_if_ge (tgt := 62) hx hb dX4_keep_50 (by decide) (fun c_12 => ?_) (fun c_12 => ?_)
    · skip
      rw [if_pos c_12] at hf
      refine lv_iload_n hx hb dX4_keep_62 rfl (lv_at hl 4 rfl) ?_
      refine lv_bipush (v := 49) hx hb dX4_keep_63 (by decide) ?_
      refine de_cut (h := 101) (fun (x : St) => []) (fun x ls H locs => lv_has ls 8 [(7, .int r_9), (4, .int r_2), (0, .ref (a h0)), (1, .int x0)] ∧ va_P (dC, dI) vwCl (Wd cy a sh n x) H ∧ va_D A (Wd cy a sh n x) ∧ va_S A s.heap H locs) (fun x => fn_X4_keep_B101 F sh n x0 h0 r_2 r_9 x) (z8, r8) ?_ (fun B101 => ?_)
      · intro x ls H locs hI hf
        obtain ⟨z_13, ez⟩ : ∃ w, w = x := ⟨_, rfl⟩
        subst ez
        obtain ⟨hl2, hP2, hD2, hS2⟩ := hI
        replace hl : lv_has ls 8 [(7, .int r_9), (4, .int r_2), (0, .ref (a h0)), (1, .int x0)] := hl2
        replace hP := hP2
        replace hD := hD2
        replace hS := hS2
        clear hl2 hP2 hD2 hS2
        replace hf := fn_X4_keep_B101_s hf
        refine W.eq (g2 := F0 m 101 ls []) rfl ?_
        refine lv_aload_n hx hb dX4_keep_101 rfl (lv_at hl 2 rfl) ?_
        refine lv_iload_n hx hb dX4_keep_102 rfl (lv_at hl 3 rfl) ?_
        refine lv_bipush (v := 47) hx hb dX4_keep_103 (by decide) ?_
        refine de_cut (h := 125) (fun (x : St × Int32) => [.int x.2, .ref (a h0)]) (fun x ls H locs => lv_has ls 8 [(7, .int r_9), (4, .int r_2), (0, .ref (a h0)), (1, .int x0)] ∧ va_P (dC, dI) vwCl (Wd cy a sh n x.1) H ∧ va_D A (Wd cy a sh n x.1) ∧ va_S A s.heap H locs) (fun x => fn_X4_keep_B125 F sh n h0 x0 r_9 r_2 x.1 x.2) (z8, r8) ?_ (fun B125 => ?_)
        · intro x ls H locs hI hf
          obtain ⟨z_15, p_14⟩ := x
          obtain ⟨hl2, hP2, hD2, hS2⟩ := hI
          replace hl : lv_has ls 8 [(7, .int r_9), (4, .int r_2), (0, .ref (a h0)), (1, .int x0)] := hl2
          replace hP := hP2
          replace hD := hD2
          replace hS := hS2
          clear hl2 hP2 hD2 hS2
          replace hf := fn_X4_keep_B125_s hf
          refine W.eq (g2 := F0 m 125 ls [.int p_14, .ref (a h0)]) rfl ?_
          obtain ⟨z_16, r_17, hfc, hf⟩ := cal_some hf
          have hFc := de_free hD hS hA
          refine va_calli (va_runV (As := [.int p_14]) (rest := []) ⟨hx, hb, hml, hown, hts⟩ (de_X4_pay l dC dI cy a sh n H.size F z_15 h0 p_14 hfc) (cwV 1 hts gX4_keep_X4_pay rfl rfl rfl (by decide +kernel) ⟨Nat.le_of_ble_eq_true rfl, Nat.le_of_ble_eq_true rfl⟩) ⟨fun a U g mk q => by obtain ⟨q0, q1, qP, qK, qD, qN⟩ := q; exact ⟨q0, q1, qP, va_K.moved (u := U) (U := U.calling g mk a) (Vm.Alike.refl U.vm) qK, qD, qN.same rfl⟩, va_recv hK hP (ci := 4) (q0 := h0) rfl (Wd_ob kg_3 sg_3 (by decide)), fun U hU hW => ⟨rfl, by rw [hU], by rw [hU]; exact hP, va_K.moved hW.alike hK, hD.weaken (fun _ _ _ _ => trivial), hN.warm hW⟩⟩ rfl rfl hl.1 rfl (lv_room (Nat.le_of_ble_eq_true rfl)) dX4_keep_125 ⟨Nat.le_of_ble_eq_true rfl, Nat.le_of_ble_eq_true rfl⟩) hS (fun q _ h => hFc q h) hFc (fun rr u t H_18 locs ht hvm hw hB hz1 hk1 hS2 => ?_)
          rw [hw]
          clear hw
          obtain ⟨hP1, -, hD1⟩ := hB
          rw [ht] at hP1
          replace hD := hD1.weaken (fun _ _ _ h => hFc _ h)
          replace hP := hP1
          replace hS := hS2
          clear hP1 hD1 hS2 hFc hfc hz1 hk1 hvm ht
          refine lv_if_ne (tgt := 132) hx hb dX4_keep_128 (by decide) (fun c_19 => ?_) (fun c_19 => ?_)
          · skip
            rw [if_neg c_19] at hf
            refine lv_iload_n hx hb dX4_keep_132 rfl (lv_at hl 3 rfl) ?_
            refine lv_bipush (v := 47) hx hb dX4_keep_133 (by decide) ?_
            refine lv_icmp_ne (tgt := 164) hx hb dX4_keep_135 (by decide) (fun c_20 => ?_) (fun c_20 => ?_)
            · skip
              rw [if_neg c_20] at hf
              refine lv_iload_n hx hb dX4_keep_164 rfl (lv_at hl 3 rfl) ?_
              refine lv_bipush (v := 48) hx hb dX4_keep_165 (by decide) ?_
              refine lv_icmp_ne (tgt := 198) hx hb dX4_keep_167 (by decide) (fun c_21 => ?_) (fun c_21 => ?_)
              · skip
                rw [if_neg c_21] at hf
                refine lv_iload_n hx hb dX4_keep_198 rfl (lv_at hl 3 rfl) ?_
                refine lv_bipush (v := 49) hx hb dX4_keep_199 (by decide) ?_
                refine lv_icmp_ne (tgt := 231) hx hb dX4_keep_201 (by decide) (fun c_22 => ?_) (fun c_22 => ?_)
                · skip
                  rw [if_neg c_22] at hf
                  refine lv_aload_n hx hb dX4_keep_231 rfl (lv_at hl 2 rfl) ?_
                  refine lv_bipush (v := 8) hx hb dX4_keep_232 (by decide) ?_
                  refine lv_lconst (v := 0) hx hb dX4_keep_234 (by decide) ?_
                  refine lv_aload_n hx hb dX4_keep_235 rfl (lv_at hl 2 rfl) ?_
                  obtain ⟨k_23, ek_23, hf⟩ := lnk_some hf
                  refine va_get (D := (dC, dI)) (ci := 4) (v := .ref (a k_23)) (C := RX4) (T := TX4) (N := 19) hx hb hts iwd_X4_keep_X4 hown hK hP h0 (Wd_ob kg_3 sg_3 (by decide)) rfl 2 (by decide) (hts _ md_X4_keep_5) (fun _ h9 => h9) (fl_q rfl ek_23) dX4_keep_236 ?_
                  obtain ⟨g_24, hf⟩ := grd_some hf
                  obtain ⟨kg_24, sg_24⟩ := okO_at g_24
                  obtain ⟨k_25, ek_25, hf⟩ := lnk_some hf
                  refine va_get (D := (dC, dI)) (ci := 2) (v := .ref (a k_25)) (C := RX2) (T := TX2) (N := 11) hx hb hts iwd_X4_keep_X2 hown hK hP k_23 (Wd_ob kg_24 sg_24 (by decide)) rfl 10 (by decide) (hts _ md_X4_keep_9) (fun _ h9 => h9) (fl_q rfl ek_25) dX4_keep_239 ?_
                  refine lv_iload hx hb dX4_keep_242 (lv_at hl 0 rfl) ?_
                  obtain ⟨g_26, hf⟩ := grd_some hf
                  obtain ⟨kg_26, sg_26, ig_26⟩ := okA_at g_26
                  refine va_iald hx hb hK hP k_25 1 (Wd_ai kg_26 sg_26) rfl ig_26 dX4_keep_244 ?_
                  refine lv_i2l (v := ((z_16.1 k_25 r_9.toNatClampNeg) : Int32).toInt64) hx hb dX4_keep_245 rfl ?_
                  obtain ⟨z_27, _u, hfc, hf⟩ := cal_some hf
                  have hFc := de_free hD hS hA
                  refine va_callv (va_runV (As := [.int 8, .long 0, .long (((z_16.1 k_25 r_9.toNatClampNeg) : Int32).toInt64)]) (rest := []) ⟨hx, hb, hml, hown, hts⟩ (de_X4_pushNumber l dC dI cy a sh n H_18.size F z_16 h0 8 0 (((z_16.1 k_25 r_9.toNatClampNeg) : Int32).toInt64) hfc) (cwV 3 hts gX4_keep_X4_pushNumber rfl rfl rfl (by decide +kernel) ⟨Nat.le_of_ble_eq_true rfl, Nat.le_of_ble_eq_true rfl⟩) ⟨fun a U g mk q => by obtain ⟨q0, q1, qP, qK, qD, qN⟩ := q; exact ⟨q0, q1, qP, va_K.moved (u := U) (U := U.calling g mk a) (Vm.Alike.refl U.vm) qK, qD, qN.same rfl⟩, va_recv hK hP (ci := 4) (q0 := h0) rfl (Wd_ob kg_3 sg_3 (by decide)), fun U hU hW => ⟨rfl, by rw [hU], by rw [hU]; exact hP, va_K.moved hW.alike hK, hD.weaken (fun _ _ _ _ => trivial), hN.warm hW⟩⟩ rfl rfl hl.1 rfl (lv_room (Nat.le_of_ble_eq_true rfl)) dX4_keep_246 ⟨Nat.le_of_ble_eq_true rfl, Nat.le_of_ble_eq_true rfl⟩) hS (fun q _ h => hFc q h) hFc (fun u t H_28 locs ht hvm hw hB hz1 hk1 hS2 => ?_)
                  obtain ⟨hP1, -, hD1⟩ := hB
                  rw [ht] at hP1
                  replace hD := hD1.weaken (fun _ _ _ h => hFc _ h)
                  replace hP := hP1
                  replace hS := hS2
                  clear hP1 hD1 hS2 hFc hfc hz1 hk1 hvm ht
                  obtain ⟨h8, h9⟩ := ret_some hf
                  rw [h8]
                  exact W.vret hx hb hr (fun t ht hW => ⟨⟨(), rfl, trivial, by rw [ht]; exact hP, va_K.moved hW.alike hK, hD⟩, hS.F ht⟩) hS.2.2 dX4_keep_249
                · skip
                  rw [if_pos c_22] at hf
                  refine lv_aload_n hx hb dX4_keep_204 rfl (lv_at hl 2 rfl) ?_
                  refine lv_iconst (v := 1) hx hb dX4_keep_205 (by decide) ?_
                  refine lv_lconst (v := 0) hx hb dX4_keep_206 (by decide) ?_
                  refine lv_aload_n hx hb dX4_keep_207 rfl (lv_at hl 2 rfl) ?_
                  obtain ⟨k_29, ek_29, hf⟩ := lnk_some hf
                  refine va_get (D := (dC, dI)) (ci := 4) (v := .ref (a k_29)) (C := RX4) (T := TX4) (N := 19) hx hb hts iwd_X4_keep_X4 hown hK hP h0 (Wd_ob kg_3 sg_3 (by decide)) rfl 2 (by decide) (hts _ md_X4_keep_5) (fun _ h9 => h9) (fl_q rfl ek_29) dX4_keep_208 ?_
                  obtain ⟨g_30, hf⟩ := grd_some hf
                  obtain ⟨kg_30, sg_30⟩ := okO_at g_30
                  obtain ⟨k_31, ek_31, hf⟩ := lnk_some hf
                  refine va_get (D := (dC, dI)) (ci := 2) (v := .ref (a k_31)) (C := RX2) (T := TX2) (N := 11) hx hb hts iwd_X4_keep_X2 hown hK hP k_29 (Wd_ob kg_30 sg_30 (by decide)) rfl 8 (by decide) (hts _ md_X4_keep_7) (fun _ h9 => h9) (fl_q rfl ek_31) dX4_keep_211 ?_
                  refine lv_iload hx hb dX4_keep_214 (lv_at hl 0 rfl) ?_
                  obtain ⟨g_32, hf⟩ := grd_some hf
                  obtain ⟨kg_32, sg_32, ig_32⟩ := okA_at g_32
                  refine va_zald hx hb hK hP k_31 3 (Wd_az kg_32 sg_32) rfl ig_32 dX4_keep_216 ?_
                  refine lv_if_eq (tgt := 224) hx hb dX4_keep_217 (by decide) (fun c_33 => ?_) (fun c_33 => ?_)
                  · skip
                    rw [if_pos c_33] at hf
                    refine lv_lconst (v := 0) hx hb dX4_keep_224 (by decide) ?_
                    obtain ⟨z_34, _u, hfc, hf⟩ := cal_some hf
                    have hFc := de_free hD hS hA
                    refine va_callv (va_runV (As := [.int 1, .long 0, .long 0]) (rest := []) ⟨hx, hb, hml, hown, hts⟩ (de_X4_pushNumber l dC dI cy a sh n H_18.size F z_16 h0 1 0 0 hfc) (cwV 3 hts gX4_keep_X4_pushNumber rfl rfl rfl (by decide +kernel) ⟨Nat.le_of_ble_eq_true rfl, Nat.le_of_ble_eq_true rfl⟩) ⟨fun a U g mk q => by obtain ⟨q0, q1, qP, qK, qD, qN⟩ := q; exact ⟨q0, q1, qP, va_K.moved (u := U) (U := U.calling g mk a) (Vm.Alike.refl U.vm) qK, qD, qN.same rfl⟩, va_recv hK hP (ci := 4) (q0 := h0) rfl (Wd_ob kg_3 sg_3 (by decide)), fun U hU hW => ⟨rfl, by rw [hU], by rw [hU]; exact hP, va_K.moved hW.alike hK, hD.weaken (fun _ _ _ _ => trivial), hN.warm hW⟩⟩ rfl rfl hl.1 rfl (lv_room (Nat.le_of_ble_eq_true rfl)) dX4_keep_225 ⟨Nat.le_of_ble_eq_true rfl, Nat.le_of_ble_eq_true rfl⟩) hS (fun q _ h => hFc q h) hFc (fun u t H_35 locs ht hvm hw hB hz1 hk1 hS2 => ?_)
                    obtain ⟨hP1, -, hD1⟩ := hB
                    rw [ht] at hP1
                    replace hD := hD1.weaken (fun _ _ _ h => hFc _ h)
                    replace hP := hP1
                    replace hS := hS2
                    clear hP1 hD1 hS2 hFc hfc hz1 hk1 hvm ht
                    refine lv_goto (tgt := 249) hx hb dX4_keep_228 (by decide) ?_
                    obtain ⟨h8, h9⟩ := ret_some hf
                    rw [h8]
                    exact W.vret hx hb hr (fun t ht hW => ⟨⟨(), rfl, trivial, by rw [ht]; exact hP, va_K.moved hW.alike hK, hD⟩, hS.F ht⟩) hS.2.2 dX4_keep_249
                  · skip
                    rw [if_neg c_33] at hf
                    refine lv_lconst (v := 1) hx hb dX4_keep_220 (by decide) ?_
                    refine lv_goto (tgt := 225) hx hb dX4_keep_221 (by decide) ?_
                    obtain ⟨z_36, _u, hfc, hf⟩ := cal_some hf
                    have hFc := de_free hD hS hA
                    refine va_callv (va_runV (As := [.int 1, .long 0, .long 1]) (rest := []) ⟨hx, hb, hml, hown, hts⟩ (de_X4_pushNumber l dC dI cy a sh n H_18.size F z_16 h0 1 0 1 hfc) (cwV 3 hts gX4_keep_X4_pushNumber rfl rfl rfl (by decide +kernel) ⟨Nat.le_of_ble_eq_true rfl, Nat.le_of_ble_eq_true rfl⟩) ⟨fun a U g mk q => by obtain ⟨q0, q1, qP, qK, qD, qN⟩ := q; exact ⟨q0, q1, qP, va_K.moved (u := U) (U := U.calling g mk a) (Vm.Alike.refl U.vm) qK, qD, qN.same rfl⟩, va_recv hK hP (ci := 4) (q0 := h0) rfl (Wd_ob kg_3 sg_3 (by decide)), fun U hU hW => ⟨rfl, by rw [hU], by rw [hU]; exact hP, va_K.moved hW.alike hK, hD.weaken (fun _ _ _ _ => trivial), hN.warm hW⟩⟩ rfl rfl hl.1 rfl (lv_room (Nat.le_of_ble_eq_true rfl)) dX4_keep_225 ⟨Nat.le_of_ble_eq_true rfl, Nat.le_of_ble_eq_true rfl⟩) hS (fun q _ h => hFc q h) hFc (fun u t H_37 locs ht hvm hw hB hz1 hk1 hS2 => ?_)
                    obtain ⟨hP1, -, hD1⟩ := hB
                    rw [ht] at hP1
                    replace hD := hD1.weaken (fun _ _ _ h => hFc _ h)
                    replace hP := hP1
                    replace hS := hS2
                    clear hP1 hD1 hS2 hFc hfc hz1 hk1 hvm ht
                    refine lv_goto (tgt := 249) hx hb dX4_keep_228 (by decide) ?_
                    obtain ⟨h8, h9⟩ := ret_some hf
                    rw [h8]
                    exact W.vret hx hb hr (fun t ht hW => ⟨⟨(), rfl, trivial, by rw [ht]; exact hP, va_K.moved hW.alike hK, hD⟩, hS.F ht⟩) hS.2.2 dX4_keep_249
              · skip
                rw [if_pos c_21] at hf
                refine lv_aload_n hx hb dX4_keep_170 rfl (lv_at hl 2 rfl) ?_
                obtain ⟨k_38, ek_38, hf⟩ := lnk_some hf
                refine va_get (D := (dC, dI)) (ci := 4) (v := .ref (a k_38)) (C := RX4) (T := TX4) (N := 19) hx hb hts iwd_X4_keep_X4 hown hK hP h0 (Wd_ob kg_3 sg_3 (by decide)) rfl 2 (by decide) (hts _ md_X4_keep_5) (fun _ h9 => h9) (fl_q rfl ek_38) dX4_keep_171 ?_
                obtain ⟨g_39, hf⟩ := grd_some hf
                obtain ⟨kg_39, sg_39⟩ := okO_at g_39
                obtain ⟨k_40, ek_40, hf⟩ := lnk_some hf
                refine va_get (D := (dC, dI)) (ci := 2) (v := .ref (a k_40)) (C := RX2) (T := TX2) (N := 11) hx hb hts iwd_X4_keep_X2 hown hK hP k_38 (Wd_ob kg_39 sg_39 (by decide)) rfl 8 (by decide) (hts _ md_X4_keep_7) (fun _ h9 => h9) (fl_q rfl ek_40) dX4_keep_174 ?_
                refine lv_iload hx hb dX4_keep_177 (lv_at hl 0 rfl) ?_
                refine lv_iconst (v := 0) hx hb dX4_keep_179 (by decide) ?_
                obtain ⟨g_41, hf⟩ := grd_some hf
                obtain ⟨kg_41, sg_41, ig_41⟩ := okA_at g_41
                refine va_zast hx hb hK hP hD hS k_40 3 (Wd_az kg_41 sg_41) rfl ig_41 dX4_keep_180 (fun H_42 locs hP2 hD2 hS2 => ?_)
                rw [Wd_tz sg_41] at hP2 hD2
                obtain ⟨z_43, ez_43⟩ : ∃ w, w = si z_16 k_40 r_9.toNatClampNeg (vp_nar .boolean 0) := ⟨_, rfl⟩
                rw [← ez_43] at hP2 hD2
                replace hf := lt_at ez_43 hf
                clear ez_43
                replace hP := hP2
                replace hD := hD2
                replace hS := hS2
                clear hP2 hD2 hS2
                refine lv_aload_n hx hb dX4_keep_181 rfl (lv_at hl 2 rfl) ?_
                refine lv_aload_n hx hb dX4_keep_182 rfl (lv_at hl 2 rfl) ?_
                obtain ⟨k_44, ek_44, hf⟩ := lnk_some hf
                refine va_get (D := (dC, dI)) (ci := 4) (v := .ref (a k_44)) (C := RX4) (T := TX4) (N := 19) hx hb hts iwd_X4_keep_X4 hown hK hP h0 (Wd_ob kg_3 sg_3 (by decide)) rfl 2 (by decide) (hts _ md_X4_keep_5) (fun _ h9 => h9) (fl_q rfl ek_44) dX4_keep_183 ?_
                obtain ⟨g_45, hf⟩ := grd_some hf
                obtain ⟨kg_45, sg_45⟩ := okO_at g_45
                obtain ⟨k_46, ek_46, hf⟩ := lnk_some hf
                refine va_get (D := (dC, dI)) (ci := 2) (v := .ref (a k_46)) (C := RX2) (T := TX2) (N := 11) hx hb hts iwd_X4_keep_X2 hown hK hP k_44 (Wd_ob kg_45 sg_45 (by decide)) rfl 10 (by decide) (hts _ md_X4_keep_9) (fun _ h9 => h9) (fl_q rfl ek_46) dX4_keep_186 ?_
                refine lv_iload hx hb dX4_keep_189 (lv_at hl 0 rfl) ?_
                obtain ⟨g_47, hf⟩ := grd_some hf
                obtain ⟨kg_47, sg_47, ig_47⟩ := okA_at g_47
                refine va_iald hx hb hK hP k_46 1 (Wd_ai kg_47 sg_47) rfl ig_47 dX4_keep_191 ?_
                obtain ⟨z_48, _u, hfc, hf⟩ := cal_some hf
                have hFc := de_free hD hS hA
                refine va_callv (va_runV (As := [.int (z_43.1 k_46 r_9.toNatClampNeg)]) (rest := []) ⟨hx, hb, hml, hown, hts⟩ (de_X4_push l dC dI cy a sh n H_42.size F z_43 h0 (z_43.1 k_46 r_9.toNatClampNeg) hfc) (cwV 1 hts gX4_keep_X4_push rfl rfl rfl (by decide +kernel) ⟨Nat.le_of_ble_eq_true rfl, Nat.le_of_ble_eq_true rfl⟩) ⟨fun a U g mk q => by obtain ⟨q0, q1, qP, qK, qD, qN⟩ := q; exact ⟨q0, q1, qP, va_K.moved (u := U) (U := U.calling g mk a) (Vm.Alike.refl U.vm) qK, qD, qN.same rfl⟩, va_recv hK hP (ci := 4) (q0 := h0) rfl (Wd_ob kg_3 sg_3 (by decide)), fun U hU hW => ⟨rfl, by rw [hU], by rw [hU]; exact hP, va_K.moved hW.alike hK, hD.weaken (fun _ _ _ _ => trivial), hN.warm hW⟩⟩ rfl rfl hl.1 rfl (lv_room (Nat.le_of_ble_eq_true rfl)) dX4_keep_192 ⟨Nat.le_of_ble_eq_true rfl, Nat.le_of_ble_eq_true rfl⟩) hS (fun q _ h => hFc q h) hFc (fun u t H_49 locs ht hvm hw hB hz1 hk1 hS2 => ?_)
                obtain ⟨hP1, -, hD1⟩ := hB
                rw [ht] at hP1
                replace hD := hD1.weaken (fun _ _ _ h => hFc _ h)
                replace hP := hP1
                replace hS := hS2
                clear hP1 hD1 hS2 hFc hfc hz1 hk1 hvm ht
                refine lv_goto (tgt := 249) hx hb dX4_keep_195 (by decide) ?_
                obtain ⟨h8, h9⟩ := ret_some hf
                rw [h8]
                exact W.vret hx hb hr (fun t ht hW => ⟨⟨(), rfl, trivial, by rw [ht]; exact hP, va_K.moved hW.alike hK, hD⟩, hS.F ht⟩) hS.2.2 dX4_keep_249
            · skip
              rw [if_pos c_20] at hf
              refine lv_aload_n hx hb dX4_keep_138 rfl (lv_at hl 2 rfl) ?_
              obtain ⟨k_50, ek_50, hf⟩ := lnk_some hf
              refine va_get (D := (dC, dI)) (ci := 4) (v := .ref (a k_50)) (C := RX4) (T := TX4) (N := 19) hx hb hts iwd_X4_keep_X4 hown hK hP h0 (Wd_ob kg_3 sg_3 (by decide)) rfl 2 (by decide) (hts _ md_X4_keep_5) (fun _ h9 => h9) (fl_q rfl ek_50) dX4_keep_139 ?_
              obtain ⟨g_51, hf⟩ := grd_some hf
              obtain ⟨kg_51, sg_51⟩ := okO_at g_51
              obtain ⟨k_52, ek_52, hf⟩ := lnk_some hf
              refine va_get (D := (dC, dI)) (ci := 2) (v := .ref (a k_52)) (C := RX2) (T := TX2) (N := 11) hx hb hts iwd_X4_keep_X2 hown hK hP k_50 (Wd_ob kg_51 sg_51 (by decide)) rfl 8 (by decide) (hts _ md_X4_keep_7) (fun _ h9 => h9) (fl_q rfl ek_52) dX4_keep_142 ?_
              refine lv_iload hx hb dX4_keep_145 (lv_at hl 0 rfl) ?_
              refine lv_iconst (v := 1) hx hb dX4_keep_147 (by decide) ?_
              obtain ⟨g_53, hf⟩ := grd_some hf
              obtain ⟨kg_53, sg_53, ig_53⟩ := okA_at g_53
              refine va_zast hx hb hK hP hD hS k_52 3 (Wd_az kg_53 sg_53) rfl ig_53 dX4_keep_148 (fun H_54 locs hP2 hD2 hS2 => ?_)
              rw [Wd_tz sg_53] at hP2 hD2
              obtain ⟨z_55, ez_55⟩ : ∃ w, w = si z_16 k_52 r_9.toNatClampNeg (vp_nar .boolean 1) := ⟨_, rfl⟩
              rw [← ez_55] at hP2 hD2
              replace hf := lt_at ez_55 hf
              clear ez_55
              replace hP := hP2
              replace hD := hD2
              replace hS := hS2
              clear hP2 hD2 hS2
              refine lv_aload_n hx hb dX4_keep_149 rfl (lv_at hl 2 rfl) ?_
              obtain ⟨k_56, ek_56, hf⟩ := lnk_some hf
              refine va_get (D := (dC, dI)) (ci := 4) (v := .ref (a k_56)) (C := RX4) (T := TX4) (N := 19) hx hb hts iwd_X4_keep_X4 hown hK hP h0 (Wd_ob kg_3 sg_3 (by decide)) rfl 2 (by decide) (hts _ md_X4_keep_5) (fun _ h9 => h9) (fl_q rfl ek_56) dX4_keep_150 ?_
              obtain ⟨g_57, hf⟩ := grd_some hf
              obtain ⟨kg_57, sg_57⟩ := okO_at g_57
              obtain ⟨k_58, ek_58, hf⟩ := lnk_some hf
              refine va_get (D := (dC, dI)) (ci := 2) (v := .ref (a k_58)) (C := RX2) (T := TX2) (N := 11) hx hb hts iwd_X4_keep_X2 hown hK hP k_56 (Wd_ob kg_57 sg_57 (by decide)) rfl 10 (by decide) (hts _ md_X4_keep_9) (fun _ h9 => h9) (fl_q rfl ek_58) dX4_keep_153 ?_
              refine lv_iload hx hb dX4_keep_156 (lv_at hl 0 rfl) ?_
              refine lv_iload hx hb dX4_keep_158 (lv_at hl 1 rfl) ?_
              obtain ⟨g_59, hf⟩ := grd_some hf
              obtain ⟨kg_59, sg_59, ig_59⟩ := okA_at g_59
              refine va_iast hx hb hK hP hD hS k_58 1 (Wd_ai kg_59 sg_59) rfl ig_59 dX4_keep_160 (fun H_60 locs hP2 hD2 hS2 => ?_)
              rw [Wd_ti sg_59] at hP2 hD2
              obtain ⟨z_61, ez_61⟩ : ∃ w, w = si z_55 k_58 r_9.toNatClampNeg r_2 := ⟨_, rfl⟩
              rw [← ez_61] at hP2 hD2
              replace hf := lt_at ez_61 hf
              clear ez_61
              replace hP := hP2
              replace hD := hD2
              replace hS := hS2
              clear hP2 hD2 hS2
              refine lv_goto (tgt := 249) hx hb dX4_keep_161 (by decide) ?_
              obtain ⟨h8, h9⟩ := ret_some hf
              rw [h8]
              exact W.vret hx hb hr (fun t ht hW => ⟨⟨(), rfl, trivial, by rw [ht]; exact hP, va_K.moved hW.alike hK, hD⟩, hS.F ht⟩) hS.2.2 dX4_keep_249
          · skip
            rw [if_pos c_19] at hf
            obtain ⟨h8, h9⟩ := ret_some hf
            rw [h8]
            exact W.vret hx hb hr (fun t ht hW => ⟨⟨(), rfl, trivial, by rw [ht]; exact hP, va_K.moved hW.alike hK, hD⟩, hS.F ht⟩) hS.2.2 dX4_keep_131
        refine lv_icmp_ne (tgt := 123) hx hb dX4_keep_105 (by decide) (fun c_62 => ?_) (fun c_62 => ?_)
        · skip
          rw [if_neg c_62] at hf
          refine lv_bipush (v := 10) hx hb dX4_keep_123 (by decide) ?_
          exact B125 (z_13, 10) ls H locs ⟨lv_sub hl [0, 1, 2, 3] rfl, hP, hD, hS⟩ hf
        · skip
          rw [if_pos c_62] at hf
          refine lv_bipush (v := 10) hx hb dX4_keep_108 (by decide) ?_
          refine lv_aload_n hx hb dX4_keep_110 rfl (lv_at hl 2 rfl) ?_
          obtain ⟨k_63, ek_63, hf⟩ := lnk_some hf
          refine va_get (D := (dC, dI)) (ci := 4) (v := .ref (a k_63)) (C := RX4) (T := TX4) (N := 19) hx hb hts iwd_X4_keep_X4 hown hK hP h0 (Wd_ob kg_3 sg_3 (by decide)) rfl 1 (by decide) (hts _ md_X4_keep_3) (fun _ h9 => h9) (fl_q rfl ek_63) dX4_keep_111 ?_
          refine lv_iload hx hb dX4_keep_114 (lv_at hl 1 rfl) ?_
          obtain ⟨g_66, hf⟩ := grd_some hf
          obtain ⟨kg_66, sg_66⟩ := okO_at g_66
          obtain ⟨z_64, r_65, hfc, hf⟩ := cal_some hf
          have hFc := de_free hD hS hA
          refine va_calli (va_runV (As := [.int r_2]) (rest := [.int 10, .ref (a h0)]) ⟨hx, hb, hml, hown, hts⟩ (de_X1_sizeOf l dC dI cy a sh n H.size F z_13 k_63 r_2 hfc) (cwV 1 hts gX4_keep_X1_sizeOf rfl rfl rfl (by decide +kernel) ⟨Nat.le_of_ble_eq_true rfl, Nat.le_of_ble_eq_true rfl⟩) ⟨fun a U g mk q => by obtain ⟨q0, q1, qP, qK, qD, qN⟩ := q; exact ⟨q0, q1, qP, va_K.moved (u := U) (U := U.calling g mk a) (Vm.Alike.refl U.vm) qK, qD, qN.same rfl⟩, va_recv hK hP (ci := 1) (q0 := k_63) rfl (Wd_ob kg_66 sg_66 (by decide)), fun U hU hW => ⟨rfl, by rw [hU], by rw [hU]; exact hP, va_K.moved hW.alike hK, hD.weaken (fun _ _ _ _ => trivial), hN.warm hW⟩⟩ rfl rfl hl.1 rfl (lv_room (Nat.le_of_ble_eq_true rfl)) dX4_keep_116 ⟨Nat.le_of_ble_eq_true rfl, Nat.le_of_ble_eq_true rfl⟩) hS (fun q _ h => hFc q h) hFc (fun rr u t H_67 locs ht hvm hw hB hz1 hk1 hS2 => ?_)
          rw [hw]
          clear hw
          obtain ⟨hP1, -, hD1⟩ := hB
          rw [ht] at hP1
          replace hD := hD1.weaken (fun _ _ _ h => hFc _ h)
          replace hP := hP1
          replace hS := hS2
          clear hP1 hD1 hS2 hFc hfc hz1 hk1 hvm ht
          refine lv_iadd hx hb dX4_keep_119 ?_
          refine lv_goto (tgt := 125) hx hb dX4_keep_120 (by decide) ?_
          exact B125 (z_64, (10 + r_65)) ls H_67 locs ⟨lv_sub hl [0, 1, 2, 3] rfl, hP, hD, hS⟩ hf
      refine lv_icmp_eq (tgt := 101) hx hb dX4_keep_65 (by decide) (fun c_68 => ?_) (fun c_68 => ?_)
      · skip
        rw [if_pos c_68] at hf
        exact B101 (z_8) ls H_11 locs ⟨lv_sub hl [0, 2, 3, 4] rfl, hP, hD, hS⟩ hf
      · skip
        rw [if_neg c_68] at hf
        refine lv_aload_n hx hb dX4_keep_68 rfl (lv_at hl 3 rfl) ?_
        obtain ⟨k_69, ek_69, hf⟩ := lnk_some hf
        refine va_get (D := (dC, dI)) (ci := 4) (v := .ref (a k_69)) (C := RX4) (T := TX4) (N := 19) hx hb hts iwd_X4_keep_X4 hown hK hP h0 (Wd_ob kg_3 sg_3 (by decide)) rfl 2 (by decide) (hts _ md_X4_keep_5) (fun _ h9 => h9) (fl_q rfl ek_69) dX4_keep_69 ?_
        obtain ⟨g_70, hf⟩ := grd_some hf
        obtain ⟨kg_70, sg_70⟩ := okO_at g_70
        obtain ⟨k_71, ek_71, hf⟩ := lnk_some hf
        refine va_get (D := (dC, dI)) (ci := 2) (v := .ref (a k_71)) (C := RX2) (T := TX2) (N := 11) hx hb hts iwd_X4_keep_X2 hown hK hP k_69 (Wd_ob kg_70 sg_70 (by decide)) rfl 8 (by decide) (hts _ md_X4_keep_7) (fun _ h9 => h9) (fl_q rfl ek_71) dX4_keep_72 ?_
        refine lv_iload hx hb dX4_keep_75 (lv_at hl 0 rfl) ?_
        obtain ⟨g_72, hf⟩ := grd_some hf
        obtain ⟨kg_72, sg_72, ig_72⟩ := okA_at g_72
        refine va_zald hx hb hK hP k_71 3 (Wd_az kg_72 sg_72) rfl ig_72 dX4_keep_77 ?_
        refine lv_iload_n hx hb dX4_keep_78 rfl (lv_at hl 4 rfl) ?_
        refine lv_bipush (v := 47) hx hb dX4_keep_79 (by decide) ?_
        refine de_cut (h := 89) (fun (x : St × Int32) => [.int x.2, .int (z_8.1 k_71 r_9.toNatClampNeg)]) (fun x ls H locs => lv_has ls 8 [(7, .int r_9), (4, .int r_2), (0, .ref (a h0)), (1, .int x0)] ∧ va_P (dC, dI) vwCl (Wd cy a sh n x.1) H ∧ va_D A (Wd cy a sh n x.1) ∧ va_S A s.heap H locs) (fun x => fn_X4_keep_B89 F sh n z_8 k_71 r_9 h0 x0 r_2 x.1 x.2) (z8, r8) ?_ (fun B89 => ?_)
        · intro x ls H locs hI hf
          obtain ⟨z_74, p_73⟩ := x
          obtain ⟨hl2, hP2, hD2, hS2⟩ := hI
          replace hl : lv_has ls 8 [(7, .int r_9), (4, .int r_2), (0, .ref (a h0)), (1, .int x0)] := hl2
          replace hP := hP2
          replace hD := hD2
          replace hS := hS2
          clear hl2 hP2 hD2 hS2
          replace hf := fn_X4_keep_B89_s hf
          refine W.eq (g2 := F0 m 89 ls [.int p_73, .int (z_8.1 k_71 r_9.toNatClampNeg)]) rfl ?_
          refine lv_icmp_ne (tgt := 101) hx hb dX4_keep_89 (by decide) (fun c_75 => ?_) (fun c_75 => ?_)
          · skip
            rw [if_neg c_75] at hf
            exact B101 (z_74) ls H locs ⟨lv_sub hl [0, 1, 2, 3] rfl, hP, hD, hS⟩ hf
          · skip
            rw [if_pos c_75] at hf
            refine lv_aload_n hx hb dX4_keep_92 rfl (lv_at hl 2 rfl) ?_
            refine lv_iconst (v := 2) hx hb dX4_keep_93 (by decide) ?_
            refine lv_ldc2 hx hb hown (hts _ md_X4_keep_8) dX4_keep_94 ?_
            obtain ⟨z_76, _u, hfc, hf⟩ := cal_some hf
            have hFc := de_free hD hS hA
            refine va_callv (va_runV (As := [.int 2, .long 3]) (rest := []) ⟨hx, hb, hml, hown, hts⟩ (de_X4_end l dC dI cy a sh n H.size F z_74 h0 2 3 hfc) (cwV 2 hts gX4_keep_X4_end rfl rfl rfl (by decide +kernel) ⟨Nat.le_of_ble_eq_true rfl, Nat.le_of_ble_eq_true rfl⟩) ⟨fun a U g mk q => by obtain ⟨q0, q1, qP, qK, qD, qN⟩ := q; exact ⟨q0, q1, qP, va_K.moved (u := U) (U := U.calling g mk a) (Vm.Alike.refl U.vm) qK, qD, qN.same rfl⟩, va_recv hK hP (ci := 4) (q0 := h0) rfl (Wd_ob kg_3 sg_3 (by decide)), fun U hU hW => ⟨rfl, by rw [hU], by rw [hU]; exact hP, va_K.moved hW.alike hK, hD.weaken (fun _ _ _ _ => trivial), hN.warm hW⟩⟩ rfl rfl hl.1 rfl (lv_room (Nat.le_of_ble_eq_true rfl)) dX4_keep_97 ⟨Nat.le_of_ble_eq_true rfl, Nat.le_of_ble_eq_true rfl⟩) hS (fun q _ h => hFc q h) hFc (fun u t H_77 locs ht hvm hw hB hz1 hk1 hS2 => ?_)
            obtain ⟨hP1, -, hD1⟩ := hB
            rw [ht] at hP1
            replace hD := hD1.weaken (fun _ _ _ h => hFc _ h)
            replace hP := hP1
            replace hS := hS2
            clear hP1 hD1 hS2 hFc hfc hz1 hk1 hvm ht
            obtain ⟨h8, h9⟩ := ret_some hf
            rw [h8]
            exact W.vret hx hb hr (fun t ht hW => ⟨⟨(), rfl, trivial, by rw [ht]; exact hP, va_K.moved hW.alike hK, hD⟩, hS.F ht⟩) hS.2.2 dX4_keep_100
        refine lv_icmp_ne (tgt := 88) hx hb dX4_keep_81 (by decide) (fun c_78 => ?_) (fun c_78 => ?_)
        · skip
          rw [if_neg c_78] at hf
          refine lv_iconst (v := 0) hx hb dX4_keep_88 (by decide) ?_
          exact B89 (z_8, 0) ls H_11 locs ⟨lv_sub hl [0, 2, 3, 4] rfl, hP, hD, hS⟩ hf
        · skip
          rw [if_pos c_78] at hf
          refine lv_iconst (v := 1) hx hb dX4_keep_84 (by decide) ?_
          refine lv_goto (tgt := 89) hx hb dX4_keep_85 (by decide) ?_
          exact B89 (z_8, 1) ls H_11 locs ⟨lv_sub hl [0, 2, 3, 4] rfl, hP, hD, hS⟩ hf
    · skip
      rw [if_neg c_12] at hf
      refine lv_aload_n hx hb dX4_keep_53 rfl (lv_at hl 3 rfl) ?_
      refine lv_iconst (v := 2) hx hb dX4_keep_54 (by decide) ?_
      refine lv_ldc2 hx hb hown (hts _ md_X4_keep_6) dX4_keep_55 ?_
      obtain ⟨z_79, _u, hfc, hf⟩ := cal_some hf
      have hFc := de_free hD hS hA
      refine va_callv (va_runV (As := [.int 2, .long 4]) (rest := []) ⟨hx, hb, hml, hown, hts⟩ (de_X4_end l dC dI cy a sh n H_11.size F z_8 h0 2 4 hfc) (cwV 2 hts gX4_keep_X4_end rfl rfl rfl (by decide +kernel) ⟨Nat.le_of_ble_eq_true rfl, Nat.le_of_ble_eq_true rfl⟩) ⟨fun a U g mk q => by obtain ⟨q0, q1, qP, qK, qD, qN⟩ := q; exact ⟨q0, q1, qP, va_K.moved (u := U) (U := U.calling g mk a) (Vm.Alike.refl U.vm) qK, qD, qN.same rfl⟩, va_recv hK hP (ci := 4) (q0 := h0) rfl (Wd_ob kg_3 sg_3 (by decide)), fun U hU hW => ⟨rfl, by rw [hU], by rw [hU]; exact hP, va_K.moved hW.alike hK, hD.weaken (fun _ _ _ _ => trivial), hN.warm hW⟩⟩ rfl rfl hl.1 rfl (lv_room (Nat.le_of_ble_eq_true rfl)) dX4_keep_58 ⟨Nat.le_of_ble_eq_true rfl, Nat.le_of_ble_eq_true rfl⟩) hS (fun q _ h => hFc q h) hFc (fun u t H_80 locs ht hvm hw hB hz1 hk1 hS2 => ?_)
      obtain ⟨hP1, -, hD1⟩ := hB
      rw [ht] at hP1
      replace hD := hD1.weaken (fun _ _ _ h => hFc _ h)
      replace hP := hP1
      replace hS := hS2
      clear hP1 hD1 hS2 hFc hfc hz1 hk1 hvm ht
      obtain ⟨h8, h9⟩ := ret_some hf
      rw [h8]
      exact W.vret hx hb hr (fun t ht hW => ⟨⟨(), rfl, trivial, by rw [ht]; exact hP, va_K.moved hW.alike hK, hD⟩, hS.F ht⟩) hS.2.2 dX4_keep_61
  refine lv_icmp_ne (tgt := 22) hx hb dX4_keep_9 (by decide) (fun c_81 => ?_) (fun c_81 => ?_)
  · skip
    rw [if_neg c_81] at hf
    refine lv_aload_n hx hb dX4_keep_22 rfl (lv_at hl 1 rfl) ?_
    obtain ⟨k_82, ek_82, hf⟩ := lnk_some hf
    refine va_get (D := (dC, dI)) (ci := 4) (v := .ref (a k_82)) (C := RX4) (T := TX4) (N := 19) hx hb hts iwd_X4_keep_X4 hown hK hP h0 (Wd_ob kg_3 sg_3 (by decide)) rfl 1 (by decide) (hts _ md_X4_keep_3) (fun _ h9 => h9) (fl_q rfl ek_82) dX4_keep_23 ?_
    obtain ⟨g_83, hf⟩ := grd_some hf
    obtain ⟨kg_83, sg_83⟩ := okO_at g_83
    obtain ⟨k_84, ek_84, hf⟩ := lnk_some hf
    refine va_get (D := (dC, dI)) (ci := 1) (v := .ref (a k_84)) (C := RX1) (T := TX1) (N := 7) hx hb hts iwd_X4_keep_X1 hown hK hP k_82 (Wd_ob kg_83 sg_83 (by decide)) rfl 1 (by decide) (hts _ md_X4_keep_4) (fun _ h9 => h9) (fl_q rfl ek_84) dX4_keep_26 ?_
    refine lv_iload hx hb dX4_keep_29 (lv_at hl 0 rfl) ?_
    obtain ⟨g_85, hf⟩ := grd_some hf
    obtain ⟨kg_85, sg_85, ig_85⟩ := okA_at g_85
    refine va_lald hx hb hK hP k_84 2 (Wd_al kg_85 sg_85) rfl ig_85 dX4_keep_31 ?_
    exact B32 (z_1, (z_1.2.1 k_84 r_2.toNatClampNeg)) ls H_4 locs ⟨lv_sub hl [0, 1, 2, 3, 4] rfl, hP, hD, hS⟩ hf
  · skip
    rw [if_pos c_81] at hf
    refine lv_aload_n hx hb dX4_keep_12 rfl (lv_at hl 1 rfl) ?_
    obtain ⟨k_86, ek_86, hf⟩ := lnk_some hf
    refine va_get (D := (dC, dI)) (ci := 4) (v := .ref (a k_86)) (C := RX4) (T := TX4) (N := 19) hx hb hts iwd_X4_keep_X4 hown hK hP h0 (Wd_ob kg_3 sg_3 (by decide)) rfl 13 (by decide) (hts _ md_X4_keep_1) (fun _ h9 => h9) (fl_q rfl ek_86) dX4_keep_13 ?_
    obtain ⟨g_87, hf⟩ := grd_some hf
    obtain ⟨kg_87, sg_87⟩ := okO_at g_87
    refine va_get (D := (dC, dI)) (ci := 8) (v := .long (z_1.2.1 k_86 1)) (C := RX8) (T := TX8) (N := 19) hx hb hts iwd_X4_keep_X8 hown hK hP k_86 (Wd_ob kg_87 sg_87 (by decide)) rfl 1 (by decide) (hts _ md_X4_keep_2) (fun _ h9 => h9) (fl_at (t := 1) rfl) dX4_keep_16 ?_
    refine lv_goto (tgt := 32) hx hb dX4_keep_19 (by decide) ?_
    exact B32 (z_1, (z_1.2.1 k_86 1)) ls H_4 locs ⟨lv_sub hl [0, 1, 2, 3, 4] rfl, hP, hD, hS⟩ hf

theorem md_X18_onResource_1 : (.fieldLink RX18 369 "ResourceLedgerModel" "unit" "LResourceLedgerModel$Unit;" : Cond) ∈ wsX18_onResource := List.mem_of_getElem? (i := 1) rfl
theorem iwd_X18_onResource_X18 : ∀ w ∈ wsX180, w ∈ wsX18_onResource := fun _ h => List.mem_cons_of_mem _ (List.mem_append_left _ (List.mem_append_left _ (List.mem_append_right _ h)))
theorem md_X18_onResource_4 : (.fieldLink RX18 296 "ResourceLedgerModel" "askedThere" "[Z" : Cond) ∈ wsX18_onResource := List.mem_of_getElem? (i := 4) rfl
theorem md_X18_onResource_6 : (.fieldLink RX18 285 "ResourceLedgerModel" "askedTrees" "[I" : Cond) ∈ wsX18_onResource := List.mem_of_getElem? (i := 6) rfl
theorem md_X18_onResource_3 : (.fieldLink RX18 40 "ResourceLedgerModel" "trees" "LResourceLedgerModel$Trees;" : Cond) ∈ wsX18_onResource := List.mem_of_getElem? (i := 3) rfl
theorem md_X18_onResource_5 : (.constantLong RX18 120 (3) : Cond) ∈ wsX18_onResource := List.mem_of_getElem? (i := 5) rfl
theorem iwd_X18_onResource_X15 : ∀ w ∈ wsX150, w ∈ wsX18_onResource := fun _ h => List.mem_cons_of_mem _ (List.mem_append_left _ (List.mem_append_right _ h))
theorem md_X18_onResource_2 : (.fieldLink RX18 411 "ResourceLedgerModel" "sender" "J" : Cond) ∈ wsX18_onResource := List.mem_of_getElem? (i := 2) rfl
set_option maxHeartbeats 4000000 in
set_option maxRecDepth 100000 in
theorem de_X18_onResource (l : Launch) (dC : Nat → ClassId) (dI : Nat → Nat → Nat) (cy : Nat → ClassId) (a : Nat → Nat) (sh : Nat → Nat × Nat) (n sz : Nat) (F : Nat) (z : St) (h0 : Nat) (x0 : Int32) (x1 : Int32) {z8 : St} {r8 : Unit} (hf : fn_X18_onResource F sh n z h0 x0 x1 = some (z8, r8)) : Met l yX18_onResource wsX18_onResource ({ frames := 52, cells := 0, slots := 0, locals := 1201 }) (va_Pc [.ref (a h0), .int x0, .int x1] (fun U => U.heap.size = sz ∧ va_P (dC, dI) vwCl (Wd cy a sh n z) U.heap ∧ va_K (dC, dI) vwCl (TYS cy) U ∧ va_D (fun _ => True) (Wd cy a sh n z) ∧ NK U)) (va_Qv (fun u : Unit => True) (fun u t => va_P (dC, dI) vwCl (Wd cy a sh n z8) t.heap ∧ va_K (dC, dI) vwCl (TYS cy) t ∧ va_D (va_A (Wd cy a sh n z) sz) (Wd cy a sh n z8)) (va_A (Wd cy a sh n z) sz)) 0 0 (va_A (Wd cy a sh n z) sz) := by
  refine Met.ofW (cc := cX18_onResource) (maxL := 6) (ret := none) (by decide) rfl ?_
  intro p e s m args below meth c s₁ B hml hv
  obtain ⟨rfl, hsz, hP, hK, hD0, hN⟩ := hv
  have hx := B.exec
  have hb := B.bytes
  have hr := B.returns
  have hts := atoms_spec (ws := wsX18_onResource) B.pre
  have hown : s.vm.findClass RX18 = some m.cls := findClass_of_methodNamed B.named
  have hlocks := B.notSynchronized
  subst hsz
  have hD := hD0.self (sz := s.heap.size)
  clear hD0
  generalize hAe : va_A (Wd cy a sh n z) s.heap.size = A at hD ⊢
  have hA : ∀ q : Nat, s.heap.size ≤ q → A q := fun q h => by rw [← hAe]; exact Or.inr h
  clear hAe
  have hS : va_S A s.heap s.heap [] := va_S.rf
  have hl := lv_entry ([.ref (a h0), .int x0, .int x1]) (n := 6) (Nat.le_of_ble_eq_true rfl)
  rw [lg_entry_eq]
  generalize (lg_sl ([.ref (a h0), .int x0, .int x1]) ++ List.replicate (6 - (lg_sl ([.ref (a h0), .int x0, .int x1])).length) Slot.unset).toArray = ls at hl ⊢
  replace hl : lv_has ls 6 [(0, .ref (a h0)), (1, .int x0), (2, .int x1)] := hl
  unfold fn_X18_onResource at hf
  refine de_start hS hP (fun H locs hS hP => ?_)
  refine lv_aload_n hx hb dX18_onResource_0 rfl (lv_at hl 0 rfl) ?_
  obtain ⟨g_1, hf⟩ := grd_some hf
  obtain ⟨kg_1, sg_1⟩ := okO_at g_1
  obtain ⟨k_2, ek_2, hf⟩ := lnk_some hf
  refine va_get (D := (dC, dI)) (ci := 18) (v := .ref (a k_2)) (C := RX18) (T := TX18) (N := 78) hx hb hts iwd_X18_onResource_X18 hown hK hP h0 (Wd_ob kg_1 sg_1 (by decide)) rfl 48 (by decide) (hts _ md_X18_onResource_1) (fun _ h9 => h9) (fl_q rfl ek_2) dX18_onResource_1 ?_
  refine lv_iload_n hx hb dX18_onResource_4 rfl (lv_at hl 2 rfl) ?_
  obtain ⟨g_5, hf⟩ := grd_some hf
  obtain ⟨kg_5, sg_5⟩ := okO_at g_5
  obtain ⟨z_3, r_4, hfc, hf⟩ := cal_some hf
  have hFc := de_free hD hS hA
  refine va_calli (va_runV (As := [.int x1]) (rest := []) ⟨hx, hb, hml, hown, hts⟩ (de_X16_identity l dC dI cy a sh n H.size F z k_2 x1 hfc) (cwV 1 hts gX18_onResource_X16_identity rfl rfl rfl (by decide +kernel) ⟨Nat.le_of_ble_eq_true rfl, Nat.le_of_ble_eq_true rfl⟩) ⟨fun a U g mk q => by obtain ⟨q0, q1, qP, qK, qD, qN⟩ := q; exact ⟨q0, q1, qP, va_K.moved (u := U) (U := U.calling g mk a) (Vm.Alike.refl U.vm) qK, qD, qN.same rfl⟩, va_recv hK hP (ci := 16) (q0 := k_2) rfl (Wd_ob kg_5 sg_5 (by decide)), fun U hU hW => ⟨rfl, by rw [hU], by rw [hU]; exact hP, va_K.moved hW.alike hK, hD.weaken (fun _ _ _ _ => trivial), hN.warm hW⟩⟩ rfl rfl hl.1 rfl (lv_room (Nat.le_of_ble_eq_true rfl)) dX18_onResource_5 ⟨Nat.le_of_ble_eq_true rfl, Nat.le_of_ble_eq_true rfl⟩) hS (fun q _ h => hFc q h) hFc (fun rr u t H_6 locs ht hvm hw hB hz1 hk1 hS2 => ?_)
  rw [hw]
  clear hw
  obtain ⟨hP1, -, hD1⟩ := hB
  rw [ht] at hP1
  replace hD := hD1.weaken (fun _ _ _ h => hFc _ h)
  replace hP := hP1
  replace hS := hS2
  clear hP1 hD1 hS2 hFc hfc hz1 hk1 hvm ht
  refine lv_istore_n (lv' := [(3, .int r_4), (0, .ref (a h0)), (1, .int x0), (2, .int x1)]) hx hb dX18_onResource_8 rfl hl (by decide) rfl (fun ls hl2 => ?_)
  replace hl := hl2
  clear hl2
  refine lv_iload_n hx hb dX18_onResource_9 rfl (lv_at hl 2 rfl) ?_
  refine lv_bipush (v := 47) hx hb dX18_onResource_10 (by decide) ?_
  refine de_cut (h := 29) (fun (x : St × Int32) => [.int x.2]) (fun x ls H locs => lv_has ls 6 [(3, .int r_4), (0, .ref (a h0)), (1, .int x0)] ∧ va_P (dC, dI) vwCl (Wd cy a sh n x.1) H ∧ va_D A (Wd cy a sh n x.1) ∧ va_S A s.heap H locs) (fun x => fn_X18_onResource_B29 F sh n h0 x0 r_4 x.1 x.2) (z8, r8) ?_ (fun B29 => ?_)
  · intro x ls H locs hI hf
    obtain ⟨z_8, p_7⟩ := x
    obtain ⟨hl2, hP2, hD2, hS2⟩ := hI
    replace hl : lv_has ls 6 [(3, .int r_4), (0, .ref (a h0)), (1, .int x0)] := hl2
    replace hP := hP2
    replace hD := hD2
    replace hS := hS2
    clear hl2 hP2 hD2 hS2
    replace hf := fn_X18_onResource_B29_s hf
    refine W.eq (g2 := F0 m 29 ls [.int p_7]) rfl ?_
    refine lv_istore (lv' := [(4, .int p_7), (3, .int r_4), (0, .ref (a h0)), (1, .int x0)]) hx hb dX18_onResource_29 hl (by decide) rfl (fun ls hl2 => ?_)
    replace hl := hl2
    clear hl2
    refine lv_aload_n hx hb dX18_onResource_31 rfl (lv_at hl 2 rfl) ?_
    obtain ⟨z_9, r_10, hfc, hf⟩ := cal_some hf
    have hFc := de_free hD hS hA
    refine va_calli (va_runV (As := []) (rest := []) ⟨hx, hb, hml, hown, hts⟩ (de_X18_goesOn l dC dI cy a sh n H.size F z_8 h0 hfc) (cwV 0 hts gX18_onResource_X18_goesOn rfl rfl rfl (by decide +kernel) ⟨Nat.le_of_ble_eq_true rfl, Nat.le_of_ble_eq_true rfl⟩) ⟨fun a U g mk q => by obtain ⟨q0, q1, qP, qK, qD, qN⟩ := q; exact ⟨q0, q1, qP, va_K.moved (u := U) (U := U.calling g mk a) (Vm.Alike.refl U.vm) qK, qD, qN.same rfl⟩, va_recv hK hP (ci := 18) (q0 := h0) rfl (Wd_ob kg_1 sg_1 (by decide)), fun U hU hW => ⟨rfl, by rw [hU], by rw [hU]; exact hP, va_K.moved hW.alike hK, hD.weaken (fun _ _ _ _ => trivial), hN.warm hW⟩⟩ rfl rfl hl.1 rfl (lv_room (Nat.le_of_ble_eq_true rfl)) dX18_onResource_32 ⟨Nat.le_of_ble_eq_true rfl, Nat.le_of_ble_eq_true rfl⟩) hS (fun q _ h => hFc q h) hFc (fun rr u t H_11 locs ht hvm hw hB hz1 hk1 hS2 => ?_)
    rw [hw]
    clear hw
    obtain ⟨hP1, -, hD1⟩ := hB
    rw [ht] at hP1
    replace hD := hD1.weaken (fun _ _ _ h => hFc _ h)
    replace hP := hP1
    replace hS := hS2
    clear hP1 hD1 hS2 hFc hfc hz1 hk1 hvm ht
    refine lv_if_ne (tgt := 39) hx hb dX18_onResource_35 (by decide) (fun c_12 => ?_) (fun c_12 => ?_)
    · skip
      rw [if_neg c_12] at hf
      refine lv_aload_n hx hb dX18_onResource_39 rfl (lv_at hl 2 rfl) ?_
      refine lv_iconst (v := 3) hx hb dX18_onResource_40 (by decide) ?_
      refine lv_iload_n hx hb dX18_onResource_41 rfl (lv_at hl 3 rfl) ?_
      refine lv_bipush (v := 47) hx hb dX18_onResource_42 (by decide) ?_
      refine de_cut (h := 64) (fun (x : St × Int64) => [.long x.2, .int 3, .ref (a h0)]) (fun x ls H locs => lv_has ls 6 [(4, .int p_7), (3, .int r_4), (0, .ref (a h0)), (1, .int x0)] ∧ va_P (dC, dI) vwCl (Wd cy a sh n x.1) H ∧ va_D A (Wd cy a sh n x.1) ∧ va_S A s.heap H locs) (fun x => fn_X18_onResource_B64 F sh n h0 r_4 x0 p_7 x.1 x.2) (z8, r8) ?_ (fun B64 => ?_)
      · intro x ls H locs hI hf
        obtain ⟨z_14, p_13⟩ := x
        obtain ⟨hl2, hP2, hD2, hS2⟩ := hI
        replace hl : lv_has ls 6 [(4, .int p_7), (3, .int r_4), (0, .ref (a h0)), (1, .int x0)] := hl2
        replace hP := hP2
        replace hD := hD2
        replace hS := hS2
        clear hl2 hP2 hD2 hS2
        replace hf := fn_X18_onResource_B64_s hf
        refine W.eq (g2 := F0 m 64 ls [.long p_13, .int 3, .ref (a h0)]) rfl ?_
        refine lv_iload_n hx hb dX18_onResource_64 rfl (lv_at hl 1 rfl) ?_
        obtain ⟨z_15, r_16, hfc, hf⟩ := cal_some hf
        have hFc := de_free hD hS hA
        refine va_calli (va_runV (As := [.int 3, .long p_13, .int r_4]) (rest := []) ⟨hx, hb, hml, hown, hts⟩ (de_X18_ask l dC dI cy a sh n H.size F z_14 h0 3 p_13 r_4 hfc) (cwV 3 hts gX18_onResource_X18_ask rfl rfl rfl (by decide +kernel) ⟨Nat.le_of_ble_eq_true rfl, Nat.le_of_ble_eq_true rfl⟩) ⟨fun a U g mk q => by obtain ⟨q0, q1, qP, qK, qD, qN⟩ := q; exact ⟨q0, q1, qP, va_K.moved (u := U) (U := U.calling g mk a) (Vm.Alike.refl U.vm) qK, qD, qN.same rfl⟩, va_recv hK hP (ci := 18) (q0 := h0) rfl (Wd_ob kg_1 sg_1 (by decide)), fun U hU hW => ⟨rfl, by rw [hU], by rw [hU]; exact hP, va_K.moved hW.alike hK, hD.weaken (fun _ _ _ _ => trivial), hN.warm hW⟩⟩ rfl rfl hl.1 rfl (lv_room (Nat.le_of_ble_eq_true rfl)) dX18_onResource_65 ⟨Nat.le_of_ble_eq_true rfl, Nat.le_of_ble_eq_true rfl⟩) hS (fun q _ h => hFc q h) hFc (fun rr u t H_17 locs ht hvm hw hB hz1 hk1 hS2 => ?_)
        rw [hw]
        clear hw
        obtain ⟨hP1, -, hD1⟩ := hB
        rw [ht] at hP1
        replace hD := hD1.weaken (fun _ _ _ h => hFc _ h)
        replace hP := hP1
        replace hS := hS2
        clear hP1 hD1 hS2 hFc hfc hz1 hk1 hvm ht
        refine lv_istore (lv' := [(5, .int r_16), (4, .int p_7), (3, .int r_4), (0, .ref (a h0)), (1, .int x0)]) hx hb dX18_onResource_68 hl (by decide) rfl (fun ls hl2 => ?_)
        replace hl := hl2
        clear hl2
        refine lv_iload hx hb dX18_onResource_70 (lv_at hl 0 rfl) ?_
        refine lv_if_ge (tgt := 76) hx hb dX18_onResource_72 (by decide) (fun c_18 => ?_) (fun c_18 => ?_)
        · skip
          rw [if_pos c_18] at hf
          refine lv_iload_n hx hb dX18_onResource_76 rfl (lv_at hl 4 rfl) ?_
          refine lv_bipush (v := 49) hx hb dX18_onResource_77 (by decide) ?_
          refine lv_icmp_ne (tgt := 113) hx hb dX18_onResource_79 (by decide) (fun c_19 => ?_) (fun c_19 => ?_)
          · skip
            rw [if_neg c_19] at hf
            refine lv_aload_n hx hb dX18_onResource_113 rfl (lv_at hl 3 rfl) ?_
            obtain ⟨k_20, ek_20, hf⟩ := lnk_some hf
            refine va_get (D := (dC, dI)) (ci := 18) (v := .ref (a k_20)) (C := RX18) (T := TX18) (N := 78) hx hb hts iwd_X18_onResource_X18 hown hK hP h0 (Wd_ob kg_1 sg_1 (by decide)) rfl 35 (by decide) (hts _ md_X18_onResource_4) (fun _ h9 => h9) (fl_q rfl ek_20) dX18_onResource_114 ?_
            refine lv_iload hx hb dX18_onResource_117 (lv_at hl 0 rfl) ?_
            obtain ⟨g_21, hf⟩ := grd_some hf
            obtain ⟨kg_21, sg_21, ig_21⟩ := okA_at g_21
            refine va_zald hx hb hK hP k_20 3 (Wd_az kg_21 sg_21) rfl ig_21 dX18_onResource_119 ?_
            refine lv_iload_n hx hb dX18_onResource_120 rfl (lv_at hl 4 rfl) ?_
            refine lv_bipush (v := 47) hx hb dX18_onResource_121 (by decide) ?_
            refine de_cut (h := 131) (fun (x : St × Int32) => [.int x.2, .int (z_15.1 k_20 r_16.toNatClampNeg)]) (fun x ls H locs => lv_has ls 6 [(5, .int r_16), (4, .int p_7), (0, .ref (a h0)), (1, .int x0)] ∧ va_P (dC, dI) vwCl (Wd cy a sh n x.1) H ∧ va_D A (Wd cy a sh n x.1) ∧ va_S A s.heap H locs) (fun x => fn_X18_onResource_B131 F sh n z_15 k_20 r_16 h0 x0 p_7 x.1 x.2) (z8, r8) ?_ (fun B131 => ?_)
            · intro x ls H locs hI hf
              obtain ⟨z_23, p_22⟩ := x
              obtain ⟨hl2, hP2, hD2, hS2⟩ := hI
              replace hl : lv_has ls 6 [(5, .int r_16), (4, .int p_7), (0, .ref (a h0)), (1, .int x0)] := hl2
              replace hP := hP2
              replace hD := hD2
              replace hS := hS2
              clear hl2 hP2 hD2 hS2
              replace hf := fn_X18_onResource_B131_s hf
              refine W.eq (g2 := F0 m 131 ls [.int p_22, .int (z_15.1 k_20 r_16.toNatClampNeg)]) rfl ?_
              refine lv_icmp_ne (tgt := 143) hx hb dX18_onResource_131 (by decide) (fun c_24 => ?_) (fun c_24 => ?_)
              · skip
                rw [if_neg c_24] at hf
                refine lv_aload_n hx hb dX18_onResource_143 rfl (lv_at hl 2 rfl) ?_
                refine lv_bipush (v := 10) hx hb dX18_onResource_144 (by decide) ?_
                refine lv_iload_n hx hb dX18_onResource_146 rfl (lv_at hl 3 rfl) ?_
                refine lv_bipush (v := 47) hx hb dX18_onResource_147 (by decide) ?_
                refine de_cut (h := 165) (fun (x : St × Int32) => [.int x.2, .int 10, .ref (a h0)]) (fun x ls H locs => lv_has ls 6 [(5, .int r_16), (4, .int p_7), (0, .ref (a h0)), (1, .int x0)] ∧ va_P (dC, dI) vwCl (Wd cy a sh n x.1) H ∧ va_D A (Wd cy a sh n x.1) ∧ va_S A s.heap H locs) (fun x => fn_X18_onResource_B165 F sh n h0 x0 r_16 p_7 x.1 x.2) (z8, r8) ?_ (fun B165 => ?_)
                · intro x ls H locs hI hf
                  obtain ⟨z_26, p_25⟩ := x
                  obtain ⟨hl2, hP2, hD2, hS2⟩ := hI
                  replace hl : lv_has ls 6 [(5, .int r_16), (4, .int p_7), (0, .ref (a h0)), (1, .int x0)] := hl2
                  replace hP := hP2
                  replace hD := hD2
                  replace hS := hS2
                  clear hl2 hP2 hD2 hS2
                  replace hf := fn_X18_onResource_B165_s hf
                  refine W.eq (g2 := F0 m 165 ls [.int p_25, .int 10, .ref (a h0)]) rfl ?_
                  refine lv_iadd hx hb dX18_onResource_165 ?_
                  obtain ⟨z_27, r_28, hfc, hf⟩ := cal_some hf
                  have hFc := de_free hD hS hA
                  refine va_calli (va_runV (As := [.int (10 + p_25)]) (rest := []) ⟨hx, hb, hml, hown, hts⟩ (de_X18_spend l dC dI cy a sh n H.size F z_26 h0 (10 + p_25) hfc) (cwV 1 hts gX18_onResource_X18_spend rfl rfl rfl (by decide +kernel) ⟨Nat.le_of_ble_eq_true rfl, Nat.le_of_ble_eq_true rfl⟩) ⟨fun a U g mk q => by obtain ⟨q0, q1, qP, qK, qD, qN⟩ := q; exact ⟨q0, q1, qP, va_K.moved (u := U) (U := U.calling g mk a) (Vm.Alike.refl U.vm) qK, qD, qN.same rfl⟩, va_recv hK hP (ci := 18) (q0 := h0) rfl (Wd_ob kg_1 sg_1 (by decide)), fun U hU hW => ⟨rfl, by rw [hU], by rw [hU]; exact hP, va_K.moved hW.alike hK, hD.weaken (fun _ _ _ _ => trivial), hN.warm hW⟩⟩ rfl rfl hl.1 rfl (lv_room (Nat.le_of_ble_eq_true rfl)) dX18_onResource_166 ⟨Nat.le_of_ble_eq_true rfl, Nat.le_of_ble_eq_true rfl⟩) hS (fun q _ h => hFc q h) hFc (fun rr u t H_29 locs ht hvm hw hB hz1 hk1 hS2 => ?_)
                  rw [hw]
                  clear hw
                  obtain ⟨hP1, -, hD1⟩ := hB
                  rw [ht] at hP1
                  replace hD := hD1.weaken (fun _ _ _ h => hFc _ h)
                  replace hP := hP1
                  replace hS := hS2
                  clear hP1 hD1 hS2 hFc hfc hz1 hk1 hvm ht
                  refine lv_if_ne (tgt := 173) hx hb dX18_onResource_169 (by decide) (fun c_30 => ?_) (fun c_30 => ?_)
                  · skip
                    rw [if_neg c_30] at hf
                    refine lv_iload_n hx hb dX18_onResource_173 rfl (lv_at hl 3 rfl) ?_
                    refine lv_bipush (v := 47) hx hb dX18_onResource_174 (by decide) ?_
                    refine lv_icmp_ne (tgt := 199) hx hb dX18_onResource_176 (by decide) (fun c_31 => ?_) (fun c_31 => ?_)
                    · skip
                      rw [if_neg c_31] at hf
                      refine lv_iload_n hx hb dX18_onResource_199 rfl (lv_at hl 3 rfl) ?_
                      refine lv_bipush (v := 48) hx hb dX18_onResource_200 (by decide) ?_
                      refine lv_icmp_ne (tgt := 236) hx hb dX18_onResource_202 (by decide) (fun c_32 => ?_) (fun c_32 => ?_)
                      · skip
                        rw [if_neg c_32] at hf
                        refine lv_aload_n hx hb dX18_onResource_236 rfl (lv_at hl 2 rfl) ?_
                        refine lv_aload_n hx hb dX18_onResource_237 rfl (lv_at hl 2 rfl) ?_
                        obtain ⟨k_33, ek_33, hf⟩ := lnk_some hf
                        refine va_get (D := (dC, dI)) (ci := 18) (v := .ref (a k_33)) (C := RX18) (T := TX18) (N := 78) hx hb hts iwd_X18_onResource_X18 hown hK hP h0 (Wd_ob kg_1 sg_1 (by decide)) rfl 34 (by decide) (hts _ md_X18_onResource_6) (fun _ h9 => h9) (fl_q rfl ek_33) dX18_onResource_238 ?_
                        refine lv_iload hx hb dX18_onResource_241 (lv_at hl 0 rfl) ?_
                        obtain ⟨g_34, hf⟩ := grd_some hf
                        obtain ⟨kg_34, sg_34, ig_34⟩ := okA_at g_34
                        refine va_iald hx hb hK hP k_33 1 (Wd_ai kg_34 sg_34) rfl ig_34 dX18_onResource_243 ?_
                        refine lv_iconst (v := 1) hx hb dX18_onResource_244 (by decide) ?_
                        obtain ⟨z_35, _u, hfc, hf⟩ := cal_some hf
                        have hFc := de_free hD hS hA
                        refine va_callv (va_runV (As := [.int (z_27.1 k_33 r_16.toNatClampNeg), .int 1]) (rest := []) ⟨hx, hb, hml, hown, hts⟩ (de_X18_push l dC dI cy a sh n H_29.size F z_27 h0 (z_27.1 k_33 r_16.toNatClampNeg) 1 hfc) (cwV 2 hts gX18_onResource_X18_push rfl rfl rfl (by decide +kernel) ⟨Nat.le_of_ble_eq_true rfl, Nat.le_of_ble_eq_true rfl⟩) ⟨fun a U g mk q => by obtain ⟨q0, q1, qP, qK, qD, qN⟩ := q; exact ⟨q0, q1, qP, va_K.moved (u := U) (U := U.calling g mk a) (Vm.Alike.refl U.vm) qK, qD, qN.same rfl⟩, va_recv hK hP (ci := 18) (q0 := h0) rfl (Wd_ob kg_1 sg_1 (by decide)), fun U hU hW => ⟨rfl, by rw [hU], by rw [hU]; exact hP, va_K.moved hW.alike hK, hD.weaken (fun _ _ _ _ => trivial), hN.warm hW⟩⟩ rfl rfl hl.1 rfl (lv_room (Nat.le_of_ble_eq_true rfl)) dX18_onResource_245 ⟨Nat.le_of_ble_eq_true rfl, Nat.le_of_ble_eq_true rfl⟩) hS (fun q _ h => hFc q h) hFc (fun u t H_36 locs ht hvm hw hB hz1 hk1 hS2 => ?_)
                        obtain ⟨hP1, -, hD1⟩ := hB
                        rw [ht] at hP1
                        replace hD := hD1.weaken (fun _ _ _ h => hFc _ h)
                        replace hP := hP1
                        replace hS := hS2
                        clear hP1 hD1 hS2 hFc hfc hz1 hk1 hvm ht
                        obtain ⟨h8, h9⟩ := ret_some hf
                        rw [h8]
                        exact W.vret hx hb hr (fun t ht hW => ⟨⟨(), rfl, trivial, by rw [ht]; exact hP, va_K.moved hW.alike hK, hD⟩, hS.F ht⟩) hS.2.2 dX18_onResource_248
                      · skip
                        rw [if_pos c_32] at hf
                        refine lv_aload_n hx hb dX18_onResource_205 rfl (lv_at hl 2 rfl) ?_
                        refine lv_aload_n hx hb dX18_onResource_206 rfl (lv_at hl 2 rfl) ?_
                        obtain ⟨k_37, ek_37, hf⟩ := lnk_some hf
                        refine va_get (D := (dC, dI)) (ci := 18) (v := .ref (a k_37)) (C := RX18) (T := TX18) (N := 78) hx hb hts iwd_X18_onResource_X18 hown hK hP h0 (Wd_ob kg_1 sg_1 (by decide)) rfl 34 (by decide) (hts _ md_X18_onResource_6) (fun _ h9 => h9) (fl_q rfl ek_37) dX18_onResource_207 ?_
                        refine lv_iload hx hb dX18_onResource_210 (lv_at hl 0 rfl) ?_
                        obtain ⟨g_38, hf⟩ := grd_some hf
                        obtain ⟨kg_38, sg_38, ig_38⟩ := okA_at g_38
                        refine va_iald hx hb hK hP k_37 1 (Wd_ai kg_38 sg_38) rfl ig_38 dX18_onResource_212 ?_
                        refine lv_iconst (v := 0) hx hb dX18_onResource_213 (by decide) ?_
                        obtain ⟨z_39, _u, hfc, hf⟩ := cal_some hf
                        have hFc := de_free hD hS hA
                        refine va_callv (va_runV (As := [.int (z_27.1 k_37 r_16.toNatClampNeg), .int 0]) (rest := []) ⟨hx, hb, hml, hown, hts⟩ (de_X18_push l dC dI cy a sh n H_29.size F z_27 h0 (z_27.1 k_37 r_16.toNatClampNeg) 0 hfc) (cwV 2 hts gX18_onResource_X18_push rfl rfl rfl (by decide +kernel) ⟨Nat.le_of_ble_eq_true rfl, Nat.le_of_ble_eq_true rfl⟩) ⟨fun a U g mk q => by obtain ⟨q0, q1, qP, qK, qD, qN⟩ := q; exact ⟨q0, q1, qP, va_K.moved (u := U) (U := U.calling g mk a) (Vm.Alike.refl U.vm) qK, qD, qN.same rfl⟩, va_recv hK hP (ci := 18) (q0 := h0) rfl (Wd_ob kg_1 sg_1 (by decide)), fun U hU hW => ⟨rfl, by rw [hU], by rw [hU]; exact hP, va_K.moved hW.alike hK, hD.weaken (fun _ _ _ _ => trivial), hN.warm hW⟩⟩ rfl rfl hl.1 rfl (lv_room (Nat.le_of_ble_eq_true rfl)) dX18_onResource_214 ⟨Nat.le_of_ble_eq_true rfl, Nat.le_of_ble_eq_true rfl⟩) hS (fun q _ h => hFc q h) hFc (fun u t H_40 locs ht hvm hw hB hz1 hk1 hS2 => ?_)
                        obtain ⟨hP1, -, hD1⟩ := hB
                        rw [ht] at hP1
                        replace hD := hD1.weaken (fun _ _ _ h => hFc _ h)
                        replace hP := hP1
                        replace hS := hS2
                        clear hP1 hD1 hS2 hFc hfc hz1 hk1 hvm ht
                        refine lv_aload_n hx hb dX18_onResource_217 rfl (lv_at hl 2 rfl) ?_
                        obtain ⟨k_41, ek_41, hf⟩ := lnk_some hf
                        refine va_get (D := (dC, dI)) (ci := 18) (v := .ref (a k_41)) (C := RX18) (T := TX18) (N := 78) hx hb hts iwd_X18_onResource_X18 hown hK hP h0 (Wd_ob kg_1 sg_1 (by decide)) rfl 35 (by decide) (hts _ md_X18_onResource_4) (fun _ h9 => h9) (fl_q rfl ek_41) dX18_onResource_218 ?_
                        refine lv_iload hx hb dX18_onResource_221 (lv_at hl 0 rfl) ?_
                        refine lv_iconst (v := 0) hx hb dX18_onResource_223 (by decide) ?_
                        obtain ⟨g_42, hf⟩ := grd_some hf
                        obtain ⟨kg_42, sg_42, ig_42⟩ := okA_at g_42
                        refine va_zast hx hb hK hP hD hS k_41 3 (Wd_az kg_42 sg_42) rfl ig_42 dX18_onResource_224 (fun H_43 locs hP2 hD2 hS2 => ?_)
                        rw [Wd_tz sg_42] at hP2 hD2
                        obtain ⟨z_44, ez_44⟩ : ∃ w, w = si z_39 k_41 r_16.toNatClampNeg (vp_nar .boolean 0) := ⟨_, rfl⟩
                        rw [← ez_44] at hP2 hD2
                        replace hf := lt_at ez_44 hf
                        clear ez_44
                        replace hP := hP2
                        replace hD := hD2
                        replace hS := hS2
                        clear hP2 hD2 hS2
                        refine lv_aload_n hx hb dX18_onResource_225 rfl (lv_at hl 2 rfl) ?_
                        obtain ⟨k_45, ek_45, hf⟩ := lnk_some hf
                        refine va_get (D := (dC, dI)) (ci := 18) (v := .ref (a k_45)) (C := RX18) (T := TX18) (N := 78) hx hb hts iwd_X18_onResource_X18 hown hK hP h0 (Wd_ob kg_1 sg_1 (by decide)) rfl 34 (by decide) (hts _ md_X18_onResource_6) (fun _ h9 => h9) (fl_q rfl ek_45) dX18_onResource_226 ?_
                        refine lv_iload hx hb dX18_onResource_229 (lv_at hl 0 rfl) ?_
                        refine lv_iconst (v := (-1)) hx hb dX18_onResource_231 (by decide) ?_
                        obtain ⟨g_46, hf⟩ := grd_some hf
                        obtain ⟨kg_46, sg_46, ig_46⟩ := okA_at g_46
                        refine va_iast hx hb hK hP hD hS k_45 1 (Wd_ai kg_46 sg_46) rfl ig_46 dX18_onResource_232 (fun H_47 locs hP2 hD2 hS2 => ?_)
                        rw [Wd_ti sg_46] at hP2 hD2
                        obtain ⟨z_48, ez_48⟩ : ∃ w, w = si z_44 k_45 r_16.toNatClampNeg (-1) := ⟨_, rfl⟩
                        rw [← ez_48] at hP2 hD2
                        replace hf := lt_at ez_48 hf
                        clear ez_48
                        replace hP := hP2
                        replace hD := hD2
                        replace hS := hS2
                        clear hP2 hD2 hS2
                        refine lv_goto (tgt := 248) hx hb dX18_onResource_233 (by decide) ?_
                        obtain ⟨h8, h9⟩ := ret_some hf
                        rw [h8]
                        exact W.vret hx hb hr (fun t ht hW => ⟨⟨(), rfl, trivial, by rw [ht]; exact hP, va_K.moved hW.alike hK, hD⟩, hS.F ht⟩) hS.2.2 dX18_onResource_248
                    · skip
                      rw [if_pos c_31] at hf
                      refine lv_aload_n hx hb dX18_onResource_179 rfl (lv_at hl 2 rfl) ?_
                      obtain ⟨k_49, ek_49, hf⟩ := lnk_some hf
                      refine va_get (D := (dC, dI)) (ci := 18) (v := .ref (a k_49)) (C := RX18) (T := TX18) (N := 78) hx hb hts iwd_X18_onResource_X18 hown hK hP h0 (Wd_ob kg_1 sg_1 (by decide)) rfl 35 (by decide) (hts _ md_X18_onResource_4) (fun _ h9 => h9) (fl_q rfl ek_49) dX18_onResource_180 ?_
                      refine lv_iload hx hb dX18_onResource_183 (lv_at hl 0 rfl) ?_
                      refine lv_iconst (v := 1) hx hb dX18_onResource_185 (by decide) ?_
                      obtain ⟨g_50, hf⟩ := grd_some hf
                      obtain ⟨kg_50, sg_50, ig_50⟩ := okA_at g_50
                      refine va_zast hx hb hK hP hD hS k_49 3 (Wd_az kg_50 sg_50) rfl ig_50 dX18_onResource_186 (fun H_51 locs hP2 hD2 hS2 => ?_)
                      rw [Wd_tz sg_50] at hP2 hD2
                      obtain ⟨z_52, ez_52⟩ : ∃ w, w = si z_27 k_49 r_16.toNatClampNeg (vp_nar .boolean 1) := ⟨_, rfl⟩
                      rw [← ez_52] at hP2 hD2
                      replace hf := lt_at ez_52 hf
                      clear ez_52
                      replace hP := hP2
                      replace hD := hD2
                      replace hS := hS2
                      clear hP2 hD2 hS2
                      refine lv_aload_n hx hb dX18_onResource_187 rfl (lv_at hl 2 rfl) ?_
                      obtain ⟨k_53, ek_53, hf⟩ := lnk_some hf
                      refine va_get (D := (dC, dI)) (ci := 18) (v := .ref (a k_53)) (C := RX18) (T := TX18) (N := 78) hx hb hts iwd_X18_onResource_X18 hown hK hP h0 (Wd_ob kg_1 sg_1 (by decide)) rfl 34 (by decide) (hts _ md_X18_onResource_6) (fun _ h9 => h9) (fl_q rfl ek_53) dX18_onResource_188 ?_
                      refine lv_iload hx hb dX18_onResource_191 (lv_at hl 0 rfl) ?_
                      refine lv_iload hx hb dX18_onResource_193 (lv_at hl 1 rfl) ?_
                      obtain ⟨g_54, hf⟩ := grd_some hf
                      obtain ⟨kg_54, sg_54, ig_54⟩ := okA_at g_54
                      refine va_iast hx hb hK hP hD hS k_53 1 (Wd_ai kg_54 sg_54) rfl ig_54 dX18_onResource_195 (fun H_55 locs hP2 hD2 hS2 => ?_)
                      rw [Wd_ti sg_54] at hP2 hD2
                      obtain ⟨z_56, ez_56⟩ : ∃ w, w = si z_52 k_53 r_16.toNatClampNeg p_7 := ⟨_, rfl⟩
                      rw [← ez_56] at hP2 hD2
                      replace hf := lt_at ez_56 hf
                      clear ez_56
                      replace hP := hP2
                      replace hD := hD2
                      replace hS := hS2
                      clear hP2 hD2 hS2
                      refine lv_goto (tgt := 248) hx hb dX18_onResource_196 (by decide) ?_
                      obtain ⟨h8, h9⟩ := ret_some hf
                      rw [h8]
                      exact W.vret hx hb hr (fun t ht hW => ⟨⟨(), rfl, trivial, by rw [ht]; exact hP, va_K.moved hW.alike hK, hD⟩, hS.F ht⟩) hS.2.2 dX18_onResource_248
                  · skip
                    rw [if_pos c_30] at hf
                    obtain ⟨h8, h9⟩ := ret_some hf
                    rw [h8]
                    exact W.vret hx hb hr (fun t ht hW => ⟨⟨(), rfl, trivial, by rw [ht]; exact hP, va_K.moved hW.alike hK, hD⟩, hS.F ht⟩) hS.2.2 dX18_onResource_172
                refine lv_icmp_ne (tgt := 164) hx hb dX18_onResource_149 (by decide) (fun c_57 => ?_) (fun c_57 => ?_)
                · skip
                  rw [if_neg c_57] at hf
                  refine lv_iconst (v := 0) hx hb dX18_onResource_164 (by decide) ?_
                  exact B165 (z_23, 0) ls H locs ⟨lv_sub hl [0, 1, 2, 3] rfl, hP, hD, hS⟩ hf
                · skip
                  rw [if_pos c_57] at hf
                  refine lv_aload_n hx hb dX18_onResource_152 rfl (lv_at hl 2 rfl) ?_
                  obtain ⟨k_58, ek_58, hf⟩ := lnk_some hf
                  refine va_get (D := (dC, dI)) (ci := 18) (v := .ref (a k_58)) (C := RX18) (T := TX18) (N := 78) hx hb hts iwd_X18_onResource_X18 hown hK hP h0 (Wd_ob kg_1 sg_1 (by decide)) rfl 15 (by decide) (hts _ md_X18_onResource_3) (fun _ h9 => h9) (fl_q rfl ek_58) dX18_onResource_153 ?_
                  refine lv_iload hx hb dX18_onResource_156 (lv_at hl 1 rfl) ?_
                  obtain ⟨g_61, hf⟩ := grd_some hf
                  obtain ⟨kg_61, sg_61⟩ := okO_at g_61
                  obtain ⟨z_59, r_60, hfc, hf⟩ := cal_some hf
                  have hFc := de_free hD hS hA
                  refine va_calli (va_runV (As := [.int p_7]) (rest := [.int 10, .ref (a h0)]) ⟨hx, hb, hml, hown, hts⟩ (de_X15_sizeOf l dC dI cy a sh n F 48 H.size z_23 k_58 p_7 hfc) (cwV 1 hts gX18_onResource_X15_sizeOf rfl rfl rfl (by decide +kernel) ⟨Nat.le_of_ble_eq_true rfl, Nat.le_of_ble_eq_true rfl⟩) ⟨fun a U g mk q => by obtain ⟨q0, q1, qP, qK, qD, qN⟩ := q; exact ⟨q0, q1, qP, va_K.moved (u := U) (U := U.calling g mk a) (Vm.Alike.refl U.vm) qK, qD, qN.same rfl⟩, va_recv hK hP (ci := 15) (q0 := k_58) rfl (Wd_ob kg_61 sg_61 (by decide)), fun U hU hW => ⟨rfl, by rw [hU], by rw [hU]; exact hP, va_K.moved hW.alike hK, hD.weaken (fun _ _ _ _ => trivial), hN.warm hW⟩⟩ rfl rfl hl.1 rfl (lv_room (Nat.le_of_ble_eq_true rfl)) dX18_onResource_158 ⟨Nat.le_of_ble_eq_true rfl, Nat.le_of_ble_eq_true rfl⟩) hS (fun q _ h => hFc q h) hFc (fun rr u t H_62 locs ht hvm hw hB hz1 hk1 hS2 => ?_)
                  rw [hw]
                  clear hw
                  obtain ⟨hP1, -, hD1⟩ := hB
                  rw [ht] at hP1
                  replace hD := hD1.weaken (fun _ _ _ h => hFc _ h)
                  replace hP := hP1
                  replace hS := hS2
                  clear hP1 hD1 hS2 hFc hfc hz1 hk1 hvm ht
                  refine lv_goto (tgt := 165) hx hb dX18_onResource_161 (by decide) ?_
                  exact B165 (z_59, r_60) ls H_62 locs ⟨lv_sub hl [0, 1, 2, 3] rfl, hP, hD, hS⟩ hf
              · skip
                rw [if_pos c_24] at hf
                refine lv_aload_n hx hb dX18_onResource_134 rfl (lv_at hl 2 rfl) ?_
                refine lv_iconst (v := 2) hx hb dX18_onResource_135 (by decide) ?_
                refine lv_ldc2 hx hb hown (hts _ md_X18_onResource_5) dX18_onResource_136 ?_
                obtain ⟨z_63, _u, hfc, hf⟩ := cal_some hf
                have hFc := de_free hD hS hA
                refine va_callv (va_runV (As := [.int 2, .long 3]) (rest := []) ⟨hx, hb, hml, hown, hts⟩ (de_X18_end l dC dI cy a sh n H.size F z_23 h0 2 3 hfc) (cwV 2 hts gX18_onResource_X18_end rfl rfl rfl (by decide +kernel) ⟨Nat.le_of_ble_eq_true rfl, Nat.le_of_ble_eq_true rfl⟩) ⟨fun a U g mk q => by obtain ⟨q0, q1, qP, qK, qD, qN⟩ := q; exact ⟨q0, q1, qP, va_K.moved (u := U) (U := U.calling g mk a) (Vm.Alike.refl U.vm) qK, qD, qN.same rfl⟩, va_recv hK hP (ci := 18) (q0 := h0) rfl (Wd_ob kg_1 sg_1 (by decide)), fun U hU hW => ⟨rfl, by rw [hU], by rw [hU]; exact hP, va_K.moved hW.alike hK, hD.weaken (fun _ _ _ _ => trivial), hN.warm hW⟩⟩ rfl rfl hl.1 rfl (lv_room (Nat.le_of_ble_eq_true rfl)) dX18_onResource_139 ⟨Nat.le_of_ble_eq_true rfl, Nat.le_of_ble_eq_true rfl⟩) hS (fun q _ h => hFc q h) hFc (fun u t H_64 locs ht hvm hw hB hz1 hk1 hS2 => ?_)
                obtain ⟨hP1, -, hD1⟩ := hB
                rw [ht] at hP1
                replace hD := hD1.weaken (fun _ _ _ h => hFc _ h)
                replace hP := hP1
                replace hS := hS2
                clear hP1 hD1 hS2 hFc hfc hz1 hk1 hvm ht
                obtain ⟨h8, h9⟩ := ret_some hf
                rw [h8]
                exact W.vret hx hb hr (fun t ht hW => ⟨⟨(), rfl, trivial, by rw [ht]; exact hP, va_K.moved hW.alike hK, hD⟩, hS.F ht⟩) hS.2.2 dX18_onResource_142
            refine lv_icmp_ne (tgt := 130) hx hb dX18_onResource_123 (by decide) (fun c_65 => ?_) (fun c_65 => ?_)
            · skip
              rw [if_neg c_65] at hf
              refine lv_iconst (v := 0) hx hb dX18_onResource_130 (by decide) ?_
              exact B131 (z_15, 0) ls H_17 locs ⟨lv_sub hl [0, 1, 3, 4] rfl, hP, hD, hS⟩ hf
            · skip
              rw [if_pos c_65] at hf
              refine lv_iconst (v := 1) hx hb dX18_onResource_126 (by decide) ?_
              refine lv_goto (tgt := 131) hx hb dX18_onResource_127 (by decide) ?_
              exact B131 (z_15, 1) ls H_17 locs ⟨lv_sub hl [0, 1, 3, 4] rfl, hP, hD, hS⟩ hf
          · skip
            rw [if_pos c_19] at hf
            refine lv_aload_n hx hb dX18_onResource_82 rfl (lv_at hl 3 rfl) ?_
            refine lv_bipush (v := 10) hx hb dX18_onResource_83 (by decide) ?_
            obtain ⟨z_66, r_67, hfc, hf⟩ := cal_some hf
            have hFc := de_free hD hS hA
            refine va_calli (va_runV (As := [.int 10]) (rest := []) ⟨hx, hb, hml, hown, hts⟩ (de_X18_spend l dC dI cy a sh n H_17.size F z_15 h0 10 hfc) (cwV 1 hts gX18_onResource_X18_spend rfl rfl rfl (by decide +kernel) ⟨Nat.le_of_ble_eq_true rfl, Nat.le_of_ble_eq_true rfl⟩) ⟨fun a U g mk q => by obtain ⟨q0, q1, qP, qK, qD, qN⟩ := q; exact ⟨q0, q1, qP, va_K.moved (u := U) (U := U.calling g mk a) (Vm.Alike.refl U.vm) qK, qD, qN.same rfl⟩, va_recv hK hP (ci := 18) (q0 := h0) rfl (Wd_ob kg_1 sg_1 (by decide)), fun U hU hW => ⟨rfl, by rw [hU], by rw [hU]; exact hP, va_K.moved hW.alike hK, hD.weaken (fun _ _ _ _ => trivial), hN.warm hW⟩⟩ rfl rfl hl.1 rfl (lv_room (Nat.le_of_ble_eq_true rfl)) dX18_onResource_85 ⟨Nat.le_of_ble_eq_true rfl, Nat.le_of_ble_eq_true rfl⟩) hS (fun q _ h => hFc q h) hFc (fun rr u t H_68 locs ht hvm hw hB hz1 hk1 hS2 => ?_)
            rw [hw]
            clear hw
            obtain ⟨hP1, -, hD1⟩ := hB
            rw [ht] at hP1
            replace hD := hD1.weaken (fun _ _ _ h => hFc _ h)
            replace hP := hP1
            replace hS := hS2
            clear hP1 hD1 hS2 hFc hfc hz1 hk1 hvm ht
            refine lv_if_eq (tgt := 112) hx hb dX18_onResource_88 (by decide) (fun c_69 => ?_) (fun c_69 => ?_)
            · skip
              rw [if_pos c_69] at hf
              obtain ⟨h8, h9⟩ := ret_some hf
              rw [h8]
              exact W.vret hx hb hr (fun t ht hW => ⟨⟨(), rfl, trivial, by rw [ht]; exact hP, va_K.moved hW.alike hK, hD⟩, hS.F ht⟩) hS.2.2 dX18_onResource_112
            · skip
              rw [if_neg c_69] at hf
              refine lv_aload_n hx hb dX18_onResource_91 rfl (lv_at hl 3 rfl) ?_
              refine lv_iconst (v := 1) hx hb dX18_onResource_92 (by decide) ?_
              refine lv_lconst (v := 0) hx hb dX18_onResource_93 (by decide) ?_
              refine lv_aload_n hx hb dX18_onResource_94 rfl (lv_at hl 3 rfl) ?_
              obtain ⟨k_70, ek_70, hf⟩ := lnk_some hf
              refine va_get (D := (dC, dI)) (ci := 18) (v := .ref (a k_70)) (C := RX18) (T := TX18) (N := 78) hx hb hts iwd_X18_onResource_X18 hown hK hP h0 (Wd_ob kg_1 sg_1 (by decide)) rfl 35 (by decide) (hts _ md_X18_onResource_4) (fun _ h9 => h9) (fl_q rfl ek_70) dX18_onResource_95 ?_
              refine lv_iload hx hb dX18_onResource_98 (lv_at hl 0 rfl) ?_
              obtain ⟨g_71, hf⟩ := grd_some hf
              obtain ⟨kg_71, sg_71, ig_71⟩ := okA_at g_71
              refine va_zald hx hb hK hP k_70 3 (Wd_az kg_71 sg_71) rfl ig_71 dX18_onResource_100 ?_
              refine lv_if_eq (tgt := 108) hx hb dX18_onResource_101 (by decide) (fun c_72 => ?_) (fun c_72 => ?_)
              · skip
                rw [if_pos c_72] at hf
                refine lv_lconst (v := 0) hx hb dX18_onResource_108 (by decide) ?_
                obtain ⟨z_73, _u, hfc, hf⟩ := cal_some hf
                have hFc := de_free hD hS hA
                refine va_callv (va_runV (As := [.int 1, .long 0, .long 0]) (rest := []) ⟨hx, hb, hml, hown, hts⟩ (de_X18_make l dC dI cy a sh n H_68.size F z_66 h0 1 0 0 hfc) (cwV 3 hts gX18_onResource_X18_make rfl rfl rfl (by decide +kernel) ⟨Nat.le_of_ble_eq_true rfl, Nat.le_of_ble_eq_true rfl⟩) ⟨fun a U g mk q => by obtain ⟨q0, q1, qP, qK, qD, qN⟩ := q; exact ⟨q0, q1, qP, va_K.moved (u := U) (U := U.calling g mk a) (Vm.Alike.refl U.vm) qK, qD, qN.same rfl⟩, va_recv hK hP (ci := 18) (q0 := h0) rfl (Wd_ob kg_1 sg_1 (by decide)), fun U hU hW => ⟨rfl, by rw [hU], by rw [hU]; exact hP, va_K.moved hW.alike hK, hD.weaken (fun _ _ _ _ => trivial), hN.warm hW⟩⟩ rfl rfl hl.1 rfl (lv_room (Nat.le_of_ble_eq_true rfl)) dX18_onResource_109 ⟨Nat.le_of_ble_eq_true rfl, Nat.le_of_ble_eq_true rfl⟩) hS (fun q _ h => hFc q h) hFc (fun u t H_74 locs ht hvm hw hB hz1 hk1 hS2 => ?_)
                obtain ⟨hP1, -, hD1⟩ := hB
                rw [ht] at hP1
                replace hD := hD1.weaken (fun _ _ _ h => hFc _ h)
                replace hP := hP1
                replace hS := hS2
                clear hP1 hD1 hS2 hFc hfc hz1 hk1 hvm ht
                obtain ⟨h8, h9⟩ := ret_some hf
                rw [h8]
                exact W.vret hx hb hr (fun t ht hW => ⟨⟨(), rfl, trivial, by rw [ht]; exact hP, va_K.moved hW.alike hK, hD⟩, hS.F ht⟩) hS.2.2 dX18_onResource_112
              · skip
                rw [if_neg c_72] at hf
                refine lv_lconst (v := 1) hx hb dX18_onResource_104 (by decide) ?_
                refine lv_goto (tgt := 109) hx hb dX18_onResource_105 (by decide) ?_
                obtain ⟨z_75, _u, hfc, hf⟩ := cal_some hf
                have hFc := de_free hD hS hA
                refine va_callv (va_runV (As := [.int 1, .long 0, .long 1]) (rest := []) ⟨hx, hb, hml, hown, hts⟩ (de_X18_make l dC dI cy a sh n H_68.size F z_66 h0 1 0 1 hfc) (cwV 3 hts gX18_onResource_X18_make rfl rfl rfl (by decide +kernel) ⟨Nat.le_of_ble_eq_true rfl, Nat.le_of_ble_eq_true rfl⟩) ⟨fun a U g mk q => by obtain ⟨q0, q1, qP, qK, qD, qN⟩ := q; exact ⟨q0, q1, qP, va_K.moved (u := U) (U := U.calling g mk a) (Vm.Alike.refl U.vm) qK, qD, qN.same rfl⟩, va_recv hK hP (ci := 18) (q0 := h0) rfl (Wd_ob kg_1 sg_1 (by decide)), fun U hU hW => ⟨rfl, by rw [hU], by rw [hU]; exact hP, va_K.moved hW.alike hK, hD.weaken (fun _ _ _ _ => trivial), hN.warm hW⟩⟩ rfl rfl hl.1 rfl (lv_room (Nat.le_of_ble_eq_true rfl)) dX18_onResource_109 ⟨Nat.le_of_ble_eq_true rfl, Nat.le_of_ble_eq_true rfl⟩) hS (fun q _ h => hFc q h) hFc (fun u t H_76 locs ht hvm hw hB hz1 hk1 hS2 => ?_)
                obtain ⟨hP1, -, hD1⟩ := hB
                rw [ht] at hP1
                replace hD := hD1.weaken (fun _ _ _ h => hFc _ h)
                replace hP := hP1
                replace hS := hS2
                clear hP1 hD1 hS2 hFc hfc hz1 hk1 hvm ht
                obtain ⟨h8, h9⟩ := ret_some hf
                rw [h8]
                exact W.vret hx hb hr (fun t ht hW => ⟨⟨(), rfl, trivial, by rw [ht]; exact hP, va_K.moved hW.alike hK, hD⟩, hS.F ht⟩) hS.2.2 dX18_onResource_112
        · skip
          rw [if_neg c_18] at hf
          obtain ⟨h8, h9⟩ := ret_some hf
          rw [h8]
          exact W.vret hx hb hr (fun t ht hW => ⟨⟨(), rfl, trivial, by rw [ht]; exact hP, va_K.moved hW.alike hK, hD⟩, hS.F ht⟩) hS.2.2 dX18_onResource_75
      refine lv_icmp_ne (tgt := 54) hx hb dX18_onResource_44 (by decide) (fun c_77 => ?_) (fun c_77 => ?_)
      · skip
        rw [if_neg c_77] at hf
        refine lv_aload_n hx hb dX18_onResource_54 rfl (lv_at hl 2 rfl) ?_
        obtain ⟨k_78, ek_78, hf⟩ := lnk_some hf
        refine va_get (D := (dC, dI)) (ci := 18) (v := .ref (a k_78)) (C := RX18) (T := TX18) (N := 78) hx hb hts iwd_X18_onResource_X18 hown hK hP h0 (Wd_ob kg_1 sg_1 (by decide)) rfl 15 (by decide) (hts _ md_X18_onResource_3) (fun _ h9 => h9) (fl_q rfl ek_78) dX18_onResource_55 ?_
        obtain ⟨g_79, hf⟩ := grd_some hf
        obtain ⟨kg_79, sg_79⟩ := okO_at g_79
        obtain ⟨k_80, ek_80, hf⟩ := lnk_some hf
        refine va_getN (D := (dC, dI)) (ci := 15) (v := .ref (a k_80)) (C := RX15) (T := TX15) (N := 6) hx hb hts iwd_X18_onResource_X15 hown hK hP k_78 (Wd_ob kg_79 sg_79 (by decide)) rfl 2 (by decide) (va_Nw.use rfl (NK_f_X18_77 hN)) (fun _ h9 => h9) (fl_q rfl ek_80) dX18_onResource_58 ?_
        refine lv_iload hx hb dX18_onResource_61 (lv_at hl 0 rfl) ?_
        obtain ⟨g_81, hf⟩ := grd_some hf
        obtain ⟨kg_81, sg_81, ig_81⟩ := okA_at g_81
        refine va_lald hx hb hK hP k_80 2 (Wd_al kg_81 sg_81) rfl ig_81 dX18_onResource_63 ?_
        exact B64 (z_9, (z_9.2.1 k_80 p_7.toNatClampNeg)) ls H_11 locs ⟨lv_sub hl [0, 1, 2, 3] rfl, hP, hD, hS⟩ hf
      · skip
        rw [if_pos c_77] at hf
        refine lv_aload_n hx hb dX18_onResource_47 rfl (lv_at hl 2 rfl) ?_
        refine va_get (D := (dC, dI)) (ci := 18) (v := .long (z_9.2.1 h0 24)) (C := RX18) (T := TX18) (N := 78) hx hb hts iwd_X18_onResource_X18 hown hK hP h0 (Wd_ob kg_1 sg_1 (by decide)) rfl 24 (by decide) (hts _ md_X18_onResource_2) (fun _ h9 => h9) (fl_at (t := 1) rfl) dX18_onResource_48 ?_
        refine lv_goto (tgt := 64) hx hb dX18_onResource_51 (by decide) ?_
        exact B64 (z_9, (z_9.2.1 h0 24)) ls H_11 locs ⟨lv_sub hl [0, 1, 2, 3] rfl, hP, hD, hS⟩ hf
    · skip
      rw [if_pos c_12] at hf
      obtain ⟨h8, h9⟩ := ret_some hf
      rw [h8]
      exact W.vret hx hb hr (fun t ht hW => ⟨⟨(), rfl, trivial, by rw [ht]; exact hP, va_K.moved hW.alike hK, hD⟩, hS.F ht⟩) hS.2.2 dX18_onResource_38
  refine lv_icmp_ne (tgt := 24) hx hb dX18_onResource_12 (by decide) (fun c_82 => ?_) (fun c_82 => ?_)
  · skip
    rw [if_neg c_82] at hf
    refine lv_aload_n hx hb dX18_onResource_24 rfl (lv_at hl 1 rfl) ?_
    refine lv_iconst (v := 5) hx hb dX18_onResource_25 (by decide) ?_
    obtain ⟨z_83, r_84, hfc, hf⟩ := cal_some hf
    have hFc := de_free hD hS hA
    refine va_calli (va_runV (As := [.int 5]) (rest := []) ⟨hx, hb, hml, hown, hts⟩ (de_X18_take l dC dI cy a sh n H_6.size F z_3 h0 5 hfc) (cwV 1 hts gX18_onResource_X18_take rfl rfl rfl (by decide +kernel) ⟨Nat.le_of_ble_eq_true rfl, Nat.le_of_ble_eq_true rfl⟩) ⟨fun a U g mk q => by obtain ⟨q0, q1, qP, qK, qD, qN⟩ := q; exact ⟨q0, q1, qP, va_K.moved (u := U) (U := U.calling g mk a) (Vm.Alike.refl U.vm) qK, qD, qN.same rfl⟩, va_recv hK hP (ci := 18) (q0 := h0) rfl (Wd_ob kg_1 sg_1 (by decide)), fun U hU hW => ⟨rfl, by rw [hU], by rw [hU]; exact hP, va_K.moved hW.alike hK, hD.weaken (fun _ _ _ _ => trivial), hN.warm hW⟩⟩ rfl rfl hl.1 rfl (lv_room (Nat.le_of_ble_eq_true rfl)) dX18_onResource_26 ⟨Nat.le_of_ble_eq_true rfl, Nat.le_of_ble_eq_true rfl⟩) hS (fun q _ h => hFc q h) hFc (fun rr u t H_85 locs ht hvm hw hB hz1 hk1 hS2 => ?_)
    rw [hw]
    clear hw
    obtain ⟨hP1, -, hD1⟩ := hB
    rw [ht] at hP1
    replace hD := hD1.weaken (fun _ _ _ h => hFc _ h)
    replace hP := hP1
    replace hS := hS2
    clear hP1 hD1 hS2 hFc hfc hz1 hk1 hvm ht
    exact B29 (z_83, r_84) ls H_85 locs ⟨lv_sub hl [0, 1, 2] rfl, hP, hD, hS⟩ hf
  · skip
    rw [if_pos c_82] at hf
    refine lv_aload_n hx hb dX18_onResource_15 rfl (lv_at hl 1 rfl) ?_
    refine lv_bipush (v := 6) hx hb dX18_onResource_16 (by decide) ?_
    obtain ⟨z_86, r_87, hfc, hf⟩ := cal_some hf
    have hFc := de_free hD hS hA
    refine va_calli (va_runV (As := [.int 6]) (rest := []) ⟨hx, hb, hml, hown, hts⟩ (de_X18_take l dC dI cy a sh n H_6.size F z_3 h0 6 hfc) (cwV 1 hts gX18_onResource_X18_take rfl rfl rfl (by decide +kernel) ⟨Nat.le_of_ble_eq_true rfl, Nat.le_of_ble_eq_true rfl⟩) ⟨fun a U g mk q => by obtain ⟨q0, q1, qP, qK, qD, qN⟩ := q; exact ⟨q0, q1, qP, va_K.moved (u := U) (U := U.calling g mk a) (Vm.Alike.refl U.vm) qK, qD, qN.same rfl⟩, va_recv hK hP (ci := 18) (q0 := h0) rfl (Wd_ob kg_1 sg_1 (by decide)), fun U hU hW => ⟨rfl, by rw [hU], by rw [hU]; exact hP, va_K.moved hW.alike hK, hD.weaken (fun _ _ _ _ => trivial), hN.warm hW⟩⟩ rfl rfl hl.1 rfl (lv_room (Nat.le_of_ble_eq_true rfl)) dX18_onResource_18 ⟨Nat.le_of_ble_eq_true rfl, Nat.le_of_ble_eq_true rfl⟩) hS (fun q _ h => hFc q h) hFc (fun rr u t H_88 locs ht hvm hw hB hz1 hk1 hS2 => ?_)
    rw [hw]
    clear hw
    obtain ⟨hP1, -, hD1⟩ := hB
    rw [ht] at hP1
    replace hD := hD1.weaken (fun _ _ _ h => hFc _ h)
    replace hP := hP1
    replace hS := hS2
    clear hP1 hD1 hS2 hFc hfc hz1 hk1 hvm ht
    refine lv_goto (tgt := 29) hx hb dX18_onResource_21 (by decide) ?_
    exact B29 (z_86, r_87) ls H_88 locs ⟨lv_sub hl [0, 1, 2] rfl, hP, hD, hS⟩ hf

theorem md_X4_useCoin_2 : (.fieldLink RX4 12 "ResourceLedger$Machine" "heap" "LResourceLedger$Heap;" : Cond) ∈ wsX4_useCoin := List.mem_of_getElem? (i := 2) rfl
theorem iwd_X4_useCoin_X4 : ∀ w ∈ wsX40, w ∈ wsX4_useCoin := fun _ h => List.mem_cons_of_mem _ (List.mem_append_left _ (List.mem_append_left _ (List.mem_append_left _ (List.mem_append_left _ (List.mem_append_right _ h)))))
theorem md_X4_useCoin_3 : (.fieldLink RX4 158 "ResourceLedger$Heap" "low" "[J" : Cond) ∈ wsX4_useCoin := List.mem_of_getElem? (i := 3) rfl
theorem iwd_X4_useCoin_X1 : ∀ w ∈ wsX10, w ∈ wsX4_useCoin := fun _ h => List.mem_cons_of_mem _ (List.mem_append_left _ (List.mem_append_left _ (List.mem_append_left _ (List.mem_append_right _ h))))
theorem md_X4_useCoin_1 : (.fieldLink RX4 67 "ResourceLedger$Machine" "journal" "LResourceLedger$Journal;" : Cond) ∈ wsX4_useCoin := List.mem_of_getElem? (i := 1) rfl
theorem md_X4_useCoin_6 : (.fieldLink RX4 317 "ResourceLedger$Journal" "balance" "[J" : Cond) ∈ wsX4_useCoin := List.mem_of_getElem? (i := 6) rfl
theorem iwd_X4_useCoin_X2 : ∀ w ∈ wsX20, w ∈ wsX4_useCoin := fun _ h => List.mem_cons_of_mem _ (List.mem_append_left _ (List.mem_append_left _ (List.mem_append_right _ h)))
theorem md_X4_useCoin_5 : (.fieldLink RX4 313 "ResourceLedger$Journal" "isThere" "[Z" : Cond) ∈ wsX4_useCoin := List.mem_of_getElem? (i := 5) rfl
theorem md_X4_useCoin_4 : (.constantLong RX4 146 (4) : Cond) ∈ wsX4_useCoin := List.mem_of_getElem? (i := 4) rfl
set_option maxHeartbeats 4000000 in
set_option maxRecDepth 100000 in
theorem de_X4_useCoin (l : Launch) (dC : Nat → ClassId) (dI : Nat → Nat → Nat) (cy : Nat → ClassId) (a : Nat → Nat) (sh : Nat → Nat × Nat) (n sz : Nat) (F : Nat) (z : St) (h0 : Nat) (x0 : Int32) {z8 : St} {r8 : Unit} (hf : fn_X4_useCoin F sh n z h0 x0 = some (z8, r8)) : Met l yX4_useCoin wsX4_useCoin ({ frames := 52, cells := 0, slots := 0, locals := 1446 }) (va_Pc [.ref (a h0), .int x0] (fun U => U.heap.size = sz ∧ va_P (dC, dI) vwCl (Wd cy a sh n z) U.heap ∧ va_K (dC, dI) vwCl (TYS cy) U ∧ va_D (fun _ => True) (Wd cy a sh n z) ∧ NK U)) (va_Qv (fun u : Unit => True) (fun u t => va_P (dC, dI) vwCl (Wd cy a sh n z8) t.heap ∧ va_K (dC, dI) vwCl (TYS cy) t ∧ va_D (va_A (Wd cy a sh n z) sz) (Wd cy a sh n z8)) (va_A (Wd cy a sh n z) sz)) 0 0 (va_A (Wd cy a sh n z) sz) := by
  refine Met.ofW (cc := cX4_useCoin) (maxL := 5) (ret := none) (by decide) rfl ?_
  intro p e s m args below meth c s₁ B hml hv
  obtain ⟨rfl, hsz, hP, hK, hD0, hN⟩ := hv
  have hx := B.exec
  have hb := B.bytes
  have hr := B.returns
  have hts := atoms_spec (ws := wsX4_useCoin) B.pre
  have hown : s.vm.findClass RX4 = some m.cls := findClass_of_methodNamed B.named
  have hlocks := B.notSynchronized
  subst hsz
  have hD := hD0.self (sz := s.heap.size)
  clear hD0
  generalize hAe : va_A (Wd cy a sh n z) s.heap.size = A at hD ⊢
  have hA : ∀ q : Nat, s.heap.size ≤ q → A q := fun q h => by rw [← hAe]; exact Or.inr h
  clear hAe
  have hS : va_S A s.heap s.heap [] := va_S.rf
  have hl := lv_entry ([.ref (a h0), .int x0]) (n := 5) (Nat.le_of_ble_eq_true rfl)
  rw [lg_entry_eq]
  generalize (lg_sl ([.ref (a h0), .int x0]) ++ List.replicate (5 - (lg_sl ([.ref (a h0), .int x0])).length) Slot.unset).toArray = ls at hl ⊢
  replace hl : lv_has ls 5 [(0, .ref (a h0)), (1, .int x0)] := hl
  unfold fn_X4_useCoin at hf
  refine de_start hS hP (fun H locs hS hP => ?_)
  refine lv_iconst (v := 0) hx hb dX4_useCoin_0 (by decide) ?_
  refine lv_istore_n (lv' := [(2, .int 0), (0, .ref (a h0)), (1, .int x0)]) hx hb dX4_useCoin_1 rfl hl (by decide) rfl (fun ls hl2 => ?_)
  replace hl := hl2
  clear hl2
  refine lv_iload_n hx hb dX4_useCoin_2 rfl (lv_at hl 2 rfl) ?_
  refine lv_iconst (v := 1) hx hb dX4_useCoin_3 (by decide) ?_
  refine de_cut (h := 45) (fun (x : St × Int32) => []) (fun x ls H locs => lv_has ls 5 [(2, .int x.2), (0, .ref (a h0)), (1, .int x0)] ∧ va_P (dC, dI) vwCl (Wd cy a sh n x.1) H ∧ va_D A (Wd cy a sh n x.1) ∧ va_S A s.heap H locs) (fun x => fn_X4_useCoin_B45 F sh n h0 x0 x.1 x.2) (z8, r8) ?_ (fun B45 => ?_)
  · intro x ls H locs hI hf
    obtain ⟨z_2, p_1⟩ := x
    obtain ⟨hl2, hP2, hD2, hS2⟩ := hI
    replace hl : lv_has ls 5 [(2, .int p_1), (0, .ref (a h0)), (1, .int x0)] := hl2
    replace hP := hP2
    replace hD := hD2
    replace hS := hS2
    clear hl2 hP2 hD2 hS2
    replace hf := fn_X4_useCoin_B45_s hf
    refine W.eq (g2 := F0 m 45 ls []) rfl ?_
    refine lv_iload_n hx hb dX4_useCoin_45 rfl (lv_at hl 0 rfl) ?_
    refine lv_if_ge (tgt := 58) hx hb dX4_useCoin_46 (by decide) (fun c_3 => ?_) (fun c_3 => ?_)
    · skip
      rw [if_pos c_3] at hf
      refine lv_aload_n hx hb dX4_useCoin_58 rfl (lv_at hl 1 rfl) ?_
      refine lv_iconst (v := 5) hx hb dX4_useCoin_59 (by decide) ?_
      obtain ⟨g_6, hf⟩ := grd_some hf
      obtain ⟨kg_6, sg_6⟩ := okO_at g_6
      obtain ⟨z_4, r_5, hfc, hf⟩ := cal_some hf
      have hFc := de_free hD hS hA
      refine va_calli (va_runV (As := [.int 5]) (rest := []) ⟨hx, hb, hml, hown, hts⟩ (de_X4_pay l dC dI cy a sh n H.size F z_2 h0 5 hfc) (cwV 1 hts gX4_useCoin_X4_pay rfl rfl rfl (by decide +kernel) ⟨Nat.le_of_ble_eq_true rfl, Nat.le_of_ble_eq_true rfl⟩) ⟨fun a U g mk q => by obtain ⟨q0, q1, qP, qK, qD, qN⟩ := q; exact ⟨q0, q1, qP, va_K.moved (u := U) (U := U.calling g mk a) (Vm.Alike.refl U.vm) qK, qD, qN.same rfl⟩, va_recv hK hP (ci := 4) (q0 := h0) rfl (Wd_ob kg_6 sg_6 (by decide)), fun U hU hW => ⟨rfl, by rw [hU], by rw [hU]; exact hP, va_K.moved hW.alike hK, hD.weaken (fun _ _ _ _ => trivial), hN.warm hW⟩⟩ rfl rfl hl.1 rfl (lv_room (Nat.le_of_ble_eq_true rfl)) dX4_useCoin_60 ⟨Nat.le_of_ble_eq_true rfl, Nat.le_of_ble_eq_true rfl⟩) hS (fun q _ h => hFc q h) hFc (fun rr u t H_7 locs ht hvm hw hB hz1 hk1 hS2 => ?_)
      rw [hw]
      clear hw
      obtain ⟨hP1, -, hD1⟩ := hB
      rw [ht] at hP1
      replace hD := hD1.weaken (fun _ _ _ h => hFc _ h)
      replace hP := hP1
      replace hS := hS2
      clear hP1 hD1 hS2 hFc hfc hz1 hk1 hvm ht
      refine lv_if_ne (tgt := 67) hx hb dX4_useCoin_63 (by decide) (fun c_8 => ?_) (fun c_8 => ?_)
      · skip
        rw [if_neg c_8] at hf
        refine lv_aload_n hx hb dX4_useCoin_67 rfl (lv_at hl 1 rfl) ?_
        obtain ⟨k_9, ek_9, hf⟩ := lnk_some hf
        refine va_get (D := (dC, dI)) (ci := 4) (v := .ref (a k_9)) (C := RX4) (T := TX4) (N := 19) hx hb hts iwd_X4_useCoin_X4 hown hK hP h0 (Wd_ob kg_6 sg_6 (by decide)) rfl 1 (by decide) (hts _ md_X4_useCoin_2) (fun _ h9 => h9) (fl_q rfl ek_9) dX4_useCoin_68 ?_
        obtain ⟨g_10, hf⟩ := grd_some hf
        obtain ⟨kg_10, sg_10⟩ := okO_at g_10
        obtain ⟨k_11, ek_11, hf⟩ := lnk_some hf
        refine va_get (D := (dC, dI)) (ci := 1) (v := .ref (a k_11)) (C := RX1) (T := TX1) (N := 7) hx hb hts iwd_X4_useCoin_X1 hown hK hP k_9 (Wd_ob kg_10 sg_10 (by decide)) rfl 1 (by decide) (hts _ md_X4_useCoin_3) (fun _ h9 => h9) (fl_q rfl ek_11) dX4_useCoin_71 ?_
        refine lv_aload_n hx hb dX4_useCoin_74 rfl (lv_at hl 1 rfl) ?_
        refine lv_iconst (v := 0) hx hb dX4_useCoin_75 (by decide) ?_
        obtain ⟨z_12, r_13, hfc, hf⟩ := cal_some hf
        have hFc := de_free hD hS hA
        refine va_calli (va_runV (As := [.int 0]) (rest := [.ref (a k_11)]) ⟨hx, hb, hml, hown, hts⟩ (de_X4_peek l dC dI cy a sh n H_7.size F z_4 h0 0 hfc) (cwV 1 hts gX4_useCoin_X4_peek rfl rfl rfl (by decide +kernel) ⟨Nat.le_of_ble_eq_true rfl, Nat.le_of_ble_eq_true rfl⟩) ⟨fun a U g mk q => by obtain ⟨q0, q1, qP, qK, qD, qN⟩ := q; exact ⟨q0, q1, qP, va_K.moved (u := U) (U := U.calling g mk a) (Vm.Alike.refl U.vm) qK, qD, qN.same rfl⟩, va_recv hK hP (ci := 4) (q0 := h0) rfl (Wd_ob kg_6 sg_6 (by decide)), fun U hU hW => ⟨rfl, by rw [hU], by rw [hU]; exact hP, va_K.moved hW.alike hK, hD.weaken (fun _ _ _ _ => trivial), hN.warm hW⟩⟩ rfl rfl hl.1 rfl (lv_room (Nat.le_of_ble_eq_true rfl)) dX4_useCoin_76 ⟨Nat.le_of_ble_eq_true rfl, Nat.le_of_ble_eq_true rfl⟩) hS (fun q _ h => hFc q h) hFc (fun rr u t H_14 locs ht hvm hw hB hz1 hk1 hS2 => ?_)
        rw [hw]
        clear hw
        obtain ⟨hP1, -, hD1⟩ := hB
        rw [ht] at hP1
        replace hD := hD1.weaken (fun _ _ _ h => hFc _ h)
        replace hP := hP1
        replace hS := hS2
        clear hP1 hD1 hS2 hFc hfc hz1 hk1 hvm ht
        obtain ⟨g_15, hf⟩ := grd_some hf
        obtain ⟨kg_15, sg_15, ig_15⟩ := okA_at g_15
        refine va_lald hx hb hK hP k_11 2 (Wd_al kg_15 sg_15) rfl ig_15 dX4_useCoin_79 ?_
        refine lv_topl (fun v_16 ev_16 => ?_)
        replace hf := lt_at ev_16 hf
        clear ev_16
        refine lv_lstore_n (lv' := [(3, .long v_16), (2, .int p_1), (0, .ref (a h0)), (1, .int x0)]) hx hb dX4_useCoin_80 rfl hl (by decide) rfl (fun ls hl2 => ?_)
        replace hl := hl2
        clear hl2
        refine lv_iload_n hx hb dX4_useCoin_81 rfl (lv_at hl 3 rfl) ?_
        refine lv_if_ne (tgt := 93) hx hb dX4_useCoin_82 (by decide) (fun c_17 => ?_) (fun c_17 => ?_)
        · skip
          rw [if_neg c_17] at hf
          refine lv_iload_n hx hb dX4_useCoin_93 rfl (lv_at hl 3 rfl) ?_
          refine lv_iconst (v := 1) hx hb dX4_useCoin_94 (by decide) ?_
          refine lv_icmp_ne (tgt := 134) hx hb dX4_useCoin_95 (by decide) (fun c_18 => ?_) (fun c_18 => ?_)
          · skip
            rw [if_neg c_18] at hf
            refine lv_iload_n hx hb dX4_useCoin_134 rfl (lv_at hl 3 rfl) ?_
            refine lv_iconst (v := 2) hx hb dX4_useCoin_135 (by decide) ?_
            refine lv_icmp_ne (tgt := 164) hx hb dX4_useCoin_136 (by decide) (fun c_19 => ?_) (fun c_19 => ?_)
            · skip
              rw [if_neg c_19] at hf
              refine lv_iload_n hx hb dX4_useCoin_164 rfl (lv_at hl 3 rfl) ?_
              refine lv_iconst (v := 3) hx hb dX4_useCoin_165 (by decide) ?_
              refine lv_icmp_ne (tgt := 198) hx hb dX4_useCoin_166 (by decide) (fun c_20 => ?_) (fun c_20 => ?_)
              · skip
                rw [if_neg c_20] at hf
                refine lv_iload_n hx hb dX4_useCoin_198 rfl (lv_at hl 3 rfl) ?_
                refine lv_iconst (v := 4) hx hb dX4_useCoin_199 (by decide) ?_
                refine lv_icmp_ne (tgt := 211) hx hb dX4_useCoin_200 (by decide) (fun c_21 => ?_) (fun c_21 => ?_)
                · skip
                  rw [if_neg c_21] at hf
                  refine lv_aload_n hx hb dX4_useCoin_211 rfl (lv_at hl 2 rfl) ?_
                  obtain ⟨z_22, r_23, hfc, hf⟩ := cal_some hf
                  have hFc := de_free hD hS hA
                  refine va_calli (va_runV (As := []) (rest := []) ⟨hx, hb, hml, hown, hts⟩ (de_X4_pop l dC dI cy a sh n H_14.size F z_12 h0 hfc) (cwV 0 hts gX4_useCoin_X4_pop rfl rfl rfl (by decide +kernel) ⟨Nat.le_of_ble_eq_true rfl, Nat.le_of_ble_eq_true rfl⟩) ⟨fun a U g mk q => by obtain ⟨q0, q1, qP, qK, qD, qN⟩ := q; exact ⟨q0, q1, qP, va_K.moved (u := U) (U := U.calling g mk a) (Vm.Alike.refl U.vm) qK, qD, qN.same rfl⟩, va_recv hK hP (ci := 4) (q0 := h0) rfl (Wd_ob kg_6 sg_6 (by decide)), fun U hU hW => ⟨rfl, by rw [hU], by rw [hU]; exact hP, va_K.moved hW.alike hK, hD.weaken (fun _ _ _ _ => trivial), hN.warm hW⟩⟩ rfl rfl hl.1 rfl (lv_room (Nat.le_of_ble_eq_true rfl)) dX4_useCoin_212 ⟨Nat.le_of_ble_eq_true rfl, Nat.le_of_ble_eq_true rfl⟩) hS (fun q _ h => hFc q h) hFc (fun rr u t H_24 locs ht hvm hw hB hz1 hk1 hS2 => ?_)
                  rw [hw]
                  clear hw
                  obtain ⟨hP1, -, hD1⟩ := hB
                  rw [ht] at hP1
                  replace hD := hD1.weaken (fun _ _ _ h => hFc _ h)
                  replace hP := hP1
                  replace hS := hS2
                  clear hP1 hD1 hS2 hFc hfc hz1 hk1 hvm ht
                  refine lv_pop hx hb dX4_useCoin_215 rfl ?_
                  refine lv_aload_n hx hb dX4_useCoin_216 rfl (lv_at hl 2 rfl) ?_
                  refine lv_iconst (v := 3) hx hb dX4_useCoin_217 (by decide) ?_
                  refine lv_lconst (v := 0) hx hb dX4_useCoin_218 (by decide) ?_
                  refine lv_aload_n hx hb dX4_useCoin_219 rfl (lv_at hl 2 rfl) ?_
                  obtain ⟨k_25, ek_25, hf⟩ := lnk_some hf
                  refine va_get (D := (dC, dI)) (ci := 4) (v := .ref (a k_25)) (C := RX4) (T := TX4) (N := 19) hx hb hts iwd_X4_useCoin_X4 hown hK hP h0 (Wd_ob kg_6 sg_6 (by decide)) rfl 2 (by decide) (hts _ md_X4_useCoin_1) (fun _ h9 => h9) (fl_q rfl ek_25) dX4_useCoin_220 ?_
                  obtain ⟨g_26, hf⟩ := grd_some hf
                  obtain ⟨kg_26, sg_26⟩ := okO_at g_26
                  obtain ⟨k_27, ek_27, hf⟩ := lnk_some hf
                  refine va_get (D := (dC, dI)) (ci := 2) (v := .ref (a k_27)) (C := RX2) (T := TX2) (N := 11) hx hb hts iwd_X4_useCoin_X2 hown hK hP k_25 (Wd_ob kg_26 sg_26 (by decide)) rfl 9 (by decide) (hts _ md_X4_useCoin_6) (fun _ h9 => h9) (fl_q rfl ek_27) dX4_useCoin_223 ?_
                  refine lv_iload_n hx hb dX4_useCoin_226 rfl (lv_at hl 1 rfl) ?_
                  obtain ⟨g_28, hf⟩ := grd_some hf
                  obtain ⟨kg_28, sg_28, ig_28⟩ := okA_at g_28
                  refine va_lald hx hb hK hP k_27 2 (Wd_al kg_28 sg_28) rfl ig_28 dX4_useCoin_227 ?_
                  obtain ⟨z_29, _u, hfc, hf⟩ := cal_some hf
                  have hFc := de_free hD hS hA
                  refine va_callv (va_runV (As := [.int 3, .long 0, .long (z_22.2.1 k_27 p_1.toNatClampNeg)]) (rest := []) ⟨hx, hb, hml, hown, hts⟩ (de_X4_pushNumber l dC dI cy a sh n H_24.size F z_22 h0 3 0 (z_22.2.1 k_27 p_1.toNatClampNeg) hfc) (cwV 3 hts gX4_useCoin_X4_pushNumber rfl rfl rfl (by decide +kernel) ⟨Nat.le_of_ble_eq_true rfl, Nat.le_of_ble_eq_true rfl⟩) ⟨fun a U g mk q => by obtain ⟨q0, q1, qP, qK, qD, qN⟩ := q; exact ⟨q0, q1, qP, va_K.moved (u := U) (U := U.calling g mk a) (Vm.Alike.refl U.vm) qK, qD, qN.same rfl⟩, va_recv hK hP (ci := 4) (q0 := h0) rfl (Wd_ob kg_6 sg_6 (by decide)), fun U hU hW => ⟨rfl, by rw [hU], by rw [hU]; exact hP, va_K.moved hW.alike hK, hD.weaken (fun _ _ _ _ => trivial), hN.warm hW⟩⟩ rfl rfl hl.1 rfl (lv_room (Nat.le_of_ble_eq_true rfl)) dX4_useCoin_228 ⟨Nat.le_of_ble_eq_true rfl, Nat.le_of_ble_eq_true rfl⟩) hS (fun q _ h => hFc q h) hFc (fun u t H_30 locs ht hvm hw hB hz1 hk1 hS2 => ?_)
                  obtain ⟨hP1, -, hD1⟩ := hB
                  rw [ht] at hP1
                  replace hD := hD1.weaken (fun _ _ _ h => hFc _ h)
                  replace hP := hP1
                  replace hS := hS2
                  clear hP1 hD1 hS2 hFc hfc hz1 hk1 hvm ht
                  obtain ⟨h8, h9⟩ := ret_some hf
                  rw [h8]
                  exact W.vret hx hb hr (fun t ht hW => ⟨⟨(), rfl, trivial, by rw [ht]; exact hP, va_K.moved hW.alike hK, hD⟩, hS.F ht⟩) hS.2.2 dX4_useCoin_231
                · skip
                  rw [if_pos c_21] at hf
                  refine lv_aload_n hx hb dX4_useCoin_203 rfl (lv_at hl 2 rfl) ?_
                  refine lv_lload_n hx hb dX4_useCoin_204 rfl (lv_at hl 0 rfl) ?_
                  obtain ⟨z_31, _u, hfc, hf⟩ := cal_some hf
                  have hFc := de_free hD hS hA
                  refine va_callv (va_runV (As := [.long v_16]) (rest := []) ⟨hx, hb, hml, hown, hts⟩ (de_X4_split l dC dI cy a sh n H_14.size F z_12 h0 v_16 hfc) (cwV 1 hts gX4_useCoin_X4_split rfl rfl rfl (by decide +kernel) ⟨Nat.le_of_ble_eq_true rfl, Nat.le_of_ble_eq_true rfl⟩) ⟨fun a U g mk q => by obtain ⟨q0, q1, qP, qK, qD, qN⟩ := q; exact ⟨q0, q1, qP, va_K.moved (u := U) (U := U.calling g mk a) (Vm.Alike.refl U.vm) qK, qD, qN.same rfl⟩, va_recv hK hP (ci := 4) (q0 := h0) rfl (Wd_ob kg_6 sg_6 (by decide)), fun U hU hW => ⟨rfl, by rw [hU], by rw [hU]; exact hP, va_K.moved hW.alike hK, hD.weaken (fun _ _ _ _ => trivial), hN.warm hW⟩⟩ rfl rfl hl.1 rfl (lv_room (Nat.le_of_ble_eq_true rfl)) dX4_useCoin_205 ⟨Nat.le_of_ble_eq_true rfl, Nat.le_of_ble_eq_true rfl⟩) hS (fun q _ h => hFc q h) hFc (fun u t H_32 locs ht hvm hw hB hz1 hk1 hS2 => ?_)
                  obtain ⟨hP1, -, hD1⟩ := hB
                  rw [ht] at hP1
                  replace hD := hD1.weaken (fun _ _ _ h => hFc _ h)
                  replace hP := hP1
                  replace hS := hS2
                  clear hP1 hD1 hS2 hFc hfc hz1 hk1 hvm ht
                  refine lv_goto (tgt := 231) hx hb dX4_useCoin_208 (by decide) ?_
                  obtain ⟨h8, h9⟩ := ret_some hf
                  rw [h8]
                  exact W.vret hx hb hr (fun t ht hW => ⟨⟨(), rfl, trivial, by rw [ht]; exact hP, va_K.moved hW.alike hK, hD⟩, hS.F ht⟩) hS.2.2 dX4_useCoin_231
              · skip
                rw [if_pos c_20] at hf
                refine lv_aload_n hx hb dX4_useCoin_169 rfl (lv_at hl 2 rfl) ?_
                obtain ⟨z_33, r_34, hfc, hf⟩ := cal_some hf
                have hFc := de_free hD hS hA
                refine va_calli (va_runV (As := []) (rest := []) ⟨hx, hb, hml, hown, hts⟩ (de_X4_pop l dC dI cy a sh n H_14.size F z_12 h0 hfc) (cwV 0 hts gX4_useCoin_X4_pop rfl rfl rfl (by decide +kernel) ⟨Nat.le_of_ble_eq_true rfl, Nat.le_of_ble_eq_true rfl⟩) ⟨fun a U g mk q => by obtain ⟨q0, q1, qP, qK, qD, qN⟩ := q; exact ⟨q0, q1, qP, va_K.moved (u := U) (U := U.calling g mk a) (Vm.Alike.refl U.vm) qK, qD, qN.same rfl⟩, va_recv hK hP (ci := 4) (q0 := h0) rfl (Wd_ob kg_6 sg_6 (by decide)), fun U hU hW => ⟨rfl, by rw [hU], by rw [hU]; exact hP, va_K.moved hW.alike hK, hD.weaken (fun _ _ _ _ => trivial), hN.warm hW⟩⟩ rfl rfl hl.1 rfl (lv_room (Nat.le_of_ble_eq_true rfl)) dX4_useCoin_170 ⟨Nat.le_of_ble_eq_true rfl, Nat.le_of_ble_eq_true rfl⟩) hS (fun q _ h => hFc q h) hFc (fun rr u t H_35 locs ht hvm hw hB hz1 hk1 hS2 => ?_)
                rw [hw]
                clear hw
                obtain ⟨hP1, -, hD1⟩ := hB
                rw [ht] at hP1
                replace hD := hD1.weaken (fun _ _ _ h => hFc _ h)
                replace hP := hP1
                replace hS := hS2
                clear hP1 hD1 hS2 hFc hfc hz1 hk1 hvm ht
                refine lv_pop hx hb dX4_useCoin_173 rfl ?_
                refine lv_aload_n hx hb dX4_useCoin_174 rfl (lv_at hl 2 rfl) ?_
                refine lv_bipush (v := 10) hx hb dX4_useCoin_175 (by decide) ?_
                refine lv_lconst (v := 0) hx hb dX4_useCoin_177 (by decide) ?_
                refine lv_aload_n hx hb dX4_useCoin_178 rfl (lv_at hl 2 rfl) ?_
                obtain ⟨k_36, ek_36, hf⟩ := lnk_some hf
                refine va_get (D := (dC, dI)) (ci := 4) (v := .ref (a k_36)) (C := RX4) (T := TX4) (N := 19) hx hb hts iwd_X4_useCoin_X4 hown hK hP h0 (Wd_ob kg_6 sg_6 (by decide)) rfl 1 (by decide) (hts _ md_X4_useCoin_2) (fun _ h9 => h9) (fl_q rfl ek_36) dX4_useCoin_179 ?_
                obtain ⟨g_37, hf⟩ := grd_some hf
                obtain ⟨kg_37, sg_37⟩ := okO_at g_37
                obtain ⟨k_38, ek_38, hf⟩ := lnk_some hf
                refine va_get (D := (dC, dI)) (ci := 1) (v := .ref (a k_38)) (C := RX1) (T := TX1) (N := 7) hx hb hts iwd_X4_useCoin_X1 hown hK hP k_36 (Wd_ob kg_37 sg_37 (by decide)) rfl 1 (by decide) (hts _ md_X4_useCoin_3) (fun _ h9 => h9) (fl_q rfl ek_38) dX4_useCoin_182 ?_
                refine lv_aload_n hx hb dX4_useCoin_185 rfl (lv_at hl 2 rfl) ?_
                obtain ⟨z_39, r_40, hfc, hf⟩ := cal_some hf
                have hFc := de_free hD hS hA
                refine va_calli (va_runV (As := []) (rest := [.ref (a k_38), .long 0, .int 10, .ref (a h0)]) ⟨hx, hb, hml, hown, hts⟩ (de_X4_pop l dC dI cy a sh n H_35.size F z_33 h0 hfc) (cwV 0 hts gX4_useCoin_X4_pop rfl rfl rfl (by decide +kernel) ⟨Nat.le_of_ble_eq_true rfl, Nat.le_of_ble_eq_true rfl⟩) ⟨fun a U g mk q => by obtain ⟨q0, q1, qP, qK, qD, qN⟩ := q; exact ⟨q0, q1, qP, va_K.moved (u := U) (U := U.calling g mk a) (Vm.Alike.refl U.vm) qK, qD, qN.same rfl⟩, va_recv hK hP (ci := 4) (q0 := h0) rfl (Wd_ob kg_6 sg_6 (by decide)), fun U hU hW => ⟨rfl, by rw [hU], by rw [hU]; exact hP, va_K.moved hW.alike hK, hD.weaken (fun _ _ _ _ => trivial), hN.warm hW⟩⟩ rfl rfl hl.1 rfl (lv_room (Nat.le_of_ble_eq_true rfl)) dX4_useCoin_186 ⟨Nat.le_of_ble_eq_true rfl, Nat.le_of_ble_eq_true rfl⟩) hS (fun q _ h => hFc q h) hFc (fun rr u t H_41 locs ht hvm hw hB hz1 hk1 hS2 => ?_)
                rw [hw]
                clear hw
                obtain ⟨hP1, -, hD1⟩ := hB
                rw [ht] at hP1
                replace hD := hD1.weaken (fun _ _ _ h => hFc _ h)
                replace hP := hP1
                replace hS := hS2
                clear hP1 hD1 hS2 hFc hfc hz1 hk1 hvm ht
                obtain ⟨g_42, hf⟩ := grd_some hf
                obtain ⟨kg_42, sg_42, ig_42⟩ := okA_at g_42
                refine va_lald hx hb hK hP k_38 2 (Wd_al kg_42 sg_42) rfl ig_42 dX4_useCoin_189 ?_
                refine lv_lload_n hx hb dX4_useCoin_190 rfl (lv_at hl 0 rfl) ?_
                refine lv_ladd hx hb dX4_useCoin_191 ?_
                obtain ⟨z_43, _u, hfc, hf⟩ := cal_some hf
                have hFc := de_free hD hS hA
                refine va_callv (va_runV (As := [.int 10, .long 0, .long ((z_39.2.1 k_38 r_40.toNatClampNeg) + v_16)]) (rest := []) ⟨hx, hb, hml, hown, hts⟩ (de_X4_pushNumber l dC dI cy a sh n H_41.size F z_39 h0 10 0 ((z_39.2.1 k_38 r_40.toNatClampNeg) + v_16) hfc) (cwV 3 hts gX4_useCoin_X4_pushNumber rfl rfl rfl (by decide +kernel) ⟨Nat.le_of_ble_eq_true rfl, Nat.le_of_ble_eq_true rfl⟩) ⟨fun a U g mk q => by obtain ⟨q0, q1, qP, qK, qD, qN⟩ := q; exact ⟨q0, q1, qP, va_K.moved (u := U) (U := U.calling g mk a) (Vm.Alike.refl U.vm) qK, qD, qN.same rfl⟩, va_recv hK hP (ci := 4) (q0 := h0) rfl (Wd_ob kg_6 sg_6 (by decide)), fun U hU hW => ⟨rfl, by rw [hU], by rw [hU]; exact hP, va_K.moved hW.alike hK, hD.weaken (fun _ _ _ _ => trivial), hN.warm hW⟩⟩ rfl rfl hl.1 rfl (lv_room (Nat.le_of_ble_eq_true rfl)) dX4_useCoin_192 ⟨Nat.le_of_ble_eq_true rfl, Nat.le_of_ble_eq_true rfl⟩) hS (fun q _ h => hFc q h) hFc (fun u t H_44 locs ht hvm hw hB hz1 hk1 hS2 => ?_)
                obtain ⟨hP1, -, hD1⟩ := hB
                rw [ht] at hP1
                replace hD := hD1.weaken (fun _ _ _ h => hFc _ h)
                replace hP := hP1
                replace hS := hS2
                clear hP1 hD1 hS2 hFc hfc hz1 hk1 hvm ht
                refine lv_goto (tgt := 231) hx hb dX4_useCoin_195 (by decide) ?_
                obtain ⟨h8, h9⟩ := ret_some hf
                rw [h8]
                exact W.vret hx hb hr (fun t ht hW => ⟨⟨(), rfl, trivial, by rw [ht]; exact hP, va_K.moved hW.alike hK, hD⟩, hS.F ht⟩) hS.2.2 dX4_useCoin_231
            · skip
              rw [if_pos c_19] at hf
              refine lv_aload_n hx hb dX4_useCoin_139 rfl (lv_at hl 2 rfl) ?_
              refine lv_iconst (v := 3) hx hb dX4_useCoin_140 (by decide) ?_
              refine lv_lconst (v := 0) hx hb dX4_useCoin_141 (by decide) ?_
              refine lv_aload_n hx hb dX4_useCoin_142 rfl (lv_at hl 2 rfl) ?_
              obtain ⟨k_45, ek_45, hf⟩ := lnk_some hf
              refine va_get (D := (dC, dI)) (ci := 4) (v := .ref (a k_45)) (C := RX4) (T := TX4) (N := 19) hx hb hts iwd_X4_useCoin_X4 hown hK hP h0 (Wd_ob kg_6 sg_6 (by decide)) rfl 1 (by decide) (hts _ md_X4_useCoin_2) (fun _ h9 => h9) (fl_q rfl ek_45) dX4_useCoin_143 ?_
              obtain ⟨g_46, hf⟩ := grd_some hf
              obtain ⟨kg_46, sg_46⟩ := okO_at g_46
              obtain ⟨k_47, ek_47, hf⟩ := lnk_some hf
              refine va_get (D := (dC, dI)) (ci := 1) (v := .ref (a k_47)) (C := RX1) (T := TX1) (N := 7) hx hb hts iwd_X4_useCoin_X1 hown hK hP k_45 (Wd_ob kg_46 sg_46 (by decide)) rfl 1 (by decide) (hts _ md_X4_useCoin_3) (fun _ h9 => h9) (fl_q rfl ek_47) dX4_useCoin_146 ?_
              refine lv_aload_n hx hb dX4_useCoin_149 rfl (lv_at hl 2 rfl) ?_
              refine lv_aload_n hx hb dX4_useCoin_150 rfl (lv_at hl 2 rfl) ?_
              obtain ⟨z_48, r_49, hfc, hf⟩ := cal_some hf
              have hFc := de_free hD hS hA
              refine va_calli (va_runV (As := []) (rest := [.ref (a h0), .ref (a k_47), .long 0, .int 3, .ref (a h0)]) ⟨hx, hb, hml, hown, hts⟩ (de_X4_pop l dC dI cy a sh n H_14.size F z_12 h0 hfc) (cwV 0 hts gX4_useCoin_X4_pop rfl rfl rfl (by decide +kernel) ⟨Nat.le_of_ble_eq_true rfl, Nat.le_of_ble_eq_true rfl⟩) ⟨fun a U g mk q => by obtain ⟨q0, q1, qP, qK, qD, qN⟩ := q; exact ⟨q0, q1, qP, va_K.moved (u := U) (U := U.calling g mk a) (Vm.Alike.refl U.vm) qK, qD, qN.same rfl⟩, va_recv hK hP (ci := 4) (q0 := h0) rfl (Wd_ob kg_6 sg_6 (by decide)), fun U hU hW => ⟨rfl, by rw [hU], by rw [hU]; exact hP, va_K.moved hW.alike hK, hD.weaken (fun _ _ _ _ => trivial), hN.warm hW⟩⟩ rfl rfl hl.1 rfl (lv_room (Nat.le_of_ble_eq_true rfl)) dX4_useCoin_151 ⟨Nat.le_of_ble_eq_true rfl, Nat.le_of_ble_eq_true rfl⟩) hS (fun q _ h => hFc q h) hFc (fun rr u t H_50 locs ht hvm hw hB hz1 hk1 hS2 => ?_)
              rw [hw]
              clear hw
              obtain ⟨hP1, -, hD1⟩ := hB
              rw [ht] at hP1
              replace hD := hD1.weaken (fun _ _ _ h => hFc _ h)
              replace hP := hP1
              replace hS := hS2
              clear hP1 hD1 hS2 hFc hfc hz1 hk1 hvm ht
              obtain ⟨z_51, r_52, hfc, hf⟩ := cal_some hf
              have hFc := de_free hD hS hA
              refine va_calli (va_runV (As := [.int r_49]) (rest := [.ref (a k_47), .long 0, .int 3, .ref (a h0)]) ⟨hx, hb, hml, hown, hts⟩ (de_X4_target l dC dI cy a sh n H_50.size F z_48 h0 r_49 hfc) (cwV 1 hts gX4_useCoin_X4_target rfl rfl rfl (by decide +kernel) ⟨Nat.le_of_ble_eq_true rfl, Nat.le_of_ble_eq_true rfl⟩) ⟨fun a U g mk q => by obtain ⟨q0, q1, qP, qK, qD, qN⟩ := q; exact ⟨q0, q1, qP, va_K.moved (u := U) (U := U.calling g mk a) (Vm.Alike.refl U.vm) qK, qD, qN.same rfl⟩, va_recv hK hP (ci := 4) (q0 := h0) rfl (Wd_ob kg_6 sg_6 (by decide)), fun U hU hW => ⟨rfl, by rw [hU], by rw [hU]; exact hP, va_K.moved hW.alike hK, hD.weaken (fun _ _ _ _ => trivial), hN.warm hW⟩⟩ rfl rfl hl.1 rfl (lv_room (Nat.le_of_ble_eq_true rfl)) dX4_useCoin_154 ⟨Nat.le_of_ble_eq_true rfl, Nat.le_of_ble_eq_true rfl⟩) hS (fun q _ h => hFc q h) hFc (fun rr u t H_53 locs ht hvm hw hB hz1 hk1 hS2 => ?_)
              rw [hw]
              clear hw
              obtain ⟨hP1, -, hD1⟩ := hB
              rw [ht] at hP1
              replace hD := hD1.weaken (fun _ _ _ h => hFc _ h)
              replace hP := hP1
              replace hS := hS2
              clear hP1 hD1 hS2 hFc hfc hz1 hk1 hvm ht
              obtain ⟨g_54, hf⟩ := grd_some hf
              obtain ⟨kg_54, sg_54, ig_54⟩ := okA_at g_54
              refine va_lald hx hb hK hP k_47 2 (Wd_al kg_54 sg_54) rfl ig_54 dX4_useCoin_157 ?_
              obtain ⟨z_55, _u, hfc, hf⟩ := cal_some hf
              have hFc := de_free hD hS hA
              refine va_callv (va_runV (As := [.int 3, .long 0, .long (z_51.2.1 k_47 r_52.toNatClampNeg)]) (rest := []) ⟨hx, hb, hml, hown, hts⟩ (de_X4_pushNumber l dC dI cy a sh n H_53.size F z_51 h0 3 0 (z_51.2.1 k_47 r_52.toNatClampNeg) hfc) (cwV 3 hts gX4_useCoin_X4_pushNumber rfl rfl rfl (by decide +kernel) ⟨Nat.le_of_ble_eq_true rfl, Nat.le_of_ble_eq_true rfl⟩) ⟨fun a U g mk q => by obtain ⟨q0, q1, qP, qK, qD, qN⟩ := q; exact ⟨q0, q1, qP, va_K.moved (u := U) (U := U.calling g mk a) (Vm.Alike.refl U.vm) qK, qD, qN.same rfl⟩, va_recv hK hP (ci := 4) (q0 := h0) rfl (Wd_ob kg_6 sg_6 (by decide)), fun U hU hW => ⟨rfl, by rw [hU], by rw [hU]; exact hP, va_K.moved hW.alike hK, hD.weaken (fun _ _ _ _ => trivial), hN.warm hW⟩⟩ rfl rfl hl.1 rfl (lv_room (Nat.le_of_ble_eq_true rfl)) dX4_useCoin_158 ⟨Nat.le_of_ble_eq_true rfl, Nat.le_of_ble_eq_true rfl⟩) hS (fun q _ h => hFc q h) hFc (fun u t H_56 locs ht hvm hw hB hz1 hk1 hS2 => ?_)
              obtain ⟨hP1, -, hD1⟩ := hB
              rw [ht] at hP1
              replace hD := hD1.weaken (fun _ _ _ h => hFc _ h)
              replace hP := hP1
              replace hS := hS2
              clear hP1 hD1 hS2 hFc hfc hz1 hk1 hvm ht
              refine lv_goto (tgt := 231) hx hb dX4_useCoin_161 (by decide) ?_
              obtain ⟨h8, h9⟩ := ret_some hf
              rw [h8]
              exact W.vret hx hb hr (fun t ht hW => ⟨⟨(), rfl, trivial, by rw [ht]; exact hP, va_K.moved hW.alike hK, hD⟩, hS.F ht⟩) hS.2.2 dX4_useCoin_231
          · skip
            rw [if_pos c_18] at hf
            refine lv_aload_n hx hb dX4_useCoin_98 rfl (lv_at hl 2 rfl) ?_
            obtain ⟨z_57, r_58, hfc, hf⟩ := cal_some hf
            have hFc := de_free hD hS hA
            refine va_calli (va_runV (As := []) (rest := []) ⟨hx, hb, hml, hown, hts⟩ (de_X4_pop l dC dI cy a sh n H_14.size F z_12 h0 hfc) (cwV 0 hts gX4_useCoin_X4_pop rfl rfl rfl (by decide +kernel) ⟨Nat.le_of_ble_eq_true rfl, Nat.le_of_ble_eq_true rfl⟩) ⟨fun a U g mk q => by obtain ⟨q0, q1, qP, qK, qD, qN⟩ := q; exact ⟨q0, q1, qP, va_K.moved (u := U) (U := U.calling g mk a) (Vm.Alike.refl U.vm) qK, qD, qN.same rfl⟩, va_recv hK hP (ci := 4) (q0 := h0) rfl (Wd_ob kg_6 sg_6 (by decide)), fun U hU hW => ⟨rfl, by rw [hU], by rw [hU]; exact hP, va_K.moved hW.alike hK, hD.weaken (fun _ _ _ _ => trivial), hN.warm hW⟩⟩ rfl rfl hl.1 rfl (lv_room (Nat.le_of_ble_eq_true rfl)) dX4_useCoin_99 ⟨Nat.le_of_ble_eq_true rfl, Nat.le_of_ble_eq_true rfl⟩) hS (fun q _ h => hFc q h) hFc (fun rr u t H_59 locs ht hvm hw hB hz1 hk1 hS2 => ?_)
            rw [hw]
            clear hw
            obtain ⟨hP1, -, hD1⟩ := hB
            rw [ht] at hP1
            replace hD := hD1.weaken (fun _ _ _ h => hFc _ h)
            replace hP := hP1
            replace hS := hS2
            clear hP1 hD1 hS2 hFc hfc hz1 hk1 hvm ht
            refine lv_pop hx hb dX4_useCoin_102 rfl ?_
            refine lv_aload_n hx hb dX4_useCoin_103 rfl (lv_at hl 2 rfl) ?_
            obtain ⟨z_60, r_61, hfc, hf⟩ := cal_some hf
            have hFc := de_free hD hS hA
            refine va_calli (va_runV (As := []) (rest := []) ⟨hx, hb, hml, hown, hts⟩ (de_X4_pop l dC dI cy a sh n H_59.size F z_57 h0 hfc) (cwV 0 hts gX4_useCoin_X4_pop rfl rfl rfl (by decide +kernel) ⟨Nat.le_of_ble_eq_true rfl, Nat.le_of_ble_eq_true rfl⟩) ⟨fun a U g mk q => by obtain ⟨q0, q1, qP, qK, qD, qN⟩ := q; exact ⟨q0, q1, qP, va_K.moved (u := U) (U := U.calling g mk a) (Vm.Alike.refl U.vm) qK, qD, qN.same rfl⟩, va_recv hK hP (ci := 4) (q0 := h0) rfl (Wd_ob kg_6 sg_6 (by decide)), fun U hU hW => ⟨rfl, by rw [hU], by rw [hU]; exact hP, va_K.moved hW.alike hK, hD.weaken (fun _ _ _ _ => trivial), hN.warm hW⟩⟩ rfl rfl hl.1 rfl (lv_room (Nat.le_of_ble_eq_true rfl)) dX4_useCoin_104 ⟨Nat.le_of_ble_eq_true rfl, Nat.le_of_ble_eq_true rfl⟩) hS (fun q _ h => hFc q h) hFc (fun rr u t H_62 locs ht hvm hw hB hz1 hk1 hS2 => ?_)
            rw [hw]
            clear hw
            obtain ⟨hP1, -, hD1⟩ := hB
            rw [ht] at hP1
            replace hD := hD1.weaken (fun _ _ _ h => hFc _ h)
            replace hP := hP1
            replace hS := hS2
            clear hP1 hD1 hS2 hFc hfc hz1 hk1 hvm ht
            refine lv_pop hx hb dX4_useCoin_107 rfl ?_
            refine lv_aload_n hx hb dX4_useCoin_108 rfl (lv_at hl 2 rfl) ?_
            obtain ⟨k_63, ek_63, hf⟩ := lnk_some hf
            refine va_get (D := (dC, dI)) (ci := 4) (v := .ref (a k_63)) (C := RX4) (T := TX4) (N := 19) hx hb hts iwd_X4_useCoin_X4 hown hK hP h0 (Wd_ob kg_6 sg_6 (by decide)) rfl 2 (by decide) (hts _ md_X4_useCoin_1) (fun _ h9 => h9) (fl_q rfl ek_63) dX4_useCoin_109 ?_
            obtain ⟨g_64, hf⟩ := grd_some hf
            obtain ⟨kg_64, sg_64⟩ := okO_at g_64
            obtain ⟨k_65, ek_65, hf⟩ := lnk_some hf
            refine va_get (D := (dC, dI)) (ci := 2) (v := .ref (a k_65)) (C := RX2) (T := TX2) (N := 11) hx hb hts iwd_X4_useCoin_X2 hown hK hP k_63 (Wd_ob kg_64 sg_64 (by decide)) rfl 8 (by decide) (hts _ md_X4_useCoin_5) (fun _ h9 => h9) (fl_q rfl ek_65) dX4_useCoin_112 ?_
            refine lv_iload_n hx hb dX4_useCoin_115 rfl (lv_at hl 1 rfl) ?_
            refine lv_iconst (v := 1) hx hb dX4_useCoin_116 (by decide) ?_
            obtain ⟨g_66, hf⟩ := grd_some hf
            obtain ⟨kg_66, sg_66, ig_66⟩ := okA_at g_66
            refine va_zast hx hb hK hP hD hS k_65 3 (Wd_az kg_66 sg_66) rfl ig_66 dX4_useCoin_117 (fun H_67 locs hP2 hD2 hS2 => ?_)
            rw [Wd_tz sg_66] at hP2 hD2
            obtain ⟨z_68, ez_68⟩ : ∃ w, w = si z_60 k_65 p_1.toNatClampNeg (vp_nar .boolean 1) := ⟨_, rfl⟩
            rw [← ez_68] at hP2 hD2
            replace hf := lt_at ez_68 hf
            clear ez_68
            replace hP := hP2
            replace hD := hD2
            replace hS := hS2
            clear hP2 hD2 hS2
            refine lv_aload_n hx hb dX4_useCoin_118 rfl (lv_at hl 2 rfl) ?_
            obtain ⟨k_69, ek_69, hf⟩ := lnk_some hf
            refine va_get (D := (dC, dI)) (ci := 4) (v := .ref (a k_69)) (C := RX4) (T := TX4) (N := 19) hx hb hts iwd_X4_useCoin_X4 hown hK hP h0 (Wd_ob kg_6 sg_6 (by decide)) rfl 2 (by decide) (hts _ md_X4_useCoin_1) (fun _ h9 => h9) (fl_q rfl ek_69) dX4_useCoin_119 ?_
            obtain ⟨g_70, hf⟩ := grd_some hf
            obtain ⟨kg_70, sg_70⟩ := okO_at g_70
            obtain ⟨k_71, ek_71, hf⟩ := lnk_some hf
            refine va_get (D := (dC, dI)) (ci := 2) (v := .ref (a k_71)) (C := RX2) (T := TX2) (N := 11) hx hb hts iwd_X4_useCoin_X2 hown hK hP k_69 (Wd_ob kg_70 sg_70 (by decide)) rfl 9 (by decide) (hts _ md_X4_useCoin_6) (fun _ h9 => h9) (fl_q rfl ek_71) dX4_useCoin_122 ?_
            refine lv_iload_n hx hb dX4_useCoin_125 rfl (lv_at hl 1 rfl) ?_
            refine lv_dup2_11 hx hb dX4_useCoin_126 rfl rfl ?_
            obtain ⟨g_72, hf⟩ := grd_some hf
            obtain ⟨kg_72, sg_72, ig_72⟩ := okA_at g_72
            refine va_lald hx hb hK hP k_71 2 (Wd_al kg_72 sg_72) rfl ig_72 dX4_useCoin_127 ?_
            refine lv_lload_n hx hb dX4_useCoin_128 rfl (lv_at hl 0 rfl) ?_
            refine lv_ladd hx hb dX4_useCoin_129 ?_
            obtain ⟨g_73, hf⟩ := grd_some hf
            obtain ⟨kg_73, sg_73, ig_73⟩ := okA_at g_73
            refine va_last hx hb hK hP hD hS k_71 2 (Wd_al kg_73 sg_73) rfl ig_73 dX4_useCoin_130 (fun H_74 locs hP2 hD2 hS2 => ?_)
            rw [Wd_tl sg_73] at hP2 hD2
            obtain ⟨z_75, ez_75⟩ : ∃ w, w = sl z_68 k_71 p_1.toNatClampNeg ((z_68.2.1 k_71 p_1.toNatClampNeg) + v_16) := ⟨_, rfl⟩
            rw [← ez_75] at hP2 hD2
            replace hf := lt_at ez_75 hf
            clear ez_75
            replace hP := hP2
            replace hD := hD2
            replace hS := hS2
            clear hP2 hD2 hS2
            refine lv_goto (tgt := 231) hx hb dX4_useCoin_131 (by decide) ?_
            obtain ⟨h8, h9⟩ := ret_some hf
            rw [h8]
            exact W.vret hx hb hr (fun t ht hW => ⟨⟨(), rfl, trivial, by rw [ht]; exact hP, va_K.moved hW.alike hK, hD⟩, hS.F ht⟩) hS.2.2 dX4_useCoin_231
        · skip
          rw [if_pos c_17] at hf
          refine lv_aload_n hx hb dX4_useCoin_85 rfl (lv_at hl 2 rfl) ?_
          refine lv_lload_n hx hb dX4_useCoin_86 rfl (lv_at hl 0 rfl) ?_
          obtain ⟨z_76, _u, hfc, hf⟩ := cal_some hf
          have hFc := de_free hD hS hA
          refine va_callv (va_runV (As := [.long v_16]) (rest := []) ⟨hx, hb, hml, hown, hts⟩ (de_X4_withdraw l dC dI cy a sh n H_14.size F z_12 h0 v_16 hfc) (cwV 1 hts gX4_useCoin_X4_withdraw rfl rfl rfl (by decide +kernel) ⟨Nat.le_of_ble_eq_true rfl, Nat.le_of_ble_eq_true rfl⟩) ⟨fun a U g mk q => by obtain ⟨q0, q1, qP, qK, qD, qN⟩ := q; exact ⟨q0, q1, qP, va_K.moved (u := U) (U := U.calling g mk a) (Vm.Alike.refl U.vm) qK, qD, qN.same rfl⟩, va_recv hK hP (ci := 4) (q0 := h0) rfl (Wd_ob kg_6 sg_6 (by decide)), fun U hU hW => ⟨rfl, by rw [hU], by rw [hU]; exact hP, va_K.moved hW.alike hK, hD.weaken (fun _ _ _ _ => trivial), hN.warm hW⟩⟩ rfl rfl hl.1 rfl (lv_room (Nat.le_of_ble_eq_true rfl)) dX4_useCoin_87 ⟨Nat.le_of_ble_eq_true rfl, Nat.le_of_ble_eq_true rfl⟩) hS (fun q _ h => hFc q h) hFc (fun u t H_77 locs ht hvm hw hB hz1 hk1 hS2 => ?_)
          obtain ⟨hP1, -, hD1⟩ := hB
          rw [ht] at hP1
          replace hD := hD1.weaken (fun _ _ _ h => hFc _ h)
          replace hP := hP1
          replace hS := hS2
          clear hP1 hD1 hS2 hFc hfc hz1 hk1 hvm ht
          refine lv_goto (tgt := 231) hx hb dX4_useCoin_90 (by decide) ?_
          obtain ⟨h8, h9⟩ := ret_some hf
          rw [h8]
          exact W.vret hx hb hr (fun t ht hW => ⟨⟨(), rfl, trivial, by rw [ht]; exact hP, va_K.moved hW.alike hK, hD⟩, hS.F ht⟩) hS.2.2 dX4_useCoin_231
      · skip
        rw [if_pos c_8] at hf
        obtain ⟨h8, h9⟩ := ret_some hf
        rw [h8]
        exact W.vret hx hb hr (fun t ht hW => ⟨⟨(), rfl, trivial, by rw [ht]; exact hP, va_K.moved hW.alike hK, hD⟩, hS.F ht⟩) hS.2.2 dX4_useCoin_66
    · skip
      rw [if_neg c_3] at hf
      refine lv_aload_n hx hb dX4_useCoin_49 rfl (lv_at hl 1 rfl) ?_
      refine lv_iconst (v := 2) hx hb dX4_useCoin_50 (by decide) ?_
      refine lv_ldc2 hx hb hown (hts _ md_X4_useCoin_4) dX4_useCoin_51 ?_
      obtain ⟨g_79, hf⟩ := grd_some hf
      obtain ⟨kg_79, sg_79⟩ := okO_at g_79
      obtain ⟨z_78, _u, hfc, hf⟩ := cal_some hf
      have hFc := de_free hD hS hA
      refine va_callv (va_runV (As := [.int 2, .long 4]) (rest := []) ⟨hx, hb, hml, hown, hts⟩ (de_X4_end l dC dI cy a sh n H.size F z_2 h0 2 4 hfc) (cwV 2 hts gX4_useCoin_X4_end rfl rfl rfl (by decide +kernel) ⟨Nat.le_of_ble_eq_true rfl, Nat.le_of_ble_eq_true rfl⟩) ⟨fun a U g mk q => by obtain ⟨q0, q1, qP, qK, qD, qN⟩ := q; exact ⟨q0, q1, qP, va_K.moved (u := U) (U := U.calling g mk a) (Vm.Alike.refl U.vm) qK, qD, qN.same rfl⟩, va_recv hK hP (ci := 4) (q0 := h0) rfl (Wd_ob kg_79 sg_79 (by decide)), fun U hU hW => ⟨rfl, by rw [hU], by rw [hU]; exact hP, va_K.moved hW.alike hK, hD.weaken (fun _ _ _ _ => trivial), hN.warm hW⟩⟩ rfl rfl hl.1 rfl (lv_room (Nat.le_of_ble_eq_true rfl)) dX4_useCoin_54 ⟨Nat.le_of_ble_eq_true rfl, Nat.le_of_ble_eq_true rfl⟩) hS (fun q _ h => hFc q h) hFc (fun u t H_80 locs ht hvm hw hB hz1 hk1 hS2 => ?_)
      obtain ⟨hP1, -, hD1⟩ := hB
      rw [ht] at hP1
      replace hD := hD1.weaken (fun _ _ _ h => hFc _ h)
      replace hP := hP1
      replace hS := hS2
      clear hP1 hD1 hS2 hFc hfc hz1 hk1 hvm ht
      obtain ⟨h8, h9⟩ := ret_some hf
      rw [h8]
      exact W.vret hx hb hr (fun t ht hW => ⟨⟨(), rfl, trivial, by rw [ht]; exact hP, va_K.moved hW.alike hK, hD⟩, hS.F ht⟩) hS.2.2 dX4_useCoin_57
  refine de_cut (h := 12) (fun (x : St) => []) (fun x ls H locs => lv_has ls 5 [(0, .ref (a h0)), (1, .int x0)] ∧ va_P (dC, dI) vwCl (Wd cy a sh n x) H ∧ va_D A (Wd cy a sh n x) ∧ va_S A s.heap H locs) (fun x => fn_X4_useCoin_B12 F sh n h0 x0 x) (z8, r8) ?_ (fun B12 => ?_)
  · intro x ls H locs hI hf
    obtain ⟨z_81, ez⟩ : ∃ w, w = x := ⟨_, rfl⟩
    subst ez
    obtain ⟨hl2, hP2, hD2, hS2⟩ := hI
    replace hl : lv_has ls 5 [(0, .ref (a h0)), (1, .int x0)] := hl2
    replace hP := hP2
    replace hD := hD2
    replace hS := hS2
    clear hl2 hP2 hD2 hS2
    replace hf := fn_X4_useCoin_B12_s hf
    refine W.eq (g2 := F0 m 12 ls []) rfl ?_
    refine lv_aload_n hx hb dX4_useCoin_12 rfl (lv_at hl 0 rfl) ?_
    obtain ⟨g_82, hf⟩ := grd_some hf
    obtain ⟨kg_82, sg_82⟩ := okO_at g_82
    obtain ⟨k_83, ek_83, hf⟩ := lnk_some hf
    refine va_get (D := (dC, dI)) (ci := 4) (v := .ref (a k_83)) (C := RX4) (T := TX4) (N := 19) hx hb hts iwd_X4_useCoin_X4 hown hK hP h0 (Wd_ob kg_82 sg_82 (by decide)) rfl 2 (by decide) (hts _ md_X4_useCoin_1) (fun _ h9 => h9) (fl_q rfl ek_83) dX4_useCoin_13 ?_
    refine lv_iconst (v := 1) hx hb dX4_useCoin_16 (by decide) ?_
    refine lv_aload_n hx hb dX4_useCoin_17 rfl (lv_at hl 0 rfl) ?_
    obtain ⟨k_84, ek_84, hf⟩ := lnk_some hf
    refine va_get (D := (dC, dI)) (ci := 4) (v := .ref (a k_84)) (C := RX4) (T := TX4) (N := 19) hx hb hts iwd_X4_useCoin_X4 hown hK hP h0 (Wd_ob kg_82 sg_82 (by decide)) rfl 1 (by decide) (hts _ md_X4_useCoin_2) (fun _ h9 => h9) (fl_q rfl ek_84) dX4_useCoin_18 ?_
    obtain ⟨g_85, hf⟩ := grd_some hf
    obtain ⟨kg_85, sg_85⟩ := okO_at g_85
    obtain ⟨k_86, ek_86, hf⟩ := lnk_some hf
    refine va_get (D := (dC, dI)) (ci := 1) (v := .ref (a k_86)) (C := RX1) (T := TX1) (N := 7) hx hb hts iwd_X4_useCoin_X1 hown hK hP k_84 (Wd_ob kg_85 sg_85 (by decide)) rfl 1 (by decide) (hts _ md_X4_useCoin_3) (fun _ h9 => h9) (fl_q rfl ek_86) dX4_useCoin_21 ?_
    refine lv_aload_n hx hb dX4_useCoin_24 rfl (lv_at hl 0 rfl) ?_
    refine lv_iload_n hx hb dX4_useCoin_25 rfl (lv_at hl 1 rfl) ?_
    refine lv_iconst (v := 1) hx hb dX4_useCoin_26 (by decide) ?_
    refine de_cut (h := 35) (fun (x : St × Int32) => [.int x.2, .ref (a h0), .ref (a k_86), .int 1, .ref (a k_83)]) (fun x ls H locs => lv_has ls 5 [(0, .ref (a h0)), (1, .int x0)] ∧ va_P (dC, dI) vwCl (Wd cy a sh n x.1) H ∧ va_D A (Wd cy a sh n x.1) ∧ va_S A s.heap H locs) (fun x => fn_X4_useCoin_B35 F sh n h0 k_86 k_83 x0 x.1 x.2) (z8, r8) ?_ (fun B35 => ?_)
    · intro x ls H locs hI hf
      obtain ⟨z_88, p_87⟩ := x
      obtain ⟨hl2, hP2, hD2, hS2⟩ := hI
      replace hl : lv_has ls 5 [(0, .ref (a h0)), (1, .int x0)] := hl2
      replace hP := hP2
      replace hD := hD2
      replace hS := hS2
      clear hl2 hP2 hD2 hS2
      replace hf := fn_X4_useCoin_B35_s hf
      refine W.eq (g2 := F0 m 35 ls [.int p_87, .ref (a h0), .ref (a k_86), .int 1, .ref (a k_83)]) rfl ?_
      obtain ⟨z_89, r_90, hfc, hf⟩ := cal_some hf
      have hFc := de_free hD hS hA
      refine va_calli (va_runV (As := [.int p_87]) (rest := [.ref (a k_86), .int 1, .ref (a k_83)]) ⟨hx, hb, hml, hown, hts⟩ (de_X4_peek l dC dI cy a sh n H.size F z_88 h0 p_87 hfc) (cwV 1 hts gX4_useCoin_X4_peek rfl rfl rfl (by decide +kernel) ⟨Nat.le_of_ble_eq_true rfl, Nat.le_of_ble_eq_true rfl⟩) ⟨fun a U g mk q => by obtain ⟨q0, q1, qP, qK, qD, qN⟩ := q; exact ⟨q0, q1, qP, va_K.moved (u := U) (U := U.calling g mk a) (Vm.Alike.refl U.vm) qK, qD, qN.same rfl⟩, va_recv hK hP (ci := 4) (q0 := h0) rfl (Wd_ob kg_82 sg_82 (by decide)), fun U hU hW => ⟨rfl, by rw [hU], by rw [hU]; exact hP, va_K.moved hW.alike hK, hD.weaken (fun _ _ _ _ => trivial), hN.warm hW⟩⟩ rfl rfl hl.1 rfl (lv_room (Nat.le_of_ble_eq_true rfl)) dX4_useCoin_35 ⟨Nat.le_of_ble_eq_true rfl, Nat.le_of_ble_eq_true rfl⟩) hS (fun q _ h => hFc q h) hFc (fun rr u t H_91 locs ht hvm hw hB hz1 hk1 hS2 => ?_)
      rw [hw]
      clear hw
      obtain ⟨hP1, -, hD1⟩ := hB
      rw [ht] at hP1
      replace hD := hD1.weaken (fun _ _ _ h => hFc _ h)
      replace hP := hP1
      replace hS := hS2
      clear hP1 hD1 hS2 hFc hfc hz1 hk1 hvm ht
      obtain ⟨g_92, hf⟩ := grd_some hf
      obtain ⟨kg_92, sg_92, ig_92⟩ := okA_at g_92
      refine va_lald hx hb hK hP k_86 2 (Wd_al kg_92 sg_92) rfl ig_92 dX4_useCoin_38 ?_
      refine lv_iconst (v := 0) hx hb dX4_useCoin_39 (by decide) ?_
      refine lv_iconst (v := 0) hx hb dX4_useCoin_40 (by decide) ?_
      obtain ⟨g_95, hf⟩ := grd_some hf
      obtain ⟨kg_95, sg_95⟩ := okO_at g_95
      obtain ⟨z_93, r_94, hfc, hf⟩ := cal_some hf
      have hFc := de_free hD hS hA
      refine va_calli (va_runV (As := [.int 1, .long (z_89.2.1 k_86 r_90.toNatClampNeg), .int 0, .int 0]) (rest := []) ⟨hx, hb, hml, hown, hts⟩ (de_X2_ask l dC dI cy a sh n H_91.size F z_89 k_83 1 (z_89.2.1 k_86 r_90.toNatClampNeg) 0 0 hfc) (cwV 4 hts gX4_useCoin_X2_ask rfl rfl rfl (by decide +kernel) ⟨Nat.le_of_ble_eq_true rfl, Nat.le_of_ble_eq_true rfl⟩) ⟨fun a U g mk q => by obtain ⟨q0, q1, qP, qK, qD, qN⟩ := q; exact ⟨q0, q1, qP, va_K.moved (u := U) (U := U.calling g mk a) (Vm.Alike.refl U.vm) qK, qD, qN.same rfl⟩, va_recv hK hP (ci := 2) (q0 := k_83) rfl (Wd_ob kg_95 sg_95 (by decide)), fun U hU hW => ⟨rfl, by rw [hU], by rw [hU]; exact hP, va_K.moved hW.alike hK, hD.weaken (fun _ _ _ _ => trivial), hN.warm hW⟩⟩ rfl rfl hl.1 rfl (lv_room (Nat.le_of_ble_eq_true rfl)) dX4_useCoin_41 ⟨Nat.le_of_ble_eq_true rfl, Nat.le_of_ble_eq_true rfl⟩) hS (fun q _ h => hFc q h) hFc (fun rr u t H_96 locs ht hvm hw hB hz1 hk1 hS2 => ?_)
      rw [hw]
      clear hw
      obtain ⟨hP1, -, hD1⟩ := hB
      rw [ht] at hP1
      replace hD := hD1.weaken (fun _ _ _ h => hFc _ h)
      replace hP := hP1
      replace hS := hS2
      clear hP1 hD1 hS2 hFc hfc hz1 hk1 hvm ht
      refine lv_istore_n (lv' := [(2, .int r_94), (0, .ref (a h0)), (1, .int x0)]) hx hb dX4_useCoin_44 rfl hl (by decide) rfl (fun ls hl2 => ?_)
      replace hl := hl2
      clear hl2
      exact B45 (z_93, r_94) ls H_96 locs ⟨lv_sub hl [0, 1, 2] rfl, hP, hD, hS⟩ hf
    refine lv_icmp_ne (tgt := 34) hx hb dX4_useCoin_27 (by decide) (fun c_97 => ?_) (fun c_97 => ?_)
    · skip
      rw [if_neg c_97] at hf
      refine lv_iconst (v := 0) hx hb dX4_useCoin_34 (by decide) ?_
      exact B35 (z_81, 0) ls H locs ⟨lv_sub hl [0, 1] rfl, hP, hD, hS⟩ hf
    · skip
      rw [if_pos c_97] at hf
      refine lv_iconst (v := 1) hx hb dX4_useCoin_30 (by decide) ?_
      refine lv_goto (tgt := 35) hx hb dX4_useCoin_31 (by decide) ?_
      exact B35 (z_81, 1) ls H locs ⟨lv_sub hl [0, 1] rfl, hP, hD, hS⟩ hf
  refine lv_icmp_eq (tgt := 12) hx hb dX4_useCoin_4 (by decide) (fun c_98 => ?_) (fun c_98 => ?_)
  · skip
    rw [if_pos c_98] at hf
    exact B12 (z) ls H locs ⟨lv_sub hl [1, 2] rfl, hP, hD, hS⟩ hf
  · skip
    rw [if_neg c_98] at hf
    refine lv_iload_n hx hb dX4_useCoin_7 rfl (lv_at hl 2 rfl) ?_
    refine lv_iconst (v := 5) hx hb dX4_useCoin_8 (by decide) ?_
    refine lv_icmp_ne (tgt := 45) hx hb dX4_useCoin_9 (by decide) (fun c_99 => ?_) (fun c_99 => ?_)
    · skip
      rw [if_neg c_99] at hf
      exact B45 (z, 0) ls H locs ⟨lv_sub hl [0, 1, 2] rfl, hP, hD, hS⟩ hf
    · skip
      rw [if_pos c_99] at hf
      exact B12 (z) ls H locs ⟨lv_sub hl [1, 2] rfl, hP, hD, hS⟩ hf

theorem md_X6_readFunctions_1 : (.fieldLink RX6 17 "ResourceLedger$Reader" "p" "LResourceLedger$Program;" : Cond) ∈ wsX6_readFunctions := List.mem_of_getElem? (i := 1) rfl
theorem iwd_X6_readFunctions_X6 : ∀ w ∈ wsX60, w ∈ wsX6_readFunctions := fun _ h => List.mem_cons_of_mem _ (List.mem_append_left _ (List.mem_append_right _ h))
theorem md_X6_readFunctions_2 : (.fieldLink RX6 120 "ResourceLedger$Program" "ownFunctions" "I" : Cond) ∈ wsX6_readFunctions := List.mem_of_getElem? (i := 2) rfl
theorem iwd_X6_readFunctions_X5 : ∀ w ∈ wsX50, w ∈ wsX6_readFunctions := fun _ h => List.mem_cons_of_mem _ (List.mem_append_right _ h)
theorem md_X6_readFunctions_3 : (.fieldLink RX6 21 "ResourceLedger$Reader" "fault" "I" : Cond) ∈ wsX6_readFunctions := List.mem_of_getElem? (i := 3) rfl
theorem md_X6_readFunctions_4 : (.fieldLink RX6 97 "ResourceLedger$Program" "number" "I" : Cond) ∈ wsX6_readFunctions := List.mem_of_getElem? (i := 4) rfl
theorem md_X6_readFunctions_5 : (.fieldLink RX6 53 "ResourceLedger$Program" "typeCount" "I" : Cond) ∈ wsX6_readFunctions := List.mem_of_getElem? (i := 5) rfl
theorem md_X6_readFunctions_6 : (.fieldLink RX6 123 "ResourceLedger$Reader" "locals" "I" : Cond) ∈ wsX6_readFunctions := List.mem_of_getElem? (i := 6) rfl
theorem md_X6_readFunctions_7 : (.fieldLink RX6 32 "ResourceLedger$Reader" "at" "I" : Cond) ∈ wsX6_readFunctions := List.mem_of_getElem? (i := 7) rfl
theorem md_X6_readFunctions_8 : (.fieldLink RX6 126 "ResourceLedger$Reader" "instructions" "I" : Cond) ∈ wsX6_readFunctions := List.mem_of_getElem? (i := 8) rfl
theorem md_X6_readFunctions_9 : (.fieldLink RX6 35 "ResourceLedger$Reader" "told" "I" : Cond) ∈ wsX6_readFunctions := List.mem_of_getElem? (i := 9) rfl
theorem md_X6_readFunctions_10 : (.fieldLink RX6 129 "ResourceLedger$Program" "startCount" "I" : Cond) ∈ wsX6_readFunctions := List.mem_of_getElem? (i := 10) rfl
set_option maxHeartbeats 4000000 in
set_option maxRecDepth 100000 in
theorem de_X6_readFunctions (l : Launch) (dC : Nat → ClassId) (dI : Nat → Nat → Nat) (cy : Nat → ClassId) (a : Nat → Nat) (sh : Nat → Nat × Nat) (n sz : Nat) (F : Nat) (sk : Nat → Nat) (z : St) (h0 : Nat) {z8 : St} {r8 : Unit} (hf : fn_X6_readFunctions F sh n z h0 = some (z8, r8)) : Met l yX6_readFunctions wsX6_readFunctions ({ frames := 4, cells := 0, slots := 0, locals := 93 }) (va_Pc [.ref (a h0)] (fun U => U.heap.size = sz ∧ va_P (dC, dI) vwCl (Wd cy a sh n z) U.heap ∧ va_K (dC, dI) vwCl (TYS cy) U ∧ va_D (fun _ => True) (Wd cy a sh n z) ∧ NK U ∧ SKs sk (a CBK) (va_A (Wd cy a sh n z) sz) U U.heap)) (va_Qv (fun u : Unit => True) (fun u t => va_P (dC, dI) vwCl (Wd cy a sh n z8) t.heap ∧ va_K (dC, dI) vwCl (TYS cy) t ∧ va_D (va_A (Wd cy a sh n z) sz) (Wd cy a sh n z8)) (va_A (Wd cy a sh n z) sz)) 0 0 (va_A (Wd cy a sh n z) sz) := by
  refine Met.ofW (cc := cX6_readFunctions) (maxL := 7) (ret := none) (by decide) rfl ?_
  intro p e s m args below meth c s₁ B hml hv
  obtain ⟨rfl, hsz, hP, hK, hD0, hN, hSK⟩ := hv
  have hx := B.exec
  have hb := B.bytes
  have hr := B.returns
  have hts := atoms_spec (ws := wsX6_readFunctions) B.pre
  have hown : s.vm.findClass RX6 = some m.cls := findClass_of_methodNamed B.named
  have hlocks := B.notSynchronized
  subst hsz
  have hD := hD0.self (sz := s.heap.size)
  clear hD0
  generalize hAe : va_A (Wd cy a sh n z) s.heap.size = A at hD hSK ⊢
  have hA : ∀ q : Nat, s.heap.size ≤ q → A q := fun q h => by rw [← hAe]; exact Or.inr h
  clear hAe
  have hS : va_S A s.heap s.heap [] := va_S.rf
  have hl := lv_entry ([.ref (a h0)]) (n := 7) (Nat.le_of_ble_eq_true rfl)
  rw [lg_entry_eq]
  generalize (lg_sl ([.ref (a h0)]) ++ List.replicate (7 - (lg_sl ([.ref (a h0)])).length) Slot.unset).toArray = ls at hl ⊢
  replace hl : lv_has ls 7 [(0, .ref (a h0))] := hl
  unfold fn_X6_readFunctions at hf
  refine de_start hS hP (fun H locs hS hP => ?_)
  refine lv_aload_n hx hb dX6_readFunctions_0 rfl (lv_at hl 0 rfl) ?_
  refine lv_iconst (v := 0) hx hb dX6_readFunctions_1 (by decide) ?_
  refine lv_bipush (v := 64) hx hb dX6_readFunctions_2 (by decide) ?_
  obtain ⟨g_3, hf⟩ := grd_some hf
  obtain ⟨kg_3, sg_3⟩ := okO_at g_3
  obtain ⟨z_1, r_2, hfc, hf⟩ := cal_some hf
  have hFc := de_free hD hS hA
  refine va_calli (va_runV (As := [.int 0, .int 64]) (rest := []) ⟨hx, hb, hml, hown, hts⟩ (de_X6_readNumber l dC dI cy a sh n H.size F sk z h0 0 64 hfc) (cwV 2 hts gX6_readFunctions_X6_readNumber rfl rfl rfl (by decide +kernel) ⟨Nat.le_of_ble_eq_true rfl, Nat.le_of_ble_eq_true rfl⟩) ⟨fun a U g mk q => by obtain ⟨q0, q1, qP, qK, qD, qN, qS⟩ := q; exact ⟨q0, q1, qP, va_K.moved (u := U) (U := U.calling g mk a) (Vm.Alike.refl U.vm) qK, qD, qN.same rfl, SKs.moved (u := U) (U := U.calling g mk a) (Vm.Alike.refl U.vm) qS⟩, va_recv hK hP (ci := 6) (q0 := h0) rfl (Wd_ob kg_3 sg_3 (by decide)), fun U hU hW => ⟨rfl, by rw [hU], by rw [hU]; exact hP, va_K.moved hW.alike hK, hD.weaken (fun _ _ _ _ => trivial), hN.warm hW, by rw [hU]; exact ((hSK.kept hS.2.1).narrow hFc).moved hW.alike⟩⟩ rfl rfl hl.1 rfl (lv_room (Nat.le_of_ble_eq_true rfl)) dX6_readFunctions_4 ⟨Nat.le_of_ble_eq_true rfl, Nat.le_of_ble_eq_true rfl⟩) hS (fun q _ h => hFc q h) hFc (fun rr u t H_4 locs ht hvm hw hB hz1 hk1 hS2 => ?_)
  rw [hw]
  clear hw
  obtain ⟨hP1, -, hD1⟩ := hB
  rw [ht] at hP1
  replace hD := hD1.weaken (fun _ _ _ h => hFc _ h)
  replace hP := hP1
  replace hS := hS2
  clear hP1 hD1 hS2 hFc hfc hz1 hk1 hvm ht
  refine lv_istore_n (lv' := [(1, .int r_2), (0, .ref (a h0))]) hx hb dX6_readFunctions_7 rfl hl (by decide) rfl (fun ls hl2 => ?_)
  replace hl := hl2
  clear hl2
  refine lv_aload_n hx hb dX6_readFunctions_8 rfl (lv_at hl 1 rfl) ?_
  obtain ⟨k_5, ek_5, hf⟩ := lnk_some hf
  refine va_get (D := (dC, dI)) (ci := 6) (v := .ref (a k_5)) (C := RX6) (T := TX6) (N := 9) hx hb hts iwd_X6_readFunctions_X6 hown hK hP h0 (Wd_ob kg_3 sg_3 (by decide)) rfl 2 (by decide) (hts _ md_X6_readFunctions_1) (fun _ h9 => h9) (fl_q rfl ek_5) dX6_readFunctions_9 ?_
  refine lv_iload_n hx hb dX6_readFunctions_12 rfl (lv_at hl 0 rfl) ?_
  obtain ⟨g_6, hf⟩ := grd_some hf
  obtain ⟨kg_6, sg_6⟩ := okO_at g_6
  refine va_put (D := (dC, dI)) (ci := 5) (v := .int r_2) (ty := .int) (C := RX5) (T := TX5) (N := 15) hx hb hts iwd_X6_readFunctions_X5 tyX5 tyX5_ok nmX5 hown hK hP hD hS k_5 (Wd_ob kg_6 sg_6 (by decide)) rfl 11 (by decide) (hts _ md_X6_readFunctions_2) (fun _ h9 => h9) rfl (by decide +kernel) rfl rfl (by rw [fl_len]; decide) dX6_readFunctions_13 (fun H_7 locs hP2 hD2 hS2 => ?_)
  rw [Wd_si sg_6 (by decide) rfl] at hP2 hD2
  obtain ⟨z_8, ez_8⟩ : ∃ w, w = si z_1 k_5 11 r_2 := ⟨_, rfl⟩
  rw [← ez_8] at hP2 hD2
  replace hf := lt_at ez_8 hf
  clear ez_8
  replace hP := hP2
  replace hD := hD2
  replace hS := hS2
  clear hP2 hD2 hS2
  refine lv_iconst (v := 0) hx hb dX6_readFunctions_16 (by decide) ?_
  refine lv_istore_n (lv' := [(2, .int 0), (1, .int r_2), (0, .ref (a h0))]) hx hb dX6_readFunctions_17 rfl hl (by decide) rfl (fun ls hl2 => ?_)
  replace hl := hl2
  clear hl2
  have hl0 : lv_has ls 7 [(2, .int 0), (1, .int r_2), (0, .ref (a h0))] := lv_sub hl [0, 1, 2] rfl
  refine de_loop (h := 18) (fun (x : St × Int32) ls H locs => lv_has ls 7 [(2, .int x.2), (1, .int r_2), (0, .ref (a h0))] ∧ va_P (dC, dI) vwCl (Wd cy a sh n x.1) H ∧ va_D A (Wd cy a sh n x.1) ∧ va_S A s.heap H locs) (fun f x => fn_X6_readFunctions_L18 F sh n r_2 h0 f x.1 x.2) (z8, r8) ?_ (fun _ => rfl) F (z_8, 0) ls H_7 locs ⟨hl0, hP, hD, hS⟩ hf
  intro f_11 x ls H locs ih18 hI hf
  obtain ⟨z_10, p_9⟩ := x
  obtain ⟨hl2, hP2, hD2, hS2⟩ := hI
  replace hl : lv_has ls 7 [(2, .int p_9), (1, .int r_2), (0, .ref (a h0))] := hl2
  replace hP := hP2
  replace hD := hD2
  replace hS := hS2
  clear hl2 hP2 hD2 hS2 hl0
  replace hf := fn_X6_readFunctions_L18_s hf
  refine lv_iload_n hx hb dX6_readFunctions_18 rfl (lv_at hl 0 rfl) ?_
  refine lv_iload_n hx hb dX6_readFunctions_19 rfl (lv_at hl 1 rfl) ?_
  refine lv_icmp_ge (tgt := 276) hx hb dX6_readFunctions_20 (by decide) (fun c_12 => ?_) (fun c_12 => ?_)
  · skip
    rw [if_pos c_12] at hf
    obtain ⟨h8, h9⟩ := ret_some hf
    rw [h8]
    exact W.vret hx hb hr (fun t ht hW => ⟨⟨(), rfl, trivial, by rw [ht]; exact hP, va_K.moved hW.alike hK, hD⟩, hS.F ht⟩) hS.2.2 dX6_readFunctions_276
  · skip
    rw [if_neg c_12] at hf
    refine lv_aload_n hx hb dX6_readFunctions_23 rfl (lv_at hl 2 rfl) ?_
    refine va_get (D := (dC, dI)) (ci := 6) (v := .int (z_10.1 h0 1)) (C := RX6) (T := TX6) (N := 9) hx hb hts iwd_X6_readFunctions_X6 hown hK hP h0 (Wd_ob kg_3 sg_3 (by decide)) rfl 1 (by decide) (hts _ md_X6_readFunctions_3) (fun _ h9 => h9) (fl_at (t := 0) rfl) dX6_readFunctions_24 ?_
    refine lv_if_ne (tgt := 276) hx hb dX6_readFunctions_27 (by decide) (fun c_13 => ?_) (fun c_13 => ?_)
    · skip
      rw [if_neg c_13] at hf
      obtain ⟨h8, h9⟩ := ret_some hf
      rw [h8]
      exact W.vret hx hb hr (fun t ht hW => ⟨⟨(), rfl, trivial, by rw [ht]; exact hP, va_K.moved hW.alike hK, hD⟩, hS.F ht⟩) hS.2.2 dX6_readFunctions_276
    · skip
      rw [if_pos c_13] at hf
      refine lv_aload_n hx hb dX6_readFunctions_30 rfl (lv_at hl 2 rfl) ?_
      obtain ⟨k_14, ek_14, hf⟩ := lnk_some hf
      refine va_get (D := (dC, dI)) (ci := 6) (v := .ref (a k_14)) (C := RX6) (T := TX6) (N := 9) hx hb hts iwd_X6_readFunctions_X6 hown hK hP h0 (Wd_ob kg_3 sg_3 (by decide)) rfl 2 (by decide) (hts _ md_X6_readFunctions_1) (fun _ h9 => h9) (fl_q rfl ek_14) dX6_readFunctions_31 ?_
      refine lv_iload_n hx hb dX6_readFunctions_34 rfl (lv_at hl 0 rfl) ?_
      refine lv_bipush (v := 7) hx hb dX6_readFunctions_35 (by decide) ?_
      refine lv_aload_n hx hb dX6_readFunctions_37 rfl (lv_at hl 2 rfl) ?_
      obtain ⟨k_15, ek_15, hf⟩ := lnk_some hf
      refine va_get (D := (dC, dI)) (ci := 6) (v := .ref (a k_15)) (C := RX6) (T := TX6) (N := 9) hx hb hts iwd_X6_readFunctions_X6 hown hK hP h0 (Wd_ob kg_3 sg_3 (by decide)) rfl 2 (by decide) (hts _ md_X6_readFunctions_1) (fun _ h9 => h9) (fl_q rfl ek_15) dX6_readFunctions_38 ?_
      obtain ⟨g_16, hf⟩ := grd_some hf
      obtain ⟨kg_16, sg_16⟩ := okO_at g_16
      refine va_get (D := (dC, dI)) (ci := 5) (v := .int (z_10.1 k_15 2)) (C := RX5) (T := TX5) (N := 15) hx hb hts iwd_X6_readFunctions_X5 hown hK hP k_15 (Wd_ob kg_16 sg_16 (by decide)) rfl 2 (by decide) (hts _ md_X6_readFunctions_4) (fun _ h9 => h9) (fl_at (t := 0) rfl) dX6_readFunctions_41 ?_
      obtain ⟨g_18, hf⟩ := grd_some hf
      obtain ⟨kg_18, sg_18⟩ := okO_at g_18
      obtain ⟨z_17, _u, hfc, hf⟩ := cal_some hf
      have hFc := de_free hD hS hA
      refine va_callv (va_runV (As := [.int p_9, .int 7, .int (z_10.1 k_15 2)]) (rest := []) ⟨hx, hb, hml, hown, hts⟩ (de_X5_setFunction l dC dI cy a sh n H.size F z_10 k_14 p_9 7 (z_10.1 k_15 2) hfc) (cwV 3 hts gX6_readFunctions_X5_setFunction rfl rfl rfl (by decide +kernel) ⟨Nat.le_of_ble_eq_true rfl, Nat.le_of_ble_eq_true rfl⟩) ⟨fun a U g mk q => by obtain ⟨q0, q1, qP, qK, qD, qN⟩ := q; exact ⟨q0, q1, qP, va_K.moved (u := U) (U := U.calling g mk a) (Vm.Alike.refl U.vm) qK, qD, qN.same rfl⟩, va_recv hK hP (ci := 5) (q0 := k_14) rfl (Wd_ob kg_18 sg_18 (by decide)), fun U hU hW => ⟨rfl, by rw [hU], by rw [hU]; exact hP, va_K.moved hW.alike hK, hD.weaken (fun _ _ _ _ => trivial), hN.warm hW⟩⟩ rfl rfl hl.1 rfl (lv_room (Nat.le_of_ble_eq_true rfl)) dX6_readFunctions_44 ⟨Nat.le_of_ble_eq_true rfl, Nat.le_of_ble_eq_true rfl⟩) hS (fun q _ h => hFc q h) hFc (fun u t H_19 locs ht hvm hw hB hz1 hk1 hS2 => ?_)
      obtain ⟨hP1, -, hD1⟩ := hB
      rw [ht] at hP1
      replace hD := hD1.weaken (fun _ _ _ h => hFc _ h)
      replace hP := hP1
      replace hS := hS2
      clear hP1 hD1 hS2 hFc hfc hz1 hk1 hvm ht
      refine lv_aload_n hx hb dX6_readFunctions_47 rfl (lv_at hl 2 rfl) ?_
      obtain ⟨k_20, ek_20, hf⟩ := lnk_some hf
      refine va_get (D := (dC, dI)) (ci := 6) (v := .ref (a k_20)) (C := RX6) (T := TX6) (N := 9) hx hb hts iwd_X6_readFunctions_X6 hown hK hP h0 (Wd_ob kg_3 sg_3 (by decide)) rfl 2 (by decide) (hts _ md_X6_readFunctions_1) (fun _ h9 => h9) (fl_q rfl ek_20) dX6_readFunctions_48 ?_
      refine lv_iload_n hx hb dX6_readFunctions_51 rfl (lv_at hl 0 rfl) ?_
      refine lv_bipush (v := 8) hx hb dX6_readFunctions_52 (by decide) ?_
      refine lv_iload_n hx hb dX6_readFunctions_54 rfl (lv_at hl 0 rfl) ?_
      obtain ⟨g_22, hf⟩ := grd_some hf
      obtain ⟨kg_22, sg_22⟩ := okO_at g_22
      obtain ⟨z_21, _u, hfc, hf⟩ := cal_some hf
      have hFc := de_free hD hS hA
      refine va_callv (va_runV (As := [.int p_9, .int 8, .int p_9]) (rest := []) ⟨hx, hb, hml, hown, hts⟩ (de_X5_setFunction l dC dI cy a sh n H_19.size F z_17 k_20 p_9 8 p_9 hfc) (cwV 3 hts gX6_readFunctions_X5_setFunction rfl rfl rfl (by decide +kernel) ⟨Nat.le_of_ble_eq_true rfl, Nat.le_of_ble_eq_true rfl⟩) ⟨fun a U g mk q => by obtain ⟨q0, q1, qP, qK, qD, qN⟩ := q; exact ⟨q0, q1, qP, va_K.moved (u := U) (U := U.calling g mk a) (Vm.Alike.refl U.vm) qK, qD, qN.same rfl⟩, va_recv hK hP (ci := 5) (q0 := k_20) rfl (Wd_ob kg_22 sg_22 (by decide)), fun U hU hW => ⟨rfl, by rw [hU], by rw [hU]; exact hP, va_K.moved hW.alike hK, hD.weaken (fun _ _ _ _ => trivial), hN.warm hW⟩⟩ rfl rfl hl.1 rfl (lv_room (Nat.le_of_ble_eq_true rfl)) dX6_readFunctions_55 ⟨Nat.le_of_ble_eq_true rfl, Nat.le_of_ble_eq_true rfl⟩) hS (fun q _ h => hFc q h) hFc (fun u t H_23 locs ht hvm hw hB hz1 hk1 hS2 => ?_)
      obtain ⟨hP1, -, hD1⟩ := hB
      rw [ht] at hP1
      replace hD := hD1.weaken (fun _ _ _ h => hFc _ h)
      replace hP := hP1
      replace hS := hS2
      clear hP1 hD1 hS2 hFc hfc hz1 hk1 hvm ht
      refine lv_aload_n hx hb dX6_readFunctions_58 rfl (lv_at hl 2 rfl) ?_
      obtain ⟨k_24, ek_24, hf⟩ := lnk_some hf
      refine va_get (D := (dC, dI)) (ci := 6) (v := .ref (a k_24)) (C := RX6) (T := TX6) (N := 9) hx hb hts iwd_X6_readFunctions_X6 hown hK hP h0 (Wd_ob kg_3 sg_3 (by decide)) rfl 2 (by decide) (hts _ md_X6_readFunctions_1) (fun _ h9 => h9) (fl_q rfl ek_24) dX6_readFunctions_59 ?_
      refine lv_iload_n hx hb dX6_readFunctions_62 rfl (lv_at hl 0 rfl) ?_
      refine lv_iconst (v := 0) hx hb dX6_readFunctions_63 (by decide) ?_
      refine lv_aload_n hx hb dX6_readFunctions_64 rfl (lv_at hl 2 rfl) ?_
      refine lv_iconst (v := 0) hx hb dX6_readFunctions_65 (by decide) ?_
      refine lv_bipush (v := 7) hx hb dX6_readFunctions_66 (by decide) ?_
      obtain ⟨z_25, r_26, hfc, hf⟩ := cal_some hf
      have hFc := de_free hD hS hA
      refine va_calli (va_runV (As := [.int 0, .int 7]) (rest := [.int 0, .int p_9, .ref (a k_24)]) ⟨hx, hb, hml, hown, hts⟩ (de_X6_readNumber l dC dI cy a sh n H_23.size F sk z_21 h0 0 7 hfc) (cwV 2 hts gX6_readFunctions_X6_readNumber rfl rfl rfl (by decide +kernel) ⟨Nat.le_of_ble_eq_true rfl, Nat.le_of_ble_eq_true rfl⟩) ⟨fun a U g mk q => by obtain ⟨q0, q1, qP, qK, qD, qN, qS⟩ := q; exact ⟨q0, q1, qP, va_K.moved (u := U) (U := U.calling g mk a) (Vm.Alike.refl U.vm) qK, qD, qN.same rfl, SKs.moved (u := U) (U := U.calling g mk a) (Vm.Alike.refl U.vm) qS⟩, va_recv hK hP (ci := 6) (q0 := h0) rfl (Wd_ob kg_3 sg_3 (by decide)), fun U hU hW => ⟨rfl, by rw [hU], by rw [hU]; exact hP, va_K.moved hW.alike hK, hD.weaken (fun _ _ _ _ => trivial), hN.warm hW, by rw [hU]; exact ((hSK.kept hS.2.1).narrow hFc).moved hW.alike⟩⟩ rfl rfl hl.1 rfl (lv_room (Nat.le_of_ble_eq_true rfl)) dX6_readFunctions_68 ⟨Nat.le_of_ble_eq_true rfl, Nat.le_of_ble_eq_true rfl⟩) hS (fun q _ h => hFc q h) hFc (fun rr u t H_27 locs ht hvm hw hB hz1 hk1 hS2 => ?_)
      rw [hw]
      clear hw
      obtain ⟨hP1, -, hD1⟩ := hB
      rw [ht] at hP1
      replace hD := hD1.weaken (fun _ _ _ h => hFc _ h)
      replace hP := hP1
      replace hS := hS2
      clear hP1 hD1 hS2 hFc hfc hz1 hk1 hvm ht
      obtain ⟨g_29, hf⟩ := grd_some hf
      obtain ⟨kg_29, sg_29⟩ := okO_at g_29
      obtain ⟨z_28, _u, hfc, hf⟩ := cal_some hf
      have hFc := de_free hD hS hA
      refine va_callv (va_runV (As := [.int p_9, .int 0, .int r_26]) (rest := []) ⟨hx, hb, hml, hown, hts⟩ (de_X5_setFunction l dC dI cy a sh n H_27.size F z_25 k_24 p_9 0 r_26 hfc) (cwV 3 hts gX6_readFunctions_X5_setFunction rfl rfl rfl (by decide +kernel) ⟨Nat.le_of_ble_eq_true rfl, Nat.le_of_ble_eq_true rfl⟩) ⟨fun a U g mk q => by obtain ⟨q0, q1, qP, qK, qD, qN⟩ := q; exact ⟨q0, q1, qP, va_K.moved (u := U) (U := U.calling g mk a) (Vm.Alike.refl U.vm) qK, qD, qN.same rfl⟩, va_recv hK hP (ci := 5) (q0 := k_24) rfl (Wd_ob kg_29 sg_29 (by decide)), fun U hU hW => ⟨rfl, by rw [hU], by rw [hU]; exact hP, va_K.moved hW.alike hK, hD.weaken (fun _ _ _ _ => trivial), hN.warm hW⟩⟩ rfl rfl hl.1 rfl (lv_room (Nat.le_of_ble_eq_true rfl)) dX6_readFunctions_71 ⟨Nat.le_of_ble_eq_true rfl, Nat.le_of_ble_eq_true rfl⟩) hS (fun q _ h => hFc q h) hFc (fun u t H_30 locs ht hvm hw hB hz1 hk1 hS2 => ?_)
      obtain ⟨hP1, -, hD1⟩ := hB
      rw [ht] at hP1
      replace hD := hD1.weaken (fun _ _ _ h => hFc _ h)
      replace hP := hP1
      replace hS := hS2
      clear hP1 hD1 hS2 hFc hfc hz1 hk1 hvm ht
      refine lv_aload_n hx hb dX6_readFunctions_74 rfl (lv_at hl 2 rfl) ?_
      obtain ⟨k_31, ek_31, hf⟩ := lnk_some hf
      refine va_get (D := (dC, dI)) (ci := 6) (v := .ref (a k_31)) (C := RX6) (T := TX6) (N := 9) hx hb hts iwd_X6_readFunctions_X6 hown hK hP h0 (Wd_ob kg_3 sg_3 (by decide)) rfl 2 (by decide) (hts _ md_X6_readFunctions_1) (fun _ h9 => h9) (fl_q rfl ek_31) dX6_readFunctions_75 ?_
      refine lv_iload_n hx hb dX6_readFunctions_78 rfl (lv_at hl 0 rfl) ?_
      refine lv_iconst (v := 1) hx hb dX6_readFunctions_79 (by decide) ?_
      refine lv_aload_n hx hb dX6_readFunctions_80 rfl (lv_at hl 2 rfl) ?_
      obtain ⟨k_32, ek_32, hf⟩ := lnk_some hf
      refine va_get (D := (dC, dI)) (ci := 6) (v := .ref (a k_32)) (C := RX6) (T := TX6) (N := 9) hx hb hts iwd_X6_readFunctions_X6 hown hK hP h0 (Wd_ob kg_3 sg_3 (by decide)) rfl 2 (by decide) (hts _ md_X6_readFunctions_1) (fun _ h9 => h9) (fl_q rfl ek_32) dX6_readFunctions_81 ?_
      obtain ⟨g_33, hf⟩ := grd_some hf
      obtain ⟨kg_33, sg_33⟩ := okO_at g_33
      refine va_get (D := (dC, dI)) (ci := 5) (v := .int (z_28.1 k_32 4)) (C := RX5) (T := TX5) (N := 15) hx hb hts iwd_X6_readFunctions_X5 hown hK hP k_32 (Wd_ob kg_33 sg_33 (by decide)) rfl 4 (by decide) (hts _ md_X6_readFunctions_5) (fun _ h9 => h9) (fl_at (t := 0) rfl) dX6_readFunctions_84 ?_
      obtain ⟨g_35, hf⟩ := grd_some hf
      obtain ⟨kg_35, sg_35⟩ := okO_at g_35
      obtain ⟨z_34, _u, hfc, hf⟩ := cal_some hf
      have hFc := de_free hD hS hA
      refine va_callv (va_runV (As := [.int p_9, .int 1, .int (z_28.1 k_32 4)]) (rest := []) ⟨hx, hb, hml, hown, hts⟩ (de_X5_setFunction l dC dI cy a sh n H_30.size F z_28 k_31 p_9 1 (z_28.1 k_32 4) hfc) (cwV 3 hts gX6_readFunctions_X5_setFunction rfl rfl rfl (by decide +kernel) ⟨Nat.le_of_ble_eq_true rfl, Nat.le_of_ble_eq_true rfl⟩) ⟨fun a U g mk q => by obtain ⟨q0, q1, qP, qK, qD, qN⟩ := q; exact ⟨q0, q1, qP, va_K.moved (u := U) (U := U.calling g mk a) (Vm.Alike.refl U.vm) qK, qD, qN.same rfl⟩, va_recv hK hP (ci := 5) (q0 := k_31) rfl (Wd_ob kg_35 sg_35 (by decide)), fun U hU hW => ⟨rfl, by rw [hU], by rw [hU]; exact hP, va_K.moved hW.alike hK, hD.weaken (fun _ _ _ _ => trivial), hN.warm hW⟩⟩ rfl rfl hl.1 rfl (lv_room (Nat.le_of_ble_eq_true rfl)) dX6_readFunctions_87 ⟨Nat.le_of_ble_eq_true rfl, Nat.le_of_ble_eq_true rfl⟩) hS (fun q _ h => hFc q h) hFc (fun u t H_36 locs ht hvm hw hB hz1 hk1 hS2 => ?_)
      obtain ⟨hP1, -, hD1⟩ := hB
      rw [ht] at hP1
      replace hD := hD1.weaken (fun _ _ _ h => hFc _ h)
      replace hP := hP1
      replace hS := hS2
      clear hP1 hD1 hS2 hFc hfc hz1 hk1 hvm ht
      refine lv_aload_n hx hb dX6_readFunctions_90 rfl (lv_at hl 2 rfl) ?_
      refine lv_bipush (v := 8) hx hb dX6_readFunctions_91 (by decide) ?_
      obtain ⟨z_37, r_38, hfc, hf⟩ := cal_some hf
      have hFc := de_free hD hS hA
      refine va_calli (va_runV (As := [.int 8]) (rest := []) ⟨hx, hb, hml, hown, hts⟩ (de_X6_readList l dC dI cy a sh n H_36.size F sk z_34 h0 8 hfc) (cwV 1 hts gX6_readFunctions_X6_readList rfl rfl rfl (by decide +kernel) ⟨Nat.le_of_ble_eq_true rfl, Nat.le_of_ble_eq_true rfl⟩) ⟨fun a U g mk q => by obtain ⟨q0, q1, qP, qK, qD, qN, qS⟩ := q; exact ⟨q0, q1, qP, va_K.moved (u := U) (U := U.calling g mk a) (Vm.Alike.refl U.vm) qK, qD, qN.same rfl, SKs.moved (u := U) (U := U.calling g mk a) (Vm.Alike.refl U.vm) qS⟩, va_recv hK hP (ci := 6) (q0 := h0) rfl (Wd_ob kg_3 sg_3 (by decide)), fun U hU hW => ⟨rfl, by rw [hU], by rw [hU]; exact hP, va_K.moved hW.alike hK, hD.weaken (fun _ _ _ _ => trivial), hN.warm hW, by rw [hU]; exact ((hSK.kept hS.2.1).narrow hFc).moved hW.alike⟩⟩ rfl rfl hl.1 rfl (lv_room (Nat.le_of_ble_eq_true rfl)) dX6_readFunctions_93 ⟨Nat.le_of_ble_eq_true rfl, Nat.le_of_ble_eq_true rfl⟩) hS (fun q _ h => hFc q h) hFc (fun rr u t H_39 locs ht hvm hw hB hz1 hk1 hS2 => ?_)
      rw [hw]
      clear hw
      obtain ⟨hP1, -, hD1⟩ := hB
      rw [ht] at hP1
      replace hD := hD1.weaken (fun _ _ _ h => hFc _ h)
      replace hP := hP1
      replace hS := hS2
      clear hP1 hD1 hS2 hFc hfc hz1 hk1 hvm ht
      refine lv_istore_n (lv' := [(3, .int r_38), (2, .int p_9), (1, .int r_2), (0, .ref (a h0))]) hx hb dX6_readFunctions_96 rfl hl (by decide) rfl (fun ls hl2 => ?_)
      replace hl := hl2
      clear hl2
      refine lv_aload_n hx hb dX6_readFunctions_97 rfl (lv_at hl 3 rfl) ?_
      obtain ⟨k_40, ek_40, hf⟩ := lnk_some hf
      refine va_get (D := (dC, dI)) (ci := 6) (v := .ref (a k_40)) (C := RX6) (T := TX6) (N := 9) hx hb hts iwd_X6_readFunctions_X6 hown hK hP h0 (Wd_ob kg_3 sg_3 (by decide)) rfl 2 (by decide) (hts _ md_X6_readFunctions_1) (fun _ h9 => h9) (fl_q rfl ek_40) dX6_readFunctions_98 ?_
      refine lv_iload_n hx hb dX6_readFunctions_101 rfl (lv_at hl 1 rfl) ?_
      refine lv_iconst (v := 2) hx hb dX6_readFunctions_102 (by decide) ?_
      refine lv_iload_n hx hb dX6_readFunctions_103 rfl (lv_at hl 0 rfl) ?_
      obtain ⟨g_42, hf⟩ := grd_some hf
      obtain ⟨kg_42, sg_42⟩ := okO_at g_42
      obtain ⟨z_41, _u, hfc, hf⟩ := cal_some hf
      have hFc := de_free hD hS hA
      refine va_callv (va_runV (As := [.int p_9, .int 2, .int r_38]) (rest := []) ⟨hx, hb, hml, hown, hts⟩ (de_X5_setFunction l dC dI cy a sh n H_39.size F z_37 k_40 p_9 2 r_38 hfc) (cwV 3 hts gX6_readFunctions_X5_setFunction rfl rfl rfl (by decide +kernel) ⟨Nat.le_of_ble_eq_true rfl, Nat.le_of_ble_eq_true rfl⟩) ⟨fun a U g mk q => by obtain ⟨q0, q1, qP, qK, qD, qN⟩ := q; exact ⟨q0, q1, qP, va_K.moved (u := U) (U := U.calling g mk a) (Vm.Alike.refl U.vm) qK, qD, qN.same rfl⟩, va_recv hK hP (ci := 5) (q0 := k_40) rfl (Wd_ob kg_42 sg_42 (by decide)), fun U hU hW => ⟨rfl, by rw [hU], by rw [hU]; exact hP, va_K.moved hW.alike hK, hD.weaken (fun _ _ _ _ => trivial), hN.warm hW⟩⟩ rfl rfl hl.1 rfl (lv_room (Nat.le_of_ble_eq_true rfl)) dX6_readFunctions_104 ⟨Nat.le_of_ble_eq_true rfl, Nat.le_of_ble_eq_true rfl⟩) hS (fun q _ h => hFc q h) hFc (fun u t H_43 locs ht hvm hw hB hz1 hk1 hS2 => ?_)
      obtain ⟨hP1, -, hD1⟩ := hB
      rw [ht] at hP1
      replace hD := hD1.weaken (fun _ _ _ h => hFc _ h)
      replace hP := hP1
      replace hS := hS2
      clear hP1 hD1 hS2 hFc hfc hz1 hk1 hvm ht
      refine lv_aload_n hx hb dX6_readFunctions_107 rfl (lv_at hl 3 rfl) ?_
      obtain ⟨k_44, ek_44, hf⟩ := lnk_some hf
      refine va_get (D := (dC, dI)) (ci := 6) (v := .ref (a k_44)) (C := RX6) (T := TX6) (N := 9) hx hb hts iwd_X6_readFunctions_X6 hown hK hP h0 (Wd_ob kg_3 sg_3 (by decide)) rfl 2 (by decide) (hts _ md_X6_readFunctions_1) (fun _ h9 => h9) (fl_q rfl ek_44) dX6_readFunctions_108 ?_
      refine lv_iload_n hx hb dX6_readFunctions_111 rfl (lv_at hl 1 rfl) ?_
      refine lv_iconst (v := 3) hx hb dX6_readFunctions_112 (by decide) ?_
      refine lv_aload_n hx hb dX6_readFunctions_113 rfl (lv_at hl 3 rfl) ?_
      refine lv_bipush (v := 8) hx hb dX6_readFunctions_114 (by decide) ?_
      obtain ⟨z_45, r_46, hfc, hf⟩ := cal_some hf
      have hFc := de_free hD hS hA
      refine va_calli (va_runV (As := [.int 8]) (rest := [.int 3, .int p_9, .ref (a k_44)]) ⟨hx, hb, hml, hown, hts⟩ (de_X6_readList l dC dI cy a sh n H_43.size F sk z_41 h0 8 hfc) (cwV 1 hts gX6_readFunctions_X6_readList rfl rfl rfl (by decide +kernel) ⟨Nat.le_of_ble_eq_true rfl, Nat.le_of_ble_eq_true rfl⟩) ⟨fun a U g mk q => by obtain ⟨q0, q1, qP, qK, qD, qN, qS⟩ := q; exact ⟨q0, q1, qP, va_K.moved (u := U) (U := U.calling g mk a) (Vm.Alike.refl U.vm) qK, qD, qN.same rfl, SKs.moved (u := U) (U := U.calling g mk a) (Vm.Alike.refl U.vm) qS⟩, va_recv hK hP (ci := 6) (q0 := h0) rfl (Wd_ob kg_3 sg_3 (by decide)), fun U hU hW => ⟨rfl, by rw [hU], by rw [hU]; exact hP, va_K.moved hW.alike hK, hD.weaken (fun _ _ _ _ => trivial), hN.warm hW, by rw [hU]; exact ((hSK.kept hS.2.1).narrow hFc).moved hW.alike⟩⟩ rfl rfl hl.1 rfl (lv_room (Nat.le_of_ble_eq_true rfl)) dX6_readFunctions_116 ⟨Nat.le_of_ble_eq_true rfl, Nat.le_of_ble_eq_true rfl⟩) hS (fun q _ h => hFc q h) hFc (fun rr u t H_47 locs ht hvm hw hB hz1 hk1 hS2 => ?_)
      rw [hw]
      clear hw
      obtain ⟨hP1, -, hD1⟩ := hB
      rw [ht] at hP1
      replace hD := hD1.weaken (fun _ _ _ h => hFc _ h)
      replace hP := hP1
      replace hS := hS2
      clear hP1 hD1 hS2 hFc hfc hz1 hk1 hvm ht
      obtain ⟨g_49, hf⟩ := grd_some hf
      obtain ⟨kg_49, sg_49⟩ := okO_at g_49
      obtain ⟨z_48, _u, hfc, hf⟩ := cal_some hf
      have hFc := de_free hD hS hA
      refine va_callv (va_runV (As := [.int p_9, .int 3, .int r_46]) (rest := []) ⟨hx, hb, hml, hown, hts⟩ (de_X5_setFunction l dC dI cy a sh n H_47.size F z_45 k_44 p_9 3 r_46 hfc) (cwV 3 hts gX6_readFunctions_X5_setFunction rfl rfl rfl (by decide +kernel) ⟨Nat.le_of_ble_eq_true rfl, Nat.le_of_ble_eq_true rfl⟩) ⟨fun a U g mk q => by obtain ⟨q0, q1, qP, qK, qD, qN⟩ := q; exact ⟨q0, q1, qP, va_K.moved (u := U) (U := U.calling g mk a) (Vm.Alike.refl U.vm) qK, qD, qN.same rfl⟩, va_recv hK hP (ci := 5) (q0 := k_44) rfl (Wd_ob kg_49 sg_49 (by decide)), fun U hU hW => ⟨rfl, by rw [hU], by rw [hU]; exact hP, va_K.moved hW.alike hK, hD.weaken (fun _ _ _ _ => trivial), hN.warm hW⟩⟩ rfl rfl hl.1 rfl (lv_room (Nat.le_of_ble_eq_true rfl)) dX6_readFunctions_119 ⟨Nat.le_of_ble_eq_true rfl, Nat.le_of_ble_eq_true rfl⟩) hS (fun q _ h => hFc q h) hFc (fun u t H_50 locs ht hvm hw hB hz1 hk1 hS2 => ?_)
      obtain ⟨hP1, -, hD1⟩ := hB
      rw [ht] at hP1
      replace hD := hD1.weaken (fun _ _ _ h => hFc _ h)
      replace hP := hP1
      replace hS := hS2
      clear hP1 hD1 hS2 hFc hfc hz1 hk1 hvm ht
      refine lv_aload_n hx hb dX6_readFunctions_122 rfl (lv_at hl 3 rfl) ?_
      refine lv_bipush (v := 32) hx hb dX6_readFunctions_123 (by decide) ?_
      obtain ⟨z_51, r_52, hfc, hf⟩ := cal_some hf
      have hFc := de_free hD hS hA
      refine va_calli (va_runV (As := [.int 32]) (rest := []) ⟨hx, hb, hml, hown, hts⟩ (de_X6_readList l dC dI cy a sh n H_50.size F sk z_48 h0 32 hfc) (cwV 1 hts gX6_readFunctions_X6_readList rfl rfl rfl (by decide +kernel) ⟨Nat.le_of_ble_eq_true rfl, Nat.le_of_ble_eq_true rfl⟩) ⟨fun a U g mk q => by obtain ⟨q0, q1, qP, qK, qD, qN, qS⟩ := q; exact ⟨q0, q1, qP, va_K.moved (u := U) (U := U.calling g mk a) (Vm.Alike.refl U.vm) qK, qD, qN.same rfl, SKs.moved (u := U) (U := U.calling g mk a) (Vm.Alike.refl U.vm) qS⟩, va_recv hK hP (ci := 6) (q0 := h0) rfl (Wd_ob kg_3 sg_3 (by decide)), fun U hU hW => ⟨rfl, by rw [hU], by rw [hU]; exact hP, va_K.moved hW.alike hK, hD.weaken (fun _ _ _ _ => trivial), hN.warm hW, by rw [hU]; exact ((hSK.kept hS.2.1).narrow hFc).moved hW.alike⟩⟩ rfl rfl hl.1 rfl (lv_room (Nat.le_of_ble_eq_true rfl)) dX6_readFunctions_125 ⟨Nat.le_of_ble_eq_true rfl, Nat.le_of_ble_eq_true rfl⟩) hS (fun q _ h => hFc q h) hFc (fun rr u t H_53 locs ht hvm hw hB hz1 hk1 hS2 => ?_)
      rw [hw]
      clear hw
      obtain ⟨hP1, -, hD1⟩ := hB
      rw [ht] at hP1
      replace hD := hD1.weaken (fun _ _ _ h => hFc _ h)
      replace hP := hP1
      replace hS := hS2
      clear hP1 hD1 hS2 hFc hfc hz1 hk1 hvm ht
      refine lv_istore (lv' := [(4, .int r_52), (3, .int r_38), (2, .int p_9), (1, .int r_2), (0, .ref (a h0))]) hx hb dX6_readFunctions_128 hl (by decide) rfl (fun ls hl2 => ?_)
      replace hl := hl2
      clear hl2
      refine lv_aload_n hx hb dX6_readFunctions_130 rfl (lv_at hl 4 rfl) ?_
      obtain ⟨k_54, ek_54, hf⟩ := lnk_some hf
      refine va_get (D := (dC, dI)) (ci := 6) (v := .ref (a k_54)) (C := RX6) (T := TX6) (N := 9) hx hb hts iwd_X6_readFunctions_X6 hown hK hP h0 (Wd_ob kg_3 sg_3 (by decide)) rfl 2 (by decide) (hts _ md_X6_readFunctions_1) (fun _ h9 => h9) (fl_q rfl ek_54) dX6_readFunctions_131 ?_
      refine lv_iload_n hx hb dX6_readFunctions_134 rfl (lv_at hl 2 rfl) ?_
      refine lv_iconst (v := 4) hx hb dX6_readFunctions_135 (by decide) ?_
      refine lv_iload hx hb dX6_readFunctions_136 (lv_at hl 0 rfl) ?_
      obtain ⟨g_56, hf⟩ := grd_some hf
      obtain ⟨kg_56, sg_56⟩ := okO_at g_56
      obtain ⟨z_55, _u, hfc, hf⟩ := cal_some hf
      have hFc := de_free hD hS hA
      refine va_callv (va_runV (As := [.int p_9, .int 4, .int r_52]) (rest := []) ⟨hx, hb, hml, hown, hts⟩ (de_X5_setFunction l dC dI cy a sh n H_53.size F z_51 k_54 p_9 4 r_52 hfc) (cwV 3 hts gX6_readFunctions_X5_setFunction rfl rfl rfl (by decide +kernel) ⟨Nat.le_of_ble_eq_true rfl, Nat.le_of_ble_eq_true rfl⟩) ⟨fun a U g mk q => by obtain ⟨q0, q1, qP, qK, qD, qN⟩ := q; exact ⟨q0, q1, qP, va_K.moved (u := U) (U := U.calling g mk a) (Vm.Alike.refl U.vm) qK, qD, qN.same rfl⟩, va_recv hK hP (ci := 5) (q0 := k_54) rfl (Wd_ob kg_56 sg_56 (by decide)), fun U hU hW => ⟨rfl, by rw [hU], by rw [hU]; exact hP, va_K.moved hW.alike hK, hD.weaken (fun _ _ _ _ => trivial), hN.warm hW⟩⟩ rfl rfl hl.1 rfl (lv_room (Nat.le_of_ble_eq_true rfl)) dX6_readFunctions_138 ⟨Nat.le_of_ble_eq_true rfl, Nat.le_of_ble_eq_true rfl⟩) hS (fun q _ h => hFc q h) hFc (fun u t H_57 locs ht hvm hw hB hz1 hk1 hS2 => ?_)
      obtain ⟨hP1, -, hD1⟩ := hB
      rw [ht] at hP1
      replace hD := hD1.weaken (fun _ _ _ h => hFc _ h)
      replace hP := hP1
      replace hS := hS2
      clear hP1 hD1 hS2 hFc hfc hz1 hk1 hvm ht
      refine lv_aload_n hx hb dX6_readFunctions_141 rfl (lv_at hl 4 rfl) ?_
      refine lv_iload_n hx hb dX6_readFunctions_142 rfl (lv_at hl 1 rfl) ?_
      refine lv_iload hx hb dX6_readFunctions_143 (lv_at hl 0 rfl) ?_
      refine lv_iadd hx hb dX6_readFunctions_145 ?_
      refine va_put (D := (dC, dI)) (ci := 6) (v := .int (r_38 + r_52)) (ty := .int) (C := RX6) (T := TX6) (N := 9) hx hb hts iwd_X6_readFunctions_X6 tyX6 tyX6_ok nmX6 hown hK hP hD hS h0 (Wd_ob kg_3 sg_3 (by decide)) rfl 6 (by decide) (hts _ md_X6_readFunctions_6) (fun _ h9 => h9) rfl (by decide +kernel) rfl rfl (by rw [fl_len]; decide) dX6_readFunctions_146 (fun H_58 locs hP2 hD2 hS2 => ?_)
      rw [Wd_si sg_3 (by decide) rfl] at hP2 hD2
      obtain ⟨z_59, ez_59⟩ : ∃ w, w = si z_55 h0 6 (r_38 + r_52) := ⟨_, rfl⟩
      rw [← ez_59] at hP2 hD2
      replace hf := lt_at ez_59 hf
      clear ez_59
      replace hP := hP2
      replace hD := hD2
      replace hS := hS2
      clear hP2 hD2 hS2
      refine lv_aload_n hx hb dX6_readFunctions_149 rfl (lv_at hl 4 rfl) ?_
      refine va_get (D := (dC, dI)) (ci := 6) (v := .int (z_59.1 h0 3)) (C := RX6) (T := TX6) (N := 9) hx hb hts iwd_X6_readFunctions_X6 hown hK hP h0 (Wd_ob kg_3 sg_3 (by decide)) rfl 3 (by decide) (hts _ md_X6_readFunctions_7) (fun _ h9 => h9) (fl_at (t := 0) rfl) dX6_readFunctions_150 ?_
      refine lv_topi (fun v_60 ev_60 => ?_)
      replace hf := lt_at ev_60 hf
      clear ev_60
      refine lv_istore (lv' := [(5, .int v_60), (4, .int r_52), (3, .int r_38), (2, .int p_9), (1, .int r_2), (0, .ref (a h0))]) hx hb dX6_readFunctions_153 hl (by decide) rfl (fun ls hl2 => ?_)
      replace hl := hl2
      clear hl2
      refine lv_aload_n hx hb dX6_readFunctions_155 rfl (lv_at hl 5 rfl) ?_
      refine lv_aload_n hx hb dX6_readFunctions_156 rfl (lv_at hl 5 rfl) ?_
      obtain ⟨z_61, r_62, hfc, hf⟩ := cal_some hf
      have hFc := de_free hD hS hA
      refine va_calli (va_runV (As := []) (rest := [.ref (a h0)]) ⟨hx, hb, hml, hown, hts⟩ (de_X6_readShort l dC dI cy a sh n H_58.size F sk z_59 h0 hfc) (cwV 0 hts gX6_readFunctions_X6_readShort rfl rfl rfl (by decide +kernel) ⟨Nat.le_of_ble_eq_true rfl, Nat.le_of_ble_eq_true rfl⟩) ⟨fun a U g mk q => by obtain ⟨q0, q1, qP, qK, qD, qN, qS⟩ := q; exact ⟨q0, q1, qP, va_K.moved (u := U) (U := U.calling g mk a) (Vm.Alike.refl U.vm) qK, qD, qN.same rfl, SKs.moved (u := U) (U := U.calling g mk a) (Vm.Alike.refl U.vm) qS⟩, va_recv hK hP (ci := 6) (q0 := h0) rfl (Wd_ob kg_3 sg_3 (by decide)), fun U hU hW => ⟨rfl, by rw [hU], by rw [hU]; exact hP, va_K.moved hW.alike hK, hD.weaken (fun _ _ _ _ => trivial), hN.warm hW, by rw [hU]; exact ((hSK.kept hS.2.1).narrow hFc).moved hW.alike⟩⟩ rfl rfl hl.1 rfl (lv_room (Nat.le_of_ble_eq_true rfl)) dX6_readFunctions_157 ⟨Nat.le_of_ble_eq_true rfl, Nat.le_of_ble_eq_true rfl⟩) hS (fun q _ h => hFc q h) hFc (fun rr u t H_63 locs ht hvm hw hB hz1 hk1 hS2 => ?_)
      rw [hw]
      clear hw
      obtain ⟨hP1, -, hD1⟩ := hB
      rw [ht] at hP1
      replace hD := hD1.weaken (fun _ _ _ h => hFc _ h)
      replace hP := hP1
      replace hS := hS2
      clear hP1 hD1 hS2 hFc hfc hz1 hk1 hvm ht
      refine va_put (D := (dC, dI)) (ci := 6) (v := .int r_62) (ty := .int) (C := RX6) (T := TX6) (N := 9) hx hb hts iwd_X6_readFunctions_X6 tyX6 tyX6_ok nmX6 hown hK hP hD hS h0 (Wd_ob kg_3 sg_3 (by decide)) rfl 7 (by decide) (hts _ md_X6_readFunctions_8) (fun _ h9 => h9) rfl (by decide +kernel) rfl rfl (by rw [fl_len]; decide) dX6_readFunctions_160 (fun H_64 locs hP2 hD2 hS2 => ?_)
      rw [Wd_si sg_3 (by decide) rfl] at hP2 hD2
      obtain ⟨z_65, ez_65⟩ : ∃ w, w = si z_61 h0 7 r_62 := ⟨_, rfl⟩
      rw [← ez_65] at hP2 hD2
      replace hf := lt_at ez_65 hf
      clear ez_65
      replace hP := hP2
      replace hD := hD2
      replace hS := hS2
      clear hP2 hD2 hS2
      refine lv_aload_n hx hb dX6_readFunctions_163 rfl (lv_at hl 5 rfl) ?_
      refine lv_dup hx hb dX6_readFunctions_164 rfl ?_
      refine va_get (D := (dC, dI)) (ci := 6) (v := .int (z_65.1 h0 5)) (C := RX6) (T := TX6) (N := 9) hx hb hts iwd_X6_readFunctions_X6 hown hK hP h0 (Wd_ob kg_3 sg_3 (by decide)) rfl 5 (by decide) (hts _ md_X6_readFunctions_9) (fun _ h9 => h9) (fl_at (t := 0) rfl) dX6_readFunctions_165 ?_
      refine lv_aload_n hx hb dX6_readFunctions_168 rfl (lv_at hl 5 rfl) ?_
      refine va_get (D := (dC, dI)) (ci := 6) (v := .int (z_65.1 h0 7)) (C := RX6) (T := TX6) (N := 9) hx hb hts iwd_X6_readFunctions_X6 hown hK hP h0 (Wd_ob kg_3 sg_3 (by decide)) rfl 7 (by decide) (hts _ md_X6_readFunctions_8) (fun _ h9 => h9) (fl_at (t := 0) rfl) dX6_readFunctions_169 ?_
      refine lv_iadd hx hb dX6_readFunctions_172 ?_
      refine va_put (D := (dC, dI)) (ci := 6) (v := .int ((z_65.1 h0 5) + (z_65.1 h0 7))) (ty := .int) (C := RX6) (T := TX6) (N := 9) hx hb hts iwd_X6_readFunctions_X6 tyX6 tyX6_ok nmX6 hown hK hP hD hS h0 (Wd_ob kg_3 sg_3 (by decide)) rfl 5 (by decide) (hts _ md_X6_readFunctions_9) (fun _ h9 => h9) rfl (by decide +kernel) rfl rfl (by rw [fl_len]; decide) dX6_readFunctions_173 (fun H_66 locs hP2 hD2 hS2 => ?_)
      rw [Wd_si sg_3 (by decide) rfl] at hP2 hD2
      obtain ⟨z_67, ez_67⟩ : ∃ w, w = si z_65 h0 5 ((z_65.1 h0 5) + (z_65.1 h0 7)) := ⟨_, rfl⟩
      rw [← ez_67] at hP2 hD2
      replace hf := lt_at ez_67 hf
      clear ez_67
      replace hP := hP2
      replace hD := hD2
      replace hS := hS2
      clear hP2 hD2 hS2
      refine lv_aload_n hx hb dX6_readFunctions_176 rfl (lv_at hl 5 rfl) ?_
      refine va_get (D := (dC, dI)) (ci := 6) (v := .int (z_67.1 h0 7)) (C := RX6) (T := TX6) (N := 9) hx hb hts iwd_X6_readFunctions_X6 hown hK hP h0 (Wd_ob kg_3 sg_3 (by decide)) rfl 7 (by decide) (hts _ md_X6_readFunctions_8) (fun _ h9 => h9) (fl_at (t := 0) rfl) dX6_readFunctions_177 ?_
      refine lv_iconst (v := 1) hx hb dX6_readFunctions_180 (by decide) ?_
      refine de_cut (h := 211) (fun (x : St) => []) (fun x ls H locs => lv_has ls 7 [(2, .int p_9), (1, .int r_2), (0, .ref (a h0))] ∧ va_P (dC, dI) vwCl (Wd cy a sh n x) H ∧ va_D A (Wd cy a sh n x) ∧ va_S A s.heap H locs) (fun x => fn_X6_readFunctions_B211 F sh n h0 p_9 (fun z9 q2 => fn_X6_readFunctions_L18 F sh n r_2 h0 f_11 z9 q2) x) (z8, r8) ?_ (fun B211 => ?_)
      · intro x ls H locs hI hf
        obtain ⟨z_68, ez⟩ : ∃ w, w = x := ⟨_, rfl⟩
        subst ez
        obtain ⟨hl2, hP2, hD2, hS2⟩ := hI
        replace hl : lv_has ls 7 [(2, .int p_9), (1, .int r_2), (0, .ref (a h0))] := hl2
        replace hP := hP2
        replace hD := hD2
        replace hS := hS2
        clear hl2 hP2 hD2 hS2
        replace hf := fn_X6_readFunctions_B211_s hf
        refine W.eq (g2 := F0 m 211 ls []) rfl ?_
        refine lv_aload_n hx hb dX6_readFunctions_211 rfl (lv_at hl 2 rfl) ?_
        obtain ⟨k_69, ek_69, hf⟩ := lnk_some hf
        refine va_get (D := (dC, dI)) (ci := 6) (v := .ref (a k_69)) (C := RX6) (T := TX6) (N := 9) hx hb hts iwd_X6_readFunctions_X6 hown hK hP h0 (Wd_ob kg_3 sg_3 (by decide)) rfl 2 (by decide) (hts _ md_X6_readFunctions_1) (fun _ h9 => h9) (fl_q rfl ek_69) dX6_readFunctions_212 ?_
        refine lv_iload_n hx hb dX6_readFunctions_215 rfl (lv_at hl 0 rfl) ?_
        refine lv_iconst (v := 5) hx hb dX6_readFunctions_216 (by decide) ?_
        refine lv_aload_n hx hb dX6_readFunctions_217 rfl (lv_at hl 2 rfl) ?_
        obtain ⟨k_70, ek_70, hf⟩ := lnk_some hf
        refine va_get (D := (dC, dI)) (ci := 6) (v := .ref (a k_70)) (C := RX6) (T := TX6) (N := 9) hx hb hts iwd_X6_readFunctions_X6 hown hK hP h0 (Wd_ob kg_3 sg_3 (by decide)) rfl 2 (by decide) (hts _ md_X6_readFunctions_1) (fun _ h9 => h9) (fl_q rfl ek_70) dX6_readFunctions_218 ?_
        obtain ⟨g_71, hf⟩ := grd_some hf
        obtain ⟨kg_71, sg_71⟩ := okO_at g_71
        refine va_get (D := (dC, dI)) (ci := 5) (v := .int (z_68.1 k_70 6)) (C := RX5) (T := TX5) (N := 15) hx hb hts iwd_X6_readFunctions_X5 hown hK hP k_70 (Wd_ob kg_71 sg_71 (by decide)) rfl 6 (by decide) (hts _ md_X6_readFunctions_10) (fun _ h9 => h9) (fl_at (t := 0) rfl) dX6_readFunctions_221 ?_
        obtain ⟨g_73, hf⟩ := grd_some hf
        obtain ⟨kg_73, sg_73⟩ := okO_at g_73
        obtain ⟨z_72, _u, hfc, hf⟩ := cal_some hf
        have hFc := de_free hD hS hA
        refine va_callv (va_runV (As := [.int p_9, .int 5, .int (z_68.1 k_70 6)]) (rest := []) ⟨hx, hb, hml, hown, hts⟩ (de_X5_setFunction l dC dI cy a sh n H.size F z_68 k_69 p_9 5 (z_68.1 k_70 6) hfc) (cwV 3 hts gX6_readFunctions_X5_setFunction rfl rfl rfl (by decide +kernel) ⟨Nat.le_of_ble_eq_true rfl, Nat.le_of_ble_eq_true rfl⟩) ⟨fun a U g mk q => by obtain ⟨q0, q1, qP, qK, qD, qN⟩ := q; exact ⟨q0, q1, qP, va_K.moved (u := U) (U := U.calling g mk a) (Vm.Alike.refl U.vm) qK, qD, qN.same rfl⟩, va_recv hK hP (ci := 5) (q0 := k_69) rfl (Wd_ob kg_73 sg_73 (by decide)), fun U hU hW => ⟨rfl, by rw [hU], by rw [hU]; exact hP, va_K.moved hW.alike hK, hD.weaken (fun _ _ _ _ => trivial), hN.warm hW⟩⟩ rfl rfl hl.1 rfl (lv_room (Nat.le_of_ble_eq_true rfl)) dX6_readFunctions_224 ⟨Nat.le_of_ble_eq_true rfl, Nat.le_of_ble_eq_true rfl⟩) hS (fun q _ h => hFc q h) hFc (fun u t H_74 locs ht hvm hw hB hz1 hk1 hS2 => ?_)
        obtain ⟨hP1, -, hD1⟩ := hB
        rw [ht] at hP1
        replace hD := hD1.weaken (fun _ _ _ h => hFc _ h)
        replace hP := hP1
        replace hS := hS2
        clear hP1 hD1 hS2 hFc hfc hz1 hk1 hvm ht
        refine lv_aload_n hx hb dX6_readFunctions_227 rfl (lv_at hl 2 rfl) ?_
        obtain ⟨k_75, ek_75, hf⟩ := lnk_some hf
        refine va_get (D := (dC, dI)) (ci := 6) (v := .ref (a k_75)) (C := RX6) (T := TX6) (N := 9) hx hb hts iwd_X6_readFunctions_X6 hown hK hP h0 (Wd_ob kg_3 sg_3 (by decide)) rfl 2 (by decide) (hts _ md_X6_readFunctions_1) (fun _ h9 => h9) (fl_q rfl ek_75) dX6_readFunctions_228 ?_
        refine lv_iload_n hx hb dX6_readFunctions_231 rfl (lv_at hl 0 rfl) ?_
        refine lv_bipush (v := 6) hx hb dX6_readFunctions_232 (by decide) ?_
        refine lv_aload_n hx hb dX6_readFunctions_234 rfl (lv_at hl 2 rfl) ?_
        refine va_get (D := (dC, dI)) (ci := 6) (v := .int (z_72.1 h0 7)) (C := RX6) (T := TX6) (N := 9) hx hb hts iwd_X6_readFunctions_X6 hown hK hP h0 (Wd_ob kg_3 sg_3 (by decide)) rfl 7 (by decide) (hts _ md_X6_readFunctions_8) (fun _ h9 => h9) (fl_at (t := 0) rfl) dX6_readFunctions_235 ?_
        obtain ⟨g_77, hf⟩ := grd_some hf
        obtain ⟨kg_77, sg_77⟩ := okO_at g_77
        obtain ⟨z_76, _u, hfc, hf⟩ := cal_some hf
        have hFc := de_free hD hS hA
        refine va_callv (va_runV (As := [.int p_9, .int 6, .int (z_72.1 h0 7)]) (rest := []) ⟨hx, hb, hml, hown, hts⟩ (de_X5_setFunction l dC dI cy a sh n H_74.size F z_72 k_75 p_9 6 (z_72.1 h0 7) hfc) (cwV 3 hts gX6_readFunctions_X5_setFunction rfl rfl rfl (by decide +kernel) ⟨Nat.le_of_ble_eq_true rfl, Nat.le_of_ble_eq_true rfl⟩) ⟨fun a U g mk q => by obtain ⟨q0, q1, qP, qK, qD, qN⟩ := q; exact ⟨q0, q1, qP, va_K.moved (u := U) (U := U.calling g mk a) (Vm.Alike.refl U.vm) qK, qD, qN.same rfl⟩, va_recv hK hP (ci := 5) (q0 := k_75) rfl (Wd_ob kg_77 sg_77 (by decide)), fun U hU hW => ⟨rfl, by rw [hU], by rw [hU]; exact hP, va_K.moved hW.alike hK, hD.weaken (fun _ _ _ _ => trivial), hN.warm hW⟩⟩ rfl rfl hl.1 rfl (lv_room (Nat.le_of_ble_eq_true rfl)) dX6_readFunctions_238 ⟨Nat.le_of_ble_eq_true rfl, Nat.le_of_ble_eq_true rfl⟩) hS (fun q _ h => hFc q h) hFc (fun u t H_78 locs ht hvm hw hB hz1 hk1 hS2 => ?_)
        obtain ⟨hP1, -, hD1⟩ := hB
        rw [ht] at hP1
        replace hD := hD1.weaken (fun _ _ _ h => hFc _ h)
        replace hP := hP1
        replace hS := hS2
        clear hP1 hD1 hS2 hFc hfc hz1 hk1 hvm ht
        refine lv_iconst (v := 0) hx hb dX6_readFunctions_241 (by decide) ?_
        refine lv_istore (lv' := [(6, .int 0), (2, .int p_9), (1, .int r_2), (0, .ref (a h0))]) hx hb dX6_readFunctions_242 hl (by decide) rfl (fun ls hl2 => ?_)
        replace hl := hl2
        clear hl2
        have hl0 : lv_has ls 7 [(6, .int 0), (2, .int p_9), (1, .int r_2), (0, .ref (a h0))] := lv_sub hl [0, 1, 2, 3] rfl
        refine de_loop (h := 244) (fun (x : St × Int32) ls H locs => lv_has ls 7 [(6, .int x.2), (2, .int p_9), (1, .int r_2), (0, .ref (a h0))] ∧ va_P (dC, dI) vwCl (Wd cy a sh n x.1) H ∧ va_D A (Wd cy a sh n x.1) ∧ va_S A s.heap H locs) (fun f x => fn_X6_readFunctions_L244 F sh n h0 p_9 (fun z9 q2 => fn_X6_readFunctions_L18 F sh n r_2 h0 f_11 z9 q2) f x.1 x.2) (z8, r8) ?_ (fun _ => rfl) F (z_76, 0) ls H_78 locs ⟨hl0, hP, hD, hS⟩ hf
        intro f_81 x ls H locs ih244 hI hf
        obtain ⟨z_80, p_79⟩ := x
        obtain ⟨hl2, hP2, hD2, hS2⟩ := hI
        replace hl : lv_has ls 7 [(6, .int p_79), (2, .int p_9), (1, .int r_2), (0, .ref (a h0))] := hl2
        replace hP := hP2
        replace hD := hD2
        replace hS := hS2
        clear hl2 hP2 hD2 hS2 hl0
        replace hf := fn_X6_readFunctions_L244_s hf
        refine lv_iload hx hb dX6_readFunctions_244 (lv_at hl 0 rfl) ?_
        refine lv_aload_n hx hb dX6_readFunctions_246 rfl (lv_at hl 3 rfl) ?_
        refine va_get (D := (dC, dI)) (ci := 6) (v := .int (z_80.1 h0 7)) (C := RX6) (T := TX6) (N := 9) hx hb hts iwd_X6_readFunctions_X6 hown hK hP h0 (Wd_ob kg_3 sg_3 (by decide)) rfl 7 (by decide) (hts _ md_X6_readFunctions_8) (fun _ h9 => h9) (fl_at (t := 0) rfl) dX6_readFunctions_247 ?_
        refine de_cut (h := 270) (fun (x : St) => []) (fun x ls H locs => lv_has ls 7 [(2, .int p_9), (1, .int r_2), (0, .ref (a h0))] ∧ va_P (dC, dI) vwCl (Wd cy a sh n x) H ∧ va_D A (Wd cy a sh n x) ∧ va_S A s.heap H locs) (fun x => fn_X6_readFunctions_B270 F sh n p_9 (fun z9 q2 => fn_X6_readFunctions_L18 F sh n r_2 h0 f_11 z9 q2) x) (z8, r8) ?_ (fun B270 => ?_)
        · intro x ls H locs hI hf
          obtain ⟨z_82, ez⟩ : ∃ w, w = x := ⟨_, rfl⟩
          subst ez
          obtain ⟨hl2, hP2, hD2, hS2⟩ := hI
          replace hl : lv_has ls 7 [(2, .int p_9), (1, .int r_2), (0, .ref (a h0))] := hl2
          replace hP := hP2
          replace hD := hD2
          replace hS := hS2
          clear hl2 hP2 hD2 hS2
          replace hf := fn_X6_readFunctions_B270_s hf
          refine W.eq (g2 := F0 m 270 ls []) rfl ?_
          refine lv_iinc (v := (p_9 + 1)) (lv' := [(2, .int (p_9 + 1)), (1, .int r_2), (0, .ref (a h0))]) hx hb dX6_readFunctions_270 hl (k := 0) rfl rfl (by decide) rfl (fun ls hl2 => ?_)
          replace hl := hl2
          clear hl2
          refine lv_goto (tgt := 18) hx hb dX6_readFunctions_273 (by decide) ?_
          exact ih18 (z_82, (p_9 + 1)) ls H locs ⟨lv_sub hl [0, 1, 2] rfl, hP, hD, hS⟩ hf
        refine lv_icmp_ge (tgt := 270) hx hb dX6_readFunctions_250 (by decide) (fun c_83 => ?_) (fun c_83 => ?_)
        · skip
          rw [if_pos c_83] at hf
          exact B270 (z_80) ls H locs ⟨lv_sub hl [1, 2, 3] rfl, hP, hD, hS⟩ hf
        · skip
          rw [if_neg c_83] at hf
          refine lv_aload_n hx hb dX6_readFunctions_253 rfl (lv_at hl 3 rfl) ?_
          refine va_get (D := (dC, dI)) (ci := 6) (v := .int (z_80.1 h0 1)) (C := RX6) (T := TX6) (N := 9) hx hb hts iwd_X6_readFunctions_X6 hown hK hP h0 (Wd_ob kg_3 sg_3 (by decide)) rfl 1 (by decide) (hts _ md_X6_readFunctions_3) (fun _ h9 => h9) (fl_at (t := 0) rfl) dX6_readFunctions_254 ?_
          refine lv_if_ne (tgt := 270) hx hb dX6_readFunctions_257 (by decide) (fun c_84 => ?_) (fun c_84 => ?_)
          · skip
            rw [if_neg c_84] at hf
            exact B270 (z_80) ls H locs ⟨lv_sub hl [1, 2, 3] rfl, hP, hD, hS⟩ hf
          · skip
            rw [if_pos c_84] at hf
            refine lv_aload_n hx hb dX6_readFunctions_260 rfl (lv_at hl 3 rfl) ?_
            obtain ⟨z_85, _u, hfc, hf⟩ := cal_some hf
            have hFc := de_free hD hS hA
            refine va_callv (va_runV (As := []) (rest := []) ⟨hx, hb, hml, hown, hts⟩ (de_X6_readInstruction l dC dI cy a sh n H.size F sk z_80 h0 hfc) (cwV 0 hts gX6_readFunctions_X6_readInstruction rfl rfl rfl (by decide +kernel) ⟨Nat.le_of_ble_eq_true rfl, Nat.le_of_ble_eq_true rfl⟩) ⟨fun a U g mk q => by obtain ⟨q0, q1, qP, qK, qD, qN, qS⟩ := q; exact ⟨q0, q1, qP, va_K.moved (u := U) (U := U.calling g mk a) (Vm.Alike.refl U.vm) qK, qD, qN.same rfl, SKs.moved (u := U) (U := U.calling g mk a) (Vm.Alike.refl U.vm) qS⟩, va_recv hK hP (ci := 6) (q0 := h0) rfl (Wd_ob kg_3 sg_3 (by decide)), fun U hU hW => ⟨rfl, by rw [hU], by rw [hU]; exact hP, va_K.moved hW.alike hK, hD.weaken (fun _ _ _ _ => trivial), hN.warm hW, by rw [hU]; exact ((hSK.kept hS.2.1).narrow hFc).moved hW.alike⟩⟩ rfl rfl hl.1 rfl (lv_room (Nat.le_of_ble_eq_true rfl)) dX6_readFunctions_261 ⟨Nat.le_of_ble_eq_true rfl, Nat.le_of_ble_eq_true rfl⟩) hS (fun q _ h => hFc q h) hFc (fun u t H_86 locs ht hvm hw hB hz1 hk1 hS2 => ?_)
            obtain ⟨hP1, -, hD1⟩ := hB
            rw [ht] at hP1
            replace hD := hD1.weaken (fun _ _ _ h => hFc _ h)
            replace hP := hP1
            replace hS := hS2
            clear hP1 hD1 hS2 hFc hfc hz1 hk1 hvm ht
            refine lv_iinc (v := (p_79 + 1)) (lv' := [(6, .int (p_79 + 1)), (2, .int p_9), (1, .int r_2), (0, .ref (a h0))]) hx hb dX6_readFunctions_264 hl (k := 0) rfl rfl (by decide) rfl (fun ls hl2 => ?_)
            replace hl := hl2
            clear hl2
            refine lv_goto (tgt := 244) hx hb dX6_readFunctions_267 (by decide) ?_
            exact ih244 (z_85, (p_79 + 1)) ls H_86 locs ⟨lv_sub hl [0, 1, 2, 3] rfl, hP, hD, hS⟩ hf
      refine de_cut (h := 204) (fun (x : St) => []) (fun x ls H locs => lv_has ls 7 [(5, .int v_60), (2, .int p_9), (1, .int r_2), (0, .ref (a h0))] ∧ va_P (dC, dI) vwCl (Wd cy a sh n x) H ∧ va_D A (Wd cy a sh n x) ∧ va_S A s.heap H locs) (fun x => fn_X6_readFunctions_B204 F sh n h0 v_60 p_9 (fun z9 q2 => fn_X6_readFunctions_L18 F sh n r_2 h0 f_11 z9 q2) x) (z8, r8) ?_ (fun B204 => ?_)
      · intro x ls H locs hI hf
        obtain ⟨z_87, ez⟩ : ∃ w, w = x := ⟨_, rfl⟩
        subst ez
        obtain ⟨hl2, hP2, hD2, hS2⟩ := hI
        replace hl : lv_has ls 7 [(5, .int v_60), (2, .int p_9), (1, .int r_2), (0, .ref (a h0))] := hl2
        replace hP := hP2
        replace hD := hD2
        replace hS := hS2
        clear hl2 hP2 hD2 hS2
        replace hf := fn_X6_readFunctions_B204_s hf
        refine W.eq (g2 := F0 m 204 ls []) rfl ?_
        refine lv_aload_n hx hb dX6_readFunctions_204 rfl (lv_at hl 3 rfl) ?_
        refine lv_iconst (v := 3) hx hb dX6_readFunctions_205 (by decide) ?_
        refine lv_iload hx hb dX6_readFunctions_206 (lv_at hl 0 rfl) ?_
        obtain ⟨z_88, _u, hfc, hf⟩ := cal_some hf
        have hFc := de_free hD hS hA
        refine va_callv (va_runV (As := [.int 3, .int v_60]) (rest := []) ⟨hx, hb, hml, hown, hts⟩ (de_X6_fail l dC dI cy a sh n H.size F z_87 h0 3 v_60 hfc) (cwV 2 hts gX6_readFunctions_X6_fail rfl rfl rfl (by decide +kernel) ⟨Nat.le_of_ble_eq_true rfl, Nat.le_of_ble_eq_true rfl⟩) ⟨fun a U g mk q => by obtain ⟨q0, q1, qP, qK, qD, qN⟩ := q; exact ⟨q0, q1, qP, va_K.moved (u := U) (U := U.calling g mk a) (Vm.Alike.refl U.vm) qK, qD, qN.same rfl⟩, va_recv hK hP (ci := 6) (q0 := h0) rfl (Wd_ob kg_3 sg_3 (by decide)), fun U hU hW => ⟨rfl, by rw [hU], by rw [hU]; exact hP, va_K.moved hW.alike hK, hD.weaken (fun _ _ _ _ => trivial), hN.warm hW⟩⟩ rfl rfl hl.1 rfl (lv_room (Nat.le_of_ble_eq_true rfl)) dX6_readFunctions_208 ⟨Nat.le_of_ble_eq_true rfl, Nat.le_of_ble_eq_true rfl⟩) hS (fun q _ h => hFc q h) hFc (fun u t H_89 locs ht hvm hw hB hz1 hk1 hS2 => ?_)
        obtain ⟨hP1, -, hD1⟩ := hB
        rw [ht] at hP1
        replace hD := hD1.weaken (fun _ _ _ h => hFc _ h)
        replace hP := hP1
        replace hS := hS2
        clear hP1 hD1 hS2 hFc hfc hz1 hk1 hvm ht
        exact B211 (z_88) ls H_89 locs ⟨lv_sub hl [1, 2, 3] rfl, hP, hD, hS⟩ hf
      refine lv_icmp_lt (tgt := 204) hx hb dX6_readFunctions_181 (by decide) (fun c_90 => ?_) (fun c_90 => ?_)
      · skip
        rw [if_pos c_90] at hf
        exact B204 (z_67) ls H_66 locs ⟨lv_sub hl [0, 3, 4, 5] rfl, hP, hD, hS⟩ hf
      · skip
        rw [if_neg c_90] at hf
        refine lv_aload_n hx hb dX6_readFunctions_184 rfl (lv_at hl 5 rfl) ?_
        refine va_get (D := (dC, dI)) (ci := 6) (v := .int (z_67.1 h0 7)) (C := RX6) (T := TX6) (N := 9) hx hb hts iwd_X6_readFunctions_X6 hown hK hP h0 (Wd_ob kg_3 sg_3 (by decide)) rfl 7 (by decide) (hts _ md_X6_readFunctions_8) (fun _ h9 => h9) (fl_at (t := 0) rfl) dX6_readFunctions_185 ?_
        refine lv_sipush (v := 1024) hx hb dX6_readFunctions_188 (by decide) ?_
        refine lv_icmp_gt (tgt := 204) hx hb dX6_readFunctions_191 (by decide) (fun c_91 => ?_) (fun c_91 => ?_)
        · skip
          rw [if_pos c_91] at hf
          exact B204 (z_67) ls H_66 locs ⟨lv_sub hl [0, 3, 4, 5] rfl, hP, hD, hS⟩ hf
        · skip
          rw [if_neg c_91] at hf
          refine lv_aload_n hx hb dX6_readFunctions_194 rfl (lv_at hl 5 rfl) ?_
          refine va_get (D := (dC, dI)) (ci := 6) (v := .int (z_67.1 h0 5)) (C := RX6) (T := TX6) (N := 9) hx hb hts iwd_X6_readFunctions_X6 hown hK hP h0 (Wd_ob kg_3 sg_3 (by decide)) rfl 5 (by decide) (hts _ md_X6_readFunctions_9) (fun _ h9 => h9) (fl_at (t := 0) rfl) dX6_readFunctions_195 ?_
          refine lv_sipush (v := 8192) hx hb dX6_readFunctions_198 (by decide) ?_
          refine lv_icmp_le (tgt := 211) hx hb dX6_readFunctions_201 (by decide) (fun c_92 => ?_) (fun c_92 => ?_)
          · skip
            rw [if_pos c_92] at hf
            exact B211 (z_67) ls H_66 locs ⟨lv_sub hl [3, 4, 5] rfl, hP, hD, hS⟩ hf
          · skip
            rw [if_neg c_92] at hf
            exact B204 (z_67) ls H_66 locs ⟨lv_sub hl [0, 3, 4, 5] rfl, hP, hD, hS⟩ hf

